section SL
variable {l : Launch} {G : gG} {d : Nat} {Q : Option Value → gH → Prop} {h h1 h2 : gH} {lk sp : Nat} {cd : Option Nat} {t : Nat → Nat} {n s i f q c b w z : Nat} {u : Bool} {L : qL}
theorem tcc_utd {u : Nat} (h : alw (knT false) u) : tcc (utd u) = ucd u := by
  rcases h with ⟨h1, h2⟩ | h | h
  · have h2 : u = 16 ∨ u = 17 ∨ u = 18 ∨ u = 19 ∨ u = 20 ∨ u = 6 ∨ u = 21 ∨ u = 22 ∨ (false = false ∧ (u = 3 ∨ u = 23)) := of_decide_eq_true h2
    have h3 : u = 16 ∨ u = 17 ∨ u = 18 ∨ u = 19 ∨ u = 20 ∨ u = 6 ∨ u = 21 ∨ u = 22 ∨ u = 3 ∨ u = 23 := by omega
    rcases h3 with z | z | z | z | z | z | z | z | z | z <;> subst z <;> rfl
  · have h3 : u = 32 ∨ u = 33 ∨ u = 42 ∨ u = 43 ∨ u = 45 ∨ u = 47 := by simpa using h
    rcases h3 with z | z | z | z | z | z <;> subst z <;> rfl
  · unfold utd tcc ucd ucc
    rw [if_pos h.1, if_pos h.1, if_neg (by omega), if_pos h.1]
theorem LCp.full (lc : LCp L c b h) (hm : ∀ x, x < qN L.1 → h.1 (b + 2) x = nI (qhm L.1 x (qN L.1))) (qp : qP L n) (n16 : n ≤ 1600) : LC L.1 b h := by
  obtain ⟨a1, a2, a3, a4, a5, a6, a7, a8, a9, a10, a11, a12, a13, a14⟩ := lc
  have cl := qp.2.2.2.1
  refine ⟨a1, a2, a3, a4, a5, a6, a8, hm, fun w hw => (a9 w hw).1, fun w hw => (a9 w hw).2.2, fun w hw => (a10 w hw).1, fun w hw => (a10 w hw).2, fun w j hw hj => ?_, fun w hw => (a12 w hw).1, fun w hw => (a12 w hw).2, fun p hp => ?_⟩
  · have := qp.1.B6
    have := qp.1.H6
    exact a11 _ (by omega)
  · have q5 := qp.2.2.2.2 p hp
    have b14 := a14 p hp
    refine ⟨L.2.2 p, by omega, b14.1, b14.2, fun i hi => ?_⟩
    rw [(q5.2 i hi).1, tcc_utd (q5.2 i hi).2]
    exact a13.2 _ (by omega)
theorem c_begin (hw : gWf h lk sp cd) (hb : b = 30 ∨ b = 67) (lc : LCp L c b h) (g : qG L.1) (hq : ∀ h', gEq [6, 7] h h' → h'.1 6 2 = h.1 6 2 → h'.1 6 3 = nI (qB L.1) → h'.1 6 4 = 0 → FC (qB L.1) (Fz L.1) 0 (h'.1 7) → Q none h') : gC l G (d + 1) MX2_begin [.ref 6, .ref b] h Q := by
  have B6 := g.B6
  refine eX2_begin hw hb (fun p e s m args below meth cc => eX2_forget hw ⟨rfl, rfl, ?_⟩)
  have b13 : (sI (sI h 7 2 0) 6 4 0).1 b 13 = nI (qB L.1) := by rw [sI_ne (by omega), sI_ne (by omega)]; exact lc.2.2.1
  have em : (if nI (qB L.1) < 6 then nI (qB L.1) else 6) = nI (qB L.1) := by
    by_cases y : qB L.1 < 6
    · have l6 : nI (qB L.1) < 6 := nI_lt (b := 6) y (by decide)
      rw [if_pos l6]
    · have : qB L.1 = 6 := by omega
      rw [this]; decide
  rw [b13, em]
  have E0 : gEq [6, 7] h (sI (sI (sI (sI (sI h 7 2 0) 6 4 0) 7 0 0) 7 1 0) 6 3 (nI (qB L.1))) := gE1 (by decide) (gE1 (by decide) (gE1 (by decide) (gE1 (by decide) (gE1 (by decide) (gEq.rf _ _)))))
  have y2 : (sI (sI (sI (sI (sI h 7 2 0) 6 4 0) 7 0 0) 7 1 0) 6 3 (nI (qB L.1))).1 6 2 = h.1 6 2 := by rw [sI_nb (by decide), sI_ne (by decide), sI_ne (by decide), sI_nb (by decide), sI_ne (by decide)]
  have y3 : (sI (sI (sI (sI (sI h 7 2 0) 6 4 0) 7 0 0) 7 1 0) 6 3 (nI (qB L.1))).1 6 3 = nI (qB L.1) := sI_s _ _ _ _
  have y4 : (sI (sI (sI (sI (sI h 7 2 0) 6 4 0) 7 0 0) 7 1 0) 6 3 (nI (qB L.1))).1 6 4 = 0 := by rw [sI_nb (by decide), sI_ne (by decide), sI_ne (by decide), sI_s]
  have z0 : (sI (sI (sI (sI (sI h 7 2 0) 6 4 0) 7 0 0) 7 1 0) 6 3 (nI (qB L.1))).1 7 0 = 0 := by rw [sI_ne (by decide), sI_nb (by decide), sI_s]
  have z1 : (sI (sI (sI (sI (sI h 7 2 0) 6 4 0) 7 0 0) 7 1 0) 6 3 (nI (qB L.1))).1 7 1 = 0 := by rw [sI_ne (by decide), sI_s]
  have z2 : (sI (sI (sI (sI (sI h 7 2 0) 6 4 0) 7 0 0) 7 1 0) 6 3 (nI (qB L.1))).1 7 2 = 0 := by rw [sI_ne (by decide), sI_nb (by decide), sI_nb (by decide), sI_ne (by decide), sI_s]
  generalize (sI (sI (sI (sI (sI h 7 2 0) 6 4 0) 7 0 0) 7 1 0) 6 3 (nI (qB L.1))) = h0 at E0 y2 y3 y4 z0 z1 z2 ⊢
  have LP : ∀ r x h', x + r = qB L.1 → gEq [6, 7] h h' → h'.1 6 = h0.1 6 → h'.1 7 0 = 0 → h'.1 7 1 = 0 → h'.1 7 2 = 0 → (∀ b, b < x → h'.1 7 (3 + b) = nI (qfc L.1 b) ∧ h'.1 7 (9 + b) = nI (qft L.1 b) ∧ h'.1 7 (15 + b) = 0 ∧ h'.1 7 (21 + b) = -1) → gg p l e s m args below meth cc G (d + 1) MX2_begin Q 33 [some (.ref 6), some (.ref b), some (.int (nI x))] [] h' := by
    intro r
    induction r with
    | zero =>
      intro x h' hx e' a6 a0 a1 a2 a3
      have hx' : x = qB L.1 := hx
      subst hx'
      have hw' := hw.eq e'
      refine wX2_begin_33 hw'.1 hw'.2.1 hw'.2.2.1 hb ?_
      rw [a6, y3]
      refine bY (nI_le (Nat.le_refl _) (by omega)) (hq h' e' (by rw [a6]; exact y2) (by rw [a6]; exact y3) (by rw [a6]; exact y4) ⟨a0, a1, a2, rfl, fun b hb => a3 b hb, fun i hi => absurd hi (Nat.not_lt_zero _)⟩)
    | succ r ih =>
      intro x h' hx e' a6 a0 a1 a2 a3
      have hw' := hw.eq e'
      have ej : nI x + 1 = nI (x + 1) := by rw [nI_1]
      have e3 : (3 + nI x : Int32) = nI (3 + x) := by rw [show (3 : Int32) = nI 3 from rfl, nI_add]
      have e9 : (9 + nI x : Int32) = nI (9 + x) := by rw [show (9 : Int32) = nI 9 from rfl, nI_add]
      have e15 : (15 + nI x : Int32) = nI (15 + x) := by rw [show (15 : Int32) = nI 15 from rfl, nI_add]
      have e21 : (21 + nI x : Int32) = nI (21 + x) := by rw [show (21 : Int32) = nI 21 from rfl, nI_add]
      refine wX2_begin_33 hw'.1 hw'.2.1 hw'.2.2.1 hb ?_
      rw [a6, y3]
      refine bN (nI_ge (by omega) (by omega)) ?_
      have l9 := lc.2.2.2.2.2.2.2.2.1 x (by omega)
      have m1 : h'.1 (b + 4) x = nI (qfc L.1 x) := by rw [(e'.1 (b + 4) (by simp; omega)).1]; exact l9.2.1
      have m2 : h'.1 (b + 5) x = nI (qft L.1 x) := by rw [(e'.1 (b + 5) (by simp; omega)).1]; exact l9.2.2
      rw [ej, e3, e9, e15, e21, nI_clamp (n := x) (by omega), nI_clamp (n := 3 + x) (by omega), nI_clamp (n := 9 + x) (by omega), nI_clamp (n := 15 + x) (by omega), nI_clamp (n := 21 + x) (by omega), m1, m2]
      refine ⟨vp_in_nI (by omega) (by decide), vp_in_nI (by omega) (by decide), vp_in_nI (by omega) (by decide), vp_in_nI (by omega) (by decide), vp_in_nI (by omega) (by decide), vp_in_nI (by omega) (by decide), ih (x + 1) _ (by omega) (gE1 (by decide) (gE1 (by decide) (gE1 (by decide) (gE1 (by decide) e')))) ?_ ?_ ?_ ?_ (fun k hk => ?_)⟩
      · rw [sI_na (by decide), sI_na (by decide), sI_na (by decide), sI_na (by decide)]; exact a6
      · rw [sI_nb (by omega), sI_nb (by omega), sI_nb (by omega), sI_nb (by omega)]; exact a0
      · rw [sI_nb (by omega), sI_nb (by omega), sI_nb (by omega), sI_nb (by omega)]; exact a1
      · rw [sI_nb (by omega), sI_nb (by omega), sI_nb (by omega), sI_nb (by omega)]; exact a2
      · by_cases y : k = x
        · subst y
          refine ⟨?_, ?_, ?_, sI_s _ _ _ _⟩
          · rw [sI_nb (by omega), sI_nb (by omega), sI_nb (by omega), sI_s]
          · rw [sI_nb (by omega), sI_nb (by omega), sI_s]
          · rw [sI_nb (by omega), sI_s]
        · have := a3 k (by omega)
          refine ⟨?_, ?_, ?_, ?_⟩
          · rw [sI_nb (by omega), sI_nb (by omega), sI_nb (by omega), sI_nb (by omega)]; exact this.1
          · rw [sI_nb (by omega), sI_nb (by omega), sI_nb (by omega), sI_nb (by omega)]; exact this.2.1
          · rw [sI_nb (by omega), sI_nb (by omega), sI_nb (by omega), sI_nb (by omega)]; exact this.2.2.1
          · rw [sI_nb (by omega), sI_nb (by omega), sI_nb (by omega), sI_nb (by omega)]; exact this.2.2.2
  exact LP (qB L.1) 0 h0 (by omega) E0 rfl z0 z1 z2 (fun b hb => absurd hb (Nat.not_lt_zero _))
theorem Fz_g (qp : qP L n) : fG L.1 (Fz L.1) := by
  refine ⟨Nat.zero_le _, Nat.zero_le _, Nat.zero_le _, fun b hb => ?_, fun i hi => absurd hi (Nat.not_lt_zero _)⟩
  have := qp.2.1 b hb
  refine ⟨this.1, ?_, qp.1.ft b hb, Nat.zero_le _, Nat.zero_le _⟩
  show qkd L.1 (qfc L.1 b) ≠ 4
  omega
/-- the tape, as numbers -/
theorem tape_of (j5 : I_tap h) : ∃ (t : Nat → Nat) (n : Nat), TWf t n ∧ h.1 1 2 = nI n ∧ h.1 82 1 = nI n ∧ (∀ i, i < 1600 → h.1 2 i = nI (t i)) ∧ ∀ i, i < 1600 → h.1 83 i = nI (t i) := by
  obtain ⟨⟨n, n16, a1, a2⟩, a3⟩ := j5
  refine ⟨fun i => if i < 1600 then (h.1 2 i).toNatClampNeg else 0, n, ⟨n16, fun i => ?_⟩, a1, a2, fun i hi => ?_, fun i hi => ?_⟩
  · show (if i < 1600 then _ else _) < 256
    split
    · rename_i hi
      obtain ⟨_, c, c2, e⟩ := a3 i hi
      rw [e, nI_clamp (by omega)]; exact c2
    · decide
  · obtain ⟨_, c, c2, e⟩ := a3 i hi
    show _ = nI (if i < 1600 then _ else _)
    rw [if_pos hi, e, nI_clamp (by omega)]
  · obtain ⟨e', c, c2, e⟩ := a3 i hi
    show _ = nI (if i < 1600 then _ else _)
    rw [if_pos hi, e', e, nI_clamp (by omega)]
theorem st_lake : gStepI l G (gInv Rst) MX11_lake MX12_lake 0 := by
  intro n9 h av hn9 hl hi
  have := nil_of hl
  subst this
  obtain ⟨j1, j2, j3, j4, j5, j6, lk, sp, cd, A, F, hw, g1, g2, g3, g4, ⟨T, hT, g5⟩, g6, g7, ⟨w, u, w20, u20, u1, u2, u3, u4, ru⟩, g9⟩ := hi
  obtain ⟨t, n, tw, t1, t2, t3, t4⟩ := tape_of j5
  have n16 := tw.1
  have tpc : TPc t n h := ⟨t1, t3, g9.2.1⟩
  have tpm : TPm t h := ⟨t4, g9.2.2.1, g9.2.2.2⟩
  have hsp := hw.2.2.1
  have hlk := hw.2.1
  have hne := hw.2.2.2
  refine eX11_lake (d := 899) hw (c_readLake (d := 864) hw hsp tw tpc (fun L c h1 cd' r K a8 a9 hw1 lc hm qp c1 c60 => ⟨_, rfl, ⟨cd', hw1.1⟩, bN' (by decide) ?_⟩) (fun f q h1 cd' r K a8 a9 hw1 => ⟨_, rfl, ⟨cd', hw1.1⟩, bY' rfl ?_⟩))
  · have hwR : gWf (sR (sR (sI h1 1 2 0) 29 2 (some sp)) 0 11 (some lk)) sp lk cd' := ⟨sRF_sp (sRF_lk (show (sI h1 1 2 0).2.2 = _ from hw1.1)), hsp, hlk, fun z => hne z.symm⟩
    have lcR : LCp L c sp (sR (sR (sI h1 1 2 0) 29 2 (some sp)) 0 11 (some lk)) := lc.eq (fun j _ j2 => sI_na (by omega))
    refine c_begin (d := 898) hwR hsp lcR qp.1 (fun h2 e2 b2 b3 b4 fC => ⟨rfl, e2.2, _, rfl, ?_⟩)
    have i17 : h2.1 sp 17 = nI c := by
      rw [(e2.1 sp (by simp; omega)).1]
      exact lcR.2.2.2.2.2.2.1
    rw [i17]
    have hw2 : gWf (sI h2 58 4 0) sp lk cd' := hwR.eq (e2.tr (gEq.sI h2 58 4 0))
    -- what the class has left
    have CF : ∀ a, a ≠ 1 → a ≠ 4 → a ≠ 6 → a ≠ 7 → a ≠ 58 → (a < sp ∨ sp + 14 < a) → (sI h2 58 4 0).1 a = h.1 a ∧ (sI h2 58 4 0).2.1 a = h.2.1 a := fun a z1 z4 z6 z7 z58 zs => by
      have e := e2.1 a (by simp; omega)
      refine ⟨?_, ?_⟩
      · rw [sI_na z58, e.1]
        show (sI h1 1 2 0).1 a = _
        rw [sI_na z1]; exact (K.1 a z1 z4 zs).1
      · show h2.2.1 a = _
        rw [e.2]; exact (K.1 a z1 z4 zs).2
    have S : ∀ j, j < 15 → (sI h2 58 4 0).1 (sp + j) = h1.1 (sp + j) := fun j hj => by
      rw [sI_na (by omega), (e2.1 (sp + j) (by simp; omega)).1]
      show (sI h1 1 2 0).1 (sp + j) = _
      rw [sI_na (by omega)]
    have C1 : ∀ j, j ≠ 2 → (sI h2 58 4 0).1 1 j = h1.1 1 j := fun j hj => by
      rw [sI_na (by decide), (e2.1 1 (by decide)).1]
      show (sI h1 1 2 0).1 1 j = _
      rw [sI_nb hj]
    have C12 : (sI h2 58 4 0).1 1 2 = 0 := by
      rw [sI_na (by decide), (e2.1 1 (by decide)).1]
      show (sI h1 1 2 0).1 1 2 = 0
      exact sI_s _ _ _ _
    have C6 : (sI h2 58 4 0).1 6 = h2.1 6 := sI_na (by decide)
    have C7 : (sI h2 58 4 0).1 7 = h2.1 7 := sI_na (by decide)
    have r62 : h2.1 6 2 = nI w := by
      rw [b2]
      show (sI h1 1 2 0).1 6 2 = _
      rw [sI_ne (by decide), (K.1 6 (by decide) (by decide) (by omega)).1]; exact u1
    have C584 : (sI h2 58 4 0).1 58 4 = 0 := sI_s _ _ _ _
    generalize (sI h2 58 4 0) = h3 at hw2 CF S C1 C12 C6 C7 C584 ⊢
    have e82 := CF 82 (by decide) (by decide) (by decide) (by decide) (by decide) (by omega)
    have tp3 : TPm t h3 := ⟨fun i hi => by rw [(CF 83 (by decide) (by decide) (by decide) (by decide) (by decide) (by omega)).1]; exact tpm.1 i hi, fun i hi j hj => by rw [(CF (85 + i) (by omega) (by omega) (by omega) (by omega) (by omega) (by omega)).1]; exact tpm.2.1 i hi j hj, fun i hi j hj => by rw [(CF (143 + i) (by omega) (by omega) (by omega) (by omega) (by omega) (by omega)).1]; exact tpm.2.2 i hi j hj⟩
    refine m_lake (d := 892) hw2 tw tp3 (by rw [e82.1]; exact t2) r (fun L' c' h4 h5 ro k4 d1 d7 d8 d56 qp' hC e5 lM fM y76 y80 => ⟨_, rfl, ?_⟩) (fun f q h4 ro _ _ _ _ => by cases ro)
    cases ro
    refine ⟨rfl, ?_⟩
    have E : ∀ a, a ≠ 82 → (a < 119 ∨ 130 < a) → a ≠ 133 → h5.1 a = h3.1 a ∧ h5.2.1 a = h3.2.1 a := fun a z1 z2 z3 => by
      have x1 := e5.1.1 a (by simp; omega)
      have x2 := k4.1.1 a (by simp; omega)
      exact ⟨x1.1.trans x2.1, x1.2.trans x2.2⟩
    have E82 : ∀ j, j ∉ [58, 76, 80] → j ∉ [1, 2, 3, 4, 5, 6, 7, 8, 10, 45, 56, 57, 60, 62, 63, 64] → h5.1 82 j = h.1 82 j := fun j z1 z2 => by
      rw [e5.2.1 j z1, k4.2.1 j z2, e82.1]
    have hw5 : gWf h5 sp lk cd' := (hw2.eq k4.1).eq e5.1
    have EA : ∀ a, a ≠ 1 → a ≠ 4 → a ≠ 6 → a ≠ 7 → a ≠ 58 → (a < sp ∨ sp + 14 < a) → a ≠ 82 → (a < 119 ∨ 130 < a) → a ≠ 133 → h5.1 a = h.1 a ∧ h5.2.1 a = h.2.1 a := fun a z1 z2 z3 z4 z5 z6 z7 z8 z9 => ⟨(E a z7 z8 z9).1.trans (CF a z1 z2 z3 z4 z5 z6).1, (E a z7 z8 z9).2.trans (CF a z1 z2 z3 z4 z5 z6).2⟩
    refine ⟨⟨sp, lk, cd', hw5⟩, fun i hi9 => ?_, ⟨?_, ?_⟩, ?_, ⟨⟨0, by decide, ?_, ?_⟩, fun i hi9 => ?_⟩, ?_, sp, lk, cd', L.1, Fz L.1, hw5, qp.1, ?_, lM, Fz_g qp, ⟨0, Nat.zero_le _, ?_⟩, fM, ?_, ⟨w, 0, w20, by decide, ?_, ?_, ?_, y80, fun i hi9 => absurd hi9 (Nat.not_lt_zero _)⟩, ⟨0, by decide, ?_, y76, fun z => absurd z (Nat.not_lt_zero _), fun i hi9 => absurd hi9 (Nat.not_lt_zero _)⟩, ?_⟩
    · rw [(EA 66 (by decide) (by decide) (by decide) (by decide) (by decide) (by omega) (by decide) (by decide) (by decide)).1, (EA 84 (by decide) (by decide) (by decide) (by decide) (by decide) (by omega) (by decide) (by decide) (by decide)).1]
      exact j2 i hi9
    · rw [(E 1 (by decide) (by decide) (by decide)).1, C1 8 (by decide), a8, e5.2.1 7 (by decide), d7]
    · rw [(E 1 (by decide) (by decide) (by decide)).1, C1 9 (by decide), a9, e5.2.1 8 (by decide), d8]
    · unfold I_pic
      rw [(EA 0 (by decide) (by decide) (by decide) (by decide) (by decide) (by omega) (by decide) (by decide) (by decide)).1, E82 116 (by decide) (by decide), (EA 65 (by decide) (by decide) (by decide) (by decide) (by decide) (by omega) (by decide) (by decide) (by decide)).1, (EA 167 (by decide) (by decide) (by decide) (by decide) (by decide) (by omega) (by decide) (by decide) (by decide)).1]
      exact j4
    · rw [(E 1 (by decide) (by decide) (by decide)).1, C12]; rfl
    · rw [e5.2.1 1 (by decide), d1]; rfl
    · rw [(EA 83 (by decide) (by decide) (by decide) (by decide) (by decide) (by omega) (by decide) (by decide) (by decide)).1, (EA 2 (by decide) (by decide) (by decide) (by decide) (by decide) (by omega) (by decide) (by decide) (by decide)).1]
      exact j5.2 i hi9
    · unfold I_sed
      rw [(EA 0 (by decide) (by decide) (by decide) (by decide) (by decide) (by omega) (by decide) (by decide) (by decide)).2, e5.2.2, k4.2.2.1, e82.2]
      exact j6
    · refine (LCp.full lc hm qp n16).cg (fun j hj => ?_)
      rw [(E (sp + j) (by omega) (by omega) (by omega)).1]
      exact S j hj
    · rw [(E 7 (by decide) (by decide) (by decide)).1, C7]; exact fC
    · rw [(E 6 (by decide) (by decide) (by decide)).1, C6]; exact b3
    · rw [(E 6 (by decide) (by decide) (by decide)).1, C6]; exact r62
    · rw [E82 81 (by decide) (by decide)]; exact u2
    · rw [(E 6 (by decide) (by decide) (by decide)).1, C6, b4]; rfl
    · rw [(E 58 (by decide) (by decide) (by decide)).1, C584]; rfl
    · refine g9.2.cg (fun k hk => ?_)
      have : ∀ k, k ∈ gWds → k ≠ 1 ∧ k ≠ 4 ∧ k ≠ 6 ∧ k ≠ 7 ∧ k ≠ 58 ∧ (k < 30 ∨ 44 < k) ∧ (k < 67 ∨ 81 < k) ∧ k ≠ 82 ∧ (k < 119 ∨ 130 < k) ∧ k ≠ 133 := by decide
      obtain ⟨z1, z2, z3, z4, z5, z6, z6', z7, z8, z9⟩ := this k hk
      exact (EA k z1 z2 z3 z4 z5 (by omega) z7 z8 z9).1
  · have hw1' : gWf (sI h1 1 2 0) lk sp cd' := hw1.eq (gEq.sI h1 1 2 0)
    refine c_refuse 1 (by decide) hw1' ⟨_, rfl, rfl, _, rfl, ?_⟩
    have hw2 : gWf (sI (sI h1 1 2 0) 66 1 ((sI h1 1 2 0).1 66 1 + 1)) lk sp cd' := hw1'.eq (gEq.sI _ _ _ _)
    have CF : ∀ a, a ≠ 1 → a ≠ 4 → a ≠ 66 → (a < sp ∨ sp + 14 < a) → (sI (sI h1 1 2 0) 66 1 ((sI h1 1 2 0).1 66 1 + 1)).1 a = h.1 a ∧ (sI (sI h1 1 2 0) 66 1 ((sI h1 1 2 0).1 66 1 + 1)).2.1 a = h.2.1 a := fun a z1 z4 z66 zs => ⟨by rw [sI_na z66, sI_na z1]; exact (K.1 a z1 z4 zs).1, (K.1 a z1 z4 zs).2⟩
    have C1 : ∀ j, j ≠ 2 → (sI (sI h1 1 2 0) 66 1 ((sI h1 1 2 0).1 66 1 + 1)).1 1 j = h1.1 1 j := fun j hj => by rw [sI_ne (by decide), sI_nb hj]
    have C12 : (sI (sI h1 1 2 0) 66 1 ((sI h1 1 2 0).1 66 1 + 1)).1 1 2 = 0 := by rw [sI_ne (by decide), sI_s]
    have C66 : ∀ i, (sI (sI h1 1 2 0) 66 1 ((sI h1 1 2 0).1 66 1 + 1)).1 66 i = if i = 1 then h.1 66 1 + 1 else h.1 66 i := fun i => by
      have e66 := (K.1 66 (by decide) (by decide) (by omega)).1
      by_cases y : i = 1
      · rw [if_pos y, y, sI_s, sI_ne (by decide), e66]
      · rw [if_neg y, sI_nb y, sI_ne (by decide), e66]
    generalize (sI (sI h1 1 2 0) 66 1 ((sI h1 1 2 0).1 66 1 + 1)) = h3 at hw2 CF C1 C12 C66 ⊢
    have e82 := CF 82 (by decide) (by decide) (by decide) (by omega)
    have tp3 : TPm t h3 := ⟨fun i hi => by rw [(CF 83 (by decide) (by decide) (by decide) (by omega)).1]; exact tpm.1 i hi, fun i hi j hj => by rw [(CF (85 + i) (by omega) (by omega) (by omega) (by omega)).1]; exact tpm.2.1 i hi j hj, fun i hi j hj => by rw [(CF (143 + i) (by omega) (by omega) (by omega) (by omega)).1]; exact tpm.2.2 i hi j hj⟩
    refine m_lake (d := 892) hw2 tw tp3 (by rw [e82.1]; exact t2) r (fun L' c' h4 h5 ro _ _ _ _ _ _ _ _ _ _ _ _ => by cases ro) (fun f' q' h4 ro k4 d1 d7 d8 => ⟨_, rfl, ?_⟩)
    cases ro
    refine ⟨rfl, ?_⟩
    have e84 := (CF 84 (by decide) (by decide) (by decide) (by omega)).1
    have E : ∀ a, a ≠ 82 → (a < 119 ∨ 130 < a) → a ≠ 84 → (sI h4 84 1 (h3.1 84 1 + 1)).1 a = h3.1 a ∧ (sI h4 84 1 (h3.1 84 1 + 1)).2.1 a = h3.2.1 a := fun a z1 z2 z3 => by
      have x2 := k4.1.1 a (by simp; omega)
      exact ⟨by rw [sI_na z3]; exact x2.1, x2.2⟩
    have E82 : ∀ j, j ∉ [1, 2, 3, 4, 5, 6, 7, 8, 10, 45, 56, 57, 60, 62, 63, 64] → (sI h4 84 1 (h3.1 84 1 + 1)).1 82 j = h.1 82 j := fun j z2 => by
      rw [sI_ne (by decide), k4.2.1 j z2, e82.1]
    have E8x : ∀ j, (sI h4 84 1 (h3.1 84 1 + 1)).1 82 j = h4.1 82 j := fun j => sI_ne (by decide)
    have L82 : (sI h4 84 1 (h3.1 84 1 + 1)).2.1 82 = h.2.1 82 := k4.2.2.1.trans e82.2
    have hw5 : gWf (sI h4 84 1 (h3.1 84 1 + 1)) lk sp cd' := (hw2.eq k4.1).eq (gEq.sI _ _ _ _)
    have C84 : ∀ i, (sI h4 84 1 (h3.1 84 1 + 1)).1 84 i = if i = 1 then h.1 84 1 + 1 else h.1 84 i := fun i => by
      by_cases y : i = 1
      · rw [if_pos y, y, sI_s, e84]
      · rw [if_neg y, sI_nb y, (k4.1.1 84 (by decide)).1, e84]
    have lM : LM A (sI h4 84 1 (h3.1 84 1 + 1)) := by
      have l3 : LM A h3 := g3.cg (fun k hk => CF k (by simp at hk; omega) (by simp at hk; omega) (by simp at hk; omega) (by simp at hk; omega)) (by rw [e82.1])
      exact (k4.lm l3).cg (fun k hk => ⟨sI_na (by simp at hk; omega), rfl⟩) (sI_ne (by decide))
    generalize (sI h4 84 1 (h3.1 84 1 + 1)) = h5 at E E82 E8x L82 hw5 C84 lM ⊢
    have EA : ∀ a, a ≠ 1 → a ≠ 4 → a ≠ 66 → (a < sp ∨ sp + 14 < a) → a ≠ 82 → (a < 119 ∨ 130 < a) → a ≠ 84 → h5.1 a = h.1 a ∧ h5.2.1 a = h.2.1 a := fun a z1 z2 z3 z4 z5 z6 z7 => ⟨(E a z5 z6 z7).1.trans (CF a z1 z2 z3 z4).1, (E a z5 z6 z7).2.trans (CF a z1 z2 z3 z4).2⟩
    have e6 := (EA 6 (by decide) (by decide) (by decide) (by omega) (by decide) (by decide) (by decide)).1
    have e58 := (EA 58 (by decide) (by decide) (by decide) (by omega) (by decide) (by decide) (by decide)).1
    refine ⟨⟨lk, sp, cd', hw5⟩, fun i hi9 => ?_, ⟨?_, ?_⟩, ?_, ⟨⟨0, by decide, ?_, ?_⟩, fun i hi9 => ?_⟩, ?_, lk, sp, cd', A, F, hw5, g1, ?_, lM, g4, ⟨T, by omega, ?_⟩, ?_, ?_, ?_, ?_⟩
    · rw [(E 66 (by decide) (by decide) (by decide)).1, C66, C84, j2 i hi9, j2 1 (by decide)]
    · rw [(E 1 (by decide) (by decide) (by decide)).1, C1 8 (by decide), a8, E8x, d7]
    · rw [(E 1 (by decide) (by decide) (by decide)).1, C1 9 (by decide), a9, E8x, d8]
    · unfold I_pic
      rw [(EA 0 (by decide) (by decide) (by decide) (by omega) (by decide) (by decide) (by decide)).1, E82 116 (by decide), (EA 65 (by decide) (by decide) (by decide) (by omega) (by decide) (by decide) (by decide)).1, (EA 167 (by decide) (by decide) (by decide) (by omega) (by decide) (by decide) (by decide)).1]
      exact j4
    · rw [(E 1 (by decide) (by decide) (by decide)).1, C12]; rfl
    · rw [E8x, d1]; rfl
    · rw [(EA 83 (by decide) (by decide) (by decide) (by omega) (by decide) (by decide) (by decide)).1, (EA 2 (by decide) (by decide) (by decide) (by omega) (by decide) (by decide) (by decide)).1]
      exact j5.2 i hi9
    · unfold I_sed
      rw [(EA 0 (by decide) (by decide) (by decide) (by omega) (by decide) (by decide) (by decide)).2, L82]
      exact j6
    · refine g2.cg (fun j hj => ?_)
      exact (EA (lk + j) (by omega) (by omega) (by omega) (by omega) (by omega) (by omega) (by omega)).1
    · rw [(EA 7 (by decide) (by decide) (by decide) (by omega) (by decide) (by decide) (by decide)).1]; exact g5
    · rw [(EA 133 (by decide) (by decide) (by decide) (by omega) (by decide) (by decide) (by decide)).1]; exact g6
    · rw [e6]; exact g7
    · exact RU.cg e6 (fun j hj => (EA (9 + j) (by omega) (by omega) (by omega) (by omega) (by omega) (by omega) (by omega)).1) (EA 142 (by decide) (by decide) (by decide) (by omega) (by decide) (by decide) (by decide)).1 (E82 80 (by decide)) (E82 81 (by decide)) ⟨w, u, w20, u20, u1, u2, u3, u4, ru⟩
    · refine g9.cg (by rw [e58]) (by rw [e58]) (EA 59 (by decide) (by decide) (by decide) (by omega) (by decide) (by decide) (by decide)).1 (EA 60 (by decide) (by decide) (by decide) (by omega) (by decide) (by decide) (by decide)).1 (EA 141 (by decide) (by decide) (by decide) (by omega) (by decide) (by decide) (by decide)).1 (E82 76 (by decide)) (E82 77 (by decide)) (fun k hk => ?_)
      have : ∀ k, k ∈ gWds → k ≠ 1 ∧ k ≠ 4 ∧ k ≠ 66 ∧ (k < 30 ∨ 44 < k) ∧ (k < 67 ∨ 81 < k) ∧ k ≠ 82 ∧ (k < 119 ∨ 130 < k) ∧ k ≠ 84 := by decide
      obtain ⟨z1, z2, z3, z6, z6', z7, z8, z9⟩ := this k hk
      exact (EA k z1 z2 z3 (by omega) z7 z8 z9).1
end SL
