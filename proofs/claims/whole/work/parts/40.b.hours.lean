/-- a scratch list that leaves all of the relation alone -/
def scr2 (S : List Nat) : Prop := ∀ x, x ∈ S → x ∉ gRc ∧ x ∉ [0, 1, 2, 58, 65, 66, 82, 83, 84, 167]
theorem scr2.s {S : List Nat} (h : scr2 S) : scr S := fun x hx => ⟨(h x hx).1, fun z => (h x hx).2 (by simp [z]), fun z => (h x hx).2 (by simp [z])⟩
/-- an act that leaves the tape, the faults, the picture and the seed alone -/
theorem inv_act {n : Nat} {h h1 h2 : gH} {A F' : qT} {T' w u : Nat} {Sc Sm : List Nat} (hi : gInv Rst n h) (hr : Rst (n + 1) h2)
    (ac : AC Sc (qB A) w u F' T' h h1) (am : AM Sm (qB A) w u F' h1 h2) (sc : scr2 Sc) (sm : scr2 Sm) (es : ∀ j, j ∈ [1, 7, 8, 116] → h2.1 82 j = h1.1 82 j) (el : h2.2.1 82 = h1.2.1 82) : gInv Rst (n + 1) h2 := by
  obtain ⟨j1, j2, j3, j4, j5, j6, j7⟩ := hi
  have w9 : (w + 1) % 20 < 20 := Nat.mod_lt _ (by decide)
  have e1 : ∀ x, x ∈ [0, 1, 2, 65, 66, 82, 83, 84, 167] → h1.1 x = h.1 x ∧ h1.2.1 x = h.2.1 x := fun x hx => ac.1.1 x (fun z => by
    rcases List.mem_cons.mp z with z | z
    · subst z; revert hx; decide
    rcases List.mem_cons.mp z with z | z
    · subst z; revert hx; decide
    rcases List.mem_cons.mp z with z | z
    · simp at hx; omega
    · have := (sc x z).2
      simp at this hx
      omega)
  have e2 : ∀ x, x ∈ [0, 1, 2, 65, 66, 83, 84, 167] → h2.1 x = h.1 x ∧ h2.2.1 x = h.2.1 x := fun x hx => by
    have a1 := e1 x (by simp at hx ⊢; omega)
    have a2 := am.1.1 x (fun z => by
      rcases List.mem_cons.mp z with z | z
      · subst z; revert hx; decide
      rcases List.mem_cons.mp z with z | z
      · subst z; revert hx; decide
      rcases List.mem_cons.mp z with z | z
      · subst z; revert hx; decide
      · have := (sm x z).2
        simp at this hx
        omega)
    exact ⟨a2.1.trans a1.1, a2.2.trans a1.2⟩
  have e82 : ∀ j, j ∈ [1, 7, 8, 116] → h2.1 82 j = h.1 82 j := fun j hj => by rw [es j hj, (e1 82 (by decide)).1]
  refine ⟨j1.eq (am.1.2.trans ac.1.2), fun i hi9 => ?_, ⟨?_, ?_⟩, ?_, ?_, ?_, hr⟩
  · rw [(e2 66 (by decide)).1, (e2 84 (by decide)).1]
    exact j2 i hi9
  · rw [(e2 1 (by decide)).1, e82 7 (by decide)]
    exact j3.1
  · rw [(e2 1 (by decide)).1, e82 8 (by decide)]
    exact j3.2
  · unfold I_pic
    rw [(e2 0 (by decide)).1, e82 116 (by decide), (e2 65 (by decide)).1, (e2 167 (by decide)).1]
    exact j4
  · unfold I_tap
    rw [(e2 1 (by decide)).1, e82 1 (by decide), (e2 83 (by decide)).1, (e2 2 (by decide)).1]
    exact j5
  · unfold I_sed
    rw [(e2 0 (by decide)).2, el, (e1 82 (by decide)).2]
    exact j6
section RF
variable {l : Launch} {G : gG} {d : Nat} {Q : Option Value → gH → Prop} {h : gH} {lk sp : Nat} {cd : Option Nat} {A F : qT} {T : Nat}
theorem c_canPass_y {n M : Nat} (hw : gWf h lk sp cd) (k : KC A F T lk h) (hM : M ≤ 200) (h1 : 1 ≤ n) (h2 : n ≤ M) (h3 : fH F + n ≤ 999) (h4 : qC A ≠ 0) (hq : Q (some (.int 1)) h) : gC l G (d + 1) MX11_canPass [.ref 0, .int (nI n), .int (nI M)] h Q := by
  refine eX11_canPass hw (c_isNone hw k.g k.l (fun z => absurd z h4) (fun z => ⟨_, rfl, rfl, bY' rfl (bN (nI_nlt (b := 1) h1 (by omega)) (bN (nI_nlt (by omega) (by omega)) (c_hour hw k ⟨_, rfl, rfl, bN ?_ hq⟩)))⟩))
  rw [nI_add]
  exact nI_nlt (a := 999) h3 (by decide)
theorem c_canPass_n {a : Int32} {M : Nat} (hw : gWf h lk sp cd) (k : KC A F T lk h) (hM : M ≤ 200) (hn : ∀ n, 1 ≤ n → n ≤ M → fH F + n ≤ 999 → qC A ≠ 0 → a ≠ nI n) (hq : Q (some (.int 0)) h) : gC l G (d + 1) MX11_canPass [.ref 0, .int a, .int (nI M)] h Q := by
  have hf := k.f.1
  refine eX11_canPass hw (c_isNone hw k.g k.l (fun z => ⟨_, rfl, rfl, bN' (by decide) hq⟩) (fun z => ⟨_, rfl, rfl, bY' rfl ⟨fun _ => hq, fun z1 => ⟨fun _ => hq, fun z2 => c_hour hw k ⟨_, rfl, rfl, fun _ => hq, fun z3 => ?_⟩⟩⟩⟩))
  obtain ⟨j, hj, rfl⟩ := nI_of (x := a) (fun q => z1 (Int32.lt_trans q (by decide)))
  have z1 := mt (nI_ltI (b := 1) hj (by decide)).mpr z1
  have z2 := mt (nI_ltI (a := M) (by omega) hj).mpr z2
  rw [nI_add] at z3
  have z3 := mt (nI_ltI (a := 999) (by decide) (by omega)).mpr z3
  exact absurd rfl (hn j (by omega) (by omega) (by omega) z)
theorem FG.hour {v : Nat} (hv : v ≤ 999) (q : fG A F) : fG A (fupd F 0 0 v) := ⟨hv, q.2⟩
theorem st_hours : gStepI l G (gInv Rst) MX11_hours MX12_hours 1 := by
  intro n9 h av hn9 hl hi
  obtain ⟨a, rfl⟩ := one_of hl
  obtain ⟨lk, sp, cd, A, F, hw, g1, g2, g3, g4, ⟨T, hT, g5⟩, g6, g7, ⟨w, u, w20, u20, u1, u2, u3, u4, ru⟩, g9⟩ := hi.2.2.2.2.2.2
  have k : KC A F T lk h := ⟨g1, g2, g4, g5, g7, by omega⟩
  have m : KM A F h := ⟨g1, g3, g4, g6⟩
  have h8 := g1.C8
  rcases Classical.em (∃ n, 1 ≤ n ∧ n ≤ 200 ∧ fH F + n ≤ 999 ∧ qC A ≠ 0 ∧ a = nI n) with ⟨n, n1, n2, n3, n4, rfl⟩ | hn
  · have f2 : fG A (fupd F 0 0 (fH F + n)) := FG.hour n3 g4
    refine eX11_hours (d := 899) hw (c_canPass_y (M := 200) hw k (by decide) n1 n2 n3 n4 ⟨_, rfl, rfl, bN' (by decide) (c_remember hw k w20 u20 u1 u3 (fun h1 a1 => ⟨rfl, a1.1.2, eX2_passHours (hw.eq a1.1) ⟨rfl, rfl, ?_⟩⟩))⟩)
    have a2 : AC [] (qB A) w u (fupd F 0 0 (fH F + n)) T h (sI h1 7 0 (h1.1 7 0 + nI n)) := a1.upd (gEq.sI h1 7 0 _) (fun x hx => Or.inl (by simpa using hx)) (fun x hx => by cases hx) (FC.hour (fun j hj => sI_nb hj) (by rw [sI_s, a1.2.2.2.2.2.1, nI_add]) a1.2.2.2.2.2)
    generalize sI h1 7 0 (h1.1 7 0 + nI n) = h2 at a2 ⊢
    have hw2 := hw.eq a2.1
    have lc2 : LC A lk h2 := g2.eq hw a2.1 (fun x hx => by simp at hx; omega)
    have k2 : KC A (fupd F 0 0 (fH F + n)) T lk h2 := ⟨g1, lc2, f2, a2.2.2.2.2.2, by rw [a2.2.2.2.1]; exact g7, by omega⟩
    refine c_hour hw2 k2 ⟨_, rfl, rfl, c_skyAt hw2 g1 lc2 n3 ⟨_, rfl, rfl, _, rfl, ?_⟩⟩
    have lm2 : LM A h2 := g3.cg (fun x hx => a2.1.1 x (fun z => by simp at hx z; omega)) (by rw [(a2.1.1 82 (fun z => by simp at z; omega)).1])
    have e133 : h2.1 133 = h.1 133 := (a2.1.1 133 (fun z => by simp at z; omega)).1
    have e82 : h2.1 82 = h.1 82 := (a2.1.1 82 (fun z => by simp at z; omega)).1
    have m2 : KM A F h2 := ⟨g1, lm2, g4, by rw [e133]; exact g6⟩
    refine eX12_hours (d := 899) hw2 (bN (by rw [lm2.il, if_neg n4]; decide) (c_isInI 1 200 hw2 (fun _ _ => ⟨_, rfl, rfl, bN (by decide) (bY ?_ (m_keeps hw2 m2 w20 u20 (by rw [e82]; exact u2) (by rw [e82]; exact u4) (fun h3 b1 b2 b3 => ⟨rfl, b1.1.2, ?_⟩)))⟩) (fun z => absurd ⟨nI_le (a := 1) n1 (by omega), nI_le (b := 200) n2 (by decide)⟩ z)))
    · rw [m2.y.1, nI_add]
      exact nI_le (b := 999) n3 (by decide)
    · rw [b1.2.2.2.2.2.2.1, nI_add]
      have b4 : AM [] (qB A) w u (fupd F 0 0 (fH F + n)) h2 (sI h3 133 0 (nI (fH F + n))) := b1.upd (gEq.sI h3 133 0 _) (fun x hx => Or.inl (by simpa using hx)) (fun x hx => by cases hx) (fun j hj => by rw [sI_ne (by decide)]) (FM.hour (fun j hj => sI_nb hj) (sI_s _ _ _ _) b1.2.2.2.2.2.2)
      have bl : (sI h3 133 0 (nI (fH F + n))).2.1 82 = h2.2.1 82 := b3
      have be : ∀ j, j ∈ [1, 7, 8, 116] → (sI h3 133 0 (nI (fH F + n))).1 82 j = h2.1 82 j := fun j hj => by
        rw [sI_ne (by decide)]
        exact b2 j (fun z => by subst z; revert hj; decide) (fun z => by subst z; revert hj; decide)
      generalize sI h3 133 0 (nI (fH F + n)) = h4 at b4 bl be ⊢
      have lm4 : LM A h4 := lm2.cg (fun x hx => b4.1.1 x (fun z => by simp at hx z; omega)) (b4.2.2.2.1 58 (by decide))
      refine m_skyIn (hw2.eq b4.1) g1 lm4 n3 ⟨_, rfl, rfl, _, rfl, rfl, ?_⟩
      exact inv_act hi (Rst.act hw g1 g2 g3 g4 hT g5 g6 g7 w20 u20 ru g9 a2 b4 (fun x hx => by cases hx) (fun x hx => by cases hx) f2 (by omega)) a2 b4 (fun x hx => by cases hx) (fun x hx => by cases hx) be bl
  · refine eX11_hours (d := 899) hw (c_canPass_n (M := 200) hw k (by decide) (fun n n1 n2 n3 n4 e => hn ⟨n, n1, n2, n3, n4, e⟩) ⟨_, rfl, rfl, bY' rfl (c_refuse 3 (by decide) hw ⟨_, rfl, rfl, _, rfl, ?_⟩)⟩)
    have hw2 := hw.eq (gEq.sI h 66 3 (h.1 66 3 + 1))
    have mr : gC l G 899 MX12_refuses [.ref 82, .int (nI 3)] (sI h 66 3 (h.1 66 3 + 1)) (rI fun v1 h1 => h1.2.2 = (sI h 66 3 (h.1 66 3 + 1)).2.2 ∧ ∃ v', some (Value.int v1) = some (.int v') ∧ -1 = v' ∧ gInv Rst (n9 + 1) h1) := c_refuses 3 (by decide) hw2 ⟨_, rfl, rfl, _, rfl, rfl, by rw [sI_ne (by decide)]; exact inv_ref Rst_cg 3 hi⟩
    refine eX12_hours (d := 899) hw2 ⟨fun _ => mr, fun z1 => c_isInI 1 200 hw2 (fun z2 z3 => ⟨_, rfl, rfl, bN (by decide) ⟨fun z4 => ?_, fun _ => mr⟩⟩) (fun _ => ⟨_, rfl, rfl, bY rfl mr⟩)⟩
    exfalso
    obtain ⟨j, hj, rfl⟩ := nI_of (x := a) (fun q => absurd z2 (Int32.not_le.mpr (Int32.lt_trans q (by decide))))
    have z2 := (nI_leI (a := 1) (by decide) hj).mp z2
    have z3 := (nI_leI (b := 200) hj (by decide)).mp z3
    rw [sI_ne (by decide), g6.1, nI_add] at z4
    have hf := g4.1
    have z4 := (nI_leI (b := 999) (by omega) (by decide)).mp z4
    refine hn ⟨j, z2, z3, z4, fun e0 => z1 ?_, rfl⟩
    rw [sI_ne (by decide), g3.il, if_pos e0]
end RF
