theorem FC.cg {B T : Nat} {F : qT} {x x' : Nat → Int32} (hB : B ≤ 6) (e : ∀ j, j < 67 → x' j = x j) (q : FC B F T x) : FC B F T x' := by
  obtain ⟨q1, q2, q3, q4, q5, q6⟩ := q
  refine ⟨by rw [e 0 (by decide)]; exact q1, by rw [e 1 (by decide)]; exact q2, by rw [e 2 (by decide)]; exact q3, q4, fun b hb => ?_, fun i hi => ?_⟩
  · rw [e _ (by omega), e _ (by omega), e _ (by omega), e _ (by omega)]
    exact q5 b hb
  · rw [e _ (by omega)]
    exact q6 i hi
theorem FM.cg {B : Nat} {F : qT} {y y' : Nat → Int32} (hB : B ≤ 6) (hN : fN F ≤ 40) (e : ∀ j, j < 187 → y' j = y j) (q : FM B F y) : FM B F y' := by
  obtain ⟨q1, q2, q3, q4, q5⟩ := q
  refine ⟨by rw [e 0 (by decide)]; exact q1, by rw [e 1 (by decide)]; exact q2, by rw [e 26 (by decide)]; exact q3, fun b hb => ?_, fun i hi => ?_⟩
  · rw [e _ (by omega), e _ (by omega), e _ (by omega), e _ (by omega)]
    exact q4 b hb
  · rw [e _ (by omega), e _ (by omega), e _ (by omega), e _ (by omega)]
    exact q5 i hi
/-- an act of the class: remembered, then F' -/
def AC (Sc : List Nat) (B w u : Nat) (F : qT) (T : Nat) (h h1 : gH) : Prop :=
  gEq (6 :: 7 :: (9 + (w + 1) % 20) :: Sc) h h1 ∧ h1.1 6 2 = nI ((w + 1) % 20) ∧ h1.1 6 4 = nI (min 20 (u + 1)) ∧ h1.1 6 3 = h.1 6 3 ∧ (∀ j, j < 67 → h1.1 (9 + (w + 1) % 20) j = h.1 7 j) ∧ FC B F T (h1.1 7)
/-- an act of the model -/
def AM (Sm : List Nat) (B w u : Nat) (F : qT) (h h1 : gH) : Prop :=
  gEq (82 :: 133 :: 142 :: Sm) h h1 ∧ h1.1 82 81 = nI ((w + 1) % 20) ∧ h1.1 82 80 = nI (min 20 (u + 1)) ∧ (∀ j, j ∈ [58, 76, 77] → h1.1 82 j = h.1 82 j) ∧ (∀ j, j < 187 → h1.1 142 (187 * ((w + 1) % 20) + j) = h.1 133 j) ∧
  (∀ i, i < 20 → i ≠ (w + 1) % 20 → ∀ j, j < 187 → h1.1 142 (187 * i + j) = h.1 142 (187 * i + j)) ∧ FM B F (h1.1 133)
/-- what a scratch list may hold -/
def scr (S : List Nat) : Prop := ∀ x, x ∈ S → x ∉ gRc ∧ x ≠ 58 ∧ x ≠ 82
theorem Rst.act {n : Nat} {h h1 h2 : gH} {lk sp : Nat} {cd : Option Nat} {A F F' : qT} {T T' w u : Nat} {Sc Sm : List Nat} (hw : gWf h lk sp cd) (g1 : qG A) (g2 : LC A lk h) (g3 : LM A h) (g4 : fG A F) (hT : T ≤ 300 * n) (g5 : FC (qB A) F T (h.1 7)) (g6 : FM (qB A) F (h.1 133)) (g7 : h.1 6 3 = nI (qB A))
    (w20 : w < 20) (u20 : u ≤ 20) (ru : ∀ i, i < u → ∃ F T, T ≤ 300 * n ∧ fG A F ∧ FC (qB A) F T (h.1 (9 + (w + 20 - i) % 20)) ∧ FM (qB A) F (fun j => h.1 142 (187 * ((w + 20 - i) % 20) + j))) (g9 : RT A h)
    (ac : AC Sc (qB A) w u F' T' h h1) (am : AM Sm (qB A) w u F' h1 h2) (sc : scr Sc) (sm : scr Sm) (gf : fG A F') (hT' : T' ≤ T + 300) : Rst (n + 1) h2 := by
  obtain ⟨a1, a2, a3, a4, a5, a6⟩ := ac
  obtain ⟨b1, b2, b3, b4, b5, b6, b7⟩ := am
  have h6 := g1.B6
  have hw20 : (w + 1) % 20 < 20 := Nat.mod_lt _ (by decide)
  have hsc : ∀ x, x ∈ gRc ∨ x = 58 ∨ x = 82 → x ∉ Sc ∧ x ∉ Sm := fun x hx => ⟨fun z => by have := sc x z; rcases hx with hx | hx | hx <;> simp_all, fun z => by have := sm x z; rcases hx with hx | hx | hx <;> simp_all⟩
  have e1 : ∀ x, x ∈ gRc ∨ x = 58 ∨ x = 82 → x ≠ 6 → x ≠ 7 → x ≠ 9 + (w + 1) % 20 → h1.1 x = h.1 x ∧ h1.2.1 x = h.2.1 x := fun x hx z1 z2 z3 => a1.1 x (by simp [z1, z2, z3, (hsc x hx).1])
  have e2 : ∀ x, x ∈ gRc ∨ x = 58 ∨ x = 82 → x ≠ 82 → x ≠ 133 → x ≠ 142 → h2.1 x = h1.1 x ∧ h2.2.1 x = h1.2.1 x := fun x hx z1 z2 z3 => b1.1 x (by simp [z1, z2, z3, (hsc x hx).2])
  have lkr : ∀ k, k = 30 ∨ k = 67 → ∀ j, j < 15 → k + j ∈ gRc ∧ k + j ≠ 6 ∧ k + j ≠ 7 ∧ (k + j < 9 ∨ 29 ≤ k + j) ∧ k + j ≠ 82 ∧ k + j ≠ 133 ∧ k + j ≠ 142 := by
    rintro k (rfl | rfl) <;> decide
  have lmr : ∀ k, k ∈ [119, 120, 121, 122, 123, 124, 125, 126, 127, 128, 129] → k ∈ gRc ∧ k ≠ 6 ∧ k ≠ 7 ∧ (k < 9 ∨ 29 ≤ k) ∧ k ≠ 82 ∧ k ≠ 133 ∧ k ≠ 142 := by decide
  have pr : ∀ j, j < 20 → 9 + j ∈ gRc := by decide
  have e9 : ∀ i, i < 20 → h2.1 (9 + i) = h1.1 (9 + i) := fun i hi => (e2 (9 + i) (Or.inl (pr i hi)) (by omega) (by omega) (by omega)).1
  refine ⟨lk, sp, cd, A, F', ⟨b1.2.trans (a1.2.trans hw.1), hw.2⟩, g1, ?_, ?_, gf, ⟨T', by omega, ?_⟩, b7, ?_, ?_, ?_⟩
  · refine g2.cg (fun j hj => ?_)
    obtain ⟨r1, r2, r3, r4, r5, r6, r7⟩ := lkr lk hw.2.1 j hj
    rw [(e2 _ (Or.inl r1) r5 r6 r7).1, (e1 _ (Or.inl r1) r2 r3 (by omega)).1]
  · refine g3.cg (fun j hj => ?_) ?_
    · obtain ⟨r1, r2, r3, r4, r5, r6, r7⟩ := lmr j hj
      rw [(e2 _ (Or.inl r1) r5 r6 r7).1, (e1 _ (Or.inl r1) r2 r3 (by omega)).1, (e2 _ (Or.inl r1) r5 r6 r7).2, (e1 _ (Or.inl r1) r2 r3 (by omega)).2]
      exact ⟨rfl, rfl⟩
    · rw [b4 58 (by decide), (e1 82 (Or.inr (Or.inr rfl)) (by decide) (by decide) (by omega)).1]
  · rw [(e2 7 (Or.inl (by decide)) (by decide) (by decide) (by decide)).1]
    exact a6
  · rw [(e2 6 (Or.inl (by decide)) (by decide) (by decide) (by decide)).1, a4]
    exact g7
  · have e6 := (e2 6 (Or.inl (by decide)) (by decide) (by decide) (by decide)).1
    refine ⟨(w + 1) % 20, min 20 (u + 1), hw20, Nat.min_le_left _ _, by rw [e6]; exact a2, b2, by rw [e6]; exact a3, b3, fun i hi => ?_⟩
    have hi20 : i < 20 := by omega
    cases i with
    | zero =>
      refine ⟨F, T, by omega, g4, ?_, ?_⟩
      · rw [show ((w + 1) % 20 + 20 - 0) % 20 = (w + 1) % 20 by omega, e9 _ hw20]
        exact g5.cg h6 a5
      · refine g6.cg h6 g4.2.2.1 (fun j hj => ?_)
        show h2.1 142 (187 * (((w + 1) % 20 + 20 - 0) % 20) + j) = h.1 133 j
        rw [show ((w + 1) % 20 + 20 - 0) % 20 = (w + 1) % 20 by omega, b5 j hj, (e1 133 (Or.inl (by decide)) (by decide) (by decide) (by omega)).1]
    | succ i =>
      obtain ⟨F2, T2, c1, c2, c3, c4⟩ := ru i (by omega)
      have ei : ((w + 1) % 20 + 20 - (i + 1)) % 20 = (w + 20 - i) % 20 := by omega
      have ene : (w + 20 - i) % 20 ≠ (w + 1) % 20 := by omega
      have elt : (w + 20 - i) % 20 < 20 := Nat.mod_lt _ (by decide)
      refine ⟨F2, T2, by omega, c2, ?_, ?_⟩
      · rw [ei, e9 _ elt, (e1 _ (Or.inl (pr _ elt)) (by omega) (by omega) (by omega)).1]
        exact c3
      · refine c4.cg h6 c2.2.2.1 (fun j hj => ?_)
        show h2.1 142 (187 * (((w + 1) % 20 + 20 - (i + 1)) % 20) + j) = h.1 142 (187 * ((w + 20 - i) % 20) + j)
        rw [ei, b6 _ elt ene j hj, (e1 142 (Or.inl (by decide)) (by decide) (by decide) (by omega)).1]
  · refine g9.cg ?_ ?_ ?_ ?_ ?_ ?_ ?_ (fun k hk => by
      obtain ⟨r2, r3, r4, r5, r6, r7⟩ := gWds_n k hk
      rw [(e2 _ (Or.inl (gWds_c k hk)) r5 r6 r7).1, (e1 _ (Or.inl (gWds_c k hk)) r2 r3 (by omega)).1])
    · rw [(e2 58 (Or.inr (Or.inl rfl)) (by decide) (by decide) (by decide)).1, (e1 58 (Or.inr (Or.inl rfl)) (by decide) (by decide) (by omega)).1]
    · rw [(e2 58 (Or.inr (Or.inl rfl)) (by decide) (by decide) (by decide)).1, (e1 58 (Or.inr (Or.inl rfl)) (by decide) (by decide) (by omega)).1]
    · rw [(e2 59 (Or.inl (by decide)) (by decide) (by decide) (by decide)).1, (e1 59 (Or.inl (by decide)) (by decide) (by decide) (by omega)).1]
    · rw [(e2 60 (Or.inl (by decide)) (by decide) (by decide) (by decide)).1, (e1 60 (Or.inl (by decide)) (by decide) (by decide) (by omega)).1]
    · rw [(e2 141 (Or.inl (by decide)) (by decide) (by decide) (by decide)).1, (e1 141 (Or.inl (by decide)) (by decide) (by decide) (by omega)).1]
    · rw [b4 76 (by decide), (e1 82 (Or.inr (Or.inr rfl)) (by decide) (by decide) (by omega)).1]
    · rw [b4 77 (by decide), (e1 82 (Or.inr (Or.inr rfl)) (by decide) (by decide) (by omega)).1]
theorem AC.upd {Sc S : List Nat} {B w u : Nat} {F F' : qT} {T T' : Nat} {h h1 h2 : gH} (a : AC Sc B w u F T h h1) (e : gEq S h1 h2) (hs : ∀ x, x ∈ S → x = 7 ∨ x ∈ Sc) (hsc : scr Sc) (f : FC B F' T' (h2.1 7)) : AC Sc B w u F' T' h h2 := by
  obtain ⟨a1, a2, a3, a4, a5, a6⟩ := a
  have hn : ∀ x, x ∈ gRc → x ≠ 7 → h2.1 x = h1.1 x := fun x hx h7 => (e.1 x (fun z => by
    rcases hs x z with z | z
    · exact h7 z
    · exact (hsc x z).1 hx)).1
  have pr : ∀ j, j < 20 → 9 + j ∈ gRc := by decide
  have e6 := hn 6 (by decide) (by decide)
  refine ⟨(a1.tr e).mono (fun x hx => ?_), by rw [e6]; exact a2, by rw [e6]; exact a3, by rw [e6]; exact a4, fun j hj => ?_, f⟩
  · rw [List.mem_append] at hx
    rcases hx with hx | hx
    · exact hx
    · rcases hs x hx with z | z
      · simp [z]
      · simp [z]
  · rw [hn _ (pr _ (Nat.mod_lt _ (by decide))) (by omega)]
    exact a5 j hj
theorem AM.upd {Sm S : List Nat} {B w u : Nat} {F F' : qT} {h h1 h2 : gH} (a : AM Sm B w u F h h1) (e : gEq S h1 h2) (hs : ∀ x, x ∈ S → x = 133 ∨ x = 82 ∨ x ∈ Sm) (hsc : scr Sm) (e82 : ∀ j, j ∈ gRs → h2.1 82 j = h1.1 82 j) (f : FM B F' (h2.1 133)) : AM Sm B w u F' h h2 := by
  obtain ⟨a1, a2, a3, a4, a5, a6, a7⟩ := a
  have e142 : h2.1 142 = h1.1 142 := (e.1 142 (fun z => by
    rcases hs _ z with z | z | z
    · exact absurd z (by decide)
    · exact absurd z (by decide)
    · exact (hsc _ z).1 (by decide))).1
  refine ⟨(a1.tr e).mono (fun x hx => ?_), by rw [e82 81 (by decide)]; exact a2, by rw [e82 80 (by decide)]; exact a3, fun j hj => ?_, fun j hj => by rw [e142]; exact a5 j hj, fun i hi hne j hj => by rw [e142]; exact a6 i hi hne j hj, f⟩
  · rw [List.mem_append] at hx
    rcases hx with hx | hx
    · exact hx
    · rcases hs x hx with z | z | z
      · simp [z]
      · simp [z]
      · simp [z]
  · have : ∀ j, j ∈ [58, 76, 77] → j ∈ gRs := by decide
    rw [e82 j (this j hj)]
    exact a4 j hj
section RM
variable {p : Program} {l : Launch} {e : Env} {s : State} {m : MethodId} {args : Array Value} {below : List Frame} {meth : Method} {c : Code} {G : gG} {d : Nat} {Q : Option Value → gH → Prop} {h h0 : gH} {lk sp : Nat} {cd : Option Nat} {A F : qT} {T w u : Nat}
theorem c_remember (hw : gWf h lk sp cd) (k : KC A F T lk h) (w20 : w < 20) (u20 : u ≤ 20) (h2 : h.1 6 2 = nI w) (h4 : h.1 6 4 = nI u) (hq : ∀ h', AC [] (qB A) w u F T h h' → Q none h') : gC l G (d + 2) MX2_remember [.ref 6] h Q := by
  have e1 : (h.1 6 2 + 1) - (h.1 6 2 + 1) / 20 * 20 = nI ((w + 1) % 20) := by
    rw [h2, nI_1, lit 20, pk_rem (by omega) (by decide) (by decide)]
  have w9 : (w + 1) % 20 < 20 := Nat.mod_lt _ (by decide)
  have e2 : (if (h.1 6 4 + 1) < 20 then (h.1 6 4 + 1) else 20) = nI (min 20 (u + 1)) := by
    rw [h4, nI_1, lit 20, i_min (by omega) (by decide), Nat.min_comm]
  refine eX2_remember hw ?_
  rw [e1, e2, nI_clamp (by omega)]
  refine bN (nI_pos (by omega)) ⟨vp_in_nI w9 (by decide), hq _ ⟨?_, ?_, ?_, ?_, fun j hj => ?_, ?_⟩⟩
  · have e := ((gEq.sI h 6 2 (nI ((w + 1) % 20))).tr (L' := [9 + (w + 1) % 20]) ⟨fun a ha => ⟨(sA_o _ _ _ a (by simpa using ha)).1, (sA_o _ _ _ a (by simpa using ha)).2.1⟩, rfl⟩).tr (gEq.sI (sA (sI h 6 2 (nI ((w + 1) % 20))) (9 + (w + 1) % 20) (va_cpy ((sI h 6 2 (nI ((w + 1) % 20))).1 7) ((sI h 6 2 (nI ((w + 1) % 20))).1 (9 + (w + 1) % 20)) 0 0 67)) 6 4 (nI (min 20 (u + 1))))
    exact e.mono (fun x hx => by simp at hx ⊢; omega)
  · rw [sI_nb (by decide), (sA_o _ _ _ 6 (by omega)).1, sI_s]
  · rw [sI_s]
  · rw [sI_nb (by decide), (sA_o _ _ _ 6 (by omega)).1, sI_nb (by decide)]
  · rw [sI_ne (by omega), sA_s, pk_cpy_in (by omega) (by omega), sI_ne (by decide), Nat.zero_add, Nat.sub_zero]
  · rw [sI_na (by decide), (sA_o _ _ _ 7 (by omega)).1, sI_na (by decide)]
    exact k.x
/-- k of them are kept -/
def MKp (h0 h : gH) (w k : Nat) : Prop := gEq [82, 142] h0 h ∧ h.1 82 81 = nI w ∧ (∀ j, j ≠ 81 → h.1 82 j = h0.1 82 j) ∧ h.2.1 82 = h0.2.1 82 ∧ ∀ i, h.1 142 i = if 187 * w ≤ i ∧ i < 187 * w + k then h0.1 133 (i - 187 * w) else h0.1 142 i
theorem m_keepsL (hw : gWf h0 lk sp cd) (w20 : w < 20) (u20 : u ≤ 20) (h80 : h0.1 82 80 = nI u) (hq : ∀ h', gEq [82, 142] h0 h' → h'.1 82 81 = nI w → h'.1 82 80 = nI (min 20 (u + 1)) → (∀ j, j ≠ 81 → j ≠ 80 → h'.1 82 j = h0.1 82 j) → h'.2.1 82 = h0.2.1 82 → (∀ i, h'.1 142 i = if 187 * w ≤ i ∧ i < 187 * w + 187 then h0.1 133 (i - 187 * w) else h0.1 142 i) → Q none h') : ∀ r k h, k + r = 187 → MKp h0 h w k → gg p l e s m args below meth c G d MX12_keeps Q 15 [some (.ref 82), some (.int (nI k))] [] h := by
  intro r
  induction r with
  | zero =>
    intro k h hk t
    have hk : k = 187 := by omega
    subst hk
    obtain ⟨t1, t2, t3, t4, t5⟩ := t
    have hwh := hw.eq t1
    have e80 : h.1 82 80 = nI u := by rw [t3 80 (by decide)]; exact h80
    refine wX12_keeps_15 hwh.1 hwh.2.1 hwh.2.2.1 (bY (Int32.le_refl _) ?_)
    rw [e80]
    refine ⟨fun z => ?_, fun z => ?_⟩
    · have z := (nI_leI (a := 20) (by decide) (by omega)).mp z
      refine hq h t1 t2 (by rw [e80, show min 20 (u + 1) = u by omega]) (fun j hj _ => t3 j hj) t4 t5
    · have z := mt (nI_leI (a := 20) (by decide) (by omega)).mpr z
      refine hq _ ?_ ?_ ?_ (fun j hj hj2 => ?_) t4 (fun i => ?_)
      · exact (t1.tr (gEq.sI h 82 80 (nI u + 1))).mono (fun x hx => by simp at hx ⊢; omega)
      · rw [sI_nb (by decide)]; exact t2
      · rw [sI_s, nI_1, show min 20 (u + 1) = u + 1 by omega]
      · rw [sI_nb hj2]; exact t3 j hj
      · rw [sI_ne (by decide)]; exact t5 i
  | succ r ih =>
    intro k h hk t
    have t' := t
    obtain ⟨t1, t2, t3, t4, t5⟩ := t
    have hwh := hw.eq t1
    have ee : 187 * h.1 82 81 + nI k = nI (187 * w + k) := by rw [t2, lit 187, pk_mul, nI_add]
    refine wX12_keeps_15 hwh.1 hwh.2.1 hwh.2.2.1 (bN (nI_ge (b := 187) (by omega) (by decide)) ⟨vp_in_nI (by omega) (by decide), ?_⟩)
    rw [ee, nI_clamp (show 187 * w + k < 2 ^ 31 by omega), nI_clamp (show k < 2 ^ 31 by omega), nI_1]
    refine ⟨vp_in_nI (by omega) (by decide), ih (k + 1) _ (by omega) ⟨?_, ?_, fun j hj => ?_, t4, fun i => ?_⟩⟩
    · exact (t1.tr (gEq.sI h 142 (187 * w + k) _)).mono (fun x hx => by simp at hx ⊢; omega)
    · rw [sI_ne (by decide)]; exact t2
    · rw [sI_ne (by decide)]; exact t3 j hj
    · by_cases e9 : i = 187 * w + k
      · subst e9
        rw [sI_s, if_pos ⟨by omega, by omega⟩, (t1.1 133 (by decide)).1, show 187 * w + k - 187 * w = k by omega]
      · rw [sI_nb e9, t5 i]
        by_cases e8 : 187 * w ≤ i ∧ i < 187 * w + k
        · rw [if_pos e8, if_pos ⟨e8.1, by omega⟩]
        · rw [if_neg e8, if_neg (by omega)]
theorem m_keeps (hw : gWf h lk sp cd) (k : KM A F h) (w20 : w < 20) (u20 : u ≤ 20) (h81 : h.1 82 81 = nI w) (h80 : h.1 82 80 = nI u) (hq : ∀ h', AM [] (qB A) w u F h h' → (∀ j, j ≠ 81 → j ≠ 80 → h'.1 82 j = h.1 82 j) → h'.2.1 82 = h.2.1 82 → Q none h') : gC l G d MX12_keeps [.ref 82] h Q := by
  have w9 : (w + 1) % 20 < 20 := Nat.mod_lt _ (by decide)
  have e1 : (h.1 82 81 + 1) - (h.1 82 81 + 1) / 20 * 20 = nI ((w + 1) % 20) := by
    rw [h81, nI_1, lit 20, pk_rem (by omega) (by decide) (by decide)]
  refine eX12_keeps hw (fun p e s m args below meth c => ?_)
  rw [e1]
  refine m_keepsL hw w9 u20 h80 (fun h' q1 q2 q3 q4 q5 q6 => hq h' ⟨?_, q2, q3, fun j hj => ?_, fun j hj => ?_, fun i hi hne j hj => ?_, ?_⟩ q4 q5) 187 0 _ (by omega) ⟨?_, sI_s _ _ _ _, fun j hj => sI_nb hj, rfl, fun i => ?_⟩
  · exact q1.mono (fun x hx => by simp at hx ⊢; omega)
  · exact q4 j (fun z => by subst z; revert hj; decide) (fun z => by subst z; revert hj; decide)
  · rw [q6, if_pos ⟨by omega, by omega⟩, show 187 * ((w + 1) % 20) + j - 187 * ((w + 1) % 20) = j by omega]
  · rw [q6, if_neg (by omega)]
  · rw [(q1.1 133 (by decide)).1]
    exact k.y
  · exact (gEq.sI h 82 81 _).mono (fun x hx => by simp at hx ⊢; omega)
  · rw [if_neg (by omega), sI_ne (by decide)]
end RM
