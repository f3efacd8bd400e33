section MS2
variable {l : Launch} {G : gG} {d : Nat} {Q : Option Value → gH → Prop} {h h0 h1 h2 : gH} {lk sp : Nat} {cd : Option Nat} {t : Nat → Nat} {n s i f q u x : Nat} {b dr : Bool} {p : Nat × Bool} {S C : List Nat}
theorem m_isMark {c : Nat} (hw : gWf h lk sp cd) (hc : c < 1000) (hy : 20 ≤ c → c ≤ 24 → Q (some (.int 1)) h) (hn : ¬ (20 ≤ c ∧ c ≤ 24) → Q (some (.int 0)) h) : gC l G d MX12_isMark [.ref 82, .int (nI c)] h Q := by
  refine eX12_isMark hw ?_
  have a1 : nI c < 20 ↔ c < 20 := nI_ltI (b := 20) (by omega) (by decide)
  have a2 : 24 < nI c ↔ 24 < c := nI_ltI (a := 24) (by decide) (by omega)
  rw [a1, a2]
  exact ⟨fun z => hn (by omega), fun z => ⟨fun y => hn (by omega), fun y => hy (by omega) (by omega)⟩⟩
/-- what is on top -/
theorem m_isOn {c : Nat} (hw : gWf h lk sp cd) (tw : TWf t n) (m : MSt t n p S C h) (hc : c < 25) (hy : ∀ x r, S = x :: r → stc x = c → Q (some (.int 1)) h) (hn : (∀ x r, S = x :: r → stc x ≠ c) → Q (some (.int 0)) h) : gC l G d MX12_isOn [.ref 82, .int (nI c)] h Q := by
  obtain ⟨m1, m2, m3, m4, m5, m6, m7, m8, m9, m10⟩ := m
  have n16 := tw.1
  have sn := m1.1
  refine eX12_isOn hw ?_
  rw [m2]
  cases S with
  | nil => exact bY (by decide) (hn (fun x r e => by cases e))
  | cons x r =>
    have b := stc_b (m9 x List.mem_cons_self)
    have ll : (x :: r).length = r.length + 1 := rfl
    rw [ll] at m8 ⊢
    refine bN (nI_ge (a := 0) (by omega) (by omega)) ?_
    rw [i_s1, nI_clamp (by omega), m3.1, nI_eq (by omega) (by omega)]
    refine ⟨vp_in_nI (by omega) (by decide), fun z => hn (fun y r' e => ?_), fun z => hy x r rfl z⟩
    have := (List.cons.inj e).1
    subst this
    exact z
theorem mkS_s (hS : wfS S) : mkS S = 0 ∨ (100 ≤ mkS S ∧ mkS S ≤ 104) := by
  induction S with
  | nil => exact Or.inl rfl
  | cons x r ih =>
    have := hS x List.mem_cons_self
    show (if 100 ≤ x then x else mkS r) = 0 ∨ (100 ≤ (if 100 ≤ x then x else mkS r) ∧ (if 100 ≤ x then x else mkS r) ≤ 104)
    by_cases z : 100 ≤ x
    · rw [if_pos z]; exact Or.inr ⟨z, by omega⟩
    · rw [if_neg z]; exact ih (wfS.tl hS)
def mkI (m : Nat) : Int32 := if m = 0 then -1 else nI (m - 80)
theorem mkI_eq {m c : Nat} (hm : m = 0 ∨ (100 ≤ m ∧ m ≤ 104)) (hc : 20 ≤ c) (hc2 : c ≤ 24) : mkI m = nI c ↔ m = c + 80 := by
  unfold mkI
  rcases hm with z | z
  · rw [if_pos z]; exact ⟨fun q => absurd q.symm (i_nm1 (by omega)), fun q => by omega⟩
  · rw [if_neg (by omega), nI_eq (by omega) (by omega)]; omega
theorem m_waitsLast (hw : gWf h lk sp cd) (tw : TWf t n) (m : MSt t n p S C h) (hq : Q (some (.int (mkI (mkS S)))) h) : gC l G (d + 1) MX12_waitsLast [.ref 82] h Q := by
  obtain ⟨m1, m2, m3, m4, m5, m6, m7, m8, m9, m10⟩ := m
  have n16 := tw.1
  have sn := m1.1
  refine eX12_waitsLast hw (fun p9 e9 s9 m9' args9 below9 meth9 cc9 => ?_)
  rw [m2]
  suffices H : ∀ R : List Nat, stk R (h.1 130) → wfS R → R.length < 1700 → Q (some (.int (mkI (mkS R)))) h → gg p9 l e9 s9 m9' args9 below9 meth9 cc9 G (d + 1) MX12_waitsLast Q 7 [some (.ref 82), some (.int (nI R.length - 1))] [] h from H S m3 m9 (by omega) hq
  intro R
  induction R with
  | nil =>
    intro _ _ _ hq
    have lt : nI ([] : List Nat).length - 1 < h.1 82 64 := by rw [m5]; decide
    exact wX12_waitsLast_7 hw.1 hw.2.1 hw.2.2.1 (bY lt (bY lt hq))
  | cons x r ih =>
    intro hs hf hl hq
    have b := stc_b (hf x List.mem_cons_self)
    have ll : (x :: r).length = r.length + 1 := rfl
    rw [ll] at hl ⊢
    rw [i_s1]
    have lt : ¬ nI r.length < h.1 82 64 := by rw [m5]; exact nI_pos (by omega)
    have em : mkS (x :: r) = if 100 ≤ x then x else mkS r := rfl
    refine wX12_waitsLast_7 hw.1 hw.2.1 hw.2.2.1 (bN lt ⟨vp_in_nI (by omega) (by decide), ?_⟩)
    rw [nI_clamp (by omega), hs.1]
    refine m_isMark hw (by omega) (fun z1 z2 => ⟨_, rfl, rfl, bN' (by decide) (bN lt ⟨vp_in_nI (by omega) (by decide), ?_⟩)⟩) (fun z => ⟨_, rfl, rfl, bY' rfl ?_⟩)
    · have x1 := b.2.1.mp z1
      rw [hs.1, b.2.2.2.2.2.2.1 x1]
      rw [em, if_pos x1] at hq
      unfold mkI at hq
      rw [if_neg (by omega)] at hq
      exact hq
    · have x1 : ¬ 100 ≤ x := fun y => z ⟨b.2.1.mpr y, by omega⟩
      rw [em, if_neg x1] at hq
      rw [show nI r.length + (-1) = nI r.length - 1 by rw [Int32.sub_eq_add_neg]]
      exact ih hs.2 (wfS.tl hf) (by omega) hq
theorem m_dropsToMark (hw : gWf h lk sp cd) (tw : TWf t n) (m : MSt t n p S C h) (hq : ∀ h', MGs h h' → MSt t n p (popM S C).1 (popM S C).2 h' → (∀ j, j ≠ 60 → j ≠ 62 → h'.1 82 j = h.1 82 j) → Q none h') : gC l G (d + 2) MX12_dropsToMark [.ref 82] h Q := by
  have n16 := tw.1
  have F : ∀ (p9 : Program) (e9 : Env) (s9 : State) (m9 : MethodId) (args9 : Array Value) (below9 : List Frame) (meth9 : Method) (cc9 : Code) (S C : List Nat) (h : gH), gWf h lk sp cd → MSt t n p S C h → (∀ h', MGs h h' → MSt t n p (popM S C).1 (popM S C).2 h' → (∀ j, j ≠ 60 → j ≠ 62 → h'.1 82 j = h.1 82 j) → Q none h') → ((((h.1 82 62) ≤ (h.1 82 64) → Q none h) ∧ (¬ (h.1 82 62) ≤ (h.1 82 64) → (vp_in (((h.1 82 62) - 1)) 1700 ∧ gC l G (d + 1) MX12_isMark [.ref 82, .int (h.1 130 (((h.1 82 62) - 1) : Int32).toNatClampNeg)] h (rI fun v1 h1 => h1.2.2 = (h).2.2 ∧ ((¬ v1 = 0 → Q none h1) ∧ (v1 = 0 → gC l G (d + 1) MX12_drops [.ref 82] h1 (rV fun h2 => h2.2.2 = (h1).2.2 ∧ gg p9 l e9 s9 m9 args9 below9 meth9 cc9 G (d + 1 + 1) MX12_dropsToMark Q 0 [some (.ref 82)] [] h2)))))))) := by
    intro p9 e9 s9 m9 args9 below9 meth9 cc9 S
    induction S with
    | nil =>
      intro C h hw m hq
      refine bY ?_ (hq h MGs.rf m (fun _ _ _ => rfl))
      rw [m.2.1, m.2.2.2.2.1]
      decide
    | cons x r ih =>
      intro C h hw m hq
      have sn := m.1.1
      have m8 := m.2.2.2.2.2.2.2.1
      have ll : (x :: r).length = r.length + 1 := rfl
      rw [ll] at m8
      have wf := m.2.2.2.2.2.2.2.2.1
      have b := stc_b (wf x List.mem_cons_self)
      have em : popM (x :: r) C = if 100 ≤ x then (x :: r, C) else popM r (C ++ [x]) := rfl
      rw [m.2.1, m.2.2.2.2.1, ll, i_s1, nI_clamp (by omega), m.2.2.1.1]
      refine bN (nI_ge (a := 0) (by omega) (by omega)) ⟨vp_in_nI (by omega) (by decide), m_isMark hw (by omega) (fun z1 z2 => ⟨_, rfl, rfl, bN' (by decide) ?_⟩) (fun z => ⟨_, rfl, rfl, bY' rfl ?_⟩)⟩
      · rw [em, if_pos (b.2.1.mp z1)] at hq
        exact hq h MGs.rf m (fun _ _ _ => rfl)
      · have x1 : ¬ 100 ≤ x := fun y => z ⟨b.2.1.mpr y, by omega⟩
        rw [em, if_neg x1] at hq
        refine m_drops hw tw m (by omega) (fun h1 e1 m1 f1 => ⟨rfl, e1.1.1.2, ?_⟩)
        have hw1 := hw.eq e1.1.1
        exact wX12_dropsToMark_0 hw1.1 hw1.2.1 hw1.2.2.1 (ih (C ++ [x]) h1 hw1 m1 (fun h2 e2 m2 f2 => hq h2 (e1.tr e2) m2 (fun j a b => (f2 j a b).trans (f1 j a b))))
  exact eX12_dropsToMark hw (fun p9 e9 s9 m9 args9 below9 meth9 cc9 => F p9 e9 s9 m9 args9 below9 meth9 cc9 S C h hw m hq)
/-- one more is opened, or too many are -/
theorem m_opens {mk place : Nat} (hw : gWf h lk sp cd) (tw : TWf t n) (m : MSt t n p S C h) (hm : 100 ≤ mk) (hm2 : mk ≤ 104) (hy : ∀ h', cnS S ≠ 6 → MGs h h' → (∀ j, j ≠ 62 → j ≠ 63 → h'.1 82 j = h.1 82 j) → h'.1 82 62 = nI (mk :: S).length → stk (mk :: S) (h'.1 130) → h'.1 82 63 = nI (cnS (mk :: S)) → h'.1 129 = h.1 129 → Q none h') (hn : ∀ h', cnS S = 6 → MFl 4 place h h' → Q none h') : gC l G (d + 1) MX12_opens [.ref 82, .int (nI (mk - 80)), .int (nI place)] h Q := by
  obtain ⟨m1, m2, m3, m4, m5, m6, m7, m8, m9, m10⟩ := m
  have n16 := tw.1
  have sn := m1.1
  have cn : cnS (mk :: S) = cnS S + 1 := cnS_cons_mk (Or.inr hm)
  have b := stc_b (x := mk) (by omega)
  refine eX12_opens hw ?_
  have z6 : nI (cnS S) = 6 ↔ cnS S = 6 := nI_eq (b := 6) (by omega) (by decide)
  rw [m4, z6, m2, nI_1, nI_1, nI_clamp (by omega)]
  refine ⟨fun z => ⟨vp_in_nI (by omega) (by decide), hy _ z ⟨MGx.si82 (by decide) (MGx.si130 (MGx.si82 (by decide) MGx.rf)), by rw [sI_nb (by decide), sI_ne (by decide), sI_nb (by decide)]⟩ (fun j j1 j2 => by rw [sI_nb j1, sI_ne (by decide), sI_nb j2]) (sI_s _ _ _ _) ⟨?_, ?_⟩ ?_ ?_⟩, fun z => m_fail (f := 4) hw m1.2.2.2.1 (fun h1 e1 => ⟨rfl, e1.1.2, hn h1 z e1⟩)⟩
  · rw [sI_ne (by decide), sI_s, b.2.2.2.2.2.2.1 hm]
  · refine stk_cg S (fun i hi => ?_) m3
    rw [sI_ne (by decide), sI_nb (by omega), sI_ne (by decide)]
  · rw [sI_nb (by decide), sI_ne (by decide), sI_s, cn]
  · rw [sI_na (by decide), sI_na (by decide), sI_na (by decide)]
end MS2
