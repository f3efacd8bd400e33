section SE
variable {l : Launch} {G : gG} {d : Nat} {Q : Option Value → gH → Prop} {h h1 h2 : gH} {lk sp : Nat} {cd : Option Nat} {t : Nat → Nat} {n s i f q c b w z : Nat} {u : Bool} {L : qL}
/-- the boats, where a lake's text lays them -/
def Fz (A : qT) : qT := fun a b => if a = 1 then qfc A b else if a = 2 then qft A b else 0
def MSn (h h' : gH) : Prop := gEq [82, 119, 120, 121, 122, 123, 124, 125, 126, 127, 128, 129, 133] h h' ∧ (∀ j, j ∉ [58, 76, 80] → h'.1 82 j = h.1 82 j) ∧ h'.2.1 82 = h.2.1 82
theorem pro_9 {m : Nat} : ∀ j, 119 ≤ j → j ≤ 129 → pro m 9 0 j = if j = 129 then m else mlo j := fun j a b => by
  have s8 : sgo j ≤ 8 := by
    have : j = 119 ∨ j = 120 ∨ j = 121 ∨ j = 122 ∨ j = 123 ∨ j = 124 ∨ j = 125 ∨ j = 126 ∨ j = 127 ∨ j = 128 ∨ j = 129 := by omega
    rcases this with z | z | z | z | z | z | z | z | z | z | z <;> subst z <;> decide
  unfold pro
  rw [if_pos (by omega)]
theorem LMp.up (lm : LMp L h) (qp : qP L s) (hs : s ≤ 1600) (hC : 3 ≤ qC L.1) (e : Sd (pro L.2.1.length 9 0) h h1) (h58 : h.1 82 58 = 1) : LM L.1 h1 := by
  obtain ⟨a1, a2, a3, a4, a5, a6, a7, a8, a9, a10, a11, a12, a13, a14⟩ := lm
  have g := qp.1
  have cl := qp.2.2.2.1
  have X : ∀ k, 119 ≤ k → k < 129 → k ≠ 120 → ∀ i, i < mlo k → h1.1 k (mlo k + i) = h.1 k i := fun k y1 y2 y3 i hi => ((e.2 k y1 (by omega)).2 i (by rw [pro_9 k y1 (by omega), if_neg (by omega)]; exact hi)).1 y3
  have Y : ∀ i, i < 12 → h1.2.1 120 (12 + i) = h.2.1 120 i := fun i hi => ((e.2 120 (by decide) (by decide)).2 i (by rw [pro_9 120 (by decide) (by decide)]; exact hi)).2 rfl
  have Z : ∀ i, i < L.2.1.length → h1.1 129 (1600 + i) = h.1 129 i := fun i hi => ((e.2 129 (by decide) (by decide)).2 i (by rw [pro_9 129 (by decide) (by decide)]; exact hi)).1 (by decide)
  refine ⟨(X 119 (by decide) (by decide) (by decide) 0 (by decide)).trans a1, (X 119 (by decide) (by decide) (by decide) 1 (by decide)).trans a2, (X 119 (by decide) (by decide) (by decide) 2 (by decide)).trans a3, (X 119 (by decide) (by decide) (by decide) 3 (by decide)).trans a4, (X 119 (by decide) (by decide) (by decide) 4 (by decide)).trans a5, (X 126 (by decide) (by decide) (by decide) 0 (by decide)).trans a6, fun c hc => ?_, fun b hb => ?_, fun b hb => ?_, fun j hj => ?_, fun j hj => ?_, fun b j hb hj => ?_, fun j hj => ?_, fun j hj => ?_, fun p hp => ?_, ?_⟩
  · have r := qrow g hc
    have := g.R6
    have := g.C8
    rw [Nat.add_assoc]
    exact (X 121 (by decide) (by decide) (by decide) _ (show _ < 48 by omega)).trans (a7 c hc)
  · have := g.B6
    exact (Y b (by omega)).trans (a8 b hb).1
  · have := g.B6
    exact (X 122 (by decide) (by decide) (by decide) (2 * b) (show _ < 12 by omega)).trans (a8 b hb).2.2
  · have := g.H6
    rw [show 18 + j = 12 + (6 + j) by omega]
    exact (Y (6 + j) (by omega)).trans (a9 j hj).1
  · have := g.H6
    exact (X 123 (by decide) (by decide) (by decide) j (show _ < 6 by omega)).trans (a9 j hj).2
  · have := g.H6
    have := g.B6
    exact (X 124 (by decide) (by decide) (by decide) (6 * b + j) (show _ < 36 by omega)).trans (a10 _ (by omega))
  · have := g.K10
    exact (X 125 (by decide) (by decide) (by decide) (2 * j) (show _ < 20 by omega)).trans (a11 j hj).1
  · have := g.K10
    rw [show 21 + 2 * j = 20 + (2 * j + 1) by omega]
    exact (X 125 (by decide) (by decide) (by decide) (2 * j + 1) (show _ < 20 by omega)).trans (a11 j hj).2
  · have b12 := a12 p hp
    have x1 := X 127 (by decide) (by decide) (by decide) p (show p < 3 from hp)
    have x2 := X 128 (by decide) (by decide) (by decide) p (show p < 3 from hp)
    have x1 : h1.1 127 (3 + p) = h.1 127 p := x1
    have x2 : h1.1 128 (3 + p) = h.1 128 p := x2
    by_cases y : qsl L.1 p = 0
    · rw [if_pos y] at b12 ⊢
      rw [x1]; exact b12
    · rw [if_neg y] at b12 ⊢
      have q5 := qp.2.2.2.2 p hp
      refine ⟨L.2.2 p, by omega, x1.trans b12.1, x2.trans b12.2, fun i hi => ?_⟩
      rw [Z _ (by omega), a14 _ (by omega), (q5.2 i hi).1]
  · rw [(e.1.1 82 (by decide)).1, h58, if_neg (by omega)]
theorem m_stands (hw : gWf h lk sp cd) (lm : LMp L h) (qp : qP L s) (hs : s ≤ 1600) (hC : 3 ≤ qC L.1) (hq : ∀ h', MSn h h' → LM L.1 h' → FM (qB L.1) (Fz L.1) (h'.1 133) → h'.1 82 76 = 0 → h'.1 82 80 = 0 → Q none h') : gC l G d MX12_stands [.ref 82] h Q := by
  have B6 := qp.1.B6
  have cl := qp.2.2.2.1
  refine eX12_stands hw (fun p e s9 m args below meth cc => ?_)
  have lm0 : LMp L (sI h 82 58 1) := by
    unfold LMp at lm ⊢
    have E : ∀ a, a ≠ 82 → (sI h 82 58 1).1 a = h.1 a := fun a ha => sI_na ha
    rw [E 119 (by decide), E 121 (by decide), E 122 (by decide), E 123 (by decide), E 124 (by decide), E 125 (by decide), E 126 (by decide), E 127 (by decide), E 128 (by decide), E 129 (by decide), sI_nb (by decide)]
    exact lm
  have h58 : (sI h 82 58 1).1 82 58 = 1 := sI_s _ _ _ _
  have E0 : gEq [82] h (sI h 82 58 1) := gEq.sI h 82 58 1
  have M0 : ∀ j, j ∉ [58, 76, 80] → (sI h 82 58 1).1 82 j = h.1 82 j := fun j hj => sI_nb (fun z => hj (by rw [z]; decide))
  have L0 : (sI h 82 58 1).2.1 82 = h.2.1 82 := rfl
  have hw0 := hw.eq E0
  generalize sI h 82 58 1 = h0 at lm0 h58 E0 M0 L0 hw0 ⊢
  have key : ∀ h1, Sd (pro L.2.1.length 9 0) h0 h1 → gg p l e s9 m args below meth cc G d MX12_stands Q 279 [some (.ref 82), some (.int 0)] [] h1 := fun h1 e1 => by
    have lM := lm0.up qp hs hC e1 h58
    have hw1 := hw0.eq e1.1
    have LO : ∀ k, 119 ≤ k → k ≤ 129 → ∀ i, i < mlo k → h1.1 k i = h0.1 k i := fun k a b i hi => ((e1.2 k a b).1 i hi).1
    have n2 : h1.1 119 2 = nI (qB L.1) := (LO 119 (by decide) (by decide) 2 (by decide)).trans lm0.2.2.1
    have bo := lm0.2.2.2.2.2.2.2.1
    have H301 : ∀ r x h', x + r = qB L.1 → gEq [133] h1 h' → h'.1 133 0 = 0 → h'.1 133 1 = 0 → h'.1 133 26 = 0 → (∀ b, b < 6 → h'.1 133 (2 + 4 * b + 2) = 0) → (∀ b, b < x → h'.1 133 (2 + 4 * b) = nI (qfc L.1 b) ∧ h'.1 133 (2 + 4 * b + 1) = nI (qft L.1 b) ∧ h'.1 133 (2 + 4 * b + 3) = -1) → gg p l e s9 m args below meth cc G d MX12_stands Q 301 [some (.ref 82), some (.int (nI x))] [] h' := by
      intro r
      induction r with
      | zero =>
        intro x h' hx e' a0 a1 a26 a2 a3
        have hx' : x = qB L.1 := hx
        subst hx'
        have hw' := hw1.eq e'
        refine wX12_stands_301 hw'.1 hw'.2.1 hw'.2.2.1 ?_
        rw [(e'.1 119 (by decide)).1, n2]
        refine bY (nI_le (Nat.le_refl _) (by omega)) ?_
        have E' : gEq [133, 82] h1 (sI (sI h' 82 80 0) 82 76 0) := gE1 (by decide) (gE1 (by decide) (e'.mono (fun x hx => by simp at hx; simp [hx])))
        refine hq _ ⟨((E0.tr e1.1).tr E').mono (fun x hx => by simp at hx ⊢; omega), fun j hj => ?_, ?_⟩ ?_ ?_ ?_ ?_
        · rw [sI_nb (fun z => hj (by rw [z]; decide)), sI_nb (fun z => hj (by rw [z]; decide)), (e'.1 82 (by decide)).1, (e1.1.1 82 (by decide)).1]
          exact M0 j hj
        · show h'.2.1 82 = _
          rw [(e'.1 82 (by decide)).2, (e1.1.1 82 (by decide)).2]; exact L0
        · have Ea : ∀ a, a ≠ 82 → a ≠ 133 → (sI (sI h' 82 80 0) 82 76 0).1 a = h1.1 a := fun a x1 x2 => by rw [sI_na x1, sI_na x1]; exact (e'.1 a (by simpa using x2)).1
          have Eb : (sI (sI h' 82 80 0) 82 76 0).2.1 120 = h1.2.1 120 := (e'.1 120 (by decide)).2
          have Ec : (sI (sI h' 82 80 0) 82 76 0).1 82 58 = h1.1 82 58 := by rw [sI_nb (by decide), sI_nb (by decide), (e'.1 82 (by decide)).1]
          unfold LM at lM ⊢
          rw [Ea 119 (by decide) (by decide), Ea 121 (by decide) (by decide), Ea 122 (by decide) (by decide), Ea 123 (by decide) (by decide), Ea 124 (by decide) (by decide), Ea 125 (by decide) (by decide), Ea 126 (by decide) (by decide), Ea 127 (by decide) (by decide), Ea 128 (by decide) (by decide), Ea 129 (by decide) (by decide), Eb, Ec]
          exact lM
        · rw [sI_na (by decide), sI_na (by decide)]
          exact ⟨a0, a1, a26, fun b hb => ⟨(a3 b hb).1, (a3 b hb).2.1, a2 b (by omega), (a3 b hb).2.2⟩, fun i hi => absurd hi (Nat.not_lt_zero _)⟩
        · exact sI_s _ _ _ _
        · rw [sI_nb (by decide)]; exact sI_s _ _ _ _
      | succ r ih =>
        intro x h' hx e' a0 a1 a26 a2 a3
        have hw' := hw1.eq e'
        have ej : nI x + 1 = nI (x + 1) := by rw [nI_1]
        have e2 : (2 * nI x : Int32) = nI (2 * x) := by rw [show (2 : Int32) = nI 2 from rfl, pk_mul]
        have e4 : (4 * nI x : Int32) = nI (4 * x) := by rw [show (4 : Int32) = nI 4 from rfl, pk_mul]
        have e24 : (2 + nI (4 * x) : Int32) = nI (2 + 4 * x) := by rw [show (2 : Int32) = nI 2 from rfl, nI_add]
        have e3 : nI (2 + 4 * x) + 3 = nI (2 + 4 * x + 3) := by rw [show (3 : Int32) = nI 3 from rfl, nI_add]
        have e5 : nI (2 + 4 * x) + 1 = nI (2 + 4 * x + 1) := by rw [nI_1]
        have e6 : nI (2 * x) + 1 = nI (2 * x + 1) := by rw [nI_1]
        refine wX12_stands_301 hw'.1 hw'.2.1 hw'.2.2.1 ?_
        rw [(e'.1 119 (by decide)).1, n2]
        refine bN (nI_ge (by omega) (by omega)) ?_
        rw [ej, e2, e4, e24, e3, e5, e6, nI_clamp (n := 2 + 4 * x) (by omega), nI_clamp (n := 2 + 4 * x + 3) (by omega), nI_clamp (n := 2 + 4 * x + 1) (by omega), nI_clamp (n := 2 * x) (by omega), nI_clamp (n := 2 * x + 1) (by omega)]
        have m1 : h'.1 122 (2 * x + 1) = nI (qfc L.1 x) := by rw [(e'.1 122 (by decide)).1, LO 122 (by decide) (by decide) _ (show _ < 12 by omega)]; exact (bo x (by omega)).2.1
        have m2 : h'.1 122 (2 * x) = nI (qft L.1 x) := by rw [(e'.1 122 (by decide)).1, LO 122 (by decide) (by decide) _ (show _ < 12 by omega)]; exact (bo x (by omega)).2.2
        rw [m1, m2]
        refine ⟨vp_in_nI (by omega) (by decide), vp_in_nI (by omega) (by decide), vp_in_nI (by omega) (by decide), vp_in_nI (by omega) (by decide), vp_in_nI (by omega) (by decide), ih (x + 1) _ (by omega) (gE1 (by decide) (gE1 (by decide) (gE1 (by decide) e'))) ?_ ?_ ?_ (fun b hb => ?_) (fun b hb => ?_)⟩
        · rw [sI_nb (by omega), sI_nb (by omega), sI_nb (by omega)]; exact a0
        · rw [sI_nb (by omega), sI_nb (by omega), sI_nb (by omega)]; exact a1
        · rw [sI_nb (by omega), sI_nb (by omega), sI_nb (by omega)]; exact a26
        · rw [sI_nb (by omega), sI_nb (by omega), sI_nb (by omega)]; exact a2 b hb
        · by_cases y : b = x
          · subst y
            refine ⟨?_, ?_, sI_s _ _ _ _⟩
            · rw [sI_nb (by omega), sI_nb (by omega), sI_s]
            · rw [sI_nb (by omega), sI_s]
          · have := a3 b (by omega)
            refine ⟨?_, ?_, ?_⟩
            · rw [sI_nb (by omega), sI_nb (by omega), sI_nb (by omega)]; exact this.1
            · rw [sI_nb (by omega), sI_nb (by omega), sI_nb (by omega)]; exact this.2.1
            · rw [sI_nb (by omega), sI_nb (by omega), sI_nb (by omega)]; exact this.2.2
    have H279 : ∀ r x h', x + r = 187 → gEq [133] h1 h' → (∀ i, i < x → h'.1 133 i = 0) → gg p l e s9 m args below meth cc G d MX12_stands Q 279 [some (.ref 82), some (.int (nI x))] [] h' := by
      intro r
      induction r with
      | zero =>
        intro x h' hx e' a0
        have hx' : x = 187 := hx
        subst hx'
        have hw' := hw1.eq e'
        exact wX12_stands_279 hw'.1 hw'.2.1 hw'.2.2.1 (bY (by decide) (H301 (qB L.1) 0 h' (by omega) e' (a0 _ (by decide)) (a0 _ (by decide)) (a0 _ (by decide)) (fun b hb => a0 _ (by omega)) (fun b hb => absurd hb (Nat.not_lt_zero _))))
      | succ r ih =>
        intro x h' hx e' a0
        have hw' := hw1.eq e'
        have ej : nI x + 1 = nI (x + 1) := by rw [nI_1]
        refine wX12_stands_279 hw'.1 hw'.2.1 hw'.2.2.1 (bN (nI_ge (b := 187) (by omega) (by decide)) ⟨vp_in_nI (by omega) (by decide), ?_⟩)
        rw [ej, nI_clamp (n := x) (by omega)]
        refine ih (x + 1) _ (by omega) (gE1 (by decide) e') (fun i hi => ?_)
        by_cases y : i = x
        · rw [y]; exact sI_s _ _ _ _
        · rw [sI_nb y]; exact a0 i (by omega)
    exact H279 187 0 h1 rfl (gEq.rf _ _) (fun i hi => absurd hi (Nat.not_lt_zero _))
  have h60 : h0.1 82 60 = nI L.2.1.length := lm0.2.2.2.2.2.2.2.2.2.2.2.2.1
  exact m_stands_7 hw0 (fun h1 e1 => m_stands_34 hw0 (fun h1 e1 => m_stands_78 hw0 (fun h1 e1 => m_stands_107 hw0 (fun h1 e1 => m_stands_136 hw0 (fun h1 e1 => m_stands_165 hw0 (fun h1 e1 => m_stands_194 hw0 (fun h1 e1 => m_stands_235 hw0 (by omega) h60 key L.2.1.length 0 h1 (by omega) e1) 3 0 h1 rfl e1) 20 0 h1 rfl e1) 36 0 h1 rfl e1) 6 0 h1 rfl e1) 48 0 h1 rfl e1) 12 0 h1 rfl e1) 5 0 h0 rfl (Sd.rf.mo (fun j _ _ => by unfold pro; split <;> (try split) <;> omega))
end SE
