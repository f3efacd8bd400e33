section SD
variable {l : Launch} {G : gG} {d : Nat} {Q : Option Value → gH → Prop} {h h1 h2 : gH} {lk sp : Nat} {cd : Option Nat} {t : Nat → Nat} {n s i f q c b w z : Nat} {u : Bool} {L : qL}
/-- f k places of cell k have been copied into its upper half -/
def Sd (f : Nat → Nat) (h h' : gH) : Prop := gEq [119, 120, 121, 122, 123, 124, 125, 126, 127, 128, 129] h h' ∧ ∀ k, 119 ≤ k → k ≤ 129 → (∀ i, i < mlo k → h'.1 k i = h.1 k i ∧ h'.2.1 k i = h.2.1 k i) ∧ ∀ i, i < f k → (k ≠ 120 → h'.1 k (mlo k + i) = h.1 k i) ∧ (k = 120 → h'.2.1 k (mlo k + i) = h.2.1 k i)
theorem Sd.rf : Sd (fun _ => 0) h h := ⟨gEq.rf _ _, fun _ _ _ => ⟨fun _ _ => ⟨rfl, rfl⟩, fun i hi => absurd hi (Nat.not_lt_zero _)⟩⟩
theorem Sd.mo {f g : Nat → Nat} (e : Sd f h h1) (hg : ∀ j, 119 ≤ j → j ≤ 129 → g j ≤ f j) : Sd g h h1 := ⟨e.1, fun k a b => ⟨(e.2 k a b).1, fun i hi => (e.2 k a b).2 i (by have := hg k a b; omega)⟩⟩
theorem Sd.st {f g : Nat → Nat} {k x : Nat} {y : Int32} (e : Sd f h h1) (hk : 119 ≤ k) (hk2 : k ≤ 129) (hk3 : k ≠ 120) (hx : x < mlo k) (hf : x ≤ f k) (hy : y = h1.1 k x) (hg : ∀ j, 119 ≤ j → j ≤ 129 → j ≠ k → g j ≤ f j) (hg' : g k ≤ x + 1) : Sd g h (sI h1 k (mlo k + x) y) := by
  refine ⟨gE1 (by simp; omega) e.1, fun j a b => ⟨fun i hi => ⟨?_, ((e.2 j a b).1 i hi).2⟩, fun i hi => ⟨fun z => ?_, fun z => ?_⟩⟩⟩
  · by_cases q : j = k
    · rw [q, sI_nb (by rw [q] at hi; omega), ← q]; exact ((e.2 j a b).1 i hi).1
    · rw [sI_ne q]; exact ((e.2 j a b).1 i hi).1
  · by_cases q : j = k
    · subst q
      by_cases q' : i = x
      · rw [q', sI_s, hy]; exact ((e.2 j a b).1 x hx).1
      · rw [sI_nb (by omega)]; exact ((e.2 j a b).2 i (by omega)).1 z
    · have := hg j a b q
      rw [sI_ne q]; exact ((e.2 j a b).2 i (by omega)).1 z
  · have := hg j a b (by omega)
    exact ((e.2 j a b).2 i (by omega)).2 z
theorem Sd.sl {f g : Nat → Nat} {x : Nat} {y : Int64} (e : Sd f h h1) (hx : x < 12) (hf : x ≤ f 120) (hy : y = h1.2.1 120 x) (hg : ∀ j, 119 ≤ j → j ≤ 129 → j ≠ 120 → g j ≤ f j) (hg' : g 120 ≤ x + 1) : Sd g h (sL h1 120 (12 + x) y) := by
  refine ⟨⟨fun a ha => ⟨(e.1.1 a ha).1, by rw [sL_na (by simp at ha; omega)]; exact (e.1.1 a ha).2⟩, e.1.2⟩, fun j a b => ⟨fun i hi => ⟨((e.2 j a b).1 i hi).1, ?_⟩, fun i hi => ⟨fun z => ?_, fun z => ?_⟩⟩⟩
  · by_cases q : j = 120
    · subst q
      have : i < 12 := hi
      rw [sL_nb (by omega)]; exact ((e.2 120 a b).1 i hi).2
    · rw [sL_ne q]; exact ((e.2 j a b).1 i hi).2
  · have := hg j a b z
    exact ((e.2 j a b).2 i (by omega)).1 z
  · subst z
    by_cases q' : i = x
    · rw [q']; show (sL h1 120 (12 + x) y).2.1 120 (12 + x) = _; rw [sL_s, hy]; exact ((e.2 120 a b).1 x hx).2
    · have : mlo 120 = 12 := rfl
      rw [sL_nb (by omega)]; exact ((e.2 120 a b).2 i (by omega)).2 rfl
def sgo (k : Nat) : Nat := [0, 1, 2, 1, 3, 4, 5, 8, 6, 6, 7].getD (k - 119) 0
/-- at stage s, x of it done (m codes in all) -/
def pro (m s x k : Nat) : Nat := if sgo k < s then (if k = 129 then m else mlo k) else if sgo k = s then x else 0
theorem pro_st {m s x : Nat} : ∀ j, sgo j ≠ s → pro m s (x + 1) j ≤ pro m s x j := fun j hj => by
  unfold pro
  rw [if_neg hj, if_neg hj]
  exact Nat.le_refl _
theorem pro_at {m s x j : Nat} (hj : sgo j = s) : pro m s x j = x := by
  unfold pro
  rw [if_neg (by omega), if_pos hj]
theorem pro_le {m s x j : Nat} (hj : sgo j = s) : x ≤ pro m s x j := Nat.le_of_eq (pro_at hj).symm
theorem pro_ge {m s x j : Nat} (hj : sgo j = s) : pro m s x j ≤ x := Nat.le_of_eq (pro_at hj)
theorem sgo_1 : ∀ j, 119 ≤ j → j ≤ 129 → (sgo j = 0 → j = 119) ∧ (sgo j = 1 → j = 120 ∨ j = 122) ∧ (sgo j = 2 → j = 121) ∧ (sgo j = 3 → j = 123) ∧ (sgo j = 4 → j = 124) ∧ (sgo j = 5 → j = 125) ∧ (sgo j = 6 → j = 127 ∨ j = 128) ∧ (sgo j = 7 → j = 129) ∧ (sgo j = 8 → j = 126) := by
  intro j h1 h2
  have : j = 119 ∨ j = 120 ∨ j = 121 ∨ j = 122 ∨ j = 123 ∨ j = 124 ∨ j = 125 ∨ j = 126 ∨ j = 127 ∨ j = 128 ∨ j = 129 := by omega
  rcases this with z | z | z | z | z | z | z | z | z | z | z <;> subst z <;> decide
theorem pro_nx {m s : Nat} {x : Nat} (hx : ∀ j, 119 ≤ j → j ≤ 129 → sgo j = s → (if j = 129 then m else mlo j) ≤ x) : ∀ j, 119 ≤ j → j ≤ 129 → pro m (s + 1) 0 j ≤ pro m s x j := fun j a b => by
  have := hx j a b
  unfold pro
  by_cases q : sgo j < s
  · rw [if_pos q, if_pos (by omega)]; exact Nat.le_refl _
  · by_cases q' : sgo j = s
    · rw [if_pos (by omega), if_neg q, if_pos q']; exact this q'
    · rw [if_neg (by omega), if_neg q, if_neg q']; split <;> omega

theorem m_stands_7 {p : Program} {e : Env} {s9 : State} {mi : MethodId} {args : Array Value} {below : List Frame} {meth : Method} {cc : Code} {m : Nat} (hw : gWf h lk sp cd) (go : ∀ h', Sd (pro m 1 0) h h' → gg p l e s9 mi args below meth cc G d MX12_stands Q 34 [some (.ref 82), some (.int 0)] [] h') : ∀ r x h', x + r = 5 → Sd (pro m 0 x) h h' → gg p l e s9 mi args below meth cc G d MX12_stands Q 7 [some (.ref 82), some (.int (nI x))] [] h' := by
  intro r
  induction r with
  | zero =>
    intro x h' hx e'
    have hx' : x = 5 := hx
    subst hx'
    have hw' := hw.eq e'.1
    exact wX12_stands_7 hw'.1 hw'.2.1 hw'.2.2.1 (bY (by decide) (go h' (e'.mo (pro_nx (fun j a b z => by
      have := sgo_1 j a b
      have hj : j = 119 := by omega
      subst hj; exact Nat.le_of_ble_eq_true rfl)))))
  | succ r ih =>
    intro x h' hx e'
    have hw' := hw.eq e'.1
    have v1 : vp_in (nI x) 10 := vp_in_nI (by omega) (by decide)
    have v2 : vp_in (5 + nI x) 10 := by rw [show (5 : Int32) = nI 5 from rfl, nI_add]; exact vp_in_nI (by omega) (by decide)
    have E : (5 + nI x : Int32).toNatClampNeg = 5 + x := by rw [show (5 : Int32) = nI 5 from rfl, nI_add, nI_clamp (by omega)]
    have ej : nI x + 1 = nI (x + 1) := by rw [nI_1]
    refine wX12_stands_7 hw'.1 hw'.2.1 hw'.2.2.1 (bN (nI_ge (b := 5) (by omega) (by decide)) ?_)
    rw [E, nI_clamp (n := x) (by omega), ej]
    exact ⟨v1, v2, ih (x + 1) _ (by omega) (e'.st (k := 119) (x := x) (by decide) (by decide) (by decide) (show x < 5 by omega) (pro_le rfl) rfl (fun j a b z => pro_st j (fun y => z (by have := sgo_1 j a b; omega))) (pro_ge rfl))⟩
theorem m_stands_34 {p : Program} {e : Env} {s9 : State} {mi : MethodId} {args : Array Value} {below : List Frame} {meth : Method} {cc : Code} {m : Nat} (hw : gWf h lk sp cd) (go : ∀ h', Sd (pro m 2 0) h h' → gg p l e s9 mi args below meth cc G d MX12_stands Q 78 [some (.ref 82), some (.int 0)] [] h') : ∀ r x h', x + r = 12 → Sd (pro m 1 x) h h' → gg p l e s9 mi args below meth cc G d MX12_stands Q 34 [some (.ref 82), some (.int (nI x))] [] h' := by
  intro r
  induction r with
  | zero =>
    intro x h' hx e'
    have hx' : x = 12 := hx
    subst hx'
    have hw' := hw.eq e'.1
    exact wX12_stands_34 hw'.1 hw'.2.1 hw'.2.2.1 (bY (by decide) (go h' (e'.mo (pro_nx (fun j a b z => by
      have := sgo_1 j a b
      have hj : j = 120 ∨ j = 122 := by omega
      rcases hj with hj | hj <;> subst hj <;> exact Nat.le_of_ble_eq_true rfl)))))
  | succ r ih =>
    intro x h' hx e'
    have hw' := hw.eq e'.1
    have v1 : vp_in (nI x) 24 := vp_in_nI (by omega) (by decide)
    have v2 : vp_in (12 + nI x) 24 := by rw [show (12 : Int32) = nI 12 from rfl, nI_add]; exact vp_in_nI (by omega) (by decide)
    have E : (12 + nI x : Int32).toNatClampNeg = 12 + x := by rw [show (12 : Int32) = nI 12 from rfl, nI_add, nI_clamp (by omega)]
    have ej : nI x + 1 = nI (x + 1) := by rw [nI_1]
    refine wX12_stands_34 hw'.1 hw'.2.1 hw'.2.2.1 (bN (nI_ge (b := 12) (by omega) (by decide)) ?_)
    rw [E, nI_clamp (n := x) (by omega), ej]
    have e1 : Sd (fun j => if j = 120 then x + 1 else pro m 1 x j) h (sL h' 120 (12 + x) (h'.2.1 120 x)) := e'.sl (by omega) (pro_le rfl) rfl (fun j a b z => by show (if j = 120 then _ else _) ≤ _; rw [if_neg z]; exact Nat.le_refl _) (Nat.le_refl _)
    exact ⟨v1, v2, v1, v2, ih (x + 1) _ (by omega) (e1.st (k := 122) (x := x) (by decide) (by decide) (by decide) (show x < 12 by omega) (show x ≤ pro m 1 x 122 from pro_le rfl) rfl (fun j a b z => by
      show _ ≤ (if j = 120 then x + 1 else pro m 1 x j)
      split
      · rename_i y; subst y; exact pro_ge rfl
      · rename_i y; exact pro_st j (fun y => by have := sgo_1 j a b; omega)) (pro_ge rfl))⟩
theorem m_stands_78 {p : Program} {e : Env} {s9 : State} {mi : MethodId} {args : Array Value} {below : List Frame} {meth : Method} {cc : Code} {m : Nat} (hw : gWf h lk sp cd) (go : ∀ h', Sd (pro m 3 0) h h' → gg p l e s9 mi args below meth cc G d MX12_stands Q 107 [some (.ref 82), some (.int 0)] [] h') : ∀ r x h', x + r = 48 → Sd (pro m 2 x) h h' → gg p l e s9 mi args below meth cc G d MX12_stands Q 78 [some (.ref 82), some (.int (nI x))] [] h' := by
  intro r
  induction r with
  | zero =>
    intro x h' hx e'
    have hx' : x = 48 := hx
    subst hx'
    have hw' := hw.eq e'.1
    exact wX12_stands_78 hw'.1 hw'.2.1 hw'.2.2.1 (bY (by decide) (go h' (e'.mo (pro_nx (fun j a b z => by
      have := sgo_1 j a b
      have hj : j = 121 := by omega
      subst hj; exact Nat.le_of_ble_eq_true rfl)))))
  | succ r ih =>
    intro x h' hx e'
    have hw' := hw.eq e'.1
    have v1 : vp_in (nI x) 96 := vp_in_nI (by omega) (by decide)
    have v2 : vp_in (48 + nI x) 96 := by rw [show (48 : Int32) = nI 48 from rfl, nI_add]; exact vp_in_nI (by omega) (by decide)
    have E : (48 + nI x : Int32).toNatClampNeg = 48 + x := by rw [show (48 : Int32) = nI 48 from rfl, nI_add, nI_clamp (by omega)]
    have ej : nI x + 1 = nI (x + 1) := by rw [nI_1]
    refine wX12_stands_78 hw'.1 hw'.2.1 hw'.2.2.1 (bN (nI_ge (b := 48) (by omega) (by decide)) ?_)
    rw [E, nI_clamp (n := x) (by omega), ej]
    exact ⟨v1, v2, ih (x + 1) _ (by omega) (e'.st (k := 121) (x := x) (by decide) (by decide) (by decide) (show x < 48 by omega) (pro_le rfl) rfl (fun j a b z => pro_st j (fun y => z (by have := sgo_1 j a b; omega))) (pro_ge rfl))⟩
theorem m_stands_107 {p : Program} {e : Env} {s9 : State} {mi : MethodId} {args : Array Value} {below : List Frame} {meth : Method} {cc : Code} {m : Nat} (hw : gWf h lk sp cd) (go : ∀ h', Sd (pro m 4 0) h h' → gg p l e s9 mi args below meth cc G d MX12_stands Q 136 [some (.ref 82), some (.int 0)] [] h') : ∀ r x h', x + r = 6 → Sd (pro m 3 x) h h' → gg p l e s9 mi args below meth cc G d MX12_stands Q 107 [some (.ref 82), some (.int (nI x))] [] h' := by
  intro r
  induction r with
  | zero =>
    intro x h' hx e'
    have hx' : x = 6 := hx
    subst hx'
    have hw' := hw.eq e'.1
    exact wX12_stands_107 hw'.1 hw'.2.1 hw'.2.2.1 (bY (by decide) (go h' (e'.mo (pro_nx (fun j a b z => by
      have := sgo_1 j a b
      have hj : j = 123 := by omega
      subst hj; exact Nat.le_of_ble_eq_true rfl)))))
  | succ r ih =>
    intro x h' hx e'
    have hw' := hw.eq e'.1
    have v1 : vp_in (nI x) 12 := vp_in_nI (by omega) (by decide)
    have v2 : vp_in (6 + nI x) 12 := by rw [show (6 : Int32) = nI 6 from rfl, nI_add]; exact vp_in_nI (by omega) (by decide)
    have E : (6 + nI x : Int32).toNatClampNeg = 6 + x := by rw [show (6 : Int32) = nI 6 from rfl, nI_add, nI_clamp (by omega)]
    have ej : nI x + 1 = nI (x + 1) := by rw [nI_1]
    refine wX12_stands_107 hw'.1 hw'.2.1 hw'.2.2.1 (bN (nI_ge (b := 6) (by omega) (by decide)) ?_)
    rw [E, nI_clamp (n := x) (by omega), ej]
    exact ⟨v1, v2, ih (x + 1) _ (by omega) (e'.st (k := 123) (x := x) (by decide) (by decide) (by decide) (show x < 6 by omega) (pro_le rfl) rfl (fun j a b z => pro_st j (fun y => z (by have := sgo_1 j a b; omega))) (pro_ge rfl))⟩
theorem m_stands_136 {p : Program} {e : Env} {s9 : State} {mi : MethodId} {args : Array Value} {below : List Frame} {meth : Method} {cc : Code} {m : Nat} (hw : gWf h lk sp cd) (go : ∀ h', Sd (pro m 5 0) h h' → gg p l e s9 mi args below meth cc G d MX12_stands Q 165 [some (.ref 82), some (.int 0)] [] h') : ∀ r x h', x + r = 36 → Sd (pro m 4 x) h h' → gg p l e s9 mi args below meth cc G d MX12_stands Q 136 [some (.ref 82), some (.int (nI x))] [] h' := by
  intro r
  induction r with
  | zero =>
    intro x h' hx e'
    have hx' : x = 36 := hx
    subst hx'
    have hw' := hw.eq e'.1
    exact wX12_stands_136 hw'.1 hw'.2.1 hw'.2.2.1 (bY (by decide) (go h' (e'.mo (pro_nx (fun j a b z => by
      have := sgo_1 j a b
      have hj : j = 124 := by omega
      subst hj; exact Nat.le_of_ble_eq_true rfl)))))
  | succ r ih =>
    intro x h' hx e'
    have hw' := hw.eq e'.1
    have v1 : vp_in (nI x) 72 := vp_in_nI (by omega) (by decide)
    have v2 : vp_in (36 + nI x) 72 := by rw [show (36 : Int32) = nI 36 from rfl, nI_add]; exact vp_in_nI (by omega) (by decide)
    have E : (36 + nI x : Int32).toNatClampNeg = 36 + x := by rw [show (36 : Int32) = nI 36 from rfl, nI_add, nI_clamp (by omega)]
    have ej : nI x + 1 = nI (x + 1) := by rw [nI_1]
    refine wX12_stands_136 hw'.1 hw'.2.1 hw'.2.2.1 (bN (nI_ge (b := 36) (by omega) (by decide)) ?_)
    rw [E, nI_clamp (n := x) (by omega), ej]
    exact ⟨v1, v2, ih (x + 1) _ (by omega) (e'.st (k := 124) (x := x) (by decide) (by decide) (by decide) (show x < 36 by omega) (pro_le rfl) rfl (fun j a b z => pro_st j (fun y => z (by have := sgo_1 j a b; omega))) (pro_ge rfl))⟩
theorem m_stands_165 {p : Program} {e : Env} {s9 : State} {mi : MethodId} {args : Array Value} {below : List Frame} {meth : Method} {cc : Code} {m : Nat} (hw : gWf h lk sp cd) (go : ∀ h', Sd (pro m 6 0) h h' → gg p l e s9 mi args below meth cc G d MX12_stands Q 194 [some (.ref 82), some (.int 0)] [] h') : ∀ r x h', x + r = 20 → Sd (pro m 5 x) h h' → gg p l e s9 mi args below meth cc G d MX12_stands Q 165 [some (.ref 82), some (.int (nI x))] [] h' := by
  intro r
  induction r with
  | zero =>
    intro x h' hx e'
    have hx' : x = 20 := hx
    subst hx'
    have hw' := hw.eq e'.1
    exact wX12_stands_165 hw'.1 hw'.2.1 hw'.2.2.1 (bY (by decide) (go h' (e'.mo (pro_nx (fun j a b z => by
      have := sgo_1 j a b
      have hj : j = 125 := by omega
      subst hj; exact Nat.le_of_ble_eq_true rfl)))))
  | succ r ih =>
    intro x h' hx e'
    have hw' := hw.eq e'.1
    have v1 : vp_in (nI x) 40 := vp_in_nI (by omega) (by decide)
    have v2 : vp_in (20 + nI x) 40 := by rw [show (20 : Int32) = nI 20 from rfl, nI_add]; exact vp_in_nI (by omega) (by decide)
    have E : (20 + nI x : Int32).toNatClampNeg = 20 + x := by rw [show (20 : Int32) = nI 20 from rfl, nI_add, nI_clamp (by omega)]
    have ej : nI x + 1 = nI (x + 1) := by rw [nI_1]
    refine wX12_stands_165 hw'.1 hw'.2.1 hw'.2.2.1 (bN (nI_ge (b := 20) (by omega) (by decide)) ?_)
    rw [E, nI_clamp (n := x) (by omega), ej]
    exact ⟨v1, v2, ih (x + 1) _ (by omega) (e'.st (k := 125) (x := x) (by decide) (by decide) (by decide) (show x < 20 by omega) (pro_le rfl) rfl (fun j a b z => pro_st j (fun y => z (by have := sgo_1 j a b; omega))) (pro_ge rfl))⟩
theorem m_stands_194 {p : Program} {e : Env} {s9 : State} {mi : MethodId} {args : Array Value} {below : List Frame} {meth : Method} {cc : Code} {m : Nat} (hw : gWf h lk sp cd) (go : ∀ h', Sd (pro m 7 0) h h' → gg p l e s9 mi args below meth cc G d MX12_stands Q 235 [some (.ref 82), some (.int 0)] [] h') : ∀ r x h', x + r = 3 → Sd (pro m 6 x) h h' → gg p l e s9 mi args below meth cc G d MX12_stands Q 194 [some (.ref 82), some (.int (nI x))] [] h' := by
  intro r
  induction r with
  | zero =>
    intro x h' hx e'
    have hx' : x = 3 := hx
    subst hx'
    have hw' := hw.eq e'.1
    exact wX12_stands_194 hw'.1 hw'.2.1 hw'.2.2.1 (bY (by decide) (go h' (e'.mo (pro_nx (fun j a b z => by
      have := sgo_1 j a b
      have hj : j = 127 ∨ j = 128 := by omega
      rcases hj with hj | hj <;> subst hj <;> exact Nat.le_of_ble_eq_true rfl)))))
  | succ r ih =>
    intro x h' hx e'
    have hw' := hw.eq e'.1
    have v1 : vp_in (nI x) 6 := vp_in_nI (by omega) (by decide)
    have v2 : vp_in (3 + nI x) 6 := by rw [show (3 : Int32) = nI 3 from rfl, nI_add]; exact vp_in_nI (by omega) (by decide)
    have E : (3 + nI x : Int32).toNatClampNeg = 3 + x := by rw [show (3 : Int32) = nI 3 from rfl, nI_add, nI_clamp (by omega)]
    have ej : nI x + 1 = nI (x + 1) := by rw [nI_1]
    refine wX12_stands_194 hw'.1 hw'.2.1 hw'.2.2.1 (bN (nI_ge (b := 3) (by omega) (by decide)) ?_)
    rw [E, nI_clamp (n := x) (by omega), ej]
    have e1 : Sd (fun j => if j = 127 then x + 1 else pro m 6 x j) h (sI h' 127 (3 + x) (h'.1 127 x)) := e'.st (k := 127) (x := x) (by decide) (by decide) (by decide) (show x < 3 by omega) (pro_le rfl) rfl (fun j a b z => by show (if j = 127 then _ else _) ≤ _; rw [if_neg z]; exact Nat.le_refl _) (Nat.le_refl _)
    exact ⟨v1, v2, v1, v2, ih (x + 1) _ (by omega) (e1.st (k := 128) (x := x) (by decide) (by decide) (by decide) (show x < 3 by omega) (show x ≤ pro m 6 x 128 from pro_le rfl) (by rw [sI_ne (by decide)]) (fun j a b z => by
      show _ ≤ (if j = 127 then x + 1 else pro m 6 x j)
      split
      · rename_i y; subst y; exact pro_ge rfl
      · rename_i y; exact pro_st j (fun y => by have := sgo_1 j a b; omega)) (pro_ge rfl))⟩
theorem m_stands_235 {p : Program} {e : Env} {s9 : State} {mi : MethodId} {args : Array Value} {below : List Frame} {meth : Method} {cc : Code} {m : Nat} (hw : gWf h lk sp cd) (hm : m ≤ 1600) (h60 : h.1 82 60 = nI m) (go : ∀ h', Sd (pro m 9 0) h h' → gg p l e s9 mi args below meth cc G d MX12_stands Q 279 [some (.ref 82), some (.int 0)] [] h') : ∀ r x h', x + r = m → Sd (pro m 7 x) h h' → gg p l e s9 mi args below meth cc G d MX12_stands Q 235 [some (.ref 82), some (.int (nI x))] [] h' := by
  intro r
  have H60 : ∀ h', ∀ f, Sd f h h' → h'.1 82 60 = nI m := fun h' f e' => by rw [(e'.1.1 82 (by decide)).1]; exact h60
  induction r with
  | zero =>
    intro x h' hx e'
    have hx' : x = m := hx
    subst hx'
    have hw' := hw.eq e'.1
    refine wX12_stands_235 hw'.1 hw'.2.1 hw'.2.2.1 ?_
    rw [H60 h' _ e']
    have e8 : Sd (pro x 8 0) h h' := e'.mo (pro_nx (fun j a b z => by
      have := sgo_1 j a b
      have hj : j = 129 := by omega
      subst hj; exact Nat.le_refl _))
    have e9 := e8.st (g := pro x 9 0) (k := 126) (x := 0) (by decide) (by decide) (by decide) (by decide) (Nat.zero_le _) rfl (fun j a b z => by
      have hs := sgo_1 j a b
      have s8 : sgo j ≤ 8 := by
        have : j = 119 ∨ j = 120 ∨ j = 121 ∨ j = 122 ∨ j = 123 ∨ j = 124 ∨ j = 125 ∨ j = 126 ∨ j = 127 ∨ j = 128 ∨ j = 129 := by omega
        rcases this with z | z | z | z | z | z | z | z | z | z | z <;> subst z <;> decide
      unfold pro
      rw [if_pos (show sgo j < 9 by omega), if_pos (show sgo j < 8 by omega)]; exact Nat.le_refl _) (show pro x 9 0 126 ≤ 1 from Nat.le_refl 1)
    exact bY (nI_le (Nat.le_refl _) (by omega)) (go _ e9)
  | succ r ih =>
    intro x h' hx e'
    have hw' := hw.eq e'.1
    have v1 : vp_in (nI x) 3200 := vp_in_nI (by omega) (by decide)
    have v2 : vp_in (1600 + nI x) 3200 := by rw [show (1600 : Int32) = nI 1600 from rfl, nI_add]; exact vp_in_nI (by omega) (by decide)
    have E : (1600 + nI x : Int32).toNatClampNeg = 1600 + x := by rw [show (1600 : Int32) = nI 1600 from rfl, nI_add, nI_clamp (by omega)]
    have ej : nI x + 1 = nI (x + 1) := by rw [nI_1]
    refine wX12_stands_235 hw'.1 hw'.2.1 hw'.2.2.1 ?_
    rw [H60 h' _ e']
    refine bN (nI_ge (by omega) (by omega)) ?_
    rw [E, nI_clamp (n := x) (by omega), ej]
    exact ⟨v1, v2, ih (x + 1) _ (by omega) (e'.st (k := 129) (x := x) (by decide) (by decide) (by decide) (show x < 1600 by omega) (pro_le rfl) rfl (fun j a b z => pro_st j (fun y => z (by have := sgo_1 j a b; omega))) (pro_ge rfl))⟩
end SD
