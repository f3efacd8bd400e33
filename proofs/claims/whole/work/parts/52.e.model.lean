/-! the model's sums -/
def stc (x : Nat) : Nat := if x = 42 then 3 else if x = 47 then 4 else if x = 43 then 1 else if x = 45 then 2 else x - 80
def utd (u : Nat) : Nat := if 1000 ≤ u then u else [0, 0, 0, 15, 0, 0, 12, 0, 0, 0, 0, 0, 0, 0, 0, 0, 7, 8, 9, 10, 11, 13, 14, 16, 0, 0, 0, 0, 0, 0, 0, 0, 5, 6, 0, 0, 0, 0, 0, 0, 0, 0, 3, 1, 0, 2, 0, 4].getD u 0
def stk : List Nat → (Nat → Int32) → Prop
  | [], _ => True
  | x :: r, w => w r.length = nI (stc x) ∧ stk r w
def wfS (S : List Nat) : Prop := ∀ x, x ∈ S → x = 42 ∨ x = 47 ∨ x = 43 ∨ x = 45 ∨ (100 ≤ x ∧ x ≤ 104)
def knT (d : Bool) (i : Nat) : Bool := decide (i = 16 ∨ i = 17 ∨ i = 18 ∨ i = 19 ∨ i = 20 ∨ i = 6 ∨ i = 21 ∨ i = 22 ∨ (d = false ∧ (i = 3 ∨ i = 23)))
/-- nothing but where the model reads, its waiting signs and its codes have changed -/
def MGx (h h' : gH) : Prop := gEq [82, 129, 130] h h' ∧ (∀ j, j ∉ [2, 4, 5, 6, 10, 45, 60, 62, 63, 64] → h'.1 82 j = h.1 82 j) ∧ h'.2.1 82 = h.2.1 82 ∧ ∀ i, 1600 ≤ i → h'.1 129 i = h.1 129 i
def MGs (h h' : gH) : Prop := MGx h h' ∧ h'.1 82 6 = h.1 82 6
def MGf (f q : Nat) (h h' : gH) : Prop := MGx h h' ∧ h'.1 82 5 = nI f ∧ h'.1 82 6 = nI q
def MSt (t : Nat → Nat) (n : Nat) (p : Nat × Bool) (S C : List Nat) (h : gH) : Prop := MTk t n p.1 p.2 h ∧ h.1 82 62 = nI S.length ∧ stk S (h.1 130) ∧ h.1 82 63 = nI (cnS S) ∧ h.1 82 64 = 0 ∧ h.1 82 60 = nI C.length ∧ (∀ i, i < C.length → h.1 129 i = nI (utd (C.getD i 0))) ∧ C.length + S.length < p.1 ∧ wfS S ∧ cnS S ≤ 6
section MS
variable {l : Launch} {G : gG} {d : Nat} {Q : Option Value → gH → Prop} {h h0 h1 h2 : gH} {lk sp : Nat} {cd : Option Nat} {t : Nat → Nat} {n s i f q u x : Nat} {b dr : Bool} {p : Nat × Bool} {S C : List Nat}
theorem MGx.rf : MGx h h := ⟨gEq.rf _ _, fun _ _ => rfl, rfl, fun _ _ => rfl⟩
theorem MGs.rf : MGs h h := ⟨MGx.rf, rfl⟩
theorem MGx.tr (a : MGx h h1) (b : MGx h1 h2) : MGx h h2 := ⟨(a.1.tr b.1).mono (fun x hx => by rcases List.mem_append.mp hx with z | z <;> exact z), fun j hj => (b.2.1 j hj).trans (a.2.1 j hj), b.2.2.1.trans a.2.2.1, fun i hi => (b.2.2.2 i hi).trans (a.2.2.2 i hi)⟩
theorem MGs.tr (a : MGs h h1) (b : MGs h1 h2) : MGs h h2 := ⟨a.1.tr b.1, b.2.trans a.2⟩
theorem MGs.fl (a : MGs h h1) (b : MGf f q h1 h2) : MGf f q h h2 := ⟨a.1.tr b.1, b.2.1, b.2.2⟩
theorem MGf.more (a : MGf f q h h1) (b : MGx h1 h2) (e5 : h2.1 82 5 = h1.1 82 5) (e6 : h2.1 82 6 = h1.1 82 6) : MGf f q h h2 := ⟨a.1.tr b, e5.trans a.2.1, e6.trans a.2.2⟩
theorem MLx.gx (a : MLx h h1) : MGs h h1 := ⟨⟨a.1.mono (fun x hx => by simp at hx ⊢; omega), fun j hj => a.2.1 j (fun z => hj (by simp at z ⊢; omega)), a.2.2, fun i _ => by rw [(a.1.1 129 (by decide)).1]⟩, a.2.1 6 (by decide)⟩
theorem MFl.gx (a : MFl f q h h1) : MGf f q h h1 := ⟨⟨a.1.mono (fun x hx => by simp at hx ⊢; omega), fun j hj => a.2.1 j (fun z => hj (by simp at z ⊢; omega)), a.2.2.1, fun i _ => by rw [(a.1.1 129 (by decide)).1]⟩, a.2.2.2.1, a.2.2.2.2⟩
theorem MGx.si82 {j : Nat} {v : Int32} (hj : j ∈ [2, 4, 5, 6, 10, 45, 60, 62, 63, 64]) (a : MGx h h1) : MGx h (sI h1 82 j v) := ⟨gE1 (by decide) a.1, fun i hi => by rw [sI_nb (show i ≠ j from fun z => hi (by rw [z]; exact hj))]; exact a.2.1 i hi, a.2.2.1, a.2.2.2⟩
theorem MGx.si130 {j : Nat} {v : Int32} (a : MGx h h1) : MGx h (sI h1 130 j v) := ⟨gE1 (by decide) a.1, fun i hi => by rw [sI_ne (by decide)]; exact a.2.1 i hi, a.2.2.1, fun i hi => by rw [sI_ne (by decide)]; exact a.2.2.2 i hi⟩
theorem MGx.si129 {j : Nat} {v : Int32} (hj : j < 1600) (a : MGx h h1) : MGx h (sI h1 129 j v) := ⟨gE1 (by decide) a.1, fun i hi => by rw [sI_ne (by decide)]; exact a.2.1 i hi, a.2.2.1, fun i hi => by rw [sI_nb (by omega)]; exact a.2.2.2 i hi⟩
theorem TPm.gx (q : TPm t h) (e : MGx h h1) : TPm t h1 := ⟨fun i hi => by rw [(e.1.1 83 (by decide)).1]; exact q.1 i hi, fun i hi j hj => by rw [(e.1.1 (85 + i) (by simp; omega)).1]; exact q.2.1 i hi j hj, fun i hi j hj => by rw [(e.1.1 (143 + i) (by simp; omega)).1]; exact q.2.2 i hi j hj⟩
theorem stk_cg {w w' : Nat → Int32} : ∀ S, (∀ i, i < S.length → w' i = w i) → stk S w → stk S w'
  | [], _, _ => trivial
  | x :: r, h, ⟨h1, h2⟩ => ⟨by rw [h r.length (by show r.length < r.length + 1; omega)]; exact h1, stk_cg r (fun i hi => h i (by show i < r.length + 1; omega)) h2⟩
/-- reading leaves the rest of the state -/
theorem MSt.ml {p' : Nat × Bool} (m : MSt t n p S C h) (e : MLx h h1) (k : MTk t n p'.1 p'.2 h1) (hp : p.1 ≤ p'.1) : MSt t n p' S C h1 := by
  obtain ⟨m1, m2, m3, m4, m5, m6, m7, m8, m9, m10⟩ := m
  have f : ∀ j, j ∉ [2, 4, 10, 45] → h1.1 82 j = h.1 82 j := e.2.1
  exact ⟨k, by rw [f 62 (by decide)]; exact m2, by rw [(e.1.1 130 (by decide)).1]; exact m3, by rw [f 63 (by decide)]; exact m4, by rw [f 64 (by decide)]; exact m5, by rw [f 60 (by decide)]; exact m6, fun i hi => by rw [(e.1.1 129 (by decide)).1]; exact m7 i hi, by omega, m9, m10⟩
theorem MTk.gx {j : Nat} {v : Int32} (k : MTk t n s b h) (hj : j ≠ 2 ∧ j ≠ 3 ∧ j ≠ 4 ∧ j ≠ 5) : MTk t n s b (sI h 82 j v) := by
  obtain ⟨k1, k2, k3, k4, a, e, k5, k6, k7, k8, k9, k10⟩ := k
  exact ⟨k1, k2, by rw [sI_nb (Ne.symm hj.2.1)]; exact k3, by rw [sI_nb (Ne.symm hj.2.2.2)]; exact k4, a, e, k5, k6, k7, by rw [sI_nb (Ne.symm hj.1)]; exact k8, by rw [sI_nb (Ne.symm hj.2.2.1)]; exact k9, k10⟩
theorem MTk.go {c j : Nat} {v : Int32} (k : MTk t n s b h) (hc : c ≠ 82) : MTk t n s b (sI h c j v) := by
  obtain ⟨k1, k2, k3, k4, a, e, k5, k6, k7, k8, k9, k10⟩ := k
  exact ⟨k1, k2, by rw [sI_ne (Ne.symm hc)]; exact k3, by rw [sI_ne (Ne.symm hc)]; exact k4, a, e, k5, k6, k7, by rw [sI_ne (Ne.symm hc)]; exact k8, by rw [sI_ne (Ne.symm hc)]; exact k9, k10⟩
theorem getD_app {C : List Nat} {u i : Nat} (hi : i < C.length) : (C ++ [u]).getD i 0 = C.getD i 0 := by simp [List.getD, List.getElem?_append_left hi]
theorem getD_last {C : List Nat} {u : Nat} : (C ++ [u]).getD C.length 0 = u := by simp
/-- a code is put, whatever it is -/
theorem m_codeAny {v : Int32} (hw : gWf h lk sp cd) {k : Nat} (hk : h.1 82 60 = nI k) (hl : k < 1600) (hq : ∀ h', MGx h h' → h'.1 82 5 = h.1 82 5 → h'.1 82 6 = h.1 82 6 → Q none h') : gC l G d MX12_code [.ref 82, .int v] h Q := by
  refine eX12_code hw ?_
  rw [hk, show (0 : Int32) + nI k = nI k by rw [show (0 : Int32) = nI 0 from rfl, nI_add, Nat.zero_add], nI_clamp (by omega)]
  exact ⟨vp_in_nI (by omega) (by decide), hq _ (MGx.si82 (by decide) (MGx.si129 hl MGx.rf)) (by rw [sI_nb (by decide), sI_ne (by decide)]) (by rw [sI_nb (by decide), sI_ne (by decide)])⟩
theorem m_code {p' : Nat × Bool} (hw : gWf h lk sp cd) (tw : TWf t n) (m : MSt t n p S C h) (hq : ∀ h', MGs h h' → (∀ j, j ≠ 60 → h'.1 82 j = h.1 82 j) → h'.1 130 = h.1 130 → h'.1 82 60 = nI (C ++ [u]).length → (∀ i, i < (C ++ [u]).length → h'.1 129 i = nI (utd ((C ++ [u]).getD i 0))) → Q none h') : gC l G d MX12_code [.ref 82, .int (nI (utd u))] h Q := by
  obtain ⟨m1, m2, m3, m4, m5, m6, m7, m8, m9, m10⟩ := m
  have n16 := tw.1
  have sn := m1.1
  refine eX12_code hw ?_
  rw [m6, show (0 : Int32) + nI C.length = nI C.length by rw [show (0 : Int32) = nI 0 from rfl, nI_add, Nat.zero_add], nI_clamp (by omega), nI_1]
  refine ⟨vp_in_nI (by omega) (by decide), hq _ ⟨MGx.si82 (by decide) (MGx.si129 (by omega) MGx.rf), by rw [sI_nb (by decide), sI_ne (by decide)]⟩ (fun j hj => by rw [sI_nb hj, sI_ne (by decide)]) ?_ (by rw [sI_s, List.length_append]; rfl) (fun i hi => ?_)⟩
  · rw [sI_na (by decide), sI_na (by decide)]
  · rw [List.length_append] at hi
    have hi : i < C.length + 1 := hi
    rw [sI_ne (by decide)]
    by_cases e : i = C.length
    · subst e; rw [sI_s, getD_last]
    · rw [sI_nb e, getD_app (by omega)]; exact m7 i (by omega)
theorem wfS.tl (h : wfS (x :: S)) : wfS S := fun y hy => h y (List.mem_cons_of_mem _ hy)
theorem cnS_le : ∀ S, cnS S ≤ S.length
  | [] => Nat.le_refl _
  | x :: r => by
    have := cnS_le r
    show cnS r + (if x = 27 ∨ 100 ≤ x then 1 else 0) ≤ r.length + 1
    split <;> omega
theorem stc_b {x : Nat} (h : x = 42 ∨ x = 47 ∨ x = 43 ∨ x = 45 ∨ (100 ≤ x ∧ x ≤ 104)) : (stc x < 25) ∧ (20 ≤ stc x ↔ 100 ≤ x) ∧ (stc x = 3 ↔ x = 42) ∧ (stc x = 4 ↔ x = 47) ∧ (stc x = 1 ↔ x = 43) ∧ (stc x = 2 ↔ x = 45) ∧ (100 ≤ x → stc x = x - 80) ∧ (x < 100 → stc x = utd x) := by
  rcases h with h | h | h | h | h
  · subst h; decide
  · subst h; decide
  · subst h; decide
  · subst h; decide
  · have : x = 100 ∨ x = 101 ∨ x = 102 ∨ x = 103 ∨ x = 104 := by omega
    rcases this with h | h | h | h | h <;> subst h <;> decide
/-- the top of what waits goes to the codes -/
theorem m_drops (hw : gWf h lk sp cd) (tw : TWf t n) (m : MSt t n p (x :: S) C h) (hx : x < 100) (hq : ∀ h', MGs h h' → MSt t n p S (C ++ [x]) h' → (∀ j, j ≠ 60 → j ≠ 62 → h'.1 82 j = h.1 82 j) → Q none h') : gC l G (d + 1) MX12_drops [.ref 82] h Q := by
  obtain ⟨m1, m2, ⟨m3, m3'⟩, m4, m5, m6, m7, m8, m9, m10⟩ := id m
  have n16 := tw.1
  have sn := m1.1
  have xx := m9 x List.mem_cons_self
  have b := stc_b xx
  have ll : (x :: S).length = S.length + 1 := rfl
  rw [ll] at m2 m8
  have cn : cnS (x :: S) = cnS S := cnS_cons_op (by omega) hx
  refine eX12_drops hw ?_
  rw [m2, i_s1, nI_clamp (by omega), m3, b.2.2.2.2.2.2.2 hx]
  have ms : MSt t n p S C (sI h 82 62 (nI S.length)) := ⟨m1.gx (by decide), sI_s _ _ _ _, by rw [sI_na (by decide)]; exact m3', by rw [sI_nb (by decide), m4, cn], by rw [sI_nb (by decide)]; exact m5, by rw [sI_nb (by decide)]; exact m6, fun i hi => by rw [sI_ne (by decide)]; exact m7 i hi, by omega, wfS.tl m9, by omega⟩
  have e0 : MGs h (sI h 82 62 (nI S.length)) := ⟨MGx.si82 (by decide) MGx.rf, by rw [sI_nb (by decide)]⟩
  refine ⟨vp_in_nI (by omega) (by decide), m_code (p' := p) (u := x) (hw.eq e0.1.1) tw ms (fun h1 e1 f1 w1 c1 c2 => ⟨rfl, e1.1.1.2, hq h1 (e0.tr e1) ⟨?_, ?_, ?_, ?_, ?_, c1, c2, ?_, wfS.tl m9, by omega⟩ (fun j h60 h62 => by rw [f1 j h60, sI_nb h62])⟩)⟩
  · obtain ⟨k1, k2, k3, k4, a, e, k5, k6, k7, k8, k9, k10⟩ := ms.1
    exact ⟨k1, k2, by rw [f1 3 (by decide)]; exact k3, by rw [f1 5 (by decide)]; exact k4, a, e, k5, k6, k7, by rw [f1 2 (by decide)]; exact k8, by rw [f1 4 (by decide)]; exact k9, k10⟩
  · rw [f1 62 (by decide)]; exact ms.2.1
  · rw [w1]; exact ms.2.2.1
  · rw [f1 63 (by decide)]; exact ms.2.2.2.1
  · rw [f1 64 (by decide)]; exact ms.2.2.2.2.1
  · rw [List.length_append]; show C.length + 1 + S.length < p.1; omega
end MS
