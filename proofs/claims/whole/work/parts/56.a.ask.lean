/-! tests, as a machine with a stack reads them: 28 or, 29 and, 30 not, 105 the square bracket -/
def cnT : List Nat → Nat
  | [] => 0
  | x :: r => cnT r + if x = 30 ∨ x = 105 then 1 else 0
def dN : List Nat → List Nat → List Nat × List Nat
  | [], C => ([], C)
  | x :: r, C => if x = 30 then dN r (C ++ [30]) else (x :: r, C)
def pSq : List Nat → List Nat → List Nat × List Nat
  | [], C => ([], C)
  | x :: r, C => if x = 105 then (x :: r, C) else pSq r (C ++ [x])
def pAn : List Nat → List Nat → List Nat × List Nat
  | [], C => ([], C)
  | x :: r, C => if x = 29 then pAn r (C ++ [29]) else (x :: r, C)
def pOr : List Nat → List Nat → List Nat × List Nat
  | [], C => ([], C)
  | x :: r, C => if x = 29 ∨ x = 28 then pOr r (C ++ [x]) else (x :: r, C)
def isC (c : Nat) : Prop := c = 60 ∨ c = 61 ∨ c = 62
/-- a sum, where so many are open -/
def sumR (t : Nat → Nat) (n o : Nat) (p : Nat × Bool) (C : List Nat) (R : (Nat × Bool) → List Nat → pOut → Prop) (out : pOut) : Prop := ∃ o1, Run t n knQ o true p [] C o1 ∧ match o1 with
  | .error f => out = .error f
  | .ok (p1, C1) => C1.length + p.1 ≤ C.length + p1.1 ∧ R p1 C1 out
def tst (t : Nat → Nat) (n : Nat) : Nat → Bool → (Nat × Bool) → List Nat → List Nat → pOut → Prop
  | 0, _, _, _, _, _ => False
  | k + 1, true, p, T, C, out =>
    (tkk t n p.1 p.2 = 91 ∧ ((cnT T = 6 ∧ out = .error (4, p.1)) ∨ (cnT T ≠ 6 ∧ tst t n k true (nx t n p.1, nj t n p.1) (105 :: T) C out))) ∨
    (isW t n 30 p ∧ ((cnT T = 6 ∧ out = .error (4, p.1)) ∨ (cnT T ≠ 6 ∧ tst t n k true (nx t n p.1, nj t n p.1) (30 :: T) C out))) ∨
    (isW t n 31 p ∧ tst t n k false (nx t n p.1, nj t n p.1) (dN T (C ++ [31])).1 (dN T (C ++ [31])).2 out) ∨
    (tkk t n p.1 p.2 ≠ 91 ∧ ¬ isW t n 30 p ∧ ¬ isW t n 31 p ∧ sumR t n (cnT T) p C (fun p1 C1 out => (¬ isC (tkk t n p1.1 p1.2) ∧ out = .error (1, p1.1)) ∨ (isC (tkk t n p1.1 p1.2) ∧ sumR t n (cnT T) (nx t n p1.1, nj t n p1.1) C1 (fun p2 C2 out => tst t n k false p2 (dN T (C2 ++ [tkk t n p1.1 p1.2])).1 (dN T (C2 ++ [tkk t n p1.1 p1.2])).2 out) out)) out)
  | k + 1, false, p, T, C, out =>
    (tkk t n p.1 p.2 = 93 ∧ 105 ∈ T ∧ tst t n k false (nx t n p.1, nj t n p.1) (dN (pSq T C).1.tail (pSq T C).2).1 (dN (pSq T C).1.tail (pSq T C).2).2 out) ∨
    (isW t n 29 p ∧ tst t n k true (nx t n p.1, nj t n p.1) (29 :: (pAn T C).1) (pAn T C).2 out) ∨
    (isW t n 28 p ∧ tst t n k true (nx t n p.1, nj t n p.1) (28 :: (pOr T C).1) (pOr T C).2 out) ∨
    (¬ (tkk t n p.1 p.2 = 93 ∧ 105 ∈ T) ∧ ¬ isW t n 29 p ∧ ¬ isW t n 28 p ∧ ((105 ∈ T ∧ out = .error (1, p.1)) ∨ (105 ∉ T ∧ out = .ok (p, (pSq T C).2))))
def Tst (t : Nat → Nat) (n : Nat) (e : Bool) (p : Nat × Bool) (T C : List Nat) (o : pOut) : Prop := ∃ k, tst t n k e p T C o
section TM
variable {t : Nat → Nat} {n s i o : Nat} {p p' p1 p2 : Nat × Bool} {T C C1 C2 e a b : List Nat} {out : pOut} {x u : Nat} {f : Nat × Nat}
theorem Tst.sq (h : tkk t n p.1 p.2 = 91) (c : cnT T ≠ 6) (r : Tst t n true (nx t n p.1, nj t n p.1) (105 :: T) C out) : Tst t n true p T C out := by
  obtain ⟨k, r⟩ := r
  exact ⟨k + 1, Or.inl ⟨h, Or.inr ⟨c, r⟩⟩⟩
theorem Tst.sqf (h : tkk t n p.1 p.2 = 91) (c : cnT T = 6) : Tst t n true p T C (.error (4, p.1)) := ⟨1, Or.inl ⟨h, Or.inl ⟨c, rfl⟩⟩⟩
theorem Tst.nt (h : isW t n 30 p) (c : cnT T ≠ 6) (r : Tst t n true (nx t n p.1, nj t n p.1) (30 :: T) C out) : Tst t n true p T C out := by
  obtain ⟨k, r⟩ := r
  exact ⟨k + 1, Or.inr (Or.inl ⟨h, Or.inr ⟨c, r⟩⟩)⟩
theorem Tst.ntf (h : isW t n 30 p) (c : cnT T = 6) : Tst t n true p T C (.error (4, p.1)) := ⟨1, Or.inr (Or.inl ⟨h, Or.inl ⟨c, rfl⟩⟩)⟩
theorem Tst.al (h : isW t n 31 p) (r : Tst t n false (nx t n p.1, nj t n p.1) (dN T (C ++ [31])).1 (dN T (C ++ [31])).2 out) : Tst t n true p T C out := by
  obtain ⟨k, r⟩ := r
  exact ⟨k + 1, Or.inr (Or.inr (Or.inl ⟨h, r⟩))⟩
theorem Tst.s1 (h1 : tkk t n p.1 p.2 ≠ 91) (h2 : ¬ isW t n 30 p) (h3 : ¬ isW t n 31 p) (r : Run t n knQ (cnT T) true p [] C (.error f)) : Tst t n true p T C (.error f) := ⟨1, Or.inr (Or.inr (Or.inr ⟨h1, h2, h3, _, r, rfl⟩))⟩
theorem Tst.s2 (h1 : tkk t n p.1 p.2 ≠ 91) (h2 : ¬ isW t n 30 p) (h3 : ¬ isW t n 31 p) (r : Run t n knQ (cnT T) true p [] C (.ok (p1, C1))) (g1 : C1.length + p.1 ≤ C.length + p1.1) (h4 : ¬ isC (tkk t n p1.1 p1.2)) : Tst t n true p T C (.error (1, p1.1)) := ⟨1, Or.inr (Or.inr (Or.inr ⟨h1, h2, h3, _, r, g1, Or.inl ⟨h4, rfl⟩⟩))⟩
theorem Tst.s3 (h1 : tkk t n p.1 p.2 ≠ 91) (h2 : ¬ isW t n 30 p) (h3 : ¬ isW t n 31 p) (r : Run t n knQ (cnT T) true p [] C (.ok (p1, C1))) (g1 : C1.length + p.1 ≤ C.length + p1.1) (h4 : isC (tkk t n p1.1 p1.2)) (r2 : Run t n knQ (cnT T) true (nx t n p1.1, nj t n p1.1) [] C1 (.error f)) : Tst t n true p T C (.error f) := ⟨1, Or.inr (Or.inr (Or.inr ⟨h1, h2, h3, _, r, g1, Or.inr ⟨h4, _, r2, rfl⟩⟩))⟩
theorem Tst.cm (h1 : tkk t n p.1 p.2 ≠ 91) (h2 : ¬ isW t n 30 p) (h3 : ¬ isW t n 31 p) (r : Run t n knQ (cnT T) true p [] C (.ok (p1, C1))) (g1 : C1.length + p.1 ≤ C.length + p1.1) (h4 : isC (tkk t n p1.1 p1.2)) (r2 : Run t n knQ (cnT T) true (nx t n p1.1, nj t n p1.1) [] C1 (.ok (p2, C2))) (g2 : C2.length + nx t n p1.1 ≤ C1.length + p2.1) (r3 : Tst t n false p2 (dN T (C2 ++ [tkk t n p1.1 p1.2])).1 (dN T (C2 ++ [tkk t n p1.1 p1.2])).2 out) : Tst t n true p T C out := by
  obtain ⟨k, r3⟩ := r3
  exact ⟨k + 1, Or.inr (Or.inr (Or.inr ⟨h1, h2, h3, _, r, g1, Or.inr ⟨h4, _, r2, g2, r3⟩⟩))⟩
theorem Tst.cl (h : tkk t n p.1 p.2 = 93) (m : 105 ∈ T) (r : Tst t n false (nx t n p.1, nj t n p.1) (dN (pSq T C).1.tail (pSq T C).2).1 (dN (pSq T C).1.tail (pSq T C).2).2 out) : Tst t n false p T C out := by
  obtain ⟨k, r⟩ := r
  exact ⟨k + 1, Or.inl ⟨h, m, r⟩⟩
theorem Tst.an (h : isW t n 29 p) (r : Tst t n true (nx t n p.1, nj t n p.1) (29 :: (pAn T C).1) (pAn T C).2 out) : Tst t n false p T C out := by
  obtain ⟨k, r⟩ := r
  exact ⟨k + 1, Or.inr (Or.inl ⟨h, r⟩)⟩
theorem Tst.or (h : isW t n 28 p) (r : Tst t n true (nx t n p.1, nj t n p.1) (28 :: (pOr T C).1) (pOr T C).2 out) : Tst t n false p T C out := by
  obtain ⟨k, r⟩ := r
  exact ⟨k + 1, Or.inr (Or.inr (Or.inl ⟨h, r⟩))⟩
theorem Tst.enf (h : tkk t n p.1 p.2 ≠ 93) (h1 : ¬ isW t n 29 p) (h2 : ¬ isW t n 28 p) (m : 105 ∈ T) : Tst t n false p T C (.error (1, p.1)) := ⟨1, Or.inr (Or.inr (Or.inr ⟨fun z => h z.1, h1, h2, Or.inl ⟨m, rfl⟩⟩))⟩
theorem Tst.en (h1 : ¬ isW t n 29 p) (h2 : ¬ isW t n 28 p) (m : 105 ∉ T) : Tst t n false p T C (.ok (p, (pSq T C).2)) := ⟨1, Or.inr (Or.inr (Or.inr ⟨fun z => m z.2, h1, h2, Or.inr ⟨m, rfl⟩⟩))⟩
theorem cnT_op (h : x ≠ 30) (h2 : x ≠ 105) : cnT (x :: T) = cnT T := by
  show cnT T + (if x = 30 ∨ x = 105 then 1 else 0) = _
  rw [if_neg (by omega)]; rfl
theorem cnT_mk (h : x = 30 ∨ x = 105) : cnT (x :: T) = cnT T + 1 := by
  show cnT T + (if x = 30 ∨ x = 105 then 1 else 0) = _
  rw [if_pos h]
/-- what tests leave pending -/
def pdN (l : List Nat) : Prop := l = [] ∨ l = [29]
def pdO (l : List Nat) : Prop := ∃ a b, pdN a ∧ (b = [] ∨ b = [28]) ∧ l = a ++ b
def tqM (T : List Nat) : Prop := T = [] ∨ ∃ r, T = 105 :: r
def tqS (T : List Nat) : Prop := T = [] ∨ ∃ m r, T = m :: r ∧ m ≠ 29 ∧ m ≠ 30
theorem tqM.st (h : tqM T) : tqS T := by
  rcases h with h | ⟨r, h⟩
  · exact Or.inl h
  · exact Or.inr ⟨105, r, h, by decide, by decide⟩
theorem dN_s (h : tqS T) : dN T C = (T, C) := by
  rcases h with h | ⟨m, r, h, h1, h2⟩
  · subst h; rfl
  · subst h
    show (if m = 30 then _ else _) = _
    rw [if_neg h2]
theorem pAn_p (h : tqS T) (ha : pdN a) : pAn (a ++ T) C = (T, C ++ a) := by
  have s : ∀ C, pAn T C = (T, C) := fun C => by
    rcases h with h | ⟨m, r, h, h1, h2⟩
    · subst h; rfl
    · subst h
      show (if m = 29 then _ else _) = _
      rw [if_neg h1]
  rcases ha with ha | ha <;> subst ha
  · rw [List.nil_append, List.append_nil]; exact s C
  · show pAn T (C ++ [29]) = _
    exact s _
theorem pdO_m (ha : pdO a) : ∀ x, x ∈ a → x = 29 ∨ x = 28 := by
  obtain ⟨b, c, hb, hc, rfl⟩ := ha
  intro x hx
  rcases List.mem_append.mp hx with h | h
  · rcases hb with q | q <;> subst q <;> simp at h <;> omega
  · rcases hc with q | q <;> subst q <;> simp at h <;> omega
theorem pOr_p (h : tqM T) : ∀ a C, (∀ x, x ∈ a → x = 29 ∨ x = 28) → pOr (a ++ T) C = (T, C ++ a)
  | [], C, _ => by
    rw [List.nil_append, List.append_nil]
    rcases h with h | ⟨r, h⟩
    · subst h; rfl
    · subst h; rfl
  | x :: a, C, hx => by
    show (if x = 29 ∨ x = 28 then pOr (a ++ T) (C ++ [x]) else _) = _
    rw [if_pos (hx x List.mem_cons_self), pOr_p h a _ (fun y hy => hx y (List.mem_cons_of_mem _ hy)), List.append_assoc]
    rfl
theorem pSq_p (h : tqM T) : ∀ a C, (∀ x, x ∈ a → x = 29 ∨ x = 28) → pSq (a ++ T) C = (T, C ++ a)
  | [], C, _ => by
    rw [List.nil_append, List.append_nil]
    rcases h with h | ⟨r, h⟩
    · subst h; rfl
    · subst h; rfl
  | x :: a, C, hx => by
    have := hx x List.mem_cons_self
    show (if x = 105 then _ else pSq (a ++ T) (C ++ [x])) = _
    rw [if_neg (by omega), pSq_p h a _ (fun y hy => hx y (List.mem_cons_of_mem _ hy)), List.append_assoc]
    rfl
/-! types of what is reckoned -/
def ty1 (τ : List Bool) (u : Nat) : Option (List Bool) :=
  if u = 31 then some (true :: τ) else if psh u then some (false :: τ) else if u = 27 then (match τ with
    | _ :: r => some (false :: r)
    | [] => none) else if u = 30 then (match τ with
    | true :: r => some (true :: r)
    | _ => none) else if u = 28 ∨ u = 29 then (match τ with
    | true :: true :: r => some (true :: r)
    | _ => none) else (match τ with
    | _ :: _ :: r => some (decide (u = 60 ∨ u = 61 ∨ u = 62) :: r)
    | _ => none)
def tyr : List Bool → List Nat → Option (List Bool)
  | τ, [] => some τ
  | τ, u :: e => match ty1 τ u with
    | some τ' => tyr τ' e
    | none => none
theorem tyr_app : ∀ (a b : List Nat) (τ τ' : List Bool), tyr τ a = some τ' → tyr τ (a ++ b) = tyr τ' b
  | [], b, τ, τ', h => by cases h; rfl
  | u :: a, b, τ, τ', h => by
    have h : (match ty1 τ u with
      | some τ' => tyr τ' a
      | none => none) = some τ' := h
    show (match ty1 τ u with
      | some τ' => tyr τ' (a ++ b)
      | none => none) = _
    cases hq : ty1 τ u with
    | none => rw [hq] at h; cases h
    | some σ => rw [hq] at h; exact tyr_app a b σ τ' h
def WB (e : List Nat) : Prop := ∀ τ, tyr τ e = some (true :: τ)
def WN (e : List Nat) : Prop := ∀ τ, tyr τ e = some (false :: τ)
def fls : Nat → List Bool → List Bool
  | 0, τ => τ
  | k + 1, τ => false :: fls k τ
theorem alq_ty {u : Nat} (h : alw knQ u) : u ≠ 31 ∧ u ≠ 30 ∧ u ≠ 28 ∧ u ≠ 29 ∧ ¬ (u = 60 ∨ u = 61 ∨ u = 62) := by
  rcases h with ⟨h1, h2⟩ | h | h
  · have h2 : u = 24 ∨ u = 25 ∨ u = 26 ∨ u = 16 ∨ u = 17 ∨ u = 18 ∨ u = 12 ∨ u = 3 ∨ u = 27 := of_decide_eq_true h2
    omega
  · have h3 : u = 32 ∨ u = 33 ∨ u = 42 ∨ u = 43 ∨ u = 45 ∨ u = 47 := by simpa using h
    omega
  · omega
theorem tyr_n {H : Nat} : ∀ (e : List Nat) (m : Nat) (τ : List Bool), okl H m e → (∀ u, u ∈ e → alw knQ u) → tyr (fls m τ) e = some (fls (dpl m e) τ)
  | [], m, τ, _, _ => rfl
  | u :: e, m, τ, ⟨h1, h2, h3, h4, h5⟩, ha => by
    have a := alq_ty (ha u List.mem_cons_self)
    have ih := tyr_n e (ndp m u) τ h5 (fun y hy => ha y (List.mem_cons_of_mem _ hy))
    have st : ty1 (fls m τ) u = some (fls (ndp m u) τ) := by
      unfold ty1
      rw [if_neg a.1]
      by_cases z : psh u
      · rw [if_pos z, show ndp m u = m + 1 from if_pos z]; rfl
      · rw [if_neg z]
        by_cases z2 : u = 27
        · have un : una u := Or.inl z2
          have m1 := h2 un
          obtain ⟨k, rfl⟩ : ∃ k, m = k + 1 := ⟨m - 1, by omega⟩
          rw [if_pos z2, show ndp (k + 1) u = k + 1 by unfold ndp; rw [if_neg z, if_pos un]]; rfl
        · have un : ¬ una u := fun y => by unfold una at y; omega
          have m2 := h3 z un
          obtain ⟨k, rfl⟩ : ∃ k, m = k + 2 := ⟨m - 2, by omega⟩
          rw [if_neg z2, if_neg a.2.1, if_neg (by omega), show ndp (k + 2) u = k + 1 by unfold ndp; rw [if_neg z, if_neg un]; omega]
          show some (decide (u = 60 ∨ u = 61 ∨ u = 62) :: fls k τ) = some (false :: fls k τ)
          rw [decide_eq_false a.2.2.2.2]
    show (match ty1 (fls m τ) u with
      | some τ' => tyr τ' e
      | none => none) = _
    rw [st]
    exact ih
theorem WN.of {B : Nat} (h : WE B e) (ha : ∀ u, u ∈ e → alw knQ u) : WN e := fun τ => by
  have := tyr_n (H := 0 + B) e 0 τ (h 0).2 ha
  rw [(h 0).1] at this
  exact this
theorem WB.cmp {c : Nat} (ha : WN a) (hb : WN b) (hc : isC c) : WB (a ++ b ++ [c]) := fun τ => by
  rw [tyr_app _ _ _ _ (tyr_app a b τ _ (ha τ) |>.trans (hb _))]
  rcases hc with z | z | z <;> subst z <;> rfl
theorem WB.bin {c : Nat} (ha : WB a) (hb : WB b) (hc : c = 28 ∨ c = 29) : WB (a ++ b ++ [c]) := fun τ => by
  rw [tyr_app _ _ _ _ (tyr_app a b τ _ (ha τ) |>.trans (hb _))]
  rcases hc with z | z <;> subst z <;> rfl
theorem WB.not (ha : WB a) : WB (a ++ [30]) := fun τ => by
  rw [tyr_app _ _ _ _ (ha τ)]
  rfl
theorem WB.al : WB [31] := fun τ => rfl
end TM
