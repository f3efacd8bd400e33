/-! sums, as a machine with a stack reads them: signs 42 43 45 47, 27 that waits for its part, marks 100 ( 101 min( 102 max( 103 104 behind their comma -/
noncomputable def wixF (t : Nat → Nat) (n s : Nat) : Nat → Nat
  | 0 => 40
  | k + 1 => @ite Nat (wat t n s k) (Classical.propDecidable _) k (wixF t n s k)
/-- which word stands at s, 40 if none of them -/
noncomputable def wix (t : Nat → Nat) (n s : Nat) : Nat := wixF t n s 40
def cnS : List Nat → Nat
  | [] => 0
  | x :: r => cnS r + if x = 27 ∨ 100 ≤ x then 1 else 0
def mkS : List Nat → Nat
  | [] => 0
  | x :: r => if 100 ≤ x then x else mkS r
def popM : List Nat → List Nat → List Nat × List Nat
  | [], C => ([], C)
  | x :: r, C => if 100 ≤ x then (x :: r, C) else popM r (C ++ [x])
def popT : List Nat → List Nat → List Nat × List Nat
  | [], C => ([], C)
  | x :: r, C => if x = 42 ∨ x = 47 then popT r (C ++ [x]) else (x :: r, C)
def popA : List Nat → List Nat → List Nat × List Nat
  | [], C => ([], C)
  | x :: r, C => if x = 42 ∨ x = 47 ∨ x = 43 ∨ x = 45 then popA r (C ++ [x]) else (x :: r, C)
def endP : List Nat → List Nat → List Nat × List Nat
  | [], C => ([], C)
  | x :: r, C => if x = 27 then endP r (C ++ [27]) else (x :: r, C)
/-- what a mark puts when it is closed -/
def mkC (m : Nat) : List Nat := if m = 103 then [32] else if m = 104 then [33] else []
abbrev pOut : Type := Except (Nat × Nat) ((Nat × Bool) × List Nat)
noncomputable def run (t : Nat → Nat) (n : Nat) (kn : Nat → Bool) (ob : Nat) : Nat → Bool → (Nat × Bool) → List Nat → List Nat → Option pOut
  | 0, _, _, _, _ => none
  | k + 1, true, p, S, C =>
    if tkk t n p.1 p.2 = 1002 then (match numF t n 0 10000 p with
      | .ok (v, p') => run t n kn ob k false p' (endP S (C ++ [1000 + v])).1 (endP S (C ++ [1000 + v])).2
      | .error e => some (.error e))
    else if tkk t n p.1 p.2 = 40 then (if ob + cnS S = 6 then some (.error (4, p.1)) else run t n kn ob k true (nx t n p.1, nj t n p.1) (100 :: S) C)
    else if tkk t n p.1 p.2 = 1001 then (
      if wix t n p.1 = 32 ∨ wix t n p.1 = 33 then (
        if tkk t n (nx t n p.1) (nj t n p.1) = 40 then (if ob + cnS S = 6 then some (.error (4, nx t n p.1)) else run t n kn ob k true (nx t n (nx t n p.1), nj t n (nx t n p.1)) ((wix t n p.1 + 69) :: S) C)
        else some (.error (1, nx t n p.1)))
      else if kn (wix t n p.1) = true ∧ wix t n p.1 < 40 then (
        if wix t n p.1 = 27 then (if ob + cnS S = 6 then some (.error (4, p.1)) else run t n kn ob k true (nx t n p.1, nj t n p.1) (27 :: S) C)
        else run t n kn ob k false (nx t n p.1, nj t n p.1) (endP S (C ++ [wix t n p.1])).1 (endP S (C ++ [wix t n p.1])).2)
      else some (.error (1, p.1)))
    else some (.error (1, p.1))
  | k + 1, false, p, S, C =>
    if tkk t n p.1 p.2 = 41 ∧ (mkS S = 100 ∨ mkS S = 103 ∨ mkS S = 104) then run t n kn ob k false (nx t n p.1, nj t n p.1) (endP (popM S C).1.tail ((popM S C).2 ++ mkC (mkS S))).1 (endP (popM S C).1.tail ((popM S C).2 ++ mkC (mkS S))).2
    else if tkk t n p.1 p.2 = 42 ∨ tkk t n p.1 p.2 = 47 then run t n kn ob k true (nx t n p.1, nj t n p.1) (tkk t n p.1 p.2 :: (popT S C).1) (popT S C).2
    else if tkk t n p.1 p.2 = 43 ∨ tkk t n p.1 p.2 = 45 then run t n kn ob k true (nx t n p.1, nj t n p.1) (tkk t n p.1 p.2 :: (popA S C).1) (popA S C).2
    else if mkS S = 101 ∨ mkS S = 102 then (if tkk t n p.1 p.2 = 44 then run t n kn ob k true (nx t n p.1, nj t n p.1) ((mkS S + 2) :: (popM S C).1.tail) (popM S C).2 else some (.error (1, p.1)))
    else if mkS S = 0 then some (.ok (p, (popM S C).2))
    else some (.error (1, p.1))
def Run (t : Nat → Nat) (n : Nat) (kn : Nat → Bool) (ob : Nat) (e : Bool) (p : Nat × Bool) (S C : List Nat) (o : pOut) : Prop := ∃ k, run t n kn ob k e p S C = some o
section MA
variable {t : Nat → Nat} {n ob s i : Nat} {kn : Nat → Bool} {p p' : Nat × Bool} {S C e a b : List Nat} {o : pOut} {x u : Nat}
theorem wixF_s : ∀ k, k ≤ 40 → (wixF t n s k < 40 → wat t n s (wixF t n s k) ∧ wixF t n s k < k) ∧ (¬ wixF t n s k < 40 → ∀ i, i < k → ¬ wat t n s i)
  | 0, _ => ⟨fun h => absurd h (by unfold wixF; omega), fun _ i hi => absurd hi (Nat.not_lt_zero _)⟩
  | k + 1, hk => by
    obtain ⟨h1, h2⟩ := wixF_s k (by omega)
    unfold wixF
    by_cases q : wat t n s k
    · rw [if_pos q]; exact ⟨fun _ => ⟨q, by omega⟩, fun z => by omega⟩
    · rw [if_neg q]
      refine ⟨fun z => ⟨(h1 z).1, by have := (h1 z).2; omega⟩, fun z i hi => ?_⟩
      by_cases ei : i = k
      · subst ei; exact q
      · exact h2 z i (by omega)
theorem wix_iff (hi : i < 40) : wat t n s i ↔ wix t n s = i := by
  obtain ⟨h1, h2⟩ := wixF_s (t := t) (n := n) (s := s) 40 (Nat.le_refl _)
  have e : wix t n s = wixF t n s 40 := rfl
  rw [e]
  constructor
  · intro h
    have z : wixF t n s 40 < 40 := Classical.byContradiction (fun z => h2 z i hi h)
    exact wat_u z hi (h1 z).1 h
  · intro h
    have := (h1 (by omega)).1
    rw [h] at this
    exact this
theorem isW_iff (hi : i < 40) : isW t n i p ↔ tkk t n p.1 p.2 = 1001 ∧ wix t n p.1 = i := by
  unfold isW
  rw [wix_iff hi]
theorem cnS_cons_op (h : x ≠ 27) (h2 : x < 100) : cnS (x :: S) = cnS S := by
  show cnS S + (if x = 27 ∨ 100 ≤ x then 1 else 0) = _
  rw [if_neg (by omega)]
  rfl
theorem cnS_cons_mk (h : x = 27 ∨ 100 ≤ x) : cnS (x :: S) = cnS S + 1 := by
  show cnS S + (if x = 27 ∨ 100 ≤ x then 1 else 0) = _
  rw [if_pos h]
/-- pending signs: none or one of times and by, then none or one of plus and less -/
def pdT (l : List Nat) : Prop := l = [] ∨ l = [42] ∨ l = [47]
def pdA (l : List Nat) : Prop := ∃ a b, pdT a ∧ (b = [] ∨ b = [43] ∨ b = [45]) ∧ l = a ++ b
def tpM (S : List Nat) : Prop := S = [] ∨ ∃ m r, S = m :: r ∧ 100 ≤ m
def tpS (S : List Nat) : Prop := S = [] ∨ ∃ m r, S = m :: r ∧ m ≠ 42 ∧ m ≠ 47 ∧ m ≠ 27
theorem tpM.st (h : tpM S) : tpS S := by
  rcases h with h | ⟨m, r, h, hm⟩
  · exact Or.inl h
  · exact Or.inr ⟨m, r, h, by omega, by omega, by omega⟩
theorem endP_s (h : tpS S) : endP S C = (S, C) := by
  rcases h with h | ⟨m, r, h, h1, h2, h3⟩
  · subst h; rfl
  · subst h
    show (if m = 27 then _ else _) = _
    rw [if_neg h3]
theorem popT_s (h : tpS S) : popT S C = (S, C) := by
  rcases h with h | ⟨m, r, h, h1, h2, h3⟩
  · subst h; rfl
  · subst h
    show (if m = 42 ∨ m = 47 then _ else _) = _
    rw [if_neg (by omega)]
theorem popT_p (h : tpS S) (ha : pdT a) : popT (a ++ S) C = (S, C ++ a) := by
  rcases ha with ha | ha | ha <;> subst ha
  · rw [List.nil_append, List.append_nil]; exact popT_s h
  · show popT S (C ++ [42]) = _
    exact popT_s h
  · show popT S (C ++ [47]) = _
    exact popT_s h
theorem popA_s (h : tpM S) : popA S C = (S, C) := by
  rcases h with h | ⟨m, r, h, h1⟩
  · subst h; rfl
  · subst h
    show (if m = 42 ∨ m = 47 ∨ m = 43 ∨ m = 45 then _ else _) = _
    rw [if_neg (by omega)]
theorem popM_s (h : tpM S) : popM S C = (S, C) := by
  rcases h with h | ⟨m, r, h, h1⟩
  · subst h; rfl
  · subst h
    show (if 100 ≤ m then _ else _) = _
    rw [if_pos h1]
theorem pdA_ops (ha : pdA a) : ∀ x, x ∈ a → x = 42 ∨ x = 47 ∨ x = 43 ∨ x = 45 := by
  obtain ⟨b, c, hb, hc, rfl⟩ := ha
  intro x hx
  rcases List.mem_append.mp hx with h | h
  · rcases hb with q | q | q <;> subst q <;> simp at h <;> omega
  · rcases hc with q | q | q <;> subst q <;> simp at h <;> omega
theorem popA_p (h : tpM S) : ∀ a C, (∀ x, x ∈ a → x = 42 ∨ x = 47 ∨ x = 43 ∨ x = 45) → popA (a ++ S) C = (S, C ++ a)
  | [], C, _ => by rw [List.nil_append, List.append_nil]; exact popA_s h
  | x :: a, C, hx => by
    show (if x = 42 ∨ x = 47 ∨ x = 43 ∨ x = 45 then popA (a ++ S) (C ++ [x]) else _) = _
    rw [if_pos (hx x List.mem_cons_self), popA_p h a _ (fun y hy => hx y (List.mem_cons_of_mem _ hy)), List.append_assoc]
    rfl
theorem popM_p (h : tpM S) : ∀ a C, (∀ x, x ∈ a → x = 42 ∨ x = 47 ∨ x = 43 ∨ x = 45) → popM (a ++ S) C = (S, C ++ a)
  | [], C, _ => by rw [List.nil_append, List.append_nil]; exact popM_s h
  | x :: a, C, hx => by
    have := hx x List.mem_cons_self
    show (if 100 ≤ x then _ else popM (a ++ S) (C ++ [x])) = _
    rw [if_neg (by omega), popM_p h a _ (fun y hy => hx y (List.mem_cons_of_mem _ hy)), List.append_assoc]
    rfl
theorem mkS_p : ∀ a, (∀ x, x ∈ a → x = 42 ∨ x = 47 ∨ x = 43 ∨ x = 45) → mkS (a ++ S) = mkS S
  | [], _ => rfl
  | x :: a, hx => by
    have := hx x List.mem_cons_self
    show (if 100 ≤ x then _ else mkS (a ++ S)) = _
    rw [if_neg (by omega), mkS_p a (fun y hy => hx y (List.mem_cons_of_mem _ hy))]
/-! steps -/
theorem Run.open1 (h : tkk t n p.1 p.2 = 40) (ho : ob + cnS S ≠ 6) (r : Run t n kn ob true (nx t n p.1, nj t n p.1) (100 :: S) C o) : Run t n kn ob true p S C o := by
  obtain ⟨k, r⟩ := r
  refine ⟨k + 1, ?_⟩
  show (if tkk t n p.1 p.2 = 1002 then _ else _) = _
  rw [if_neg (by omega), if_pos h, if_neg ho]
  exact r
theorem Run.open1f (h : tkk t n p.1 p.2 = 40) (ho : ob + cnS S = 6) : Run t n kn ob true p S C (.error (4, p.1)) := by
  refine ⟨1, ?_⟩
  show (if tkk t n p.1 p.2 = 1002 then _ else _) = _
  rw [if_neg (by omega), if_pos h, if_pos ho]
theorem Run.pair (h : tkk t n p.1 p.2 = 1001) (hx : wix t n p.1 = 32 ∨ wix t n p.1 = 33) (h2 : tkk t n (nx t n p.1) (nj t n p.1) = 40) (ho : ob + cnS S ≠ 6) (r : Run t n kn ob true (nx t n (nx t n p.1), nj t n (nx t n p.1)) ((wix t n p.1 + 69) :: S) C o) : Run t n kn ob true p S C o := by
  obtain ⟨k, r⟩ := r
  refine ⟨k + 1, ?_⟩
  show (if tkk t n p.1 p.2 = 1002 then _ else _) = _
  rw [if_neg (by omega), if_neg (by omega), if_pos h, if_pos hx, if_pos h2, if_neg ho]
  exact r
theorem Run.pairo (h : tkk t n p.1 p.2 = 1001) (hx : wix t n p.1 = 32 ∨ wix t n p.1 = 33) (h2 : tkk t n (nx t n p.1) (nj t n p.1) = 40) (ho : ob + cnS S = 6) : Run t n kn ob true p S C (.error (4, nx t n p.1)) := by
  refine ⟨1, ?_⟩
  show (if tkk t n p.1 p.2 = 1002 then _ else _) = _
  rw [if_neg (by omega), if_neg (by omega), if_pos h, if_pos hx, if_pos h2, if_pos ho]
theorem Run.pairf (h : tkk t n p.1 p.2 = 1001) (hx : wix t n p.1 = 32 ∨ wix t n p.1 = 33) (h2 : tkk t n (nx t n p.1) (nj t n p.1) ≠ 40) : Run t n kn ob true p S C (.error (1, nx t n p.1)) := by
  refine ⟨1, ?_⟩
  show (if tkk t n p.1 p.2 = 1002 then _ else _) = _
  rw [if_neg (by omega), if_neg (by omega), if_pos h, if_pos hx, if_neg h2]
theorem Run.of (h : tkk t n p.1 p.2 = 1001) (hx : wix t n p.1 = 27) (hk : kn 27 = true) (ho : ob + cnS S ≠ 6) (r : Run t n kn ob true (nx t n p.1, nj t n p.1) (27 :: S) C o) : Run t n kn ob true p S C o := by
  obtain ⟨k, r⟩ := r
  refine ⟨k + 1, ?_⟩
  show (if tkk t n p.1 p.2 = 1002 then _ else _) = _
  rw [if_neg (by omega), if_neg (by omega), if_pos h, if_neg (by omega), if_pos ⟨by rw [hx]; exact hk, by omega⟩, if_pos hx, if_neg ho]
  exact r
theorem Run.off (h : tkk t n p.1 p.2 = 1001) (hx : wix t n p.1 = 27) (hk : kn 27 = true) (ho : ob + cnS S = 6) : Run t n kn ob true p S C (.error (4, p.1)) := by
  refine ⟨1, ?_⟩
  show (if tkk t n p.1 p.2 = 1002 then _ else _) = _
  rw [if_neg (by omega), if_neg (by omega), if_pos h, if_neg (by omega), if_pos ⟨by rw [hx]; exact hk, by omega⟩, if_pos hx, if_pos ho]
theorem Run.word (h : tkk t n p.1 p.2 = 1001) (hi : i < 40) (hx : wix t n p.1 = i) (h1 : i ≠ 32) (h2 : i ≠ 33) (h3 : i ≠ 27) (hk : kn i = true) (r : Run t n kn ob false (nx t n p.1, nj t n p.1) (endP S (C ++ [i])).1 (endP S (C ++ [i])).2 o) : Run t n kn ob true p S C o := by
  obtain ⟨k, r⟩ := r
  refine ⟨k + 1, ?_⟩
  show (if tkk t n p.1 p.2 = 1002 then _ else _) = _
  rw [if_neg (by omega), if_neg (by omega), if_pos h, if_neg (by omega), if_pos ⟨by rw [hx]; exact hk, by omega⟩, if_neg (by omega), hx]
  exact r
theorem Run.wordf (h : tkk t n p.1 p.2 = 1001) (h1 : wix t n p.1 ≠ 32) (h2 : wix t n p.1 ≠ 33) (hk : ¬ (kn (wix t n p.1) = true ∧ wix t n p.1 < 40)) : Run t n kn ob true p S C (.error (1, p.1)) := by
  refine ⟨1, ?_⟩
  show (if tkk t n p.1 p.2 = 1002 then _ else _) = _
  rw [if_neg (by omega), if_neg (by omega), if_pos h, if_neg (by omega), if_neg hk]
theorem Run.num {v : Nat} (h : numF t n 0 10000 p = .ok (v, p')) (r : Run t n kn ob false p' (endP S (C ++ [1000 + v])).1 (endP S (C ++ [1000 + v])).2 o) : Run t n kn ob true p S C o := by
  obtain ⟨k, r⟩ := r
  have hd : tkk t n p.1 p.2 = 1002 := by
    unfold numF at h
    split at h
    · assumption
    · cases h
  refine ⟨k + 1, ?_⟩
  show (if tkk t n p.1 p.2 = 1002 then (match numF t n 0 10000 p with
      | .ok (v, p') => run t n kn ob k false p' (endP S (C ++ [1000 + v])).1 (endP S (C ++ [1000 + v])).2
      | .error e => some (.error e)) else _) = _
  rw [if_pos hd, h]
  exact r
theorem Run.numf {f : Nat × Nat} (hd : tkk t n p.1 p.2 = 1002) (h : numF t n 0 10000 p = .error f) : Run t n kn ob true p S C (.error f) := by
  refine ⟨1, ?_⟩
  show (if tkk t n p.1 p.2 = 1002 then (match numF t n 0 10000 p with
      | .ok (v, p') => run t n kn ob 0 false p' (endP S (C ++ [1000 + v])).1 (endP S (C ++ [1000 + v])).2
      | .error e => some (.error e)) else _) = _
  rw [if_pos hd, h]
theorem Run.else (h1 : tkk t n p.1 p.2 ≠ 1002) (h2 : tkk t n p.1 p.2 ≠ 40) (h3 : tkk t n p.1 p.2 ≠ 1001) : Run t n kn ob true p S C (.error (1, p.1)) := by
  refine ⟨1, ?_⟩
  show (if tkk t n p.1 p.2 = 1002 then _ else _) = _
  rw [if_neg h1, if_neg h2, if_neg h3]
theorem Run.close (h : tkk t n p.1 p.2 = 41) (hm : mkS S = 100 ∨ mkS S = 103 ∨ mkS S = 104) (r : Run t n kn ob false (nx t n p.1, nj t n p.1) (endP (popM S C).1.tail ((popM S C).2 ++ mkC (mkS S))).1 (endP (popM S C).1.tail ((popM S C).2 ++ mkC (mkS S))).2 o) : Run t n kn ob false p S C o := by
  obtain ⟨k, r⟩ := r
  refine ⟨k + 1, ?_⟩
  show (if tkk t n p.1 p.2 = 41 ∧ (mkS S = 100 ∨ mkS S = 103 ∨ mkS S = 104) then _ else _) = _
  rw [if_pos ⟨h, hm⟩]
  exact r
theorem Run.times (h : tkk t n p.1 p.2 = 42 ∨ tkk t n p.1 p.2 = 47) (r : Run t n kn ob true (nx t n p.1, nj t n p.1) (tkk t n p.1 p.2 :: (popT S C).1) (popT S C).2 o) : Run t n kn ob false p S C o := by
  obtain ⟨k, r⟩ := r
  refine ⟨k + 1, ?_⟩
  show (if tkk t n p.1 p.2 = 41 ∧ (mkS S = 100 ∨ mkS S = 103 ∨ mkS S = 104) then _ else _) = _
  rw [if_neg (by omega), if_pos h]
  exact r
theorem Run.plus (h : tkk t n p.1 p.2 = 43 ∨ tkk t n p.1 p.2 = 45) (r : Run t n kn ob true (nx t n p.1, nj t n p.1) (tkk t n p.1 p.2 :: (popA S C).1) (popA S C).2 o) : Run t n kn ob false p S C o := by
  obtain ⟨k, r⟩ := r
  refine ⟨k + 1, ?_⟩
  show (if tkk t n p.1 p.2 = 41 ∧ (mkS S = 100 ∨ mkS S = 103 ∨ mkS S = 104) then _ else _) = _
  rw [if_neg (by omega), if_neg (by omega), if_pos h]
  exact r
def noOp (c : Nat) : Prop := c ≠ 42 ∧ c ≠ 47 ∧ c ≠ 43 ∧ c ≠ 45
theorem Run.comma (h : tkk t n p.1 p.2 = 44) (hm : mkS S = 101 ∨ mkS S = 102) (r : Run t n kn ob true (nx t n p.1, nj t n p.1) ((mkS S + 2) :: (popM S C).1.tail) (popM S C).2 o) : Run t n kn ob false p S C o := by
  obtain ⟨k, r⟩ := r
  refine ⟨k + 1, ?_⟩
  show (if tkk t n p.1 p.2 = 41 ∧ (mkS S = 100 ∨ mkS S = 103 ∨ mkS S = 104) then _ else _) = _
  rw [if_neg (by omega), if_neg (by omega), if_neg (by omega), if_pos hm, if_pos h]
  exact r
theorem Run.commaf (hn : noOp (tkk t n p.1 p.2)) (h : tkk t n p.1 p.2 ≠ 44) (hm : mkS S = 101 ∨ mkS S = 102) : Run t n kn ob false p S C (.error (1, p.1)) := by
  obtain ⟨n1, n2, n3, n4⟩ := hn
  refine ⟨1, ?_⟩
  show (if tkk t n p.1 p.2 = 41 ∧ (mkS S = 100 ∨ mkS S = 103 ∨ mkS S = 104) then _ else _) = _
  rw [if_neg (by omega), if_neg (by omega), if_neg (by omega), if_pos hm, if_neg h]
theorem Run.closef (hn : noOp (tkk t n p.1 p.2)) (h : tkk t n p.1 p.2 ≠ 41) (hm : mkS S = 100 ∨ mkS S = 103 ∨ mkS S = 104) : Run t n kn ob false p S C (.error (1, p.1)) := by
  obtain ⟨n1, n2, n3, n4⟩ := hn
  refine ⟨1, ?_⟩
  show (if tkk t n p.1 p.2 = 41 ∧ (mkS S = 100 ∨ mkS S = 103 ∨ mkS S = 104) then _ else _) = _
  rw [if_neg (by omega), if_neg (by omega), if_neg (by omega), if_neg (by omega), if_neg (by omega)]
theorem Run.done (hn : noOp (tkk t n p.1 p.2)) (hm : mkS S = 0) : Run t n kn ob false p S C (.ok (p, (popM S C).2)) := by
  obtain ⟨n1, n2, n3, n4⟩ := hn
  refine ⟨1, ?_⟩
  show (if tkk t n p.1 p.2 = 41 ∧ (mkS S = 100 ∨ mkS S = 103 ∨ mkS S = 104) then _ else _) = _
  rw [if_neg (by omega), if_neg (by omega), if_neg (by omega), if_neg (by omega), if_pos hm]
end MA
/-! rows that can be reckoned -/
def ndp (m u : Nat) : Nat := if psh u then m + 1 else if una u then m else m - 1
def dpl : Nat → List Nat → Nat
  | m, [] => m
  | m, u :: r => dpl (ndp m u) r
def okl (H : Nat) : Nat → List Nat → Prop
  | _, [] => True
  | m, u :: r => uok u ∧ (una u → 1 ≤ m) ∧ (¬ psh u → ¬ una u → 2 ≤ m) ∧ ndp m u ≤ H ∧ okl H (ndp m u) r
theorem dpl_app : ∀ (a b : List Nat) (m : Nat), dpl m (a ++ b) = dpl (dpl m a) b
  | [], _, _ => rfl
  | u :: a, b, m => dpl_app a b (ndp m u)
theorem okl_app {H : Nat} : ∀ (a b : List Nat) (m : Nat), okl H m (a ++ b) ↔ okl H m a ∧ okl H (dpl m a) b
  | [], b, m => ⟨fun h => ⟨trivial, h⟩, fun h => h.2⟩
  | u :: a, b, m => by
    have := okl_app a b (ndp m u) (H := H)
    show (uok u ∧ (una u → 1 ≤ m) ∧ (¬ psh u → ¬ una u → 2 ≤ m) ∧ ndp m u ≤ H ∧ okl H (ndp m u) (a ++ b)) ↔ (uok u ∧ (una u → 1 ≤ m) ∧ (¬ psh u → ¬ una u → 2 ≤ m) ∧ ndp m u ≤ H ∧ okl H (ndp m u) a) ∧ okl H (dpl (ndp m u) a) b
    rw [this]
    exact ⟨fun ⟨a, b, c, d, e, f⟩ => ⟨⟨a, b, c, d, e⟩, f⟩, fun ⟨⟨a, b, c, d, e⟩, f⟩ => ⟨a, b, c, d, e, f⟩⟩
theorem okl_mono {H H' : Nat} (h : H ≤ H') : ∀ (a : List Nat) (m : Nat), okl H m a → okl H' m a
  | [], _, _ => trivial
  | u :: a, m, ⟨h1, h2, h3, h4, h5⟩ => ⟨h1, h2, h3, by omega, okl_mono h a _ h5⟩
/-- it leaves one more, and piles up no more than B -/
def WE (B : Nat) (e : List Nat) : Prop := ∀ m, dpl m e = m + 1 ∧ okl (m + B) m e
def alw (kn : Nat → Bool) (u : Nat) : Prop := (u < 40 ∧ kn u = true) ∨ u ∈ [32, 33, 42, 43, 45, 47] ∨ (1000 ≤ u ∧ u ≤ 10999)
theorem WE.mono {B B' : Nat} {e : List Nat} (h : WE B e) (hb : B ≤ B') : WE B' e := fun m => ⟨(h m).1, okl_mono (by omega) e m (h m).2⟩
theorem WE.atom {u : Nat} (h : psh u) (hu : uok u) : WE 1 [u] := fun m => by
  have e : ndp m u = m + 1 := if_pos h
  refine ⟨e, hu, fun q => ?_, fun q => absurd h q, by rw [e]; omega, trivial⟩
  rcases q with q | q <;> rcases h with h | h <;> omega
theorem WE.bin {B : Nat} {a b : List Nat} {u : Nat} (ha : WE (B + 1) a) (hb : WE B b) (h1 : ¬ psh u) (h2 : ¬ una u) (hu : uok u) : WE (B + 1) (a ++ b ++ [u]) := fun m => by
  obtain ⟨a1, a2⟩ := ha m
  obtain ⟨b1, b2⟩ := hb (m + 1)
  have e : ndp (m + 2) u = m + 1 := by unfold ndp; rw [if_neg h1, if_neg h2]; omega
  have d2 : dpl m (a ++ b) = m + 2 := by rw [dpl_app, a1, b1]
  refine ⟨by rw [dpl_app, d2]; exact e, (okl_app _ _ _).mpr ⟨(okl_app _ _ _).mpr ⟨a2, by rw [a1]; exact okl_mono (by omega) b _ b2⟩, ?_⟩⟩
  rw [d2]
  exact ⟨hu, fun q => absurd q h2, fun _ _ => by omega, by rw [e]; omega, trivial⟩
theorem WE.una {B : Nat} {a : List Nat} {u : Nat} (ha : WE B a) (hB : 1 ≤ B) (h1 : ¬ psh u) (h2 : una u) (hu : uok u) : WE B (a ++ [u]) := fun m => by
  obtain ⟨a1, a2⟩ := ha m
  have e : ndp (m + 1) u = m + 1 := by unfold ndp; rw [if_neg h1, if_pos h2]
  refine ⟨by rw [dpl_app, a1]; exact e, (okl_app _ _ _).mpr ⟨a2, ?_⟩⟩
  rw [a1]
  exact ⟨hu, fun _ => by omega, fun _ q => absurd h2 q, by rw [e]; omega, trivial⟩
