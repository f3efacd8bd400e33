/-! statements, as they change what is told: the lake A (A 9 b: where boat b begins), the codes of its sums C, where each sum begins in them -/
abbrev qL : Type := qT × List Nat × (Nat → Nat)
abbrev sOut : Type := Except (Nat × Nat) (qL × (Nat × Bool))
def qfc (A : qT) (b : Nat) : Nat := A 9 b
/-- the kind that a letter tells, and 1; 0 if it tells none -/
def kdl (c : Nat) : Nat := if c = 104 then 1 else if c = 115 then 2 else if c = 100 then 3 else if c = 119 then 4 else if c = 108 then 5 else 0
def nmE (f g : Nat → Nat) : Prop := ∀ j, j < 6 → f j = g j
/-- row i of a table is laid anew -/
def frw (A : qT) (i : Nat) (g : Nat → Nat) : qT := fun a b => if a = i then g b else A a b
def L0 : qL := (fun a _ => if a = 0 then 0 else 0, [], fun _ => 0)
def A0 : qT := fun a b => if a = 0 ∧ b = 5 then 5 else 0
/-- one more row, of the letters from s on -/
def rowA (t : Nat → Nat) (A : qT) (s : Nat) : qT := fupd (frw A 1 (fun c => if qN A ≤ c then kdl (t (s + (c - qN A))) - 1 else A 1 c)) 0 1 (qR A + 1)
def nmA (t : Nat → Nat) (n : Nat) (A : qT) (z w s : Nat) : qT := frw A 7 (fun k => if 36 * z + 6 * w ≤ k ∧ k < 36 * z + 6 * w + 6 then ltr t n s (k - (36 * z + 6 * w)) else A 7 k)
def boatA (t : Nat → Nat) (n : Nat) (A : qT) (s tr c : Nat) : qT := fupd (fupd (fupd (nmA t n A 0 (qB A) s) 2 (qB A) tr) 9 (qB A) c) 0 2 (qB A + 1)
def handA (t : Nat → Nat) (n : Nat) (A : qT) (s k : Nat) : qT := fupd (fupd (nmA t n A 1 (qH A) s) 3 (qH A) k) 0 3 (qH A + 1)
def skyA (A : qT) (hr k : Nat) : qT := fupd (fupd (fupd A 5 (qK A) hr) 6 (qK A) k) 0 4 (qK A + 1)
def sumA (A : qT) (p : Nat) (C C' : List Nat) : qT := fupd (frw A (10 + p) (fun i => utd (C'.getD (C.length + i) 0))) 8 p (C'.length - C.length)
/-- a name at p that nobody bears yet -/
noncomputable def nnF (t : Nat → Nat) (n : Nat) (A : qT) (p : Nat × Bool) : Except (Nat × Nat) (Nat × Bool) := match nmF t n p with
  | .error f => .error f
  | .ok _ => @ite _ ((∃ w, w < qB A ∧ nmE (qnm A 0 w) (ltr t n p.1)) ∨ ∃ w, w < qH A ∧ nmE (qnm A 1 w) (ltr t n p.1)) (Classical.propDecidable _) (.error (3, p.1)) (.ok (nx t n p.1, nj t n p.1))
/-- who it is: the first of the kind z that bears the name at p -/
def knR (t : Nat → Nat) (n : Nat) (A : qT) (z k : Nat) (p : Nat × Bool) (o : Except (Nat × Nat) (Nat × (Nat × Bool))) : Prop := (∃ f, nmF t n p = .error f ∧ o = .error f) ∨ (nmF t n p = .ok () ∧ ((∃ w, w < k ∧ nmE (qnm A z w) (ltr t n p.1) ∧ (∀ w', w' < w → ¬ nmE (qnm A z w') (ltr t n p.1)) ∧ o = .ok (w, nx t n p.1, nj t n p.1)) ∨ ((∀ w, w < k → ¬ nmE (qnm A z w) (ltr t n p.1)) ∧ o = .error (3, p.1))))
/-- one statement (its word at p, s of its row); what follows is asked by the caller -/
def bdR {α : Type} (o : Except (Nat × Nat) α) (R : α → sOut → Prop) (out : sOut) : Prop := match o with
  | .error f => out = .error f
  | .ok a => R a out
def boR (t : Nat → Nat) (n : Nat) (L : qL) (p : Nat × Bool) (out : sOut) : Prop := bdR (nnF t n L.1 (nx t n p.1, nj t n p.1)) (fun p1 out => bdR (wdF t n 3 p1) (fun p2 out => bdR (numF t n 0 100 p2) (fun a3 out => bdR (wdF t n 4 a3.2) (fun p4 out => bdR (numF t n 0 (qC L.1) p4) (fun a5 out => bdR (numF t n 0 (qR L.1) a5.2) (fun a6 out => (qkd L.1 (qC L.1 * a6.1 + a5.1) ≠ 0 ∧ out = .error (2, a5.2.1)) ∨ (qkd L.1 (qC L.1 * a6.1 + a5.1) = 0 ∧ out = .ok ((boatA t n L.1 (nx t n p.1) a3.1 (qC L.1 * a6.1 + a5.1), L.2), a6.2))) out) out) out) out) out) out
def haR (t : Nat → Nat) (n : Nat) (L : qL) (p : Nat × Bool) (out : sOut) : Prop := bdR (nnF t n L.1 (nx t n p.1, nj t n p.1)) (fun p1 out => bdR (wdF t n 6 p1) (fun p2 out => bdR (numF t n 0 10 p2) (fun a3 out => out = .ok ((handA t n L.1 (nx t n p.1) a3.1, L.2), a3.2)) out) out) out
def liR (t : Nat → Nat) (n : Nat) (L : qL) (p : Nat × Bool) (out : sOut) : Prop := ∃ o1, knR t n L.1 0 (qB L.1) (nx t n p.1, nj t n p.1) o1 ∧ bdR o1 (fun a1 out => ∃ o2, knR t n L.1 1 (qH L.1) a1.2 o2 ∧ bdR o2 (fun a2 out => bdR (numF t n 0 100 a2.2) (fun a3 out => out = .ok ((fupd L.1 4 (6 * a1.1 + a2.1) a3.1, L.2), a3.2)) out) out) out
def skR (t : Nat → Nat) (n : Nat) (L : qL) (p : Nat × Bool) (k : Nat) (out : sOut) : Prop := bdR (wdF t n 4 (nx t n p.1, nj t n p.1)) (fun p1 out => bdR (numF t n 0 100 p1) (fun a2 out => ((∃ w, w < qK L.1 ∧ qsh L.1 w = a2.1) ∧ out = .error (2, p1.1)) ∨ ((∀ w, w < qK L.1 → qsh L.1 w ≠ a2.1) ∧ out = .ok ((skyA L.1 a2.1 k, L.2), a2.2))) out) out
def roR (t : Nat → Nat) (n : Nat) (L : qL) (p : Nat × Bool) (out : sOut) : Prop := ((¬ (tkk t n (nx t n p.1) (nj t n p.1) = 1001 ∧ tks t n (nx t n p.1) - nx t n p.1 = qC L.1 ∧ ∀ i, i < qC L.1 → kdl (t (nx t n p.1 + i)) ≠ 0) ∧ out = .error (1, nx t n p.1)) ∨ ((tkk t n (nx t n p.1) (nj t n p.1) = 1001 ∧ tks t n (nx t n p.1) - nx t n p.1 = qC L.1 ∧ ∀ i, i < qC L.1 → kdl (t (nx t n p.1 + i)) ≠ 0) ∧ out = .ok ((rowA t L.1 (nx t n p.1), L.2), (nx t n (nx t n p.1), nj t n (nx t n p.1)))))
def suR (t : Nat → Nat) (n : Nat) (L : qL) (p : Nat × Bool) (z : Nat) (out : sOut) : Prop := ∃ o, Run t n (knT (decide (z = 0))) 0 true (nx t n p.1, nj t n p.1) [] L.2.1 o ∧ bdR o (fun a out => L.2.1.length < a.2.length ∧ out = .ok ((sumA L.1 z L.2.1 a.2, a.2, fun y => if y = z then L.2.1.length else L.2.2 y), a.1)) out
theorem bdR_ok {α : Type} {o : Except (Nat × Nat) α} {a : α} {R : α → sOut → Prop} {out : sOut} (q : o = .ok a) (r : R a out) : bdR o R out := by rw [q]; exact r
theorem bdR_er {α : Type} {o : Except (Nat × Nat) α} {f : Nat × Nat} {R : α → sOut → Prop} (q : o = .error f) : bdR o R (.error f) := by rw [q]; exact rfl
def StI (t : Nat → Nat) (n : Nat) (L : qL) (p : Nat × Bool) (out : sOut) : Prop :=
  (isW t n 0 p ∧ bdR (numF t n 3 9 (nx t n p.1, nj t n p.1)) (fun a out => out = .ok ((fupd L.1 0 0 a.1, L.2), a.2)) out) ∨
  (isW t n 1 p ∧ ((qR L.1 = 6 ∧ out = .error (5, p.1)) ∨ (qR L.1 ≠ 6 ∧ roR t n L p out))) ∨
  (isW t n 2 p ∧ ((qB L.1 = 6 ∧ out = .error (5, p.1)) ∨ (qB L.1 ≠ 6 ∧ boR t n L p out))) ∨
  (isW t n 5 p ∧ ((qH L.1 = 6 ∧ out = .error (5, p.1)) ∨ (qH L.1 ≠ 6 ∧ haR t n L p out))) ∨
  (isW t n 7 p ∧ liR t n L p out) ∨
  (∃ k, k < 4 ∧ isW t n (8 + k) p ∧ ((qK L.1 = 10 ∧ out = .error (5, p.1)) ∨ (qK L.1 ≠ 10 ∧ skR t n L p k out))) ∨
  (∃ z, z < 3 ∧ isW t n (12 + z) p ∧ ((qsl L.1 z ≠ 0 ∧ out = .error (5, p.1)) ∨ (qsl L.1 z = 0 ∧ suR t n L p z out))) ∨
  (isW t n 15 p ∧ bdR (numF t n 1 100 (nx t n p.1, nj t n p.1)) (fun a out => out = .ok ((fupd L.1 0 5 a.1, L.2), a.2)) out) ∨
  ((∀ i, i < 16 → i ≠ 3 → i ≠ 4 → i ≠ 6 → ¬ isW t n i p) ∧ out = .error (1, p.1))
def StR (t : Nat → Nat) (n : Nat) (first : Prop) (L : qL) (p : Nat × Bool) (out : sOut) : Prop :=
  if tkk t n p.1 p.2 ≠ 1001 then out = .error (1, p.1) else
  (¬ (isW t n 0 p ↔ first) ∧ out = .error (1, p.1)) ∨ ((isW t n 0 p ↔ first) ∧ StI t n L p out)
/-- what is told while it is read keeps to this -/
def qP (L : qL) (s : Nat) : Prop := qG L.1 ∧ (∀ b, b < qB L.1 → qfc L.1 b < qN L.1 ∧ qkd L.1 (qfc L.1 b) = 0) ∧ (∀ i, i < 36 → L.1 4 i ≤ 99) ∧ L.2.1.length ≤ s ∧ ∀ z, z < 3 → L.2.2 z + qsl L.1 z ≤ L.2.1.length ∧ ∀ i, i < qsl L.1 z → qst L.1 z i = utd (L.2.1.getD (L.2.2 z + i) 0) ∧ alw (knT false) (L.2.1.getD (L.2.2 z + i) 0)
abbrev lOut : Type := Except (Nat × Nat) (qL × Nat)
def LkR (t : Nat → Nat) (n : Nat) : Nat → Nat → qL → (Nat × Bool) → lOut → Prop
  | 0, _, _, _, _ => False
  | k + 1, c, L, p, out => if tkk t n p.1 p.2 = 1000 then (if c = 0 then out = .error (1, p.1) else out = .ok (L, c)) else if c = 60 then out = .error (5, p.1) else ∃ o, StR t n (c = 0) L p o ∧ (match o with
    | .error f => out = .error f
    | .ok (L', p') => qP L' p'.1 ∧ p.1 < p'.1 ∧ (match sgF t n 59 p' with
      | .error f => out = .error f
      | .ok p'' => LkR t n k (c + 1) L' p'' out))
/-- what the class's lake at b tells while it is read: c statements -/
def LCp (L : qL) (c b : Nat) (h : gH) : Prop :=
  h.1 b 11 = nI (qC L.1) ∧ h.1 b 12 = nI (qR L.1) ∧ h.1 b 13 = nI (qB L.1) ∧ h.1 b 14 = nI (qH L.1) ∧ h.1 b 15 = nI (qK L.1) ∧ h.1 b 16 = nI (qQ L.1) ∧ h.1 b 17 = nI c ∧
  (∀ x, x < qN L.1 → h.1 (b + 1) x = nI (qkd L.1 x)) ∧ (∀ w, w < qB L.1 → h.1 (b + 3) w = nI (p32 (qnm L.1 0 w) 6) ∧ h.1 (b + 4) w = nI (qfc L.1 w) ∧ h.1 (b + 5) w = nI (qft L.1 w)) ∧
  (∀ w, w < qH L.1 → h.1 (b + 6) w = nI (p32 (qnm L.1 1 w) 6) ∧ h.1 (b + 7) w = nI (qsk L.1 w)) ∧ (∀ i, i < 36 → h.1 (b + 8) i = nI (L.1 4 i)) ∧
  (∀ w, w < qK L.1 → h.1 (b + 9) w = nI (qsh L.1 w) ∧ h.1 (b + 10) w = nI (qsq L.1 w)) ∧ CDs (b + 11) L.2.1 h ∧ (∀ z, z < 3 → h.1 (b + 13) z = nI (L.2.2 z) ∧ h.1 (b + 14) z = nI (L.2.2 z + qsl L.1 z))
/-- what the model's tells -/
def LMp (L : qL) (h : gH) : Prop :=
  h.1 119 0 = nI (qC L.1) ∧ h.1 119 1 = nI (qR L.1) ∧ h.1 119 2 = nI (qB L.1) ∧ h.1 119 3 = nI (qH L.1) ∧ h.1 119 4 = nI (qK L.1) ∧ h.1 126 0 = nI (qQ L.1) ∧
  (∀ x, x < qN L.1 → h.1 121 (8 * (x / qC L.1) + x % qC L.1) = nI (mkd (qkd L.1 x))) ∧ (∀ w, w < qB L.1 → h.2.1 120 w = lN (p27 (qnm L.1 0 w) 6) ∧ h.1 122 (2 * w + 1) = nI (qfc L.1 w) ∧ h.1 122 (2 * w) = nI (qft L.1 w)) ∧
  (∀ w, w < qH L.1 → h.2.1 120 (6 + w) = lN (p27 (qnm L.1 1 w) 6) ∧ h.1 123 w = nI (qsk L.1 w)) ∧ (∀ i, i < 36 → h.1 124 i = nI (L.1 4 i)) ∧
  (∀ w, w < qK L.1 → h.1 125 (2 * w) = nI (qsh L.1 w) ∧ h.1 125 (2 * w + 1) = nI (qsq L.1 w)) ∧ (∀ z, z < 3 → if qsl L.1 z = 0 then h.1 127 z = -1 else (h.1 127 z = nI (L.2.2 z) ∧ h.1 128 z = nI (L.2.2 z + qsl L.1 z))) ∧
  h.1 82 60 = nI L.2.1.length ∧ ∀ i, i < L.2.1.length → h.1 129 i = nI (utd (L.2.1.getD i 0))
