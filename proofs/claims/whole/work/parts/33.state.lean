abbrev qT : Type := Nat → Nat → Nat
/-! a lake, told as numbers -/
def qC (A : qT) : Nat := A 0 0
def qR (A : qT) : Nat := A 0 1
def qB (A : qT) : Nat := A 0 2
def qH (A : qT) : Nat := A 0 3
def qK (A : qT) : Nat := A 0 4
def qQ (A : qT) : Nat := A 0 5
def qN (A : qT) : Nat := qC A * qR A
def qkd (A : qT) (c : Nat) : Nat := A 1 c
def qft (A : qT) (b : Nat) : Nat := A 2 b
def qsk (A : qT) (k : Nat) : Nat := A 3 k
def qlk (A : qT) (b k : Nat) : Nat := A 4 (6 * b + k)
def qsh (A : qT) (k : Nat) : Nat := A 5 k
def qsq (A : qT) (k : Nat) : Nat := A 6 k
/-- letters of the boats (z = 0), of the hands (z = 1) -/
def qnm (A : qT) (z w j : Nat) : Nat := A 7 (36 * z + 6 * w + j)
def qsl (A : qT) (p : Nat) : Nat := A 8 p
def qst (A : qT) (p i : Nat) : Nat := A (10 + p) i
def mkd (k : Nat) : Nat := if k = 4 then 9 else k
def adf (a b : Nat) : Nat := (a - b) + (b - a)
def qds (A : qT) (a b : Nat) : Nat := adf (a % qC A) (b % qC A) + adf (a / qC A) (b / qC A)
/-- how far the nearest harbour among the first k cells is -/
def qhm (A : qT) (c : Nat) : Nat → Nat
  | 0 => 99
  | k + 1 => if qkd A k = 0 ∧ qds A k c < qhm A c k then qds A k c else qhm A c k
/-- words of the tokens, as the class has them -/
def twd (t : Nat) : Nat := [0, 43, 45, 42, 47, 32, 33, 16, 17, 18, 19, 20, 6, 21, 22, 3, 23].getD t 0
def tcc (t : Nat) : Int32 := if 1000 ≤ t then nI (t - 1000) else -1 - nI (twd t)
def tok (t : Nat) : Prop := (1 ≤ t ∧ t ≤ 16) ∨ (1000 ≤ t ∧ t ≤ 10999)
def dep (f : Nat → Nat) : Nat → Nat
  | 0 => 0
  | i + 1 => if f i < 7 then dep f i - 1 else dep f i + 1
/-- a row of tokens that can be reckoned -/
def twf (f : Nat → Nat) (n : Nat) : Prop := (∀ i, i < n → tok (f i) ∧ (f i < 7 → 2 ≤ dep f i) ∧ dep f (i + 1) ≤ 64) ∧ (0 < n → dep f n = 1)
/-- letters of a name: some, then none -/
def nwf (f : Nat → Nat) : Prop := (∀ j, j < 6 → f j ≤ 26) ∧ f 0 ≠ 0 ∧ ∀ j, j < 5 → f j = 0 → f (j + 1) = 0
def p32 (f : Nat → Nat) : Nat → Nat
  | 0 => 0
  | j + 1 => 32 * p32 f j + f j
def p27 (f : Nat → Nat) : Nat → Nat
  | 0 => 0
  | j + 1 => if f j = 0 then p27 f j else 27 * p27 f j + f j
def qG (A : qT) : Prop :=
  ((qC A = 0 ∧ qR A = 0) ∨ (3 ≤ qC A ∧ qC A ≤ 8 ∧ qR A ≤ 6)) ∧ qB A ≤ 6 ∧ qH A ≤ 6 ∧ qK A ≤ 10 ∧ 1 ≤ qQ A ∧ qQ A ≤ 99 ∧
  (∀ c, c < qN A → qkd A c ≤ 4) ∧ (∀ b, b < qB A → qft A b ≤ 99) ∧ (∀ k, k < qH A → qsk A k ≤ 9) ∧ (∀ b k, b < qB A → k < qH A → qlk A b k ≤ 99) ∧
  (∀ k, k < qK A → qsh A k ≤ 99 ∧ qsq A k ≤ 3) ∧ (∀ b, b < qB A → nwf (qnm A 0 b)) ∧ (∀ k, k < qH A → nwf (qnm A 1 k)) ∧ (∀ p, p < 3 → qsl A p ≤ 1600 ∧ twf (qst A p) (qsl A p) ∧ (p = 0 → ∀ i, i < qsl A p → qst A p i ≠ 15 ∧ qst A p i ≠ 16))
/-- the class's lake at cell k tells A -/
def LC (A : qT) (k : Nat) (h : gH) : Prop :=
  h.1 k 11 = nI (qC A) ∧ h.1 k 12 = nI (qR A) ∧ h.1 k 13 = nI (qB A) ∧ h.1 k 14 = nI (qH A) ∧ h.1 k 15 = nI (qK A) ∧ h.1 k 16 = nI (qQ A) ∧
  (∀ c, c < qN A → h.1 (k + 1) c = nI (qkd A c)) ∧ (∀ c, c < qN A → h.1 (k + 2) c = nI (qhm A c (qN A))) ∧
  (∀ b, b < qB A → h.1 (k + 3) b = nI (p32 (qnm A 0 b) 6)) ∧ (∀ b, b < qB A → h.1 (k + 5) b = nI (qft A b)) ∧ (∀ j, j < qH A → h.1 (k + 6) j = nI (p32 (qnm A 1 j) 6)) ∧
  (∀ j, j < qH A → h.1 (k + 7) j = nI (qsk A j)) ∧ (∀ b j, b < qB A → j < qH A → h.1 (k + 8) (6 * b + j) = nI (qlk A b j)) ∧
  (∀ j, j < qK A → h.1 (k + 9) j = nI (qsh A j)) ∧ (∀ j, j < qK A → h.1 (k + 10) j = nI (qsq A j)) ∧
  (∀ p, p < 3 → ∃ o, o + qsl A p ≤ 1600 ∧ h.1 (k + 13) p = nI o ∧ h.1 (k + 14) p = nI (o + qsl A p) ∧ ∀ i, i < qsl A p → h.1 (k + 12) (o + i) = tcc (qst A p i))
/-- the model's lake -/
def LM (A : qT) (h : gH) : Prop :=
  h.1 119 5 = nI (qC A) ∧ h.1 119 6 = nI (qR A) ∧ h.1 119 7 = nI (qB A) ∧ h.1 119 8 = nI (qH A) ∧ h.1 119 9 = nI (qK A) ∧ h.1 126 1 = nI (qQ A) ∧
  (∀ c, c < qN A → h.1 121 (48 + 8 * (c / qC A) + c % qC A) = nI (mkd (qkd A c))) ∧
  (∀ b, b < qB A → h.2.1 120 (12 + b) = lN (p27 (qnm A 0 b) 6)) ∧ (∀ b, b < qB A → h.1 122 (12 + 2 * b) = nI (qft A b)) ∧ (∀ j, j < qH A → h.2.1 120 (18 + j) = lN (p27 (qnm A 1 j) 6)) ∧
  (∀ j, j < qH A → h.1 123 (6 + j) = nI (qsk A j)) ∧ (∀ b j, b < qB A → j < qH A → h.1 124 (36 + (6 * b + j)) = nI (qlk A b j)) ∧
  (∀ j, j < qK A → h.1 125 (20 + 2 * j) = nI (qsh A j)) ∧ (∀ j, j < qK A → h.1 125 (21 + 2 * j) = nI (qsq A j)) ∧
  (∀ p, p < 3 → if qsl A p = 0 then h.1 127 (3 + p) = -1 else ∃ o, o + qsl A p ≤ 1600 ∧ h.1 127 (3 + p) = nI o ∧ h.1 128 (3 + p) = nI (o + qsl A p) ∧ ∀ i, i < qsl A p → h.1 129 (1600 + (o + i)) = nI (qst A p i)) ∧
  h.1 82 58 = (if qC A = 0 then 0 else 1)
/-! what acts change -/
def fH (F : qT) : Nat := F 0 0
def fP (F : qT) : Nat := F 0 1
def fN (F : qT) : Nat := F 0 2
def fc (F : qT) (b : Nat) : Nat := F 1 b
def ft (F : qT) (b : Nat) : Nat := F 2 b
def fb (F : qT) (b : Nat) : Nat := F 3 b
/-- which hand a boat has, and 1; 0 if none -/
def fh (F : qT) (b : Nat) : Nat := F 4 b
def fka (F : qT) (i : Nat) : Nat := F 5 i
def fkb (F : qT) (i : Nat) : Nat := F 6 i
def fkc (F : qT) (i : Nat) : Nat := F 7 i
def fkw (F : qT) (i : Nat) : Nat := F 8 i
def fG (A F : qT) : Prop := fH F ≤ 999 ∧ fP F ≤ 999999 ∧ fN F ≤ 40 ∧ (∀ b, b < qB A → fc F b < qN A ∧ qkd A (fc F b) ≠ 4 ∧ ft F b ≤ 99 ∧ fb F b ≤ 99 ∧ fh F b ≤ qH A) ∧ (∀ i, i < fN F → fka F i ≤ 999 ∧ fkb F i < 6 ∧ fkc F i < 48 ∧ fkw F i ≤ 1)
def FC (B : Nat) (F : qT) (T : Nat) (x : Nat → Int32) : Prop :=
  x 0 = nI (fH F) ∧ x 1 = nI (fP F) ∧ x 2 = nI T ∧ fN F = min 40 T ∧ (∀ b, b < B → x (3 + b) = nI (fc F b) ∧ x (9 + b) = nI (ft F b) ∧ x (15 + b) = nI (fb F b) ∧ x (21 + b) = nI (fh F b) - 1) ∧
  (∀ i, i < fN F → x (27 + (T - fN F + i) % 40) = nI (fka F i * 1024 + fkb F i * 128 + fkc F i * 2 + fkw F i))
def FM (B : Nat) (F : qT) (y : Nat → Int32) : Prop :=
  y 0 = nI (fH F) ∧ y 1 = nI (fP F) ∧ y 26 = nI (fN F) ∧ (∀ b, b < B → y (2 + 4 * b) = nI (fc F b) ∧ y (2 + 4 * b + 1) = nI (ft F b) ∧ y (2 + 4 * b + 2) = nI (fb F b) ∧ y (2 + 4 * b + 3) = nI (fh F b) - 1) ∧
  (∀ i, i < fN F → y (27 + 4 * i) = nI (fka F i) ∧ y (27 + 4 * i + 1) = nI (fkb F i) ∧ y (27 + 4 * i + 2) = nI (fkc F i) ∧ y (27 + 4 * i + 3) = nI (fkw F i))
/-- the acts that can be undone: the newest at w, u of them -/
def RU (n : Nat) (A : qT) (h : gH) : Prop := ∃ w u, w < 20 ∧ u ≤ 20 ∧ h.1 6 2 = nI w ∧ h.1 82 81 = nI w ∧ h.1 6 4 = nI u ∧ h.1 82 80 = nI u ∧
  ∀ i, i < u → ∃ F T, T ≤ 300 * n ∧ fG A F ∧ FC (qB A) F T (h.1 (9 + (w + 20 - i) % 20)) ∧ FM (qB A) F (fun j => h.1 142 (187 * ((w + 20 - i) % 20) + j))
/-- the words, letter by letter -/
def wtb : List (List Nat) := [[12, 1, 11, 5], [18, 15, 23], [2, 15, 1, 20], [20, 18, 21, 19, 20], [1, 20], [8, 1, 14, 4], [19, 11, 9, 12, 12], [12, 9, 11, 5, 19], [3, 1, 12, 13], [18, 1, 9, 14], [6, 15, 7], [19, 20, 15, 18, 13], [4, 18, 5, 1, 4], [7, 18, 15, 23, 19], [6, 1, 12, 12, 19], [3, 15, 1, 24], [4, 5, 16, 20, 8], [23, 18, 5, 3, 11], [8, 15, 13, 5], [19, 11, 25], [2, 1, 12, 11, 19], [1, 8, 5, 1, 4], [2, 15, 12, 4], [6, 5, 1, 18], [14, 21, 13, 2, 5, 18], [1, 3, 18, 15, 19, 19], [4, 15, 23, 14], [2, 15, 1, 20, 19], [15, 18], [1, 14, 4], [14, 15, 20], [1, 12, 12], [13, 9, 14], [13, 1, 24], [6, 9, 18, 19, 20], [12, 1, 19, 20], [15, 6, 20, 5, 14], [20, 15, 20, 1, 12], [13, 15, 19, 20], [12, 5, 1, 19, 20]]
def wlt (i j : Nat) : Nat := (wtb.getD i []).getD j 0
def wln (i : Nat) : Nat := (wtb.getD i []).length
/-- which of them the words of questions are -/
def wqt (i : Nat) : Nat := [34, 35, 36, 37, 38, 39, 30, 29, 28, 31, 32, 33, 24, 25, 26, 16, 17, 18, 12, 3, 27].getD i 0
/-- the cells that hold the words: no call changes them -/
def gWds : List Nat := [3, 85, 86, 87, 88, 89, 90, 91, 92, 93, 94, 95, 96, 97, 98, 99, 100, 101, 102, 103, 104, 105, 106, 107, 108, 109, 110, 111, 112, 113, 114, 115, 116, 117, 118, 143, 144, 145, 146, 147, 148, 149, 150, 151, 152, 153, 154, 155, 156, 157, 158, 159, 160, 161, 162, 163]
def RW (h : gH) : Prop := (∀ i, i < 40 → h.1 3 i = nI (p32 (wlt i) 6)) ∧ (∀ i, i < 34 → ∀ j, j < wln i → h.1 (85 + i) j = nI (96 + wlt i j)) ∧ (∀ i, i < 21 → ∀ j, j < wln (wqt i) → h.1 (143 + i) j = nI (96 + wlt (wqt i) j))
theorem gWds_c : ∀ k, k ∈ gWds → k ∈ gRc := by decide
theorem gWds_n : ∀ k, k ∈ gWds → k ≠ 6 ∧ k ≠ 7 ∧ (k < 9 ∨ 29 ≤ k) ∧ k ≠ 82 ∧ k ≠ 133 ∧ k ≠ 142 := by decide
theorem RW.cg {h h' : gH} (e : ∀ k, k ∈ gWds → h'.1 k = h.1 k) (q : RW h) : RW h' := by
  have e1 : ∀ i, i < 34 → 85 + i ∈ gWds := by decide
  have e2 : ∀ i, i < 21 → 143 + i ∈ gWds := by decide
  refine ⟨fun i hi => ?_, fun i hi j hj => ?_, fun i hi j hj => ?_⟩
  · rw [e 3 (by decide)]; exact q.1 i hi
  · rw [e _ (e1 i hi)]; exact q.2.1 i hi j hj
  · rw [e _ (e2 i hi)]; exact q.2.2 i hi j hj
/-- the trials that were told -/
def RT0 (A : qT) (h : gH) : Prop := ∃ t, t ≤ 20 ∧ h.1 58 4 = nI t ∧ h.1 82 76 = nI t ∧ (0 < t → ∃ b, b < qB A ∧ h.1 58 3 = nI b ∧ h.1 82 77 = nI b) ∧
  ∀ i, i < t → ∃ c g, c < qN A ∧ qkd A c ≠ 4 ∧ g ≤ 1 ∧ h.1 59 i = nI c ∧ h.1 141 (2 * i) = nI c ∧ h.1 60 i = nI g ∧ h.1 141 (2 * i + 1) = nI g
def RT (A : qT) (h : gH) : Prop := RT0 A h ∧ RW h
/-- the whole of it: lake A, now F -/
def RS (n : Nat) (A F : qT) (lk : Nat) (h : gH) : Prop := qG A ∧ LC A lk h ∧ LM A h ∧ fG A F ∧ (∃ T, T ≤ 300 * n ∧ FC (qB A) F T (h.1 7)) ∧ FM (qB A) F (h.1 133) ∧ h.1 6 3 = nI (qB A) ∧ RU n A h ∧ RT A h
def Rst (n : Nat) (h : gH) : Prop := ∃ lk sp cd A F, gWf h lk sp cd ∧ RS n A F lk h
theorem LC.cg {A : qT} {k : Nat} {h h' : gH} (e : ∀ j, j < 15 → h'.1 (k + j) = h.1 (k + j)) (q : LC A k h) : LC A k h' := by
  have e0 := e 0 (by decide)
  have e1 := e 1 (by decide)
  have e2 := e 2 (by decide)
  have e3 := e 3 (by decide)
  have e5 := e 5 (by decide)
  have e6 := e 6 (by decide)
  have e7 := e 7 (by decide)
  have e8 := e 8 (by decide)
  have e9 := e 9 (by decide)
  have e10 := e 10 (by decide)
  have e12 := e 12 (by decide)
  have e13 := e 13 (by decide)
  have e14 := e 14 (by decide)
  unfold LC at q ⊢
  rw [Nat.add_zero] at e0
  rw [e0, e1, e2, e3, e5, e6, e7, e8, e9, e10, e12, e13, e14]
  exact q
theorem LM.cg {A : qT} {h h' : gH} (e : ∀ k, k ∈ [119, 120, 121, 122, 123, 124, 125, 126, 127, 128, 129] → h'.1 k = h.1 k ∧ h'.2.1 k = h.2.1 k) (e58 : h'.1 82 58 = h.1 82 58) (q : LM A h) : LM A h' := by
  unfold LM at q ⊢
  rw [(e 119 (by decide)).1, (e 120 (by decide)).2, (e 121 (by decide)).1, (e 122 (by decide)).1, (e 123 (by decide)).1, (e 124 (by decide)).1, (e 125 (by decide)).1, (e 126 (by decide)).1, (e 127 (by decide)).1, (e 128 (by decide)).1, (e 129 (by decide)).1, e58]
  exact q
theorem RU.cg {n : Nat} {A : qT} {h h' : gH} (e6 : h'.1 6 = h.1 6) (e : ∀ j, j < 20 → h'.1 (9 + j) = h.1 (9 + j)) (e142 : h'.1 142 = h.1 142) (e80 : h'.1 82 80 = h.1 82 80) (e81 : h'.1 82 81 = h.1 82 81) (q : RU n A h) : RU (n + 1) A h' := by
  obtain ⟨w, u, a1, a2, a3, a4, a5, a6, a7⟩ := q
  refine ⟨w, u, a1, a2, by rw [e6]; exact a3, by rw [e81]; exact a4, by rw [e6]; exact a5, by rw [e80]; exact a6, fun i hi => ?_⟩
  obtain ⟨F, T, b1, b2, b3, b4⟩ := a7 i hi
  refine ⟨F, T, by omega, b2, ?_, ?_⟩
  · rw [e _ (Nat.mod_lt _ (by decide))]
    exact b3
  · rw [e142]
    exact b4
theorem RT.cg {A : qT} {h h' : gH} (e3 : h'.1 58 3 = h.1 58 3) (e4 : h'.1 58 4 = h.1 58 4) (e59 : h'.1 59 = h.1 59) (e60 : h'.1 60 = h.1 60) (e141 : h'.1 141 = h.1 141) (e76 : h'.1 82 76 = h.1 82 76) (e77 : h'.1 82 77 = h.1 82 77) (ew : ∀ k, k ∈ gWds → h'.1 k = h.1 k) (q : RT A h) : RT A h' := by
  refine ⟨?_, q.2.cg ew⟩
  have q := q.1
  unfold RT0 at q ⊢
  rw [e3, e4, e59, e60, e141, e76, e77]
  exact q
theorem Rst_cg : gCg Rst := by
  intro n h h' er e es e3 e4 q
  obtain ⟨lk, sp, cd, A, F, hw, g1, g2, g3, g4, ⟨T, hT, g5⟩, g6, g7, g8, g9⟩ := q
  have e7 := (e 7 (by decide)).1
  have e6 := (e 6 (by decide)).1
  have e133 := (e 133 (by decide)).1
  refine ⟨lk, sp, cd, A, F, ⟨er.trans hw.1, hw.2⟩, g1, g2.cg (fun j hj => (e (lk + j) ?_).1), g3.cg (fun k hk => e k ?_) (es 58 (by decide)), g4, ⟨T, by omega, by rw [e7]; exact g5⟩, by rw [e133]; exact g6, by rw [e6]; exact g7, g8.cg e6 (fun j hj => (e (9 + j) ?_).1) (e 142 (by decide)).1 (es 80 (by decide)) (es 81 (by decide)), g9.cg e3 e4 (e 59 (by decide)).1 (e 60 (by decide)).1 (e 141 (by decide)).1 (es 76 (by decide)) (es 77 (by decide)) (fun k hk => (e k (gWds_c k hk)).1)⟩
  · have : ∀ k, k = 30 ∨ k = 67 → ∀ j, j < 15 → k + j ∈ gRc := by
      rintro k (rfl | rfl) <;> decide
    exact this lk hw.2.1 j hj
  · have : ∀ k, k ∈ [119, 120, 121, 122, 123, 124, 125, 126, 127, 128, 129] → k ∈ gRc := by decide
    exact this k hk
  · have : ∀ j, j < 20 → 9 + j ∈ gRc := by decide
    exact this j hj
