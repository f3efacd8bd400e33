theorem lit (n : Nat) : (OfNat.ofNat n : Int32) = nI n := rfl
theorem bY {p A B : Prop} (hp : p) (a : A) : (p → A) ∧ (¬ p → B) := ⟨fun _ => a, fun z => absurd hp z⟩
theorem bN {p A B : Prop} (hp : ¬ p) (b : B) : (p → A) ∧ (¬ p → B) := ⟨fun z => absurd z hp, fun _ => b⟩
theorem bY' {p A B : Prop} (hp : p) (a : A) : (¬ p → B) ∧ (p → A) := ⟨fun z => absurd hp z, fun _ => a⟩
theorem bN' {p A B : Prop} (hp : ¬ p) (b : B) : (¬ p → B) ∧ (p → A) := ⟨fun _ => b, fun z => absurd z hp⟩
theorem ixn {a : Int32} {n : Nat} (hn : n < 2 ^ 31) (q : ∀ j, j < n → a ≠ nI j) : a < 0 ∨ nI n ≤ a := by
  rcases pk_ix a hn with h | h | ⟨j, h1, h2⟩
  · exact Or.inl h
  · exact Or.inr h
  · exact absurd h2 (q j h1)
theorem ixd (a : Int32) (n : Nat) (hn : n < 2 ^ 31) : (∃ j, j < n ∧ a = nI j) ∨ (∀ j, j < n → a ≠ nI j) := by
  rcases pk_ix a hn with h | h | h
  · exact Or.inr (fun j hj e => by subst e; exact absurd h (nI_pos (by omega)))
  · exact Or.inr (fun j hj e => by subst e; exact absurd h (nI_ge hj hn))
  · exact Or.inl h
/-- x ≤ m - 1 -/
theorem i_le1 {a b : Nat} (ha : a < 2 ^ 30) (hb : b < 2 ^ 30) : nI a ≤ nI b - 1 ↔ a < b := by
  rw [Int32.le_iff_toInt_le, nI_toInt (by omega), show (1 : Int32) = nI 1 from rfl, pk_sub_toInt hb (by omega)]
  omega
theorem i_eq1 {a b : Nat} (ha : a < 2 ^ 30) (hb : b < 2 ^ 30) : nI a - 1 = nI b - 1 ↔ a = b := by
  rw [← Int32.toInt_inj, show (1 : Int32) = nI 1 from rfl, pk_sub_toInt ha (by omega), pk_sub_toInt hb (by omega)]
  omega
theorem i_m1 : nI 0 - 1 = -1 := by decide
theorem i_s1 (a : Nat) : nI (a + 1) - 1 = nI a := nI_pred a
theorem i_nm1 {a : Nat} (ha : a < 2 ^ 31) : nI a ≠ -1 := fun q => absurd (show nI a < 0 by rw [q]; decide) (nI_pos ha)
theorem i_min {a m : Nat} (ha : a < 2 ^ 31) (hm : m < 2 ^ 31) : (if nI a < nI m then nI a else nI m) = nI (min a m) := by
  by_cases e : a < m
  · rw [if_pos (nI_lt e hm), Nat.min_eq_left (by omega)]
  · rw [if_neg (nI_nlt (by omega) ha), Nat.min_eq_right (by omega)]
theorem i_max {a m : Nat} (ha : a < 2 ^ 31) (hm : m < 2 ^ 31) : (if nI a < nI m then nI m else nI a) = nI (max a m) := by
  by_cases e : a < m
  · rw [if_pos (nI_lt e hm), Nat.max_eq_right (by omega)]
  · rw [if_neg (nI_nlt (by omega) ha), Nat.max_eq_left (by omega)]
/-! what good lakes keep to -/
def qW (A : qT) (c : Nat) : Prop := c < qN A ∧ qkd A c ≠ 4
theorem qG.C8 {A : qT} (g : qG A) : qC A ≤ 8 := by rcases g.1 with h | h <;> omega
theorem qG.R6 {A : qT} (g : qG A) : qR A ≤ 6 := by rcases g.1 with h | h <;> omega
theorem qG.B6 {A : qT} (g : qG A) : qB A ≤ 6 := g.2.1
theorem qG.H6 {A : qT} (g : qG A) : qH A ≤ 6 := g.2.2.1
theorem qG.K10 {A : qT} (g : qG A) : qK A ≤ 10 := g.2.2.2.1
theorem qG.Q1 {A : qT} (g : qG A) : 1 ≤ qQ A ∧ qQ A ≤ 99 := ⟨g.2.2.2.2.1, g.2.2.2.2.2.1⟩
theorem qG.N48 {A : qT} (g : qG A) : qN A ≤ 48 := Nat.mul_le_mul g.C8 g.R6
theorem qG.kd {A : qT} (g : qG A) : ∀ c, c < qN A → qkd A c ≤ 4 := g.2.2.2.2.2.2.1
theorem qG.ft {A : qT} (g : qG A) : ∀ b, b < qB A → qft A b ≤ 99 := g.2.2.2.2.2.2.2.1
theorem qG.sk {A : qT} (g : qG A) : ∀ k, k < qH A → qsk A k ≤ 9 := g.2.2.2.2.2.2.2.2.1
theorem qG.lk {A : qT} (g : qG A) : ∀ b k, b < qB A → k < qH A → qlk A b k ≤ 99 := g.2.2.2.2.2.2.2.2.2.1
theorem qG.sh {A : qT} (g : qG A) : ∀ k, k < qK A → qsh A k ≤ 99 ∧ qsq A k ≤ 3 := g.2.2.2.2.2.2.2.2.2.2.1
theorem qG.bn {A : qT} (g : qG A) : ∀ b, b < qB A → nwf (qnm A 0 b) := g.2.2.2.2.2.2.2.2.2.2.2.1
theorem qG.hn {A : qT} (g : qG A) : ∀ b, b < qH A → nwf (qnm A 1 b) := g.2.2.2.2.2.2.2.2.2.2.2.2.1
theorem qG.sm {A : qT} (g : qG A) : ∀ p, p < 3 → qsl A p ≤ 1600 ∧ twf (qst A p) (qsl A p) ∧ (p = 0 → ∀ i, i < qsl A p → qst A p i ≠ 15 ∧ qst A p i ≠ 16) := g.2.2.2.2.2.2.2.2.2.2.2.2.2
theorem qG.C3 {A : qT} (g : qG A) {c : Nat} (h : c < qN A) : 3 ≤ qC A := by
  rcases g.1 with ⟨h1, h2⟩ | h1
  · unfold qN at h
    rw [h1, Nat.zero_mul] at h
    omega
  · exact h1.1
section LCp
variable {A : qT} {k : Nat} {h : gH}
theorem LC.C (q : LC A k h) : h.1 k 11 = nI (qC A) := q.1
theorem LC.R (q : LC A k h) : h.1 k 12 = nI (qR A) := q.2.1
theorem LC.B (q : LC A k h) : h.1 k 13 = nI (qB A) := q.2.2.1
theorem LC.H (q : LC A k h) : h.1 k 14 = nI (qH A) := q.2.2.2.1
theorem LC.K (q : LC A k h) : h.1 k 15 = nI (qK A) := q.2.2.2.2.1
theorem LC.Q (q : LC A k h) : h.1 k 16 = nI (qQ A) := q.2.2.2.2.2.1
theorem LC.kd (q : LC A k h) : ∀ c, c < qN A → h.1 (k + 1) c = nI (qkd A c) := q.2.2.2.2.2.2.1
theorem LC.hm (q : LC A k h) : ∀ c, c < qN A → h.1 (k + 2) c = nI (qhm A c (qN A)) := q.2.2.2.2.2.2.2.1
theorem LC.bn (q : LC A k h) : ∀ b, b < qB A → h.1 (k + 3) b = nI (p32 (qnm A 0 b) 6) := q.2.2.2.2.2.2.2.2.1
theorem LC.ft (q : LC A k h) : ∀ b, b < qB A → h.1 (k + 5) b = nI (qft A b) := q.2.2.2.2.2.2.2.2.2.1
theorem LC.hn (q : LC A k h) : ∀ b, b < qH A → h.1 (k + 6) b = nI (p32 (qnm A 1 b) 6) := q.2.2.2.2.2.2.2.2.2.2.1
theorem LC.sk (q : LC A k h) : ∀ b, b < qH A → h.1 (k + 7) b = nI (qsk A b) := q.2.2.2.2.2.2.2.2.2.2.2.1
theorem LC.lk (q : LC A k h) : ∀ b j, b < qB A → j < qH A → h.1 (k + 8) (6 * b + j) = nI (qlk A b j) := q.2.2.2.2.2.2.2.2.2.2.2.2.1
theorem LC.sh (q : LC A k h) : ∀ j, j < qK A → h.1 (k + 9) j = nI (qsh A j) := q.2.2.2.2.2.2.2.2.2.2.2.2.2.1
theorem LC.sq (q : LC A k h) : ∀ j, j < qK A → h.1 (k + 10) j = nI (qsq A j) := q.2.2.2.2.2.2.2.2.2.2.2.2.2.2.1
theorem LC.sm (q : LC A k h) : ∀ p, p < 3 → ∃ o, o + qsl A p ≤ 1600 ∧ h.1 (k + 13) p = nI o ∧ h.1 (k + 14) p = nI (o + qsl A p) ∧ ∀ i, i < qsl A p → h.1 (k + 12) (o + i) = tcc (qst A p i) := q.2.2.2.2.2.2.2.2.2.2.2.2.2.2.2
theorem LC.N (q : LC A k h) : h.1 k 11 * h.1 k 12 = nI (qN A) := by rw [q.C, q.R, pk_mul]; rfl
theorem LM.C (q : LM A h) : h.1 119 5 = nI (qC A) := q.1
theorem LM.R (q : LM A h) : h.1 119 6 = nI (qR A) := q.2.1
theorem LM.B (q : LM A h) : h.1 119 7 = nI (qB A) := q.2.2.1
theorem LM.H (q : LM A h) : h.1 119 8 = nI (qH A) := q.2.2.2.1
theorem LM.K (q : LM A h) : h.1 119 9 = nI (qK A) := q.2.2.2.2.1
theorem LM.Q (q : LM A h) : h.1 126 1 = nI (qQ A) := q.2.2.2.2.2.1
theorem LM.kd (q : LM A h) : ∀ c, c < qN A → h.1 121 (48 + 8 * (c / qC A) + c % qC A) = nI (mkd (qkd A c)) := q.2.2.2.2.2.2.1
theorem LM.bn (q : LM A h) : ∀ b, b < qB A → h.2.1 120 (12 + b) = lN (p27 (qnm A 0 b) 6) := q.2.2.2.2.2.2.2.1
theorem LM.ft (q : LM A h) : ∀ b, b < qB A → h.1 122 (12 + 2 * b) = nI (qft A b) := q.2.2.2.2.2.2.2.2.1
theorem LM.hn (q : LM A h) : ∀ b, b < qH A → h.2.1 120 (18 + b) = lN (p27 (qnm A 1 b) 6) := q.2.2.2.2.2.2.2.2.2.1
theorem LM.sk (q : LM A h) : ∀ b, b < qH A → h.1 123 (6 + b) = nI (qsk A b) := q.2.2.2.2.2.2.2.2.2.2.1
theorem LM.lk (q : LM A h) : ∀ b j, b < qB A → j < qH A → h.1 124 (36 + (6 * b + j)) = nI (qlk A b j) := q.2.2.2.2.2.2.2.2.2.2.2.1
theorem LM.sh (q : LM A h) : ∀ j, j < qK A → h.1 125 (20 + 2 * j) = nI (qsh A j) := q.2.2.2.2.2.2.2.2.2.2.2.2.1
theorem LM.sq (q : LM A h) : ∀ j, j < qK A → h.1 125 (21 + 2 * j) = nI (qsq A j) := q.2.2.2.2.2.2.2.2.2.2.2.2.2.1
theorem LM.sm (q : LM A h) : ∀ p, p < 3 → if qsl A p = 0 then h.1 127 (3 + p) = -1 else ∃ o, o + qsl A p ≤ 1600 ∧ h.1 127 (3 + p) = nI o ∧ h.1 128 (3 + p) = nI (o + qsl A p) ∧ ∀ i, i < qsl A p → h.1 129 (1600 + (o + i)) = nI (qst A p i) := q.2.2.2.2.2.2.2.2.2.2.2.2.2.2.1
theorem LM.il (q : LM A h) : h.1 82 58 = (if qC A = 0 then 0 else 1) := q.2.2.2.2.2.2.2.2.2.2.2.2.2.2.2
theorem LM.N (q : LM A h) : h.1 119 5 * h.1 119 6 = nI (qN A) := by rw [q.C, q.R, pk_mul]; rfl
end LCp
/-- the class knows A and F; the model -/
def KC (A F : qT) (T lk : Nat) (h : gH) : Prop := qG A ∧ LC A lk h ∧ fG A F ∧ FC (qB A) F T (h.1 7) ∧ h.1 6 3 = nI (qB A) ∧ T ≤ 153600
def KM (A F : qT) (h : gH) : Prop := qG A ∧ LM A h ∧ fG A F ∧ FM (qB A) F (h.1 133)
theorem KC.g {A F : qT} {T lk : Nat} {h : gH} (q : KC A F T lk h) : qG A := q.1
theorem KC.l {A F : qT} {T lk : Nat} {h : gH} (q : KC A F T lk h) : LC A lk h := q.2.1
theorem KC.f {A F : qT} {T lk : Nat} {h : gH} (q : KC A F T lk h) : fG A F := q.2.2.1
theorem KC.x {A F : qT} {T lk : Nat} {h : gH} (q : KC A F T lk h) : FC (qB A) F T (h.1 7) := q.2.2.2.1
theorem KC.b {A F : qT} {T lk : Nat} {h : gH} (q : KC A F T lk h) : h.1 6 3 = nI (qB A) := q.2.2.2.2.1
theorem KC.t {A F : qT} {T lk : Nat} {h : gH} (q : KC A F T lk h) : T ≤ 153600 := q.2.2.2.2.2
theorem KM.g {A F : qT} {h : gH} (q : KM A F h) : qG A := q.1
theorem KM.l {A F : qT} {h : gH} (q : KM A F h) : LM A h := q.2.1
theorem KM.f {A F : qT} {h : gH} (q : KM A F h) : fG A F := q.2.2.1
theorem KM.y {A F : qT} {h : gH} (q : KM A F h) : FM (qB A) F (h.1 133) := q.2.2.2
/-- the sky: the hour since which it is so, and 1; its kind -/
def qsky (A : qT) (t : Nat) : Nat → Nat × Nat
  | 0 => (0, 0)
  | k + 1 => if qsh A k ≤ t ∧ (qsky A t k).1 ≤ qsh A k then (qsh A k + 1, qsq A k) else qsky A t k
theorem qsky_lt {A : qT} (g : qG A) (t : Nat) : ∀ k, k ≤ qK A → (qsky A t k).1 ≤ 100 ∧ (qsky A t k).2 ≤ 3
  | 0, _ => by unfold qsky; exact ⟨by omega, by omega⟩
  | k + 1, hk => by
    have := qsky_lt g t k (by omega)
    have h2 := g.sh k (by omega)
    unfold qsky
    split
    · exact ⟨by show qsh A k + 1 ≤ 100; omega, h2.2⟩
    · exact this
/-- the first boat from k on whose hand is v -/
def fwh (F : qT) (v : Int32) : Nat → Nat → Int32
  | 0, _ => -1
  | r + 1, k => if nI (fh F k) - 1 = v then nI k else fwh F v r (k + 1)
def fbt (F : qT) (v : Int32) : Nat → Int32
  | 0 => 0
  | k + 1 => if nI (fc F k) = v then fbt F v k ||| (1 <<< (nI k &&& 31)) else fbt F v k
def fst_ (F : qT) : Nat → Int32
  | 0 => 0
  | k + 1 => fst_ F k + nI (ft F k)
def fsb (F : qT) : Nat → Int32
  | 0 => 0
  | k + 1 => fsb F k + nI (fb F k)
