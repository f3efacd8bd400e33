/-! what stands on a tape -/
def cls (c : Nat) : Nat := if c = 10 ∨ c = 32 then 0 else if 97 ≤ c ∧ c ≤ 122 then 1 else if 48 ≤ c ∧ c ≤ 57 then 2 else 3
def rnF (t : Nat → Nat) (n q : Nat) : Nat → Nat → Nat
  | 0, p => p
  | r + 1, p => if p < n ∧ cls (t p) = q then rnF t n q r (p + 1) else p
/-- where a run of signs of kind q that begins at p ends -/
def rn (t : Nat → Nat) (n q p : Nat) : Nat := rnF t n q (n - p) p
def skp (t : Nat → Nat) (n p : Nat) : Nat := rn t n 0 p
/-- 1000 the end, 1001 a word, 1002 digits, 1003 one of these that is joined to the last; else the sign itself -/
def tkk (t : Nat → Nat) (n s : Nat) (j : Bool) : Nat := if n ≤ s then 1000 else if cls (t s) = 1 then (if j then 1003 else 1001) else if cls (t s) = 2 then (if j then 1003 else 1002) else t s
def tks (t : Nat → Nat) (n s : Nat) : Nat := if n ≤ s then s else if cls (t s) = 1 then rn t n 1 s else if cls (t s) = 2 then rn t n 2 s else s + 1
def nx (t : Nat → Nat) (n s : Nat) : Nat := skp t n (tks t n s)
def nj (t : Nat → Nat) (n s : Nat) : Bool := decide (s < n ∧ (cls (t s) = 1 ∨ cls (t s) = 2) ∧ nx t n s = tks t n s)
def kI (k : Nat) : Int32 := if k = 1000 then -1 else if k = 1001 then -2 else if k = 1002 then -3 else if k = 1003 then -4 else nI k
def ltr (t : Nat → Nat) (n s j : Nat) : Nat := if s + j < tks t n s then t (s + j) - 96 else 0
/-- word i stands at s -/
def wat (t : Nat → Nat) (n s i : Nat) : Prop := tks t n s - s = wln i ∧ ∀ j, j < wln i → t (s + j) = 96 + wlt i j
def nvl (t : Nat → Nat) (s : Nat) : Nat → Nat
  | 0 => 0
  | k + 1 => 10 * nvl t s k + (t (s + k) - 48)
section LX
variable {t : Nat → Nat} {n q p s i j k : Nat} {b : Bool}
theorem rn_y (hp : p < n) (hc : cls (t p) = q) : rn t n q p = rn t n q (p + 1) := by
  unfold rn
  rw [show n - p = n - (p + 1) + 1 by omega]
  show (if p < n ∧ cls (t p) = q then _ else _) = _
  rw [if_pos ⟨hp, hc⟩]
theorem rn_n (h : ¬ (p < n ∧ cls (t p) = q)) : rn t n q p = p := by
  unfold rn
  cases n - p with
  | zero => rfl
  | succ r =>
    show (if p < n ∧ cls (t p) = q then _ else _) = _
    rw [if_neg h]
theorem rn_ind {P : Nat → Prop} (h0 : ∀ p, ¬ (p < n ∧ cls (t p) = q) → P p) (h1 : ∀ p, p < n → cls (t p) = q → P (p + 1) → P p) : ∀ p, P p := by
  have : ∀ r p, n - p ≤ r → P p := by
    intro r
    induction r with
    | zero => intro p hp; exact h0 p (by omega)
    | succ r ih =>
      intro p hp
      by_cases z : p < n ∧ cls (t p) = q
      · exact h1 p z.1 z.2 (ih (p + 1) (by omega))
      · exact h0 p z
  exact fun p => this (n - p) p (Nat.le_refl _)
theorem rn_le : ∀ p, p ≤ rn t n q p := rn_ind (fun p h => by rw [rn_n h]; omega) (fun p h1 h2 ih => by rw [rn_y h1 h2]; omega)
theorem rn_len : ∀ p, p ≤ n → rn t n q p ≤ n := rn_ind (P := fun p => p ≤ n → rn t n q p ≤ n) (fun p h hp => by rw [rn_n h]; exact hp) (fun p h1 h2 ih hp => by rw [rn_y h1 h2]; exact ih (by omega))
theorem rn_end : ∀ p, ¬ (rn t n q p < n ∧ cls (t (rn t n q p)) = q) := rn_ind (fun p h => by rw [rn_n h]; exact h) (fun p h1 h2 ih => by rw [rn_y h1 h2]; exact ih)
theorem rn_in : ∀ p, ∀ i, p ≤ i → i < rn t n q p → i < n ∧ cls (t i) = q := rn_ind (P := fun p => ∀ i, p ≤ i → i < rn t n q p → i < n ∧ cls (t i) = q) (fun p h i h1 h2 => by rw [rn_n h] at h2; omega) (fun p h1 h2 ih i h3 h4 => by
  rw [rn_y h1 h2] at h4
  by_cases e : i = p
  · subst e; exact ⟨h1, h2⟩
  · exact ih i (by omega) h4)
theorem rn_fix (a b : Nat) (hab : a ≤ b) (h : ∀ i, a ≤ i → i < b → i < n ∧ cls (t i) = q) : rn t n q a = rn t n q b := by
  obtain ⟨r, rfl⟩ : ∃ r, b = a + r := ⟨b - a, by omega⟩
  clear hab
  induction r with
  | zero => rfl
  | succ r ih =>
    rw [ih (fun i h1 h2 => h i h1 (by omega))]
    have := h (a + r) (by omega) (by omega)
    rw [rn_y this.1 this.2]
    rfl
theorem skp_le : p ≤ skp t n p := rn_le p
theorem skp_n (h : p ≤ n) : skp t n p ≤ n := rn_len p h
theorem skp_e (h : skp t n p < n) : cls (t (skp t n p)) ≠ 0 := fun z => rn_end p ⟨h, z⟩
theorem skp_s : skp t n (skp t n p) = skp t n p := rn_n (rn_end p)
theorem cls_lt (c : Nat) : cls c ≤ 3 := by unfold cls; split; omega; split; omega; split <;> omega
theorem cls1 {c : Nat} : cls c = 1 ↔ 97 ≤ c ∧ c ≤ 122 := by
  unfold cls
  by_cases a : c = 10 ∨ c = 32
  · rw [if_pos a]; omega
  · rw [if_neg a]
    by_cases b : 97 ≤ c ∧ c ≤ 122
    · rw [if_pos b]; exact ⟨fun _ => b, fun _ => rfl⟩
    · rw [if_neg b]
      constructor
      · intro h; split at h <;> omega
      · intro h; exact absurd h b
theorem cls2 {c : Nat} : cls c = 2 ↔ 48 ≤ c ∧ c ≤ 57 := by
  unfold cls
  by_cases a : c = 10 ∨ c = 32
  · rw [if_pos a]; omega
  · rw [if_neg a]
    by_cases b : 97 ≤ c ∧ c ≤ 122
    · rw [if_pos b]; omega
    · rw [if_neg b]
      by_cases d : 48 ≤ c ∧ c ≤ 57
      · rw [if_pos d]; exact ⟨fun _ => d, fun _ => rfl⟩
      · rw [if_neg d]; omega
theorem cls0 {c : Nat} : cls c = 0 ↔ c = 10 ∨ c = 32 := by
  unfold cls
  by_cases a : c = 10 ∨ c = 32
  · rw [if_pos a]; exact ⟨fun _ => a, fun _ => rfl⟩
  · rw [if_neg a]
    constructor
    · intro h
      split at h
      · omega
      · split at h <;> omega
    · intro h; exact absurd h a
theorem tks_gt (h : s < n) : s < tks t n s := by
  unfold tks
  rw [if_neg (by omega)]
  by_cases a : cls (t s) = 1
  · rw [if_pos a, rn_y h a]
    have := rn_le (t := t) (n := n) (q := 1) (s + 1)
    omega
  · rw [if_neg a]
    by_cases b : cls (t s) = 2
    · rw [if_pos b, rn_y h b]
      have := rn_le (t := t) (n := n) (q := 2) (s + 1)
      omega
    · rw [if_neg b]; omega
theorem tks_le (h : s ≤ n) : tks t n s ≤ n := by
  unfold tks
  split
  · exact h
  · split
    · exact rn_len s h
    · split
      · exact rn_len s h
      · omega
theorem nx_le (h : s ≤ n) : nx t n s ≤ n := skp_n (tks_le h)
theorem nx_gt (h : s < n) : s < nx t n s := Nat.lt_of_lt_of_le (tks_gt h) skp_le
theorem nx_s : skp t n (nx t n s) = nx t n s := skp_s
theorem tkk_w : tkk t n s b = 1001 ∧ (∀ i, t i < 256) ↔ (s < n ∧ cls (t s) = 1 ∧ b = false) ∧ (∀ i, t i < 256) := by
  constructor
  · rintro ⟨h, h2⟩
    refine ⟨?_, h2⟩
    unfold tkk at h
    split at h
    · omega
    · split at h
      · rename_i a c
        cases b with
        | false => exact ⟨by omega, c, rfl⟩
        | true => simp at h
      · split at h
        · cases b <;> simp at h
        · have := h2 s; omega
  · rintro ⟨⟨h1, h2, h3⟩, h4⟩
    refine ⟨?_, h4⟩
    subst h3
    unfold tkk
    rw [if_neg (by omega), if_pos h2]
    rfl
theorem tkk_d : tkk t n s b = 1002 ∧ (∀ i, t i < 256) ↔ (s < n ∧ cls (t s) = 2 ∧ b = false) ∧ (∀ i, t i < 256) := by
  constructor
  · rintro ⟨h, h2⟩
    refine ⟨?_, h2⟩
    unfold tkk at h
    split at h
    · omega
    · split at h
      · cases b <;> simp at h
      · split at h
        · rename_i a _ c
          cases b with
          | false => exact ⟨by omega, c, rfl⟩
          | true => simp at h
        · have := h2 s; omega
  · rintro ⟨⟨h1, h2, h3⟩, h4⟩
    refine ⟨?_, h4⟩
    subst h3
    unfold tkk
    rw [if_neg (by omega), if_neg (by omega), if_pos h2]
    rfl
/-- a sign: neither letter nor digit, nor blank -/
theorem tkk_c {c : Nat} (hc : cls c = 3) (hc2 : c < 256) : tkk t n s b = c ↔ s < n ∧ t s = c := by
  unfold tkk
  by_cases a : n ≤ s
  · rw [if_pos a]; omega
  · rw [if_neg a]
    by_cases d : cls (t s) = 1
    · rw [if_pos d]
      constructor
      · intro h; cases b <;> simp at h <;> omega
      · rintro ⟨_, h⟩; rw [h] at d; omega
    · rw [if_neg d]
      by_cases e : cls (t s) = 2
      · rw [if_pos e]
        constructor
        · intro h; cases b <;> simp at h <;> omega
        · rintro ⟨_, h⟩; rw [h] at e; omega
      · rw [if_neg e]; exact ⟨fun h => ⟨by omega, h⟩, fun h => h.2⟩
theorem tkk_lt (ht : ∀ i, t i < 256) : tkk t n s b < 1004 := by
  have := ht s
  unfold tkk
  split
  · omega
  · split
    · split <;> omega
    · split
      · split <;> omega
      · omega
theorem wds_u : ∀ i, i < 40 → ∀ i', i' < 40 → wln i = wln i' → (∀ j, j < wln i → wlt i j = wlt i' j) → i = i' := by decide +kernel
theorem wln_b : ∀ i, i < 40 → 1 ≤ wln i ∧ wln i ≤ 6 ∧ ∀ j, j < 6 → (j < wln i → 1 ≤ wlt i j ∧ wlt i j ≤ 26) ∧ (wln i ≤ j → wlt i j = 0) := by decide +kernel
theorem wat_u {i' : Nat} (hi : i < 40) (hi' : i' < 40) (h : wat t n s i) (h' : wat t n s i') : i = i' := by
  have e : wln i = wln i' := h.1.symm.trans h'.1
  refine wds_u i hi i' hi' e (fun j hj => ?_)
  have a := h.2 j hj
  have b := h'.2 j (by omega)
  omega
theorem p32_in {f g : Nat → Nat} (hf : ∀ j, j < 6 → f j ≤ 26) (hg : ∀ j, j < 6 → g j ≤ 26) (e : p32 f 6 = p32 g 6) : ∀ j, j < 6 → f j = g j := fun j hj => by
  rw [← p32_at hf hj, ← p32_at hg hj, e]
theorem p32_cg {f g : Nat → Nat} : ∀ k, (∀ j, j < k → f j = g j) → p32 f k = p32 g k
  | 0, _ => rfl
  | k + 1, h => by
    unfold p32
    rw [p32_cg k (fun j hj => h j (by omega)), h k (by omega)]
/-- letters of a word that is no longer than six -/
theorem ltr_b (hs : s < n) (hc : cls (t s) = 1) : ∀ j, (s + j < tks t n s → 1 ≤ ltr t n s j ∧ ltr t n s j ≤ 26) ∧ (tks t n s ≤ s + j → ltr t n s j = 0) := fun j => by
  have e : tks t n s = rn t n 1 s := by unfold tks; rw [if_neg (by omega), if_pos hc]
  constructor
  · intro h
    have := rn_in (t := t) (n := n) (q := 1) s (s + j) (by omega) (by omega)
    have := cls1.mp this.2
    unfold ltr
    rw [if_pos h]
    omega
  · intro h
    unfold ltr
    rw [if_neg (by omega)]
theorem wat_p (hs : s < n) (hc : cls (t s) = 1) (hl : tks t n s - s ≤ 6) (hi : i < 40) : p32 (wlt i) 6 = p32 (ltr t n s) 6 ↔ wat t n s i := by
  obtain ⟨w1, w2, w3⟩ := wln_b i hi
  have lb := ltr_b hs hc
  have hg := tks_gt (t := t) hs
  have l26 : ∀ j, j < 6 → ltr t n s j ≤ 26 := fun j _ => by
    rcases Nat.lt_or_ge (s + j) (tks t n s) with z | z
    · exact ((lb j).1 z).2
    · rw [(lb j).2 z]; omega
  have w26 : ∀ j, j < 6 → wlt i j ≤ 26 := fun j hj => by
    rcases Nat.lt_or_ge j (wln i) with z | z
    · exact ((w3 j hj).1 z).2
    · rw [(w3 j hj).2 z]; omega
  constructor
  · intro e
    have h := p32_in w26 l26 e
    have el : tks t n s - s = wln i := by
      rcases Nat.lt_trichotomy (tks t n s - s) (wln i) with z | z | z
      · have a := ((w3 (tks t n s - s) (by omega)).1 z).1
        have b := (lb (tks t n s - s)).2 (by omega)
        have := h (tks t n s - s) (by omega)
        omega
      · exact z
      · have a := ((lb (wln i)).1 (by omega)).1
        have b := (w3 (wln i) (by omega)).2 (Nat.le_refl _)
        have := h (wln i) (by omega)
        omega
    refine ⟨el, fun j hj => ?_⟩
    have := h j (by omega)
    have a := ((lb j).1 (by omega)).1
    unfold ltr at this a
    rw [if_pos (by omega)] at this a
    omega
  · intro h
    refine p32_cg 6 (fun j hj => ?_)
    rcases Nat.lt_or_ge j (wln i) with z | z
    · have := h.2 j z
      unfold ltr
      rw [if_pos (by have := h.1; omega)]
      omega
    · rw [(w3 j hj).2 z, (lb j).2 (by have := h.1; omega)]
end LX
