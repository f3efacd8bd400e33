/-! rows of boats as numbers of n digits by 6 -/
def dg (n v i : Nat) : Nat := v / 6 ^ (n - 1 - i) % 6
/-- how bold (and 1), how many went, behind the first i of a row -/
def smr (A F : qT) (c : Nat) (r : Nat → Nat) : Nat → Nat × Nat
  | 0 => (0, 0)
  | i + 1 => if fer A F (r i) c (smr A F c r i).1 ≤ ft F (r i) then (lrn A F (r i) c (smr A F c r i).1 + 1, (smr A F c r i).2 + 1) else smr A F c r i
def vld (M n v : Nat) : Prop := ∀ j, j < 6 → (bin M j ↔ ∃ k, k < n ∧ dg n v k = j)
def ocn (A F : qT) (c n v : Nat) : Nat := (smr A F c (dg n v) n).2
/-- the best of the rows ahead of X: g goes (and 1), row p -/
def Bst (A F : qT) (M n c X g p : Nat) : Prop := (∀ q, q < X → vld M n q → ocn A F c n q < g) ∧ (g = 0 ∨ (p < X ∧ vld M n p ∧ ocn A F c n p + 1 = g ∧ ∀ q, q < p → vld M n q → ocn A F c n q + 1 < g))
def pcn (m : Nat) : Nat := m / 1 % 2 + m / 2 % 2 + m / 4 % 2 + m / 8 % 2 + m / 16 % 2 + m / 32 % 2
/-- the rest of M behind the row's first at digits P -/
def rst6 (M at_ P X : Nat) : Prop := X < 64 ∧ ∀ j, j < 6 → (bin X j ↔ bin M j ∧ ∀ i, i < at_ → dg at_ P i ≠ j)
theorem cnp_bin (m : Nat) : ∀ k, cnp (fun j => bin m j) k = smn (fun j => m / 2 ^ j % 2) k
  | 0 => rfl
  | k + 1 => by
    have i := cnp_bin m k
    show cnp (fun j => bin m j) k + @ite Nat (bin m k) (Classical.propDecidable _) 1 0 = smn (fun j => m / 2 ^ j % 2) k + m / 2 ^ k % 2
    rw [i]
    have := Nat.mod_lt (m / 2 ^ k) (show 0 < 2 by decide)
    by_cases q : bin m k
    · rw [if_pos q]
      unfold bin at q
      omega
    · rw [if_neg q]
      unfold bin at q
      omega
theorem cnp_pcn (m : Nat) : cnp (fun j => bin m j) 6 = pcn m := by
  rw [cnp_bin]
  show 0 + m / 2 ^ 0 % 2 + m / 2 ^ 1 % 2 + m / 2 ^ 2 % 2 + m / 2 ^ 3 % 2 + m / 2 ^ 4 % 2 + m / 2 ^ 5 % 2 = _
  unfold pcn
  rw [Nat.zero_add]
theorem cnp_ex {P R : Nat → Prop} : ∀ k, (∀ x, x < k → (P x ↔ R x)) → cnp P k = cnp R k := fun k h => Nat.le_antisymm (cnp_mono k (fun x hx => (h x hx).mp)) (cnp_mono k (fun x hx => (h x hx).mpr))
theorem cnp_add {P R : Nat → Prop} {y : Nat} : ∀ k, (∀ x, x < k → P x → R x ∨ x = y) → cnp P k ≤ cnp R k + if y < k then 1 else 0
  | 0, _ => Nat.zero_le _
  | k + 1, h => by
    have i := cnp_add (P := P) (R := R) (y := y) k (fun x hx => h x (by omega))
    have hk := h k (by omega)
    unfold cnp
    by_cases p : P k
    · rw [if_pos p]
      by_cases r : R k
      · rw [if_pos r]
        split <;> split at i <;> omega
      · rw [if_neg r]
        have : k = y := (hk p).resolve_left r
        subst this
        rw [if_neg (by omega)] at i
        rw [if_pos (by omega)]
        omega
    · rw [if_neg p]
      split <;> split at i <;> split <;> omega
theorem img_le (r : Nat → Nat) : ∀ n m, cnp (fun j => ∃ k, k < n + m ∧ r k = j) 6 ≤ cnp (fun j => ∃ k, k < n ∧ r k = j) 6 + m
  | _, 0 => Nat.le_refl _
  | n, m + 1 => by
    have i := img_le r n m
    have a := cnp_add (P := fun j => ∃ k, k < n + (m + 1) ∧ r k = j) (R := fun j => ∃ k, k < n + m ∧ r k = j) (y := r (n + m)) 6 (fun x _ ⟨k, k1, k2⟩ => by
      by_cases e : k = n + m
      · subst e; exact Or.inr k2.symm
      · exact Or.inl ⟨k, by omega, k2⟩)
    split at a <;> omega
theorem img_0 (r : Nat → Nat) (n : Nat) : cnp (fun j => ∃ k, k < n ∧ r k = j) 6 ≤ n := by
  have := img_le r 0 n
  rw [Nat.zero_add] at this
  have h0 : cnp (fun j => ∃ k, k < 0 ∧ r k = j) 6 ≤ cnp (fun _ => False) 6 := cnp_mono 6 (fun x _ ⟨k, k1, _⟩ => absurd k1 (Nat.not_lt_zero _))
  have h1 : cnp (fun _ => False) 6 = 0 := by
    have := cnp_add (P := fun _ => False) (R := fun _ => False) (y := 6) 6 (fun x _ q => q.elim)
    have : ∀ k, cnp (fun _ => False) k = 0 := fun k => by
      induction k with
      | zero => rfl
      | succ k ih =>
        show cnp (fun _ => False) k + @ite Nat False (Classical.propDecidable _) 1 0 = 0
        rw [ih, if_neg (fun q => q)]
    exact this 6
  omega
section OR1
variable {A F : qT} {M n c v X g p P k at_ i d : Nat}
theorem dg_lt : dg n v i < 6 := Nat.mod_lt _ (by decide)
/-- a good row has no boat twice -/
theorem vld_inj (hn : n = pcn M) (hv : vld M n v) {i j : Nat} (hi : i < j) (hj : j < n) : dg n v i ≠ dg n v j := by
  intro e
  have c1 : cnp (fun j => ∃ k, k < n ∧ dg n v k = j) 6 = n := by rw [← cnp_ex 6 hv, cnp_pcn, hn]
  have c2 := img_0 (dg n v) j
  have c3 : cnp (fun x => ∃ k, k < j + 1 ∧ dg n v k = x) 6 ≤ cnp (fun x => ∃ k, k < j ∧ dg n v k = x) 6 := cnp_mono 6 (fun x _ ⟨k, k1, k2⟩ => by
    by_cases ek : k = j
    · subst ek; exact ⟨i, hi, e.trans k2⟩
    · exact ⟨k, by omega, k2⟩)
  have c4 := img_le (dg n v) (j + 1) (n - (j + 1))
  rw [show j + 1 + (n - (j + 1)) = n by omega, c1] at c4
  omega
theorem vld_in (hv : vld M n v) (hi : i < n) : bin M (dg n v i) := (hv _ dg_lt).mpr ⟨i, hi, rfl⟩
theorem smr_cg {r r' : Nat → Nat} : ∀ i, (∀ j, j < i → r j = r' j) → smr A F c r i = smr A F c r' i
  | 0, _ => rfl
  | i + 1, h => by
    have ih := smr_cg (r := r) (r' := r') i (fun j hj => h j (by omega))
    unfold smr
    rw [ih, h i (by omega)]
theorem smr_le {r : Nat → Nat} (i : Nat) : ∀ k, (smr A F c r (i + k)).2 ≤ (smr A F c r i).2 + k
  | 0 => Nat.le_refl _
  | k + 1 => by
    have ih := smr_le (r := r) i k
    have e : smr A F c r (i + k + 1) = if fer A F (r (i + k)) c (smr A F c r (i + k)).1 ≤ ft F (r (i + k)) then (lrn A F (r (i + k)) c (smr A F c r (i + k)).1 + 1, (smr A F c r (i + k)).2 + 1) else smr A F c r (i + k) := rfl
    rw [show i + (k + 1) = i + k + 1 from rfl, e]
    split
    · show (smr A F c r (i + k)).2 + 1 ≤ _
      omega
    · omega
theorem smr_0 {r : Nat → Nat} : ∀ k, (smr A F c r k).2 ≤ k := fun k => by
  have := smr_le (A := A) (F := F) (c := c) (r := r) 0 k
  rw [Nat.zero_add] at this
  have e : (smr A F c r 0).2 = 0 := rfl
  omega
theorem smr_bo (hf : fG A F) {r : Nat → Nat} : ∀ k, (∀ i, i < k → r i < qB A) → (smr A F c r k).1 ≤ 100
  | 0, _ => by show 0 ≤ 100; omega
  | k + 1, h => by
    have ih := smr_bo hf k (fun i hi => h i (by omega))
    have := lrn_le (c := c) (bo := (smr A F c r k).1) hf (h k (by omega))
    unfold smr
    split
    · show lrn A F (r k) c (smr A F c r k).1 + 1 ≤ 100
      omega
    · exact ih
theorem Bst.u {g' p' : Nat} (h : Bst A F M n c X g p) (h' : Bst A F M n c X g' p') (h0 : g ≠ 0) : g' = g ∧ p' = p := by
  obtain ⟨a1, a2⟩ := h
  obtain ⟨b1, b2⟩ := h'
  obtain ⟨p1, p2, p3, p4⟩ := a2.resolve_left h0
  have q1 := b1 p p1 p2
  obtain ⟨r1, r2, r3, r4⟩ := b2.resolve_left (by omega)
  have q2 := a1 p' r1 r2
  have e : g' = g := by omega
  subst e
  refine ⟨rfl, ?_⟩
  rcases Nat.lt_trichotomy p' p with q | q | q
  · have := p4 p' q r2; omega
  · exact q
  · have := r4 p q p2; omega
theorem Bst.zero : Bst A F M n c 0 0 0 := ⟨fun q hq => absurd hq (Nat.not_lt_zero _), Or.inl rfl⟩
/-- rows that can't be better -/
theorem Bst.skip {Y : Nat} (h : Bst A F M n c X g p) (hXY : X ≤ Y) (hn : ∀ q, X ≤ q → q < Y → vld M n q → ocn A F c n q < g) : Bst A F M n c Y g p := by
  refine ⟨fun q hq hv => ?_, h.2.imp id (fun z => ⟨by have := z.1; omega, z.2⟩)⟩
  rcases Nat.lt_or_ge q X with y | y
  · exact h.1 q y hv
  · exact hn q y hq hv
theorem Bst.take (h : Bst A F M n c X g p) (hv : vld M n X) (hg : g ≤ ocn A F c n X) : Bst A F M n c (X + 1) (ocn A F c n X + 1) X := by
  refine ⟨fun q hq hq2 => ?_, Or.inr ⟨by omega, hv, rfl, fun q hq hq2 => ?_⟩⟩
  · by_cases e : q = X
    · subst e; omega
    · have := h.1 q (by omega) hq2; omega
  · have := h.1 q hq hq2; omega
theorem dg_up (hi : i < at_) : dg (at_ + k) v i = dg at_ (v / 6 ^ k) i := by
  unfold dg
  rw [Nat.div_div_eq_div_mul, ← Nat.pow_add, show at_ + k - 1 - i = k + (at_ - 1 - i) by omega]
theorem dg_last (hd : d < 6) : dg (at_ + 1) (6 * P + d) at_ = d := by
  unfold dg
  rw [show at_ + 1 - 1 - at_ = 0 by omega, Nat.pow_zero, Nat.div_one]
  omega
theorem dg_fst (hi : i < at_) (hd : d < 6) : dg (at_ + 1) (6 * P + d) i = dg at_ P i := by
  rw [dg_up hi, Nat.pow_one]
  congr 1
  omega
theorem rng (hl : P * 6 ^ k ≤ v) (hr : v < (P + 1) * 6 ^ k) : v / 6 ^ k = P := by
  have hp : 0 < 6 ^ k := Nat.pow_pos (by decide)
  apply Nat.div_eq_of_lt_le
  · exact hl
  · exact hr
/-- rows that begin so -/
theorem ocn_le (hl : P * 6 ^ k ≤ v) (hr : v < (P + 1) * 6 ^ k) : ocn A F c (at_ + k) v ≤ (smr A F c (dg at_ P) at_).2 + k := by
  have e := rng hl hr
  have s : smr A F c (dg (at_ + k) v) at_ = smr A F c (dg at_ P) at_ := smr_cg at_ (fun j hj => by rw [dg_up hj, e])
  have := smr_le (A := A) (F := F) (c := c) (r := dg (at_ + k) v) at_ k
  rw [s] at this
  exact this
theorem rst_no (hn : at_ + (k + 1) = pcn M) (hR : rst6 M at_ P X) (hd : d < 6) (hX : ¬ bin X d) (hl : (6 * P + d) * 6 ^ k ≤ v) (hr : v < (6 * P + d + 1) * 6 ^ k) : ¬ vld M (at_ + (k + 1)) v := by
  intro hv
  have e := rng hl hr
  have e2 : v / 6 ^ (k + 1) = P := by
    rw [Nat.pow_succ, ← Nat.div_div_eq_div_mul, e]
    omega
  have d1 : dg (at_ + (k + 1)) v at_ = d := by
    have : dg (at_ + 1 + k) v at_ = dg (at_ + 1) (v / 6 ^ k) at_ := dg_up (by omega)
    rw [show at_ + (k + 1) = at_ + 1 + k by omega, this, e, dg_last hd]
  have d2 : ∀ i, i < at_ → dg (at_ + (k + 1)) v i = dg at_ P i := fun i hi => by rw [dg_up hi, e2]
  refine hX ((hR.2 d hd).mpr ⟨?_, fun i hi q => ?_⟩)
  · have := vld_in (i := at_) hv (by omega)
    rw [d1] at this
    exact this
  · have := vld_inj hn hv (i := i) (j := at_) hi (by omega)
    rw [d1, d2 i hi] at this
    exact this q
end OR1
theorem pcn_clr : ∀ m, m < 64 → ∀ d, d < 6 → m / 2 ^ d % 2 = 1 → (nI m &&& ((1 <<< (nI d &&& 31)) ^^^ (-1))) = nI (m - 2 ^ d) ∧ pcn (m - 2 ^ d) + 1 = pcn m := by decide +kernel
theorem bin_clr0 : ∀ m, m < 64 → ∀ d, d < 6 → m / 2 ^ d % 2 = 1 → ∀ i, i < 6 → ((m - 2 ^ d) / 2 ^ i % 2 == if i = d then 0 else m / 2 ^ i % 2) = true := by decide +kernel
theorem bin_clr {m d i : Nat} (hm : m < 64) (hd : d < 6) (h : bin m d) (hi : i < 6) : bin (m - 2 ^ d) i ↔ bin m i ∧ i ≠ d := by
  have e := bin_clr0 m hm d hd h i hi
  rw [beq_iff_eq] at e
  unfold bin
  rw [e]
  by_cases q : i = d
  · rw [if_pos q]; exact ⟨fun z => by omega, fun z => absurd q z.2⟩
  · rw [if_neg q]; exact ⟨fun z => ⟨z, q⟩, fun z => z.1⟩
theorem pcn_0 : ∀ m, m < 64 → (pcn m = 0 ↔ m = 0) := by decide +kernel
theorem pcn_6 : ∀ m, m < 64 → pcn m ≤ 6 := by decide +kernel
theorem bin_ext {m M : Nat} (hm : m < 64) (hM : M < 64) (h : ∀ j, j < 6 → (bin m j ↔ bin M j)) : m = M := by
  have a := (bin_sub hM hm).mpr (fun b hb q => (h b hb).mp q)
  have b := (bin_sub hm hM).mpr (fun b hb q => (h b hb).mpr q)
  rw [Int32.and_comm] at a
  exact (nI_eq (by omega) (by omega)).mp (a.symm.trans b)
