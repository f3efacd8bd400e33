/-! bits of small sets -/
def bin (m j : Nat) : Prop := m / 2 ^ j % 2 = 1
def bset (m j : Nat) : Nat := if m / 2 ^ j % 2 = 1 then m else m + 2 ^ j
theorem bit_get : ∀ m, m < 128 → ∀ j, j < 7 → ((nI m >>> (nI j &&& 31)) &&& 1) = nI (m / 2 ^ j % 2) := by decide +kernel
theorem bit_set : ∀ m, m < 128 → ∀ j, j < 7 → (nI m ||| (1 <<< (nI j &&& 31))) = nI (bset m j) ∧ bset m j < 128 := by decide +kernel
theorem bset_in0 : ∀ m, m < 128 → ∀ j, j < 7 → ∀ i, i < 7 → (bset m j / 2 ^ i % 2 == if i = j then 1 else m / 2 ^ i % 2) = true := by decide +kernel
theorem bset_in {m i j : Nat} (hm : m < 128) (hj : j < 7) (hi : i < 7) : bin (bset m j) i ↔ bin m i ∨ i = j := by
  have h := bset_in0 m hm j hj i hi
  rw [beq_iff_eq] at h
  unfold bin
  rw [h]
  by_cases e : i = j
  · rw [if_pos e]; exact ⟨fun _ => Or.inr e, fun _ => rfl⟩
  · rw [if_neg e]; exact ⟨Or.inl, fun q => q.resolve_right e⟩
theorem bin_c {m j : Nat} (hm : m < 128) (hj : j < 7) : ((nI m >>> (nI j &&& 31)) &&& 1) = 1 ↔ bin m j := by
  rw [bit_get m hm j hj]
  have := Nat.mod_lt (m / 2 ^ j) (show 0 < 2 by decide)
  exact nI_eq (b := 1) (by omega) (by decide)
theorem bin_z {m j : Nat} (hm : m < 128) (hj : j < 7) : ((nI m >>> (nI j &&& 31)) &&& 1) = 0 ↔ ¬ bin m j := by
  rw [bit_get m hm j hj]
  have := Nat.mod_lt (m / 2 ^ j) (show 0 < 2 by decide)
  have e := nI_eq (a := m / 2 ^ j % 2) (b := 0) (by omega) (by decide)
  rw [show (0 : Int32) = nI 0 from rfl, e]
  unfold bin
  omega
