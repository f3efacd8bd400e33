/-! the model: what it tells of a lake, in part -/
theorem p27_inj {f g : Nat → Nat} : ∀ a b, (∀ j, j < a → 1 ≤ f j ∧ f j ≤ 26) → (∀ j, j < b → 1 ≤ g j ∧ g j ≤ 26) → p27 f a = p27 g b → a = b ∧ ∀ j, j < a → f j = g j
  | 0, 0, _, _, _ => ⟨rfl, fun j hj => absurd hj (Nat.not_lt_zero _)⟩
  | 0, b + 1, _, hg, e => by
    have := hg b (by omega)
    rw [p27_step hg (Nat.lt_succ_self b)] at e
    have e0 : p27 f 0 = 0 := rfl
    omega
  | a + 1, 0, hf, _, e => by
    have := hf a (by omega)
    rw [p27_step hf (Nat.lt_succ_self a)] at e
    have e0 : p27 g 0 = 0 := rfl
    omega
  | a + 1, b + 1, hf, hg, e => by
    have x := hf a (by omega)
    have y := hg b (by omega)
    rw [p27_step hf (Nat.lt_succ_self a), p27_step hg (Nat.lt_succ_self b)] at e
    obtain ⟨i1, i2⟩ := p27_inj a b (fun j hj => hf j (by omega)) (fun j hj => hg j (by omega)) (by omega)
    subst i1
    refine ⟨rfl, fun j hj => ?_⟩
    by_cases z : j = a
    · rw [z]; omega
    · exact i2 j (by omega)
theorem nwf_len {f : Nat → Nat} (h : nwf f) : ∃ k, k ≤ 6 ∧ (∀ j, j < k → 1 ≤ f j ∧ f j ≤ 26) ∧ ∀ j, k ≤ j → j < 6 → f j = 0 := by
  obtain ⟨h1, h2, h3⟩ := h
  have H : ∀ r k, k + r = 6 → (∀ j, j < k → 1 ≤ f j ∧ f j ≤ 26) → ∃ k, k ≤ 6 ∧ (∀ j, j < k → 1 ≤ f j ∧ f j ≤ 26) ∧ ∀ j, k ≤ j → j < 6 → f j = 0 := by
    intro r
    induction r with
    | zero => exact fun k hk a => ⟨k, by omega, a, fun j x y => by omega⟩
    | succ r ih =>
      intro k hk a
      by_cases z : f k = 0
      · refine ⟨k, by omega, a, fun j x y => ?_⟩
        have : ∀ i, k + i < 6 → f (k + i) = 0 := by
          intro i
          induction i with
          | zero => exact fun _ => z
          | succ i ih2 => exact fun q => h3 (k + i) (by omega) (ih2 (by omega))
        have := this (j - k) (by omega)
        rw [show k + (j - k) = j by omega] at this
        exact this
      · refine ih (k + 1) (by omega) (fun j hj => ?_)
        by_cases y : j = k
        · rw [y]; exact ⟨by omega, h1 k (by omega)⟩
        · exact a j (by omega)
  exact H 6 0 rfl (fun j hj => absurd hj (Nat.not_lt_zero _))
theorem p27_cg {f g : Nat → Nat} : ∀ k, (∀ j, j < k → f j = g j) → p27 f k = p27 g k
  | 0, _ => rfl
  | k + 1, h => by
    unfold p27
    rw [p27_cg k (fun j hj => h j (by omega)), h k (by omega)]
theorem p27_nm {f g : Nat → Nat} (hf : nwf f) (hg : nwf g) : lN (p27 f 6) = lN (p27 g 6) ↔ nmE f g := by
  obtain ⟨a, a6, fa, fz⟩ := nwf_len hf
  obtain ⟨b, b6, gb, gz⟩ := nwf_len hg
  have e1 : p27 f 6 = p27 f a := by
    have := p27_tail fz (6 - a) (by omega)
    rw [show a + (6 - a) = 6 by omega] at this
    exact this
  have e2 : p27 g 6 = p27 g b := by
    have := p27_tail gz (6 - b) (by omega)
    rw [show b + (6 - b) = 6 by omega] at this
    exact this
  have l1 := p27_lt fa a (Nat.le_refl _)
  have l2 := p27_lt gb b (Nat.le_refl _)
  have q1 : (27 : Nat) ^ a ≤ 27 ^ 6 := Nat.pow_le_pow_right (by decide) a6
  have q2 : (27 : Nat) ^ b ≤ 27 ^ 6 := Nat.pow_le_pow_right (by decide) b6
  have q3 : (27 : Nat) ^ 6 < 2 ^ 63 := by decide
  constructor
  · intro e j hj
    have e : p27 f 6 = p27 g 6 := by
      have := congrArg Int64.toInt e
      rw [lN_toInt2 (by omega), lN_toInt2 (by omega)] at this
      omega
    rw [e1, e2] at e
    obtain ⟨i1, i2⟩ := p27_inj a b fa gb e
    by_cases z : j < a
    · exact i2 j z
    · rw [fz j (by omega) hj, gz j (by omega) hj]
  · intro e
    rw [p27_cg 6 e]
theorem bdR_oI {α : Type} {o : Except (Nat × Nat) α} {a : α} {R : α → sOut → Prop} {out : sOut} (q : o = .ok a) (r : bdR o R out) : R a out := by rw [q] at r; exact r
theorem bdR_eI {α : Type} {o : Except (Nat × Nat) α} {f : Nat × Nat} {R : α → sOut → Prop} {out : sOut} (q : o = .error f) (r : bdR o R out) : out = .error f := by rw [q] at r; exact r
section MF
variable {l : Launch} {G : gG} {d : Nat} {Q : Option Value → gH → Prop} {h h1 h2 : gH} {lk sp : Nat} {cd : Option Nat} {t : Nat → Nat} {n s i f q c b w z : Nat} {u : Bool} {L : qL} {a1 a2 : Int32}
theorem m_asks_f {m : Nat} (hw : gWf h lk sp cd) (hs : gSH[w]? = some (22, m)) (h5 : h.1 82 5 ≠ 0) (hq : Q none h) : gC l G (d + 1) MX12_asks [.ref 82, .ref w] h Q := eX12_asks hw hs (bN' h5 hq)
theorem m_number_f (hw : gWf h lk sp cd) (h5 : h.1 82 5 ≠ 0) (hq : Q (some (.int 0)) h) : gC l G (d + 1) MX12_number [.ref 82, .int a1, .int a2] h Q := eX12_number hw (fun p e s m args below meth cc => bN h5 hq)
theorem m_asksSign_f (hw : gWf h lk sp cd) (h5 : h.1 82 5 ≠ 0) (hq : Q none h) : gC l G (d + 1) MX12_asksSign [.ref 82, .int a1] h Q := eX12_asksSign hw (bN' h5 hq)
theorem m_name_f (hw : gWf h lk sp cd) (h5 : h.1 82 5 ≠ 0) (hq : Q (some (.long 0)) h) : gC l G (d + 1) MX12_name [.ref 82] h Q := eX12_name hw (fun p e s m args below meth cc => bN h5 hq)
theorem m_fail_f (hw : gWf h lk sp cd) (h5 : h.1 82 5 ≠ 0) (hq : Q none h) : gC l G d MX12_fail [.ref 82, .int a1, .int a2] h Q := eX12_fail hw (bN h5 hq)
end MF
