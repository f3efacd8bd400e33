/-! numbers with signs -/
def iI (x : Int) : Int32 := Int32.ofInt x
def lI (x : Int) : Int64 := Int64.ofInt x
theorem iI_toInt {x : Int} (h1 : -2147483648 ≤ x) (h2 : x ≤ 2147483647) : (iI x).toInt = x := Int32.toInt_ofInt_of_le (by omega) (by omega)
theorem lI_toInt {x : Int} (h1 : -1000000000000000000 ≤ x) (h2 : x ≤ 1000000000000000000) : (lI x).toInt = x := Int64.toInt_ofInt_of_le (by omega) (by omega)
theorem iI_nat {n : Nat} (h : n < 2 ^ 31) : nI n = iI n := Int32.toInt_inj.mp (by rw [nI_toInt h, iI_toInt (by omega) (by omega)])
theorem iI_l {x : Int} (h1 : -2147483648 ≤ x) (h2 : x ≤ 2147483647) : (iI x).toInt64 = lI x := Int64.toInt_inj.mp (by rw [Int32.toInt_toInt64, iI_toInt h1 h2, lI_toInt (by omega) (by omega)])
theorem lI_i (x : Int) : (lI x).toInt32 = iI x := Int64.toInt32_ofInt
theorem lI_add (a b : Int) : lI a + lI b = lI (a + b) := (Int64.ofInt_add a b).symm
theorem lI_sub (a b : Int) : lI a - lI b = lI (a - b) := (Int64.ofInt_sub a b).symm
theorem lI_mul (a b : Int) : lI a * lI b = lI (a * b) := (Int64.ofInt_mul a b).symm
theorem lI_lt {a b : Int} (h1 : -1000000000000000000 ≤ a) (h2 : a ≤ 1000000000000000000) (h3 : -1000000000000000000 ≤ b) (h4 : b ≤ 1000000000000000000) : lI a < lI b ↔ a < b := by rw [Int64.lt_iff_toInt_lt, lI_toInt h1 h2, lI_toInt h3 h4]
theorem lI_le {a b : Int} (h1 : -1000000000000000000 ≤ a) (h2 : a ≤ 1000000000000000000) (h3 : -1000000000000000000 ≤ b) (h4 : b ≤ 1000000000000000000) : lI a ≤ lI b ↔ a ≤ b := by rw [Int64.le_iff_toInt_le, lI_toInt h1 h2, lI_toInt h3 h4]
theorem lI_eq {a b : Int} (h1 : -1000000000000000000 ≤ a) (h2 : a ≤ 1000000000000000000) (h3 : -1000000000000000000 ≤ b) (h4 : b ≤ 1000000000000000000) : lI a = lI b ↔ a = b := by rw [← Int64.toInt_inj, lI_toInt h1 h2, lI_toInt h3 h4]
theorem iI_lt {a b : Int} (h1 : -2147483648 ≤ a) (h2 : a ≤ 2147483647) (h3 : -2147483648 ≤ b) (h4 : b ≤ 2147483647) : iI a < iI b ↔ a < b := by rw [Int32.lt_iff_toInt_lt, iI_toInt h1 h2, iI_toInt h3 h4]
theorem iI_le {a b : Int} (h1 : -2147483648 ≤ a) (h2 : a ≤ 2147483647) (h3 : -2147483648 ≤ b) (h4 : b ≤ 2147483647) : iI a ≤ iI b ↔ a ≤ b := by rw [Int32.le_iff_toInt_le, iI_toInt h1 h2, iI_toInt h3 h4]
theorem iI_eq {a b : Int} (h1 : -2147483648 ≤ a) (h2 : a ≤ 2147483647) (h3 : -2147483648 ≤ b) (h4 : b ≤ 2147483647) : iI a = iI b ↔ a = b := by rw [← Int32.toInt_inj, iI_toInt h1 h2, iI_toInt h3 h4]
/-- within a million -/
def mil (x : Int) : Prop := -1000000 ≤ x ∧ x ≤ 1000000
def clp (x : Int) : Int := if x < 1000000 then (if x < -1000000 then -1000000 else x) else 1000000
theorem clp_m (x : Int) : mil (clp x) := by unfold clp mil; split <;> (try split) <;> omega
theorem clp_id {x : Int} (h : mil x) : clp x = x := by unfold mil at h; unfold clp; split <;> (try split) <;> omega
theorem l_mil : (1000000 : Int64) = lI 1000000 := by decide
theorem l_mil' : (-1000000 : Int64) = lI (-1000000) := by decide
/-- as the class clips -/
theorem clp_c {x : Int} (h1 : -1000000000000000000 ≤ x) (h2 : x ≤ 1000000000000000000) : ((if (if lI x < 1000000 then lI x else 1000000) < (-1000000) then (-1000000) else (if lI x < 1000000 then lI x else 1000000)) : Int64).toInt32 = iI (clp x) := by
  have e1 : lI x < 1000000 ↔ x < 1000000 := by rw [l_mil]; exact lI_lt h1 h2 (by omega) (by omega)
  have e2 : lI x < (-1000000) ↔ x < -1000000 := by rw [l_mil']; exact lI_lt h1 h2 (by omega) (by omega)
  unfold clp
  by_cases q : x < 1000000
  · rw [if_pos (e1.mpr q), if_pos q]
    by_cases q2 : x < -1000000
    · rw [if_pos (e2.mpr q2), if_pos q2]; decide
    · rw [if_neg (mt e2.mp q2), if_neg q2]; exact lI_i x
  · rw [if_neg (mt e1.mp q), if_neg q, if_neg (by decide)]; decide
/-- rounded down, 0 by 0 -/
def fdi (a b : Int) : Int := if b = 0 then 0 else if a.tdiv b * b = a then a.tdiv b else if a < 0 ↔ b < 0 then a.tdiv b else a.tdiv b - 1
theorem tdv_m {a : Int} (b : Int) (h : mil a) : mil (a.tdiv b) := by
  have h1 : (a.tdiv b).natAbs ≤ a.natAbs := by rw [Int.natAbs_tdiv]; exact Nat.div_le_self _ _
  unfold mil at h ⊢
  omega
theorem fdi_m {a b : Int} (h : mil a) : mil (fdi a b) := by
  have h1 := tdv_m b h
  unfold fdi
  split
  · exact ⟨by decide, by decide⟩
  · split
    · exact h1
    · split
      · exact h1
      · rename_i e1 e2 e3
        have h3 : (a.tdiv b).natAbs * b.natAbs ≤ a.natAbs := by rw [Int.natAbs_tdiv]; exact Nat.div_mul_le_self _ _
        unfold mil at h h1 ⊢
        refine ⟨?_, by omega⟩
        refine Decidable.byContradiction (fun q => ?_)
        have q1 : a.tdiv b = -1000000 := by omega
        have q3 : (a.tdiv b).natAbs = 1000000 := by omega
        rw [q3] at h3
        have q4 : b.natAbs = 1 ∧ a.natAbs = 1000000 := by omega
        apply e2
        rw [q1]
        have hb : b = 1 ∨ b = -1 := by omega
        have ha : a = 1000000 ∨ a = -1000000 := by omega
        rcases hb with rfl | rfl <;> rcases ha with rfl | rfl <;> first | omega | (revert q1; decide)
theorem x_sgn (a b : Int32) : (a ^^^ b) < 0 ↔ ¬ (a < 0 ↔ b < 0) := by
  have e : ∀ x : Int32, x < 0 ↔ x.toBitVec.msb = true := fun x => by
    rw [BitVec.msb_eq_toInt, Int32.lt_iff_toInt_lt]
    show x.toBitVec.toInt < (0 : Int32).toInt ↔ _
    rw [show (0 : Int32).toInt = 0 by decide]
    simp
  rw [e, e, e, Int32.toBitVec_xor, BitVec.msb_xor]
  cases a.toBitVec.msb <;> cases b.toBitVec.msb <;> simp
theorem iI_div {a b : Int} (h : mil a) (hb : mil b) : iI a / iI b = iI (a.tdiv b) := by
  have h1 := tdv_m b h
  unfold mil at h h1 hb
  refine Int32.toInt_inj.mp ?_
  rw [Int32.toInt_div, iI_toInt (by omega) (by omega), iI_toInt (by omega) (by omega), iI_toInt (by omega) (by omega)]
  exact Int.bmod_eq_of_le (by omega) (by omega)
theorem lI_div {a b : Int} (h : mil a) (hb : mil b) : lI a / lI b = lI (a.tdiv b) := by
  have h1 := tdv_m b h
  unfold mil at h h1 hb
  refine Int64.toInt_inj.mp ?_
  rw [Int64.toInt_div, lI_toInt (by omega) (by omega), lI_toInt (by omega) (by omega), lI_toInt (by omega) (by omega)]
  exact Int.bmod_eq_of_le (by omega) (by omega)
theorem iI_mul (a b : Int) : iI a * iI b = iI (a * b) := (Int32.ofInt_mul a b).symm
theorem iI_sub (a b : Int) : iI a - iI b = iI (a - b) := (Int32.ofInt_sub a b).symm
theorem tdm {a : Int} (b : Int) (h : mil a) : -1000000 ≤ a.tdiv b * b ∧ a.tdiv b * b ≤ 1000000 := by
  have h3 : (a.tdiv b * b).natAbs ≤ a.natAbs := by rw [Int.natAbs_mul, Int.natAbs_tdiv]; exact Nat.div_mul_le_self _ _
  unfold mil at h
  omega
