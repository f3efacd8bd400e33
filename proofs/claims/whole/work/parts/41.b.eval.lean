theorem fdv_i {a b : Int} (h : mil a) (hb : mil b) (h0 : b ≠ 0) : fdv (iI a) (iI b) = iI (fdi a b) := by
  have h2 := tdm b h
  have ed := iI_div h hb
  have hm := h
  have hbm := hb
  unfold mil at h hb
  have e0 : (0 : Int32) = iI 0 := by decide
  have e1 : (1 : Int32) = iI 1 := by decide
  have es : (iI a ^^^ iI b) < 0 ↔ ¬ (a < 0 ↔ b < 0) := by
    rw [x_sgn, e0, iI_lt (by omega) (by omega) (by omega) (by omega), iI_lt (by omega) (by omega) (by omega) (by omega)]
  have em : iI (a.tdiv b) * iI b = iI a ↔ a.tdiv b * b = a := by
    rw [iI_mul, iI_eq (by omega) (by omega) (by omega) (by omega)]
  unfold fdv fdi
  rw [ed, if_neg h0]
  by_cases q : a < 0 ↔ b < 0
  · rw [if_neg (fun z => (es.mp z) q)]
    by_cases q2 : a.tdiv b * b = a
    · rw [if_pos q2]
    · rw [if_neg q2, if_pos q]
  · rw [if_pos (es.mpr q)]
    by_cases q2 : a.tdiv b * b = a
    · rw [if_pos (em.mpr q2), if_pos q2]
    · rw [if_neg (mt em.mp q2), if_neg q2, if_neg q, e1, iI_sub]
/-! rows for a stack: a token below 1000 is a word, else a number -/
def jn (u : Nat) (a b : Int) : Int := if u = 43 then clp (a + b) else if u = 45 then clp (a - b) else if u = 42 then clp (a * b) else if u = 47 then fdi a b else if u = 32 ∨ u = 29 then (if b < a then b else a) else if u = 33 ∨ u = 28 then (if a < b then b else a) else if u = 60 then (if a < b then 1 else 0) else if u = 62 then (if b < a then 1 else 0) else (if a = b then 1 else 0)
theorem jn_m {u : Nat} {a b : Int} (ha : mil a) (hb : mil b) : mil (jn u a b) := by
  have h0 : mil 0 := ⟨by decide, by decide⟩
  have h1 : mil 1 := ⟨by decide, by decide⟩
  unfold jn
  split; exact clp_m _
  split; exact clp_m _
  split; exact clp_m _
  split; exact fdi_m ha
  split; (split <;> assumption)
  split; (split <;> assumption)
  split; (split <;> assumption)
  split; (split <;> assumption)
  split <;> assumption
abbrev psh (u : Nat) : Prop := u < 27 ∨ 1000 ≤ u
abbrev una (u : Nat) : Prop := u = 27 ∨ u = 30
def un (C : Int → Int) (u : Nat) (a : Int) : Int := if u = 27 then C a else if a = 0 then 1 else 0
def dpu (f : Nat → Nat) : Nat → Nat
  | 0 => 0
  | i + 1 => if psh (f i) then dpu f i + 1 else if una (f i) then dpu f i else dpu f i - 1
def uok (u : Nat) : Prop := u < 31 ∨ u ∈ [32, 33, 42, 43, 45, 47, 60, 61, 62] ∨ (1000 ≤ u ∧ u ≤ 10999)
def uwf (f : Nat → Nat) (n : Nat) : Prop := (∀ i, i < n → uok (f i) ∧ (una (f i) → 1 ≤ dpu f i) ∧ (¬ psh (f i) → ¬ una (f i) → 2 ≤ dpu f i) ∧ dpu f (i + 1) ≤ 64) ∧ (0 < n → dpu f n = 1)
def evS (V : Nat → Int) (C : Int → Int) (f : Nat → Nat) : Nat → Nat → Int
  | 0, _ => 0
  | i + 1, j => if psh (f i) then (if j = dpu f i then (if f i < 27 then V (f i) else (f i - 1000 : Nat)) else evS V C f i j) else if una (f i) then (if j = dpu f i - 1 then un C (f i) (evS V C f i (dpu f i - 1)) else evS V C f i j) else (if j = dpu f i - 2 then jn (f i) (evS V C f i (dpu f i - 2)) (evS V C f i (dpu f i - 1)) else evS V C f i j)
theorem evS_cg {V V' : Nat → Int} {C : Int → Int} {f : Nat → Nat} : ∀ i, (∀ k, k < i → f k < 27 → V (f k) = V' (f k)) → evS V C f i = evS V' C f i
  | 0, _ => rfl
  | i + 1, h => by
    funext j
    have e := evS_cg (C := C) i (fun k hk => h k (by omega))
    unfold evS
    rw [e]
    by_cases q : f i < 27
    · rw [h i (by omega) q]
    · simp only [q, if_false]
theorem evS_m {V : Nat → Int} {C : Int → Int} {f : Nat → Nat} {n : Nat} (hf : uwf f n) (hV : ∀ i, i < n → f i < 27 → mil (V (f i))) (hC : ∀ i, i < n → f i = 27 → ∀ x, mil (C x)) : ∀ i, i ≤ n → ∀ j, j < dpu f i → mil (evS V C f i j)
  | 0, _, j, hj => absurd hj (Nat.not_lt_zero _)
  | i + 1, hi, j, hj => by
    have ih := evS_m hf hV hC i (by omega)
    obtain ⟨h1, h2, h3, h4⟩ := hf.1 i (by omega)
    unfold dpu at hj
    unfold evS
    by_cases q : psh (f i)
    · rw [if_pos q] at hj ⊢
      by_cases e : j = dpu f i
      · rw [if_pos e]
        by_cases e2 : f i < 27
        · rw [if_pos e2]; exact hV i (by omega) e2
        · rw [if_neg e2]
          unfold psh at q
          have : f i ≤ 10999 := by
            rcases h1 with h1 | h1 | h1
            · omega
            · simp at h1; omega
            · exact h1.2
          constructor <;> omega
      · rw [if_neg e]; exact ih j (by omega)
    · rw [if_neg q] at hj ⊢
      by_cases q2 : una (f i)
      · rw [if_pos q2] at hj ⊢
        by_cases e : j = dpu f i - 1
        · rw [if_pos e]
          unfold un
          split
          · rename_i e2; exact hC i (by omega) e2 _
          · split <;> constructor <;> decide
        · rw [if_neg e]; exact ih j hj
      · rw [if_neg q2] at hj ⊢
        have h3 := h3 q q2
        by_cases e : j = dpu f i - 2
        · rw [if_pos e]; exact jn_m (ih _ (by omega)) (ih _ (by omega))
        · rw [if_neg e]; exact ih j (by omega)
/-- a token as the class writes it -/
def ucc (u : Nat) : Int32 := if 1000 ≤ u then nI (u - 1000) else -1 - nI u
def clt (x : Int) : Nat := if x < 0 then 0 else if 99 < x then 99 else x.toNat
theorem clt_le (x : Int) : clt x ≤ 99 := by unfold clt; split; omega; split <;> omega
theorem clt_c {x : Int} (h : mil x) : (if (0 : Int32) < (if iI x < 99 then iI x else 99) then (if iI x < 99 then iI x else 99) else 0) = nI (clt x) := by
  unfold mil at h
  have e0 : (0 : Int32) = iI 0 := by decide
  have e9 : (99 : Int32) = iI 99 := by decide
  unfold clt
  rw [e9, e0]
  by_cases q : x < 99
  · rw [if_pos ((iI_lt (by omega) (by omega) (by omega) (by omega)).mpr q)]
    by_cases q2 : x < 0
    · rw [if_pos q2, if_neg (mt (iI_lt (by omega) (by omega) (by omega) (by omega)).mp (by omega))]; decide
    · rw [if_neg q2, if_neg (show ¬ 99 < x by omega)]
      by_cases q3 : 0 < x
      · rw [if_pos ((iI_lt (by omega) (by omega) (by omega) (by omega)).mpr q3), iI_nat (by omega)]
        congr 1; omega
      · rw [if_neg (mt (iI_lt (by omega) (by omega) (by omega) (by omega)).mp q3), show x = 0 by omega]; decide
  · rw [if_neg (mt (iI_lt (by omega) (by omega) (by omega) (by omega)).mp q), if_neg (show ¬ x < 0 by omega), if_pos (by decide)]
    by_cases q4 : 99 < x
    · rw [if_pos q4]; decide
    · rw [if_neg q4, show x = 99 by omega]; decide
