def fupd (F : qT) (i j v : Nat) : qT := fun a b => if a = i ∧ b = j then v else F a b
theorem fupd_s (F : qT) (i j v : Nat) : fupd F i j v i j = v := if_pos ⟨rfl, rfl⟩
theorem fupd_i {F : qT} {i j v a b : Nat} (h : a ≠ i) : fupd F i j v a b = F a b := if_neg (fun q => h q.1)
theorem fupd_j {F : qT} {i j v a b : Nat} (h : b ≠ j) : fupd F i j v a b = F a b := if_neg (fun q => h q.2)
section FU
variable {B T b v : Nat} {F : qT} {x x' y y' : Nat → Int32}
theorem FC.hour (e : ∀ j, j ≠ 0 → x' j = x j) (ev : x' 0 = nI v) (q : FC B F T x) : FC B (fupd F 0 0 v) T x' := by
  obtain ⟨q1, q2, q3, q4, q5, q6⟩ := q
  refine ⟨ev, by rw [e 1 (by decide)]; exact q2, by rw [e 2 (by decide)]; exact q3, q4, fun b hb => ?_, fun i hi => ?_⟩
  · rw [e _ (by omega), e _ (by omega), e _ (by omega), e _ (by omega)]
    exact q5 b hb
  · rw [e _ (by omega)]
    exact q6 i hi
theorem FM.hour (e : ∀ j, j ≠ 0 → y' j = y j) (ev : y' 0 = nI v) (q : FM B F y) : FM B (fupd F 0 0 v) y' := by
  obtain ⟨q1, q2, q3, q4, q5⟩ := q
  refine ⟨ev, by rw [e 1 (by decide)]; exact q2, by rw [e 26 (by decide)]; exact q3, fun b hb => ?_, fun i hi => ?_⟩
  · rw [e _ (by omega), e _ (by omega), e _ (by omega), e _ (by omega)]
    exact q4 b hb
  · rw [e _ (by omega), e _ (by omega), e _ (by omega), e _ (by omega)]
    exact q5 i hi
theorem FC.coin (e : ∀ j, j ≠ 1 → x' j = x j) (ev : x' 1 = nI v) (q : FC B F T x) : FC B (fupd F 0 1 v) T x' := by
  obtain ⟨q1, q2, q3, q4, q5, q6⟩ := q
  refine ⟨by rw [e 0 (by decide)]; exact q1, ev, by rw [e 2 (by decide)]; exact q3, q4, fun b hb => ?_, fun i hi => ?_⟩
  · rw [e _ (by omega), e _ (by omega), e _ (by omega), e _ (by omega)]
    exact q5 b hb
  · rw [e _ (by omega)]
    exact q6 i hi
theorem FM.coin (e : ∀ j, j ≠ 1 → y' j = y j) (ev : y' 1 = nI v) (q : FM B F y) : FM B (fupd F 0 1 v) y' := by
  obtain ⟨q1, q2, q3, q4, q5⟩ := q
  refine ⟨by rw [e 0 (by decide)]; exact q1, ev, by rw [e 26 (by decide)]; exact q3, fun b hb => ?_, fun i hi => ?_⟩
  · rw [e _ (by omega), e _ (by omega), e _ (by omega), e _ (by omega)]
    exact q4 b hb
  · rw [e _ (by omega), e _ (by omega), e _ (by omega), e _ (by omega)]
    exact q5 i hi
theorem FC.cell (hb : b < B) (hB : B ≤ 6) (e : ∀ j, j ≠ 3 + b → x' j = x j) (ev : x' (3 + b) = nI v) (q : FC B F T x) : FC B (fupd F 1 b v) T x' := by
  obtain ⟨q1, q2, q3, q4, q5, q6⟩ := q
  refine ⟨by rw [e 0 (by omega)]; exact q1, by rw [e 1 (by omega)]; exact q2, by rw [e 2 (by omega)]; exact q3, q4, fun b' hb' => ⟨?_, ?_, ?_, ?_⟩, fun i hi => ?_⟩
  · by_cases z : b' = b
    · subst z
      show x' (3 + b') = nI (fupd F 1 b' v 1 b')
      rw [fupd_s]
      exact ev
    · show x' (3 + b') = nI (fupd F 1 b v 1 b')
      rw [fupd_j z, e _ (by omega)]
      exact (q5 b' hb').1
  · show x' (9 + b') = _
    rw [e _ (by omega)]
    exact (q5 b' hb').2.1
  · show x' (15 + b') = _
    rw [e _ (by omega)]
    exact (q5 b' hb').2.2.1
  · show x' (21 + b') = _
    rw [e _ (by omega)]
    exact (q5 b' hb').2.2.2
  · rw [e _ (by omega)]
    exact q6 i hi
theorem FM.cell (hb : b < B) (hB : B ≤ 6) (e : ∀ j, j ≠ 2 + 4 * b + 0 → y' j = y j) (ev : y' (2 + 4 * b + 0) = nI v) (q : FM B F y) : FM B (fupd F 1 b v) y' := by
  obtain ⟨q1, q2, q3, q4, q5⟩ := q
  refine ⟨by rw [e 0 (by omega)]; exact q1, by rw [e 1 (by omega)]; exact q2, by rw [e 26 (by omega)]; exact q3, fun b' hb' => ⟨?_, ?_, ?_, ?_⟩, fun i hi => ?_⟩
  · by_cases z : b' = b
    · subst z
      show y' (2 + 4 * b' + 0) = nI (fupd F 1 b' v 1 b')
      rw [fupd_s]
      exact ev
    · show y' (2 + 4 * b' + 0) = nI (fupd F 1 b v 1 b')
      rw [fupd_j z, e _ (by omega)]
      exact (q4 b' hb').1
  · show y' (2 + 4 * b' + 1) = _
    rw [e _ (by omega)]
    exact (q4 b' hb').2.1
  · show y' (2 + 4 * b' + 2) = _
    rw [e _ (by omega)]
    exact (q4 b' hb').2.2.1
  · show y' (2 + 4 * b' + 3) = _
    rw [e _ (by omega)]
    exact (q4 b' hb').2.2.2
  · rw [e _ (by omega), e _ (by omega), e _ (by omega), e _ (by omega)]
    exact q5 i hi
theorem FC.trust (hb : b < B) (hB : B ≤ 6) (e : ∀ j, j ≠ 9 + b → x' j = x j) (ev : x' (9 + b) = nI v) (q : FC B F T x) : FC B (fupd F 2 b v) T x' := by
  obtain ⟨q1, q2, q3, q4, q5, q6⟩ := q
  refine ⟨by rw [e 0 (by omega)]; exact q1, by rw [e 1 (by omega)]; exact q2, by rw [e 2 (by omega)]; exact q3, q4, fun b' hb' => ⟨?_, ?_, ?_, ?_⟩, fun i hi => ?_⟩
  · show x' (3 + b') = _
    rw [e _ (by omega)]
    exact (q5 b' hb').1
  · by_cases z : b' = b
    · subst z
      show x' (9 + b') = nI (fupd F 2 b' v 2 b')
      rw [fupd_s]
      exact ev
    · show x' (9 + b') = nI (fupd F 2 b v 2 b')
      rw [fupd_j z, e _ (by omega)]
      exact (q5 b' hb').2.1
  · show x' (15 + b') = _
    rw [e _ (by omega)]
    exact (q5 b' hb').2.2.1
  · show x' (21 + b') = _
    rw [e _ (by omega)]
    exact (q5 b' hb').2.2.2
  · rw [e _ (by omega)]
    exact q6 i hi
theorem FM.trust (hb : b < B) (hB : B ≤ 6) (e : ∀ j, j ≠ 2 + 4 * b + 1 → y' j = y j) (ev : y' (2 + 4 * b + 1) = nI v) (q : FM B F y) : FM B (fupd F 2 b v) y' := by
  obtain ⟨q1, q2, q3, q4, q5⟩ := q
  refine ⟨by rw [e 0 (by omega)]; exact q1, by rw [e 1 (by omega)]; exact q2, by rw [e 26 (by omega)]; exact q3, fun b' hb' => ⟨?_, ?_, ?_, ?_⟩, fun i hi => ?_⟩
  · show y' (2 + 4 * b' + 0) = _
    rw [e _ (by omega)]
    exact (q4 b' hb').1
  · by_cases z : b' = b
    · subst z
      show y' (2 + 4 * b' + 1) = nI (fupd F 2 b' v 2 b')
      rw [fupd_s]
      exact ev
    · show y' (2 + 4 * b' + 1) = nI (fupd F 2 b v 2 b')
      rw [fupd_j z, e _ (by omega)]
      exact (q4 b' hb').2.1
  · show y' (2 + 4 * b' + 2) = _
    rw [e _ (by omega)]
    exact (q4 b' hb').2.2.1
  · show y' (2 + 4 * b' + 3) = _
    rw [e _ (by omega)]
    exact (q4 b' hb').2.2.2
  · rw [e _ (by omega), e _ (by omega), e _ (by omega), e _ (by omega)]
    exact q5 i hi
theorem FC.balk (hb : b < B) (hB : B ≤ 6) (e : ∀ j, j ≠ 15 + b → x' j = x j) (ev : x' (15 + b) = nI v) (q : FC B F T x) : FC B (fupd F 3 b v) T x' := by
  obtain ⟨q1, q2, q3, q4, q5, q6⟩ := q
  refine ⟨by rw [e 0 (by omega)]; exact q1, by rw [e 1 (by omega)]; exact q2, by rw [e 2 (by omega)]; exact q3, q4, fun b' hb' => ⟨?_, ?_, ?_, ?_⟩, fun i hi => ?_⟩
  · show x' (3 + b') = _
    rw [e _ (by omega)]
    exact (q5 b' hb').1
  · show x' (9 + b') = _
    rw [e _ (by omega)]
    exact (q5 b' hb').2.1
  · by_cases z : b' = b
    · subst z
      show x' (15 + b') = nI (fupd F 3 b' v 3 b')
      rw [fupd_s]
      exact ev
    · show x' (15 + b') = nI (fupd F 3 b v 3 b')
      rw [fupd_j z, e _ (by omega)]
      exact (q5 b' hb').2.2.1
  · show x' (21 + b') = _
    rw [e _ (by omega)]
    exact (q5 b' hb').2.2.2
  · rw [e _ (by omega)]
    exact q6 i hi
theorem FM.balk (hb : b < B) (hB : B ≤ 6) (e : ∀ j, j ≠ 2 + 4 * b + 2 → y' j = y j) (ev : y' (2 + 4 * b + 2) = nI v) (q : FM B F y) : FM B (fupd F 3 b v) y' := by
  obtain ⟨q1, q2, q3, q4, q5⟩ := q
  refine ⟨by rw [e 0 (by omega)]; exact q1, by rw [e 1 (by omega)]; exact q2, by rw [e 26 (by omega)]; exact q3, fun b' hb' => ⟨?_, ?_, ?_, ?_⟩, fun i hi => ?_⟩
  · show y' (2 + 4 * b' + 0) = _
    rw [e _ (by omega)]
    exact (q4 b' hb').1
  · show y' (2 + 4 * b' + 1) = _
    rw [e _ (by omega)]
    exact (q4 b' hb').2.1
  · by_cases z : b' = b
    · subst z
      show y' (2 + 4 * b' + 2) = nI (fupd F 3 b' v 3 b')
      rw [fupd_s]
      exact ev
    · show y' (2 + 4 * b' + 2) = nI (fupd F 3 b v 3 b')
      rw [fupd_j z, e _ (by omega)]
      exact (q4 b' hb').2.2.1
  · show y' (2 + 4 * b' + 3) = _
    rw [e _ (by omega)]
    exact (q4 b' hb').2.2.2
  · rw [e _ (by omega), e _ (by omega), e _ (by omega), e _ (by omega)]
    exact q5 i hi
theorem FC.crew (hb : b < B) (hB : B ≤ 6) (e : ∀ j, j ≠ 21 + b → x' j = x j) (ev : x' (21 + b) = nI v - 1) (q : FC B F T x) : FC B (fupd F 4 b v) T x' := by
  obtain ⟨q1, q2, q3, q4, q5, q6⟩ := q
  refine ⟨by rw [e 0 (by omega)]; exact q1, by rw [e 1 (by omega)]; exact q2, by rw [e 2 (by omega)]; exact q3, q4, fun b' hb' => ⟨?_, ?_, ?_, ?_⟩, fun i hi => ?_⟩
  · show x' (3 + b') = _
    rw [e _ (by omega)]
    exact (q5 b' hb').1
  · show x' (9 + b') = _
    rw [e _ (by omega)]
    exact (q5 b' hb').2.1
  · show x' (15 + b') = _
    rw [e _ (by omega)]
    exact (q5 b' hb').2.2.1
  · by_cases z : b' = b
    · subst z
      show x' (21 + b') = nI (fupd F 4 b' v 4 b') - 1
      rw [fupd_s]
      exact ev
    · show x' (21 + b') = nI (fupd F 4 b v 4 b') - 1
      rw [fupd_j z, e _ (by omega)]
      exact (q5 b' hb').2.2.2
  · rw [e _ (by omega)]
    exact q6 i hi
theorem FM.crew (hb : b < B) (hB : B ≤ 6) (e : ∀ j, j ≠ 2 + 4 * b + 3 → y' j = y j) (ev : y' (2 + 4 * b + 3) = nI v - 1) (q : FM B F y) : FM B (fupd F 4 b v) y' := by
  obtain ⟨q1, q2, q3, q4, q5⟩ := q
  refine ⟨by rw [e 0 (by omega)]; exact q1, by rw [e 1 (by omega)]; exact q2, by rw [e 26 (by omega)]; exact q3, fun b' hb' => ⟨?_, ?_, ?_, ?_⟩, fun i hi => ?_⟩
  · show y' (2 + 4 * b' + 0) = _
    rw [e _ (by omega)]
    exact (q4 b' hb').1
  · show y' (2 + 4 * b' + 1) = _
    rw [e _ (by omega)]
    exact (q4 b' hb').2.1
  · show y' (2 + 4 * b' + 2) = _
    rw [e _ (by omega)]
    exact (q4 b' hb').2.2.1
  · by_cases z : b' = b
    · subst z
      show y' (2 + 4 * b' + 3) = nI (fupd F 4 b' v 4 b') - 1
      rw [fupd_s]
      exact ev
    · show y' (2 + 4 * b' + 3) = nI (fupd F 4 b v 4 b') - 1
      rw [fupd_j z, e _ (by omega)]
      exact (q4 b' hb').2.2.2
  · rw [e _ (by omega), e _ (by omega), e _ (by omega), e _ (by omega)]
    exact q5 i hi
end FU
