section SA
variable {t : Nat → Nat} {n k : Nat} {L : qL} {p : Nat × Bool} {out : sOut}
theorem StI_lake (w : isW t n (0) p) (r : StI t n L p out) : bdR (numF t n 3 9 (nx t n p.1, nj t n p.1)) (fun a out => out = .ok ((fupd L.1 0 0 a.1, L.2), a.2)) out := by
  rcases r with ⟨a, b⟩ | ⟨a, b⟩ | ⟨a, b⟩ | ⟨a, b⟩ | ⟨a, b⟩ | ⟨j, hj, a, b⟩ | ⟨j, hj, a, b⟩ | ⟨a, b⟩ | ⟨a, b⟩
  · exact b
  · have e := wat_u (by omega) (by omega) w.2 a.2
    omega
  · have e := wat_u (by omega) (by omega) w.2 a.2
    omega
  · have e := wat_u (by omega) (by omega) w.2 a.2
    omega
  · have e := wat_u (by omega) (by omega) w.2 a.2
    omega
  · have e := wat_u (by omega) (by omega) w.2 a.2
    omega
  · have e := wat_u (by omega) (by omega) w.2 a.2
    omega
  · have e := wat_u (by omega) (by omega) w.2 a.2
    omega
  · exact absurd w (a (0) (by omega) (by omega) (by omega) (by omega))
theorem StI_row (w : isW t n (1) p) (r : StI t n L p out) : (qR L.1 = 6 ∧ out = .error (5, p.1)) ∨ (qR L.1 ≠ 6 ∧ roR t n L p out) := by
  rcases r with ⟨a, b⟩ | ⟨a, b⟩ | ⟨a, b⟩ | ⟨a, b⟩ | ⟨a, b⟩ | ⟨j, hj, a, b⟩ | ⟨j, hj, a, b⟩ | ⟨a, b⟩ | ⟨a, b⟩
  · have e := wat_u (by omega) (by omega) w.2 a.2
    omega
  · exact b
  · have e := wat_u (by omega) (by omega) w.2 a.2
    omega
  · have e := wat_u (by omega) (by omega) w.2 a.2
    omega
  · have e := wat_u (by omega) (by omega) w.2 a.2
    omega
  · have e := wat_u (by omega) (by omega) w.2 a.2
    omega
  · have e := wat_u (by omega) (by omega) w.2 a.2
    omega
  · have e := wat_u (by omega) (by omega) w.2 a.2
    omega
  · exact absurd w (a (1) (by omega) (by omega) (by omega) (by omega))
theorem StI_boat (w : isW t n (2) p) (r : StI t n L p out) : (qB L.1 = 6 ∧ out = .error (5, p.1)) ∨ (qB L.1 ≠ 6 ∧ boR t n L p out) := by
  rcases r with ⟨a, b⟩ | ⟨a, b⟩ | ⟨a, b⟩ | ⟨a, b⟩ | ⟨a, b⟩ | ⟨j, hj, a, b⟩ | ⟨j, hj, a, b⟩ | ⟨a, b⟩ | ⟨a, b⟩
  · have e := wat_u (by omega) (by omega) w.2 a.2
    omega
  · have e := wat_u (by omega) (by omega) w.2 a.2
    omega
  · exact b
  · have e := wat_u (by omega) (by omega) w.2 a.2
    omega
  · have e := wat_u (by omega) (by omega) w.2 a.2
    omega
  · have e := wat_u (by omega) (by omega) w.2 a.2
    omega
  · have e := wat_u (by omega) (by omega) w.2 a.2
    omega
  · have e := wat_u (by omega) (by omega) w.2 a.2
    omega
  · exact absurd w (a (2) (by omega) (by omega) (by omega) (by omega))
theorem StI_hand (w : isW t n (5) p) (r : StI t n L p out) : (qH L.1 = 6 ∧ out = .error (5, p.1)) ∨ (qH L.1 ≠ 6 ∧ haR t n L p out) := by
  rcases r with ⟨a, b⟩ | ⟨a, b⟩ | ⟨a, b⟩ | ⟨a, b⟩ | ⟨a, b⟩ | ⟨j, hj, a, b⟩ | ⟨j, hj, a, b⟩ | ⟨a, b⟩ | ⟨a, b⟩
  · have e := wat_u (by omega) (by omega) w.2 a.2
    omega
  · have e := wat_u (by omega) (by omega) w.2 a.2
    omega
  · have e := wat_u (by omega) (by omega) w.2 a.2
    omega
  · exact b
  · have e := wat_u (by omega) (by omega) w.2 a.2
    omega
  · have e := wat_u (by omega) (by omega) w.2 a.2
    omega
  · have e := wat_u (by omega) (by omega) w.2 a.2
    omega
  · have e := wat_u (by omega) (by omega) w.2 a.2
    omega
  · exact absurd w (a (5) (by omega) (by omega) (by omega) (by omega))
theorem StI_likes (w : isW t n (7) p) (r : StI t n L p out) : liR t n L p out := by
  rcases r with ⟨a, b⟩ | ⟨a, b⟩ | ⟨a, b⟩ | ⟨a, b⟩ | ⟨a, b⟩ | ⟨j, hj, a, b⟩ | ⟨j, hj, a, b⟩ | ⟨a, b⟩ | ⟨a, b⟩
  · have e := wat_u (by omega) (by omega) w.2 a.2
    omega
  · have e := wat_u (by omega) (by omega) w.2 a.2
    omega
  · have e := wat_u (by omega) (by omega) w.2 a.2
    omega
  · have e := wat_u (by omega) (by omega) w.2 a.2
    omega
  · exact b
  · have e := wat_u (by omega) (by omega) w.2 a.2
    omega
  · have e := wat_u (by omega) (by omega) w.2 a.2
    omega
  · have e := wat_u (by omega) (by omega) w.2 a.2
    omega
  · exact absurd w (a (7) (by omega) (by omega) (by omega) (by omega))
theorem StI_sky (hk : k < 4) (w : isW t n (8 + k) p) (r : StI t n L p out) : (qK L.1 = 10 ∧ out = .error (5, p.1)) ∨ (qK L.1 ≠ 10 ∧ skR t n L p k out) := by
  rcases r with ⟨a, b⟩ | ⟨a, b⟩ | ⟨a, b⟩ | ⟨a, b⟩ | ⟨a, b⟩ | ⟨j, hj, a, b⟩ | ⟨j, hj, a, b⟩ | ⟨a, b⟩ | ⟨a, b⟩
  · have e := wat_u (by omega) (by omega) w.2 a.2
    omega
  · have e := wat_u (by omega) (by omega) w.2 a.2
    omega
  · have e := wat_u (by omega) (by omega) w.2 a.2
    omega
  · have e := wat_u (by omega) (by omega) w.2 a.2
    omega
  · have e := wat_u (by omega) (by omega) w.2 a.2
    omega
  · have e := wat_u (by omega) (by omega) w.2 a.2
    have e : k = j := by omega
    rw [e]; exact b
  · have e := wat_u (by omega) (by omega) w.2 a.2
    omega
  · have e := wat_u (by omega) (by omega) w.2 a.2
    omega
  · exact absurd w (a (8 + k) (by omega) (by omega) (by omega) (by omega))
theorem StI_sum (hk : k < 3) (w : isW t n (12 + k) p) (r : StI t n L p out) : (qsl L.1 k ≠ 0 ∧ out = .error (5, p.1)) ∨ (qsl L.1 k = 0 ∧ suR t n L p k out) := by
  rcases r with ⟨a, b⟩ | ⟨a, b⟩ | ⟨a, b⟩ | ⟨a, b⟩ | ⟨a, b⟩ | ⟨j, hj, a, b⟩ | ⟨j, hj, a, b⟩ | ⟨a, b⟩ | ⟨a, b⟩
  · have e := wat_u (by omega) (by omega) w.2 a.2
    omega
  · have e := wat_u (by omega) (by omega) w.2 a.2
    omega
  · have e := wat_u (by omega) (by omega) w.2 a.2
    omega
  · have e := wat_u (by omega) (by omega) w.2 a.2
    omega
  · have e := wat_u (by omega) (by omega) w.2 a.2
    omega
  · have e := wat_u (by omega) (by omega) w.2 a.2
    omega
  · have e := wat_u (by omega) (by omega) w.2 a.2
    have e : k = j := by omega
    rw [e]; exact b
  · have e := wat_u (by omega) (by omega) w.2 a.2
    omega
  · exact absurd w (a (12 + k) (by omega) (by omega) (by omega) (by omega))
theorem StI_coax (w : isW t n (15) p) (r : StI t n L p out) : bdR (numF t n 1 100 (nx t n p.1, nj t n p.1)) (fun a out => out = .ok ((fupd L.1 0 5 a.1, L.2), a.2)) out := by
  rcases r with ⟨a, b⟩ | ⟨a, b⟩ | ⟨a, b⟩ | ⟨a, b⟩ | ⟨a, b⟩ | ⟨j, hj, a, b⟩ | ⟨j, hj, a, b⟩ | ⟨a, b⟩ | ⟨a, b⟩
  · have e := wat_u (by omega) (by omega) w.2 a.2
    omega
  · have e := wat_u (by omega) (by omega) w.2 a.2
    omega
  · have e := wat_u (by omega) (by omega) w.2 a.2
    omega
  · have e := wat_u (by omega) (by omega) w.2 a.2
    omega
  · have e := wat_u (by omega) (by omega) w.2 a.2
    omega
  · have e := wat_u (by omega) (by omega) w.2 a.2
    omega
  · have e := wat_u (by omega) (by omega) w.2 a.2
    omega
  · exact b
  · exact absurd w (a (15) (by omega) (by omega) (by omega) (by omega))
theorem StI_no (w : ∀ i, i < 16 → i ≠ 3 → i ≠ 4 → i ≠ 6 → ¬ isW t n i p) (r : StI t n L p out) : out = .error (1, p.1) := by
  rcases r with ⟨a, b⟩ | ⟨a, b⟩ | ⟨a, b⟩ | ⟨a, b⟩ | ⟨a, b⟩ | ⟨j, hj, a, b⟩ | ⟨j, hj, a, b⟩ | ⟨a, b⟩ | ⟨a, b⟩
  · exact absurd a (w (0) (by omega) (by omega) (by omega) (by omega))
  · exact absurd a (w (1) (by omega) (by omega) (by omega) (by omega))
  · exact absurd a (w (2) (by omega) (by omega) (by omega) (by omega))
  · exact absurd a (w (5) (by omega) (by omega) (by omega) (by omega))
  · exact absurd a (w (7) (by omega) (by omega) (by omega) (by omega))
  · exact absurd a (w (8 + j) (by omega) (by omega) (by omega) (by omega))
  · exact absurd a (w (12 + j) (by omega) (by omega) (by omega) (by omega))
  · exact absurd a (w (15) (by omega) (by omega) (by omega) (by omega))
  · exact b
/-- a statement behind the first -/
theorem StR_c {c : Nat} (hc : c ≠ 0) (r : StR t n (c = 0) L p out) : ((tkk t n p.1 p.2 ≠ 1001 ∨ isW t n 0 p) ∧ out = .error (1, p.1)) ∨ (tkk t n p.1 p.2 = 1001 ∧ ¬ isW t n 0 p ∧ StI t n L p out) := by
  unfold StR at r
  by_cases kw : tkk t n p.1 p.2 = 1001
  · rw [if_neg (fun z => z kw)] at r
    rcases r with ⟨a, b⟩ | ⟨a, b⟩
    · refine Or.inl ⟨Or.inr ?_, b⟩
      exact Classical.byContradiction (fun z => a ⟨fun y => absurd y z, fun y => absurd y hc⟩)
    · exact Or.inr ⟨kw, fun z => hc (a.mp z), b⟩
  · rw [if_pos kw] at r
    exact Or.inl ⟨Or.inl kw, r⟩
end SA
