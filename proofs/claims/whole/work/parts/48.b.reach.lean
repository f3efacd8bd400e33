/-! reaching: from a to c in at most k steps, each onto water that is dreaded no more than t -/
def rch (A : qT) (f : Nat → Nat) (t : Nat) : Nat → Nat → Nat → Prop
  | 0, a, c => a = c
  | k + 1, a, c => rch A f t k a c ∨ ∃ n, bsd A a n ∧ f n ≤ t ∧ rch A f t k n c
/-- the same, told from the other end -/
def rcf (A : qT) (f : Nat → Nat) (t : Nat) : Nat → Nat → Nat → Prop
  | 0, a, c => a = c
  | k + 1, a, c => rcf A f t k a c ∨ ∃ n, qW A n ∧ rcf A f t k a n ∧ bsd A n c ∧ f c ≤ t
noncomputable def cnp (P : Nat → Prop) : Nat → Nat
  | 0 => 0
  | k + 1 => cnp P k + @ite Nat (P k) (Classical.propDecidable _) 1 0
theorem cnp_le (P : Nat → Prop) : ∀ k, cnp P k ≤ k
  | 0 => Nat.le_refl _
  | k + 1 => by
    have := cnp_le P k
    unfold cnp
    split <;> omega
theorem cnp_mono {P R : Nat → Prop} : ∀ k, (∀ x, x < k → P x → R x) → cnp P k ≤ cnp R k
  | 0, _ => Nat.le_refl _
  | k + 1, h => by
    have := cnp_mono k (fun x hx => h x (by omega))
    have hk := h k (by omega)
    unfold cnp
    split
    · rename_i q
      rw [if_pos (hk q)]
      omega
    · split <;> omega
theorem cnp_lt {P R : Nat → Prop} {x : Nat} (hP : ¬ P x) (hR : R x) : ∀ k, x < k → (∀ x, x < k → P x → R x) → cnp P k < cnp R k
  | 0, hx, _ => absurd hx (Nat.not_lt_zero _)
  | k + 1, hx, h => by
    have h1 := cnp_mono k (fun x hx => h x (by omega))
    have hk := h k (by omega)
    unfold cnp
    by_cases e : x = k
    · subst e
      rw [if_neg hP, if_pos hR]
      omega
    · have := cnp_lt hP hR k (by omega) (fun x hx => h x (by omega))
      split
      · rename_i q
        rw [if_pos (hk q)]
        omega
      · split <;> omega
section RC
variable {A : qT} {f : Nat → Nat} {t k a c n : Nat}
theorem rch_1 (h : rch A f t k a c) : rch A f t (k + 1) a c := Or.inl h
theorem rch_m {k' : Nat} (h : rch A f t k a c) (hk : k ≤ k') : rch A f t k' a c := by
  obtain ⟨r, rfl⟩ : ∃ r, k' = k + r := ⟨k' - k, by omega⟩
  clear hk
  induction r with
  | zero => exact h
  | succ r ih => exact Or.inl ih
theorem rch_t {t' : Nat} (ht : t ≤ t') : ∀ {k a}, rch A f t k a c → rch A f t' k a c
  | 0, _, h => h
  | k + 1, a, h => by
    rcases h with h | ⟨n, h1, h2, h3⟩
    · exact Or.inl (rch_t ht h)
    · exact Or.inr ⟨n, h1, by omega, rch_t ht h3⟩
theorem rcf_t {t' : Nat} (ht : t ≤ t') : ∀ {k c}, rcf A f t k a c → rcf A f t' k a c
  | 0, _, h => h
  | k + 1, c, h => by
    rcases h with h | ⟨n, h1, h2, h3, h4⟩
    · exact Or.inl (rcf_t ht h)
    · exact Or.inr ⟨n, h1, rcf_t ht h2, h3, by omega⟩
theorem rcf_m {k' : Nat} (h : rcf A f t k a c) (hk : k ≤ k') : rcf A f t k' a c := by
  obtain ⟨r, rfl⟩ : ∃ r, k' = k + r := ⟨k' - k, by omega⟩
  clear hk
  induction r with
  | zero => exact h
  | succ r ih => exact Or.inl ih
/-- no more than 47 steps are needed -/
theorem rch_47 (g : qG A) (hc : c < qN A) (ha : a < qN A) (h : rch A f t k a c) : rch A f t 47 a c := by
  have h48 := g.N48
  apply Classical.byContradiction
  intro hn
  have grow : ∀ j, j ≤ 47 → ∃ x, x < qN A ∧ ¬ rch A f t j x c ∧ rch A f t (j + 1) x c := by
    intro j hj
    apply Classical.byContradiction
    intro q
    have st : ∀ x, x < qN A → rch A f t (j + 1) x c → rch A f t j x c := fun x hx h1 => Classical.byContradiction (fun h2 => q ⟨x, hx, h2, h1⟩)
    have all : ∀ r x, x < qN A → rch A f t (j + r) x c → rch A f t j x c := by
      intro r
      induction r with
      | zero => exact fun x _ h => h
      | succ r ih =>
        intro x hx h1
        rcases h1 with h1 | ⟨n, n1, n2, n3⟩
        · exact ih x hx h1
        · exact st x hx (Or.inr ⟨n, n1, n2, ih n n1.1.1 n3⟩)
    exact hn (rch_m (all k a ha (rch_m h (by omega))) hj)
  have cnt : ∀ j, j ≤ 48 → j < cnp (fun x => rch A f t j x c) (qN A) := by
    intro j
    induction j with
    | zero =>
      intro _
      have := cnp_lt (P := fun _ => False) (R := fun x => rch A f t 0 x c) (x := c) (fun q => q) rfl (qN A) hc (fun _ _ q => q.elim)
      omega
    | succ j ih =>
      intro hj
      have h1 := ih (by omega)
      obtain ⟨x, x1, x2, x3⟩ := grow j (by omega)
      have := cnp_lt (P := fun x => rch A f t j x c) (R := fun x => rch A f t (j + 1) x c) x2 x3 (qN A) x1 (fun y _ q => Or.inl q)
      omega
  have := cnt 48 (Nat.le_refl _)
  have := cnp_le (fun x => rch A f t 48 x c) (qN A)
  omega
theorem rch_last (h : rch A f t k a c) (hn : a ≠ c) : f c ≤ t := by
  induction k generalizing a with
  | zero => exact absurd h hn
  | succ k ih =>
    rcases h with h | ⟨n, n1, n2, n3⟩
    · exact ih h hn
    · by_cases e : n = c
      · subst e; exact n2
      · exact ih n3 e
theorem qds_sym : qds A a c = qds A c a := by
  unfold qds adf
  omega
theorem bsd_sym (ha : qW A a) (h : bsd A a c) : bsd A c a := ⟨ha, by rw [qds_sym]; exact h.2⟩
theorem rch_snoc (h1 : bsd A n c) (h2 : f c ≤ t) : ∀ {k a}, rch A f t k a n → rch A f t (k + 1) a c
  | 0, a, h => by
    have h : a = n := h
    subst h
    exact Or.inr ⟨c, h1, h2, rfl⟩
  | k + 1, a, h => by
    rcases h with h | ⟨x, x1, x2, x3⟩
    · exact Or.inl (rch_snoc h1 h2 h)
    · exact Or.inr ⟨x, x1, x2, rch_snoc h1 h2 x3⟩
theorem rcf_cons (ha : qW A a) (h1 : bsd A a n) (h2 : f n ≤ t) : ∀ {k c}, rcf A f t k n c → rcf A f t (k + 1) a c
  | 0, c, h => by
    have h : n = c := h
    subst h
    exact Or.inr ⟨a, ha, rfl, h1, h2⟩
  | k + 1, c, h => by
    rcases h with h | ⟨x, x1, x2, x3, x4⟩
    · exact Or.inl (rcf_cons ha h1 h2 h)
    · exact Or.inr ⟨x, x1, rcf_cons ha h1 h2 x2, x3, x4⟩
theorem rch_rcf : ∀ {k a}, qW A a → rch A f t k a c → rcf A f t k a c
  | 0, _, _, h => h
  | k + 1, a, ha, h => by
    rcases h with h | ⟨n, n1, n2, n3⟩
    · exact Or.inl (rch_rcf ha h)
    · exact rcf_cons ha n1 n2 (rch_rcf n1.1 n3)
theorem rcf_rch : ∀ {k c}, rcf A f t k a c → rch A f t k a c
  | 0, _, h => h
  | k + 1, c, h => by
    rcases h with h | ⟨n, n1, n2, n3, n4⟩
    · exact Or.inl (rcf_rch h)
    · exact rch_snoc n3 n4 (rcf_rch n2)
theorem rcf_47 (g : qG A) (ha : qW A a) (hc : c < qN A) (h : rcf A f t k a c) : rcf A f t 47 a c := rch_rcf ha (rch_47 g hc ha.1 (rcf_rch h))
end RC
/-- the sum of the first k -/
def smn (L : Nat → Nat) : Nat → Nat
  | 0 => 0
  | k + 1 => smn L k + L k
def upn (L : Nat → Nat) (c v : Nat) : Nat → Nat := fun x => if x = c then v else L x
theorem smn_cg {L L' : Nat → Nat} : ∀ k, (∀ x, x < k → L' x = L x) → smn L' k = smn L k
  | 0, _ => rfl
  | k + 1, h => by
    unfold smn
    rw [smn_cg k (fun x hx => h x (by omega)), h k (by omega)]
theorem smn_up {L : Nat → Nat} {c v : Nat} (hv : v < L c) : ∀ k, c < k → smn (upn L c v) k < smn L k
  | 0, hc => absurd hc (Nat.not_lt_zero _)
  | k + 1, hc => by
    unfold smn
    by_cases e : c = k
    · subst e
      rw [smn_cg c (fun x hx => by unfold upn; rw [if_neg (by omega)])]
      have : upn L c v c = v := if_pos rfl
      omega
    · have h1 := smn_up hv k (by omega)
      have h2 : upn L c v k = L k := if_neg (by omega)
      omega
