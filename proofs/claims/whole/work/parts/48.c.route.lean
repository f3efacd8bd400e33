/-! routes -/
def esy (A : qT) (f : Nat → Nat) (t i : Nat) : Prop := qW A i ∧ f i ≤ t
def dsP (A : qT) (f : Nat → Nat) (t k a c : Nat) : Prop := rch A f t k a c ∧ ∀ j, j < k → ¬ rch A f t j a c
/-- the least of what stands beside c, 1000 at most -/
def sbn (A : qT) (m : Nat → Nat) (c : Nat) : Nat → Nat
  | 0 => 1000
  | w + 1 => if stp A c w = 0 then sbn A m c w else min (m (stp A c w - 1)) (sbn A m c w)
/-- the first water beside c that is P, and 1; 0 if there is none -/
noncomputable def fbs (A : qT) (P : Nat → Prop) (c : Nat) : Nat → Nat
  | 0 => 0
  | w + 1 => @ite Nat (stp A c w ≠ 0 ∧ P (stp A c w - 1) ∧ (fbs A P c w = 0 ∨ stp A c w < fbs A P c w)) (Classical.propDecidable _) (stp A c w) (fbs A P c w)
noncomputable def rtn (A : qT) (f : Nat → Nat) (t cell D from_ : Nat) : Nat → Nat
  | 0 => from_
  | k + 1 => fbs A (fun n => f n ≤ t ∧ dsP A f t (D - (k + 1)) n cell) (rtn A f t cell D from_ k) 4 - 1
/-- marks in a round: r rounds are done, of this one the first i0 -/
def MkI (A : qT) (f : Nat → Nat) (t cell r i0 : Nat) (m : Nat → Nat) : Prop := (∀ i, i < qN A → m i ≤ 1000) ∧ m cell = 0 ∧ (∀ i, i < qN A → m i < 1000 → esy A f t i ∧ rch A f t (m i) i cell) ∧ (∀ i, i < qN A → ∀ k, k ≤ r → esy A f t i → rch A f t k i cell → m i ≤ k) ∧ (∀ i, i < i0 → i < qN A → ∀ k, k ≤ r + 1 → esy A f t i → rch A f t k i cell → m i ≤ k)
def MkF (A : qT) (f : Nat → Nat) (t cell : Nat) (m : Nat → Nat) : Prop := (∀ i, i < qN A → m i ≤ 1000) ∧ (∀ i, i < qN A → m i < 1000 → esy A f t i ∧ rch A f t (m i) i cell) ∧ (∀ i, i < qN A → ∀ k, esy A f t i → rch A f t k i cell → m i ≤ k)
def LsI (A : qT) (f : Nat → Nat) (t cell : Nat) (L : Nat → Nat) : Prop := (∀ c, c < qN A → L c ≤ 1000000) ∧ L cell = 0 ∧ (∀ c, c < qN A → L c < 1000000 → rch A f t (L c) c cell)
def LsF (A : qT) (f : Nat → Nat) (t cell : Nat) (L : Nat → Nat) : Prop := LsI A f t cell L ∧ ∀ c, c < qN A → ∀ n, bsd A c n → f n ≤ t → L c ≤ L n + 1
section RT1
variable {A : qT} {f m L : Nat → Nat} {t k a c n r i0 cell w : Nat} {P P' : Nat → Prop}
theorem upn_self (m : Nat → Nat) (c : Nat) : upn m c (m c) = m := by
  funext x
  unfold upn
  split
  · rename_i e; rw [e]
  · rfl
theorem upn_s {v : Nat} : upn m c v c = v := if_pos rfl
theorem upn_n {v x : Nat} (h : x ≠ c) : upn m c v x = m x := if_neg h
theorem sbn_le : ∀ w, sbn A m c w ≤ 1000
  | 0 => Nat.le_refl _
  | w + 1 => by
    have := sbn_le w
    unfold sbn
    split <;> omega
theorem sbn_m (x : Nat) : ∀ w, (∃ v, v < w ∧ stp A c v = x + 1) → sbn A m c w ≤ m x
  | 0, ⟨v, hv, _⟩ => absurd hv (Nat.not_lt_zero _)
  | w + 1, ⟨v, hv, hs⟩ => by
    unfold sbn
    by_cases e : v = w
    · subst e
      rw [hs, if_neg (by omega), Nat.add_sub_cancel]
      omega
    · have := sbn_m x w ⟨v, by omega, hs⟩
      split <;> omega
theorem sbn_ex (g : qG A) (hc : c < qN A) : ∀ w, w ≤ 4 → sbn A m c w = 1000 ∨ ∃ x, bsd A c x ∧ sbn A m c w = m x
  | 0, _ => Or.inl rfl
  | w + 1, hw => by
    have ih := sbn_ex g hc w (by omega)
    unfold sbn
    by_cases e : stp A c w = 0
    · rw [if_pos e]; exact ih
    · rw [if_neg e]
      obtain ⟨x, hx⟩ : ∃ x, stp A c w = x + 1 := ⟨stp A c w - 1, by omega⟩
      rw [hx, Nat.add_sub_cancel]
      by_cases q : m x ≤ sbn A m c w
      · rw [Nat.min_eq_left q]
        exact Or.inr ⟨x, (bsd_iff g hc).mpr ⟨w, by omega, hx⟩, rfl⟩
      · rw [Nat.min_eq_right (by omega)]
        exact ih
theorem sbn_b (g : qG A) (hc : c < qN A) {x : Nat} (hx : bsd A c x) : sbn A m c 4 ≤ m x := sbn_m x 4 ((bsd_iff g hc).mp hx)
theorem fbs_cg (g : qG A) (hc : c < qN A) (h : ∀ x, qW A x → (P x ↔ P' x)) : ∀ w, fbs A P c w = fbs A P' c w
  | 0 => rfl
  | w + 1 => by
    have ih := fbs_cg g hc h w
    unfold fbs
    rw [ih]
    by_cases e : stp A c w = 0
    · rw [if_neg (fun q => q.1 e), if_neg (fun q => q.1 e)]
    · obtain ⟨x, hx⟩ : ∃ x, stp A c w = x + 1 := ⟨stp A c w - 1, by omega⟩
      have hw := stp_w g hc hx
      rw [hx, Nat.add_sub_cancel]
      by_cases q : P x
      · have q' := (h x hw).mp q
        by_cases q2 : fbs A P' c w = 0 ∨ x + 1 < fbs A P' c w
        · rw [if_pos ⟨by omega, q, q2⟩, if_pos ⟨by omega, q', q2⟩]
        · rw [if_neg (fun z => q2 z.2.2), if_neg (fun z => q2 z.2.2)]
      · have q' := mt (h x hw).mpr q
        rw [if_neg (fun z => q z.2.1), if_neg (fun z => q' z.2.1)]
theorem fbs_p (g : qG A) (hc : c < qN A) : ∀ w {x : Nat}, w ≤ 4 → fbs A P c w = x + 1 → bsd A c x ∧ P x
  | 0, x, _, e => absurd e (by unfold fbs; omega)
  | w + 1, x, hw, e => by
    unfold fbs at e
    split at e
    · rename_i q
      rw [e, Nat.add_sub_cancel] at q
      exact ⟨(bsd_iff g hc).mpr ⟨w, by omega, e⟩, q.2.1⟩
    · exact fbs_p g hc w (by omega) e
theorem fbs_0 {x : Nat} (hP : P x) : ∀ w, (∃ v, v < w ∧ stp A c v = x + 1) → fbs A P c w ≠ 0
  | 0, ⟨v, hv, _⟩ => absurd hv (Nat.not_lt_zero _)
  | w + 1, ⟨v, hv, hs⟩ => by
    unfold fbs
    by_cases e : v = w
    · subst e
      split
      · omega
      · rename_i q
        intro z
        exact q ⟨by omega, by rw [hs, Nat.add_sub_cancel]; exact hP, Or.inl z⟩
    · have := fbs_0 hP w ⟨v, by omega, hs⟩
      split
      · rename_i q; exact q.1
      · exact this
theorem fbs_lt (g : qG A) (hc : c < qN A) {w : Nat} (hw : w ≤ 4) : fbs A P c w ≤ qN A := by
  cases hh : fbs A P c w with
  | zero => omega
  | succ x => have := (fbs_p g hc w hw hh).1.1.1; omega
theorem MkI.zero (g : qG A) (he : esy A f t cell) : MkI A f t cell 0 0 (upn (fun _ => 1000) cell 0) := by
  refine ⟨fun i _ => ?_, upn_s, fun i hi q => ?_, fun i hi k hk _ q => ?_, fun i hi => absurd hi (Nat.not_lt_zero _)⟩
  · show (if i = cell then 0 else 1000) ≤ 1000
    split <;> omega
  · by_cases e : i = cell
    · subst e; rw [upn_s]; exact ⟨he, rfl⟩
    · rw [upn_n e] at q; omega
  · have : k = 0 := by omega
    subst this
    have q : i = cell := q
    subst q
    rw [upn_s]
    omega
theorem MkI.next (h : MkI A f t cell r (qN A) m) : MkI A f t cell (r + 1) 0 m := ⟨h.1, h.2.1, h.2.2.1, fun i hi k hk => h.2.2.2.2 i hi hi k hk, fun i hi => absurd hi (Nat.not_lt_zero _)⟩
theorem MkI.skip (h : MkI A f t cell r i0 m) (hn : ¬ esy A f t i0) : MkI A f t cell r (i0 + 1) m := ⟨h.1, h.2.1, h.2.2.1, h.2.2.2.1, fun i hi hN k hk he => by
  by_cases e : i = i0
  · subst e; exact absurd he hn
  · exact h.2.2.2.2 i (by omega) hN k hk he⟩
theorem MkI.step (g : qG A) (h : MkI A f t cell r i0 m) (hi : i0 < qN A) (he : esy A f t i0) : MkI A f t cell r (i0 + 1) (upn m i0 (min (m i0) (sbn A m i0 4 + 1))) := by
  obtain ⟨h1, h2, h3, h4, h5⟩ := h
  have hl := h1 i0 hi
  have key : ∀ k, k ≤ r + 1 → rch A f t k i0 cell → min (m i0) (sbn A m i0 4 + 1) ≤ k := by
    intro k hk q
    cases k with
    | zero =>
      have q : i0 = cell := q
      rw [q, h2]
      omega
    | succ k =>
      rcases q with q | ⟨n, n1, n2, n3⟩
      · have := h4 i0 hi k (by omega) he q
        omega
      · have a1 := h4 n n1.1.1 k (by omega) ⟨n1.1, n2⟩ n3
        have a2 := sbn_b (m := m) g hi n1
        omega
  refine ⟨fun i hN => ?_, ?_, fun i hN q => ?_, fun i hN k hk hE q => ?_, fun i hi' hN k hk hE q => ?_⟩
  · by_cases e : i = i0
    · subst e; rw [upn_s]; omega
    · rw [upn_n e]; exact h1 i hN
  · by_cases e : cell = i0
    · subst e; rw [upn_s, h2]; omega
    · rw [upn_n e]; exact h2
  · by_cases e : i = i0
    · subst e
      rw [upn_s] at q ⊢
      refine ⟨he, ?_⟩
      by_cases z : m i ≤ sbn A m i 4 + 1
      · rw [Nat.min_eq_left z] at q ⊢
        exact (h3 i hN q).2
      · rw [Nat.min_eq_right (by omega)] at q ⊢
        rcases sbn_ex (m := m) g hN 4 (Nat.le_refl _) with y | ⟨x, x1, x2⟩
        · omega
        · have := h3 x x1.1.1 (by omega)
          rw [x2]
          exact Or.inr ⟨x, x1, this.1.2, this.2⟩
    · rw [upn_n e] at q ⊢
      exact h3 i hN q
  · by_cases e : i = i0
    · subst e; rw [upn_s]; exact key k (by omega) q
    · rw [upn_n e]; exact h4 i hN k hk hE q
  · by_cases e : i = i0
    · subst e; rw [upn_s]; exact key k hk q
    · rw [upn_n e]; exact h5 i (by omega) hN k hk hE q
theorem MkI.done (g : qG A) (hc : cell < qN A) (h : MkI A f t cell 48 0 m) : MkF A f t cell m := by
  refine ⟨h.1, h.2.2.1, fun i hi k he q => ?_⟩
  by_cases z : k ≤ 48
  · exact h.2.2.2.1 i hi k z he q
  · have := h.2.2.2.1 i hi 47 (by omega) he (rch_47 g hc hi q)
    omega
theorem MkI.fix (g : qG A) (h : MkI A f t cell r i0 m) (hf : ∀ i, i < qN A → esy A f t i → m i ≤ sbn A m i 4 + 1) : MkF A f t cell m := by
  refine ⟨h.1, h.2.2.1, fun i hi k he q => ?_⟩
  induction k generalizing i with
  | zero =>
    have q : i = cell := q
    rw [q, h.2.1]
    omega
  | succ k ih =>
    rcases q with q | ⟨n, n1, n2, n3⟩
    · have := ih i hi he q; omega
    · have a1 := ih n n1.1.1 ⟨n1.1, n2⟩ n3
      have a2 := sbn_b (m := m) g hi n1
      have a3 := hf i hi he
      omega
theorem MkF.none (g : qG A) (hn : ¬ esy A f t cell) (hw : qW A cell) : MkF A f t cell (fun _ => 1000) := by
  refine ⟨fun _ _ => Nat.le_refl _, fun i _ q => absurd q (Nat.lt_irrefl _), fun i hi k he q => ?_⟩
  exfalso
  by_cases e : i = cell
  · subst e; exact hn he
  · exact hn ⟨hw, rch_last q e⟩
theorem MkF.iff (h : MkF A f t cell m) (hn : qW A n) {v : Nat} (hv : v < 1000) : m n = v ↔ f n ≤ t ∧ dsP A f t v n cell := by
  constructor
  · intro e
    have s := h.2.1 n hn.1 (by omega)
    rw [e] at s
    refine ⟨s.1.2, s.2, fun j hj q => ?_⟩
    have := h.2.2 n hn.1 j s.1 q
    omega
  · rintro ⟨e1, e2, e3⟩
    have a1 := h.2.2 n hn.1 v ⟨hn, e1⟩ e2
    have s := h.2.1 n hn.1 (by omega)
    rcases Nat.lt_or_ge (m n) v with z | z
    · exact absurd s.2 (e3 _ z)
    · omega
theorem LsF.cm (h : LsF A f t cell L) : ∀ k c, c < qN A → rch A f t k c cell → L c ≤ k := by
  intro k
  induction k with
  | zero =>
    intro c hc q
    have q : c = cell := q
    rw [q, h.1.2.1]
    omega
  | succ k ih =>
    intro c hc q
    rcases q with q | ⟨n, n1, n2, n3⟩
    · have := ih c hc q; omega
    · have a1 := ih n n1.1.1 n3
      have a2 := h.2 c hc n n1 n2
      omega
theorem LsF.iff (h : LsF A f t cell L) (hc : c < qN A) {v : Nat} (hv : v < 1000000) : L c = v ↔ dsP A f t v c cell := by
  constructor
  · intro e
    have s := h.1.2.2 c hc (by omega)
    rw [e] at s
    refine ⟨s, fun j hj q => ?_⟩
    have := h.cm j c hc q
    omega
  · rintro ⟨e2, e3⟩
    have a1 := h.cm v c hc e2
    have s := h.1.2.2 c hc (by omega)
    rcases Nat.lt_or_ge (L c) v with z | z
    · exact absurd s (e3 _ z)
    · omega
theorem LsI.up (h : LsI A f t cell L) (hc : c < qN A) (hn : bsd A c n) (hf : f n ≤ t) (hl : L n + 1 < L c) : LsI A f t cell (upn L c (L n + 1)) := by
  obtain ⟨h1, h2, h3⟩ := h
  have hlc := h1 c hc
  refine ⟨fun x hx => ?_, ?_, fun x hx q => ?_⟩
  · by_cases e : x = c
    · subst e; rw [upn_s]; omega
    · rw [upn_n e]; exact h1 x hx
  · by_cases e : cell = c
    · subst e; omega
    · rw [upn_n e]; exact h2
  · by_cases e : x = c
    · subst e
      rw [upn_s]
      exact Or.inr ⟨n, hn, hf, h3 n hn.1.1 (by omega)⟩
    · rw [upn_n e] at q ⊢
      exact h3 x hx q
theorem dsP.next (h : dsP A f t (k + 1) a cell) : ∃ n, bsd A a n ∧ f n ≤ t ∧ dsP A f t k n cell := by
  rcases h.1 with q | ⟨n, n1, n2, n3⟩
  · exact absurd q (h.2 k (by omega))
  · exact ⟨n, n1, n2, n3, fun j hj q => h.2 (j + 1) (by omega) (Or.inr ⟨n, n1, n2, q⟩)⟩
theorem dsP.of (h : rch A f t k a cell) : ∃ D, dsP A f t D a cell := by
  obtain ⟨D, d1, d2⟩ := pk_least (fun k => rch A f t k a cell) ⟨k, h⟩
  exact ⟨D, d1, d2⟩
theorem dsP.u {D D' : Nat} (h : dsP A f t D a cell) (h' : dsP A f t D' a cell) : D = D' := by
  rcases Nat.lt_trichotomy D D' with q | q | q
  · exact absurd h.1 (h'.2 D q)
  · exact q
  · exact absurd h'.1 (h.2 D' q)
theorem dsP.l47 (g : qG A) (hc : cell < qN A) (ha : a < qN A) (h : dsP A f t k a cell) : k ≤ 47 := by
  rcases Nat.lt_or_ge 47 k with q | q
  · exact absurd (rch_47 g hc ha h.1) (h.2 47 q)
  · exact q
theorem rtn_p (g : qG A) {D : Nat} (ha : qW A a) (h : dsP A f t D a cell) : ∀ k, k ≤ D → qW A (rtn A f t cell D a k) ∧ dsP A f t (D - k) (rtn A f t cell D a k) cell
  | 0, _ => ⟨ha, h⟩
  | k + 1, hk => by
    obtain ⟨i1, i2⟩ := rtn_p g ha h k (by omega)
    rw [show D - k = D - (k + 1) + 1 by omega] at i2
    obtain ⟨n, n1, n2, n3⟩ := i2.next
    have nz := fbs_0 (A := A) (c := rtn A f t cell D a k) (P := fun n => f n ≤ t ∧ dsP A f t (D - (k + 1)) n cell) ⟨n2, n3⟩ 4 ((bsd_iff g i1.1).mp n1)
    obtain ⟨y, hy⟩ : ∃ y, fbs A (fun n => f n ≤ t ∧ dsP A f t (D - (k + 1)) n cell) (rtn A f t cell D a k) 4 = y + 1 := ⟨_, (Nat.succ_pred nz).symm⟩
    have e : rtn A f t cell D a (k + 1) = y := by
      show fbs A (fun n => f n ≤ t ∧ dsP A f t (D - (k + 1)) n cell) (rtn A f t cell D a k) 4 - 1 = y
      omega
    have p := fbs_p g i1.1 4 (Nat.le_refl _) hy
    rw [e]
    exact ⟨p.1.1, p.2.2⟩
theorem rtn_f (g : qG A) {D : Nat} (ha : qW A a) (h : dsP A f t D a cell) (hk : k < D) : fbs A (fun n => f n ≤ t ∧ dsP A f t (D - (k + 1)) n cell) (rtn A f t cell D a k) 4 = rtn A f t cell D a (k + 1) + 1 := by
  obtain ⟨i1, i2⟩ := rtn_p g ha h k (by omega)
  rw [show D - k = D - (k + 1) + 1 by omega] at i2
  obtain ⟨n, n1, n2, n3⟩ := i2.next
  have nz := fbs_0 (A := A) (c := rtn A f t cell D a k) (P := fun n => f n ≤ t ∧ dsP A f t (D - (k + 1)) n cell) ⟨n2, n3⟩ 4 ((bsd_iff g i1.1).mp n1)
  show _ = fbs A (fun n => f n ≤ t ∧ dsP A f t (D - (k + 1)) n cell) (rtn A f t cell D a k) 4 - 1 + 1
  omega
end RT1
