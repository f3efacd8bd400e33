/-! sets of boats -/
theorem bin_lt {m b B : Nat} (hm : m < 2 ^ B) (h : bin m b) : b < B := by
  refine Decidable.byContradiction (fun q => ?_)
  have : 2 ^ B ≤ 2 ^ b := Nat.pow_le_pow_right (by decide) (by omega)
  unfold bin at h
  rw [Nat.div_eq_of_lt (by omega)] at h
  omega
def fstB (m : Nat) : Bool := (decide (m = 0)) || ((List.range 6).any (fun b => decide (m / 2 ^ b % 2 = 1) && (List.range b).all (fun c => decide (¬ m / 2 ^ c % 2 = 1))))
theorem fst0 : ∀ m, m < 64 → fstB m = true := by decide +kernel
theorem bin_fst {m B : Nat} (hB : B ≤ 6) (hm : m < 2 ^ B) (h0 : 0 < m) : ∃ b, b < B ∧ bin m b ∧ ∀ c, c < b → ¬ bin m c := by
  have : 2 ^ B ≤ 2 ^ 6 := Nat.pow_le_pow_right (by decide) hB
  have h := fst0 m (by omega)
  unfold fstB at h
  rw [Bool.or_eq_true, decide_eq_true_eq] at h
  rcases h with h | h
  · omega
  · rw [List.any_eq_true] at h
    obtain ⟨b, hb, h⟩ := h
    rw [Bool.and_eq_true, decide_eq_true_eq, List.all_eq_true] at h
    refine ⟨b, bin_lt hm h.1, h.1, fun c hc => ?_⟩
    have := h.2 c (List.mem_range.mpr hc)
    show ¬ m / 2 ^ c % 2 = 1
    exact of_decide_eq_true this
def andB (M m : Nat) : Bool := decide (nI M &&& nI m = nI m) == (List.range 6).all (fun b => decide (m / 2 ^ b % 2 = 1 → M / 2 ^ b % 2 = 1))
theorem and0 : ∀ M, M < 64 → ∀ m, m < 64 → andB M m = true := by decide +kernel
theorem bin_sub {M m : Nat} (hM : M < 64) (hm : m < 64) : nI M &&& nI m = nI m ↔ ∀ b, b < 6 → bin m b → bin M b := by
  have h := and0 M hM m hm
  unfold andB at h
  rw [beq_iff_eq] at h
  constructor
  · intro q b hb hbm
    rw [decide_eq_true q] at h
    have := (List.all_eq_true.mp h.symm) b (List.mem_range.mpr hb)
    exact of_decide_eq_true this hbm
  · intro q
    have : decide (nI M &&& nI m = nI m) = true := by
      rw [h, List.all_eq_true]
      intro b hb
      exact decide_eq_true (q b (List.mem_range.mp hb))
    exact of_decide_eq_true this
theorem shl1 : ∀ B, B < 7 → (1 : Int32) <<< (nI B &&& 31) = nI (2 ^ B) := by decide
theorem fbt_m (F : qT) (v : Int32) : ∀ k, k ≤ 6 → ∃ M, M < 2 ^ k ∧ fbt F v k = nI M ∧ ∀ b, b < k → (bin M b ↔ nI (fc F b) = v)
  | 0, _ => ⟨0, by decide, rfl, fun b hb => absurd hb (Nat.not_lt_zero _)⟩
  | k + 1, hk => by
    obtain ⟨M, h1, h2, h3⟩ := fbt_m F v k (by omega)
    have hp : 2 ^ k ≤ 2 ^ 6 := Nat.pow_le_pow_right (by decide) (by omega)
    have e2 : 2 ^ (k + 1) = 2 * 2 ^ k := by rw [Nat.pow_succ]; omega
    by_cases z : nI (fc F k) = v
    · refine ⟨bset M k, ?_, ?_, fun b hb => ?_⟩
      · have : bset M k = M + 2 ^ k := by
          unfold bset
          rw [Nat.div_eq_of_lt h1]
          exact if_neg (by decide)
        omega
      · unfold fbt
        rw [if_pos z, h2]
        exact (bit_set M (by omega) k (by omega)).1
      · rw [bset_in (by omega) (by omega) (by omega)]
        by_cases e : b = k
        · subst e; exact ⟨fun _ => z, fun _ => Or.inr rfl⟩
        · rw [← h3 b (by omega)]
          exact ⟨fun q => q.resolve_right e, Or.inl⟩
    · refine ⟨M, by omega, ?_, fun b hb => ?_⟩
      · unfold fbt
        rw [if_neg z, h2]
      · by_cases e : b = k
        · subst e
          exact ⟨fun q => absurd (bin_lt h1 q) (by omega), fun q => absurd q z⟩
        · exact h3 b (by omega)
/-- these boats, all in one cell, can try that one -/
def cTry (A F : qT) (m x : Nat) : Prop := 0 < m ∧ m < 2 ^ qB A ∧ ∃ f, f < qN A ∧ (∀ b, b < qB A → bin m b → fc F b = f) ∧ bsd A f x
section CT
variable {l : Launch} {G : gG} {d : Nat} {Q : Option Value → gH → Prop} {h h0 : gH} {lk sp : Nat} {cd : Option Nat} {A F : qT} {T n : Nat}
theorem c_canTry {v a : Int32} (hw : gWf h lk sp cd) (k : KC A F T lk h) (hy : ∀ m x, v = nI m → a = nI x → cTry A F m x → Q (some (.int 1)) h) (hno : (∀ m x, cTry A F m x → v = nI m → a ≠ nI x) → Q (some (.int 0)) h) : gC l G (d + 4) MX1_canTry [.ref 53, .int v, .int a] h Q := by
  have h6 := k.g.B6
  have h48 := k.g.N48
  have eB : (if h.1 lk 13 < 6 then h.1 lk 13 else 6) = nI (qB A) := by rw [k.l.B, lit 6, i_min (by omega) (by decide), Nat.min_eq_left h6]
  have hp : 2 ^ qB A ≤ 2 ^ 6 := Nat.pow_le_pow_right (by decide) h6
  refine eX1_canTry hw (fun p e s m args below meth c => ?_)
  rw [eB, shl1 _ (by omega)]
  refine ⟨fun z => hno (fun m x q e1 e2 => ?_), fun z => ?_⟩
  · rw [e1] at z
    have := (nI_leI (b := 0) (by have := q.2.1; omega) (by decide)).mp z
    have := q.1
    omega
  obtain ⟨M, hM, rfl⟩ := nI_of (x := v) (fun q => z (Int32.le_of_lt q))
  have z := mt (nI_leI (b := 0) hM (by decide)).mpr z
  refine ⟨fun z2 => ?_, fun z2 => hno (fun m x q e1 e2 => z2 ?_)⟩
  rotate_left
  · rw [e1]
    exact nI_lt q.2.1 (by omega)
  have z2 := (nI_ltI hM (by omega)).mp z2
  have hno : (∀ x, cTry A F M x → a ≠ nI x) → Q (some (.int 0)) h := fun q => hno (fun m x q1 e1 e2 => q x (by
    have := q1.2.1
    rw [(nI_eq hM (by omega)).mp e1]; exact q1) e2)
  obtain ⟨b0, hb0, hb1, hb2⟩ := bin_fst h6 z2 (by omega)
  have hfc := (k.f.2.2.2.1 b0 hb0).1
  suffices H : ∀ r b, b + r = b0 → gg p l e s m args below meth c G (d + 3 + 1) MX1_canTry Q 29 [some (.ref 53), some (.int (nI M)), some (.int a), some (.int (nI b)), none] [] h from H b0 0 (by omega)
  intro r
  induction r with
  | zero =>
    intro b hb
    have : b = b0 := by omega
    subst this
    refine wX1_canTry_29 hw.1 hw.2.1 hw.2.2.1 (bN (nI_ge (b := 6) (by omega) (by decide)) (c_cellOf hw k hb0 ⟨_, rfl, rfl, bY' ((bin_c (by omega) (by omega)).mpr hb1) (c_bitsIn hw k ⟨_, rfl, rfl, ?_⟩)⟩))
    obtain ⟨W, w1, w2, w3⟩ := fbt_m F (nI (fc F b)) (qB A) h6
    rw [w2, bin_sub (by omega) (by omega)]
    have sub : (∀ b', b' < 6 → bin M b' → bin W b') ↔ ∀ b', b' < qB A → bin M b' → fc F b' = fc F b := by
      constructor
      · intro q b' hb' hm
        have := (w3 b' hb').mp (q b' (by omega) hm)
        have h1 := (k.f.2.2.2.1 b' hb').1
        exact (nI_eq (by omega) (by omega)).mp this
      · intro q b' hb' hm
        have hlt := bin_lt z2 hm
        exact (w3 b' hlt).mpr (by rw [q b' hlt hm])
    rw [sub]
    refine ⟨fun q => hno (fun x hx ea => q (fun b' hb' hm => ?_)), fun q => c_isBeside hw k.g k.l hfc (fun x ea hx => ⟨_, rfl, rfl, bN (by decide) (hy M x rfl ea ⟨by omega, z2, _, hfc, q, hx⟩)⟩) (fun no => ⟨_, rfl, rfl, bY rfl (hno (fun x hx ea => ?_))⟩)⟩
    · obtain ⟨-, -, f, -, hf, -⟩ := hx
      rw [hf b' hb' hm, hf b hb0 hb1]
    · obtain ⟨-, -, f, -, hf, hx⟩ := hx
      rw [← hf b hb0 hb1] at hx
      exact no x hx ea
  | succ r ih =>
    intro b hb
    refine wX1_canTry_29 hw.1 hw.2.1 hw.2.2.1 (bN (nI_ge (b := 6) (by omega) (by decide)) (c_cellOf hw k (by omega) ⟨_, rfl, rfl, bN' (mt (bin_c (by omega) (by omega)).mp (hb2 b (by omega))) ?_⟩))
    rw [nI_1]
    exact ih (b + 1) (by omega)
theorem m_canFile {v a : Int32} (hw : gWf h lk sp cd) (k : KM A F h) (hy : ∀ m x, v = nI m → a = nI x → cTry A F m x → Q (some (.int 1)) h) (hno : (∀ m x, cTry A F m x → v = nI m → a ≠ nI x) → Q (some (.int 0)) h) : gC l G (d + 5) MX12_canFile [.ref 82, .int v, .int a] h Q := by
  have h6 := k.g.B6
  have h48 := k.g.N48
  have hp : 2 ^ qB A ≤ 2 ^ 6 := Nat.pow_le_pow_right (by decide) h6
  refine eX12_canFile hw (fun p e s m args below meth c => ?_)
  refine ⟨fun z => hno (fun m x q e1 e2 => ?_), fun z => m_boatMany hw k.l ⟨_, rfl, rfl, ?_⟩⟩
  · rw [e1] at z
    have := (nI_leI (b := 0) (by have := q.2.1; omega) (by decide)).mp z
    have := q.1
    omega
  obtain ⟨M, hM, rfl⟩ := nI_of (x := v) (fun q => z (Int32.le_of_lt q))
  have z := mt (nI_leI (b := 0) hM (by decide)).mpr z
  rw [shl1 _ (by omega)]
  refine ⟨fun z2 => ?_, fun z2 => hno (fun m x q e1 e2 => z2 ?_)⟩
  rotate_left
  · rw [e1]
    exact nI_lt q.2.1 (by omega)
  have z2 := (nI_ltI hM (by omega)).mp z2
  have hno : (∀ x, cTry A F M x → a ≠ nI x) → Q (some (.int 0)) h := fun q => hno (fun m x q1 e1 e2 => q x (by
    have := q1.2.1
    rw [(nI_eq hM (by omega)).mp e1]; exact q1) e2)
  obtain ⟨b0, hb0, hb1, hb2⟩ := bin_fst h6 z2 (by omega)
  have hfc := (k.f.2.2.2.1 b0 hb0).1
  suffices H : ∀ r b y, b + r = qB A → (y = 0 → ∀ b', b' < b → ¬ bin M b') → (∀ f, y = f + 1 → (∃ b', b' < b ∧ bin M b' ∧ fc F b' = f) ∧ ∀ b', b' < b → bin M b' → fc F b' = f) → y ≤ 48 → gg p l e s m args below meth c G (d + 4 + 1) MX12_canFile Q 21 [some (.ref 82), some (.int (nI M)), some (.int a), some (.int (nI y - 1)), some (.int (nI b))] [] h from H (qB A) 0 0 (by omega) (fun _ b' hb' => absurd hb' (Nat.not_lt_zero _)) (fun f hf => by omega) (by decide)
  intro r
  induction r with
  | zero =>
    intro b y hb hy0 hy1 hy48
    have hbq : b = qB A := by omega
    have hy00 : y ≠ 0 := fun e => hy0 e b0 (by omega) hb1
    obtain ⟨f, rfl⟩ : ∃ f, y = f + 1 := ⟨y - 1, by omega⟩
    obtain ⟨⟨b', c1, c2, c3⟩, c4⟩ := hy1 f rfl
    have hfl := (k.f.2.2.2.1 b' (by omega)).1
    rw [c3] at hfl
    refine wX12_canFile_21 hw.1 hw.2.1 hw.2.2.1 (m_boatMany hw k.l ⟨_, rfl, rfl, bY (nI_le (by omega) (by omega)) ?_⟩)
    rw [i_s1]
    refine m_isBeside hw k.g k.l hfl (fun x ea hx => ⟨_, rfl, rfl, Or.inr rfl, hy M x rfl ea ⟨by omega, z2, f, hfl, fun b hb hm => c4 b (by omega) hm, hx⟩⟩) (fun no => ⟨_, rfl, rfl, Or.inl rfl, hno (fun x hx ea => ?_)⟩)
    obtain ⟨-, -, f2, -, hf2, hx⟩ := hx
    rw [← hf2 b' (by omega) c2, c3] at hx
    exact no x hx ea
  | succ r ih =>
    intro b y hb hy0 hy1 hy48
    have hbl := (k.f.2.2.2.1 b (by omega)).1
    refine wX12_canFile_21 hw.1 hw.2.1 hw.2.2.1 (m_boatMany hw k.l ⟨_, rfl, rfl, bN (nI_ge (by omega) (by omega)) ?_⟩)
    rw [bin_z (by omega) (by omega), nI_1]
    refine ⟨fun zb => ?_, fun zb => ?_⟩
    · have zb : bin M b := Classical.byContradiction zb
      have y0 : nI y - 1 = -1 ↔ y = 0 := by rw [← i_m1, i_eq1 (by omega) (by decide)]
      have nx : (∀ b', b' < b → bin M b' → fc F b' = fc F b) → gg p l e s m args below meth c G (d + 4 + 1) MX12_canFile Q 21 [some (.ref 82), some (.int (nI M)), some (.int a), some (.int (nI (fc F b))), some (.int (nI (b + 1)))] [] h := fun q => by
        have := ih (b + 1) (fc F b + 1) (by omega) (fun e => by omega) (fun f hf => by
          have : f = fc F b := by omega
          subst this
          refine ⟨⟨b, by omega, zb, rfl⟩, fun b' hb' hm => ?_⟩
          by_cases e9 : b' = b
          · rw [e9]
          · exact q b' (by omega) hm) (by omega)
        rw [i_s1] at this
        exact this
      refine ⟨fun q => m_cellOf hw k (by omega) ⟨_, rfl, rfl, nx (fun b' hb' hm => absurd hm (hy0 (y0.mp q) b' hb'))⟩, fun q => m_cellOf hw k (by omega) ⟨_, rfl, rfl, fun q2 => m_cellOf hw k (by omega) ⟨_, rfl, rfl, nx (fun b' hb' hm => ?_)⟩, fun q2 => hno (fun x hx ea => q2 ?_)⟩⟩
      · have q := mt y0.mpr q
        obtain ⟨f, rfl⟩ : ∃ f, y = f + 1 := ⟨y - 1, by omega⟩
        rw [i_s1] at q2
        rw [(hy1 f rfl).2 b' hb' hm]
        exact ((nI_eq (by omega) (by omega)).mp q2).symm
      · have q := mt y0.mpr q
        obtain ⟨f, rfl⟩ : ∃ f, y = f + 1 := ⟨y - 1, by omega⟩
        obtain ⟨⟨b', c1, c2, c3⟩, c4⟩ := hy1 f rfl
        obtain ⟨-, -, f2, -, hf2, hx⟩ := hx
        rw [i_s1, ← c3, hf2 b' (by omega) c2, hf2 b (by omega) zb]
    · refine ih (b + 1) y (by omega) (fun e b' hb' => ?_) (fun f hf => ?_) hy48
      · by_cases e9 : b' = b
        · rw [e9]; exact zb
        · exact hy0 e b' (by omega)
      · obtain ⟨⟨b', c1, c2, c3⟩, c4⟩ := hy1 f hf
        refine ⟨⟨b', by omega, c2, c3⟩, fun b' hb' hm => ?_⟩
        by_cases e9 : b' = b
        · rw [e9] at hm; exact absurd hm zb
        · exact c4 b' (by omega) hm
end CT
