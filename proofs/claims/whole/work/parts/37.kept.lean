section KP
variable {l : Launch} {G : gG} {d : Nat} {Q : Option Value → gH → Prop} {h : gH} {lk sp : Nat} {cd : Option Nat} {A F : qT} {T : Nat}
def fkv (F : qT) (i w : Nat) : Nat := if w = 0 then fka F i else if w = 1 then fkb F i else if w = 2 then fkc F i else fkw F i
theorem c_tell {i : Nat} {w : Int32} (hw : gWf h lk sp cd) (k : KC A F T lk h) (hi : i < fN F) (hq : ∀ j, j < 4 → w = nI j → Q (some (.int (nI (fkv F i j)))) h) (hn : (∀ j, j < 4 → w ≠ nI j) → Q (some (.int (-1))) h) : gC l G (d + 2) MX2_tell [.ref 6, .int (nI i), .int w] h Q := by
  have ht := k.t
  have hm : fN F ≤ T := by rw [k.x.2.2.2.1]; exact Nat.min_le_right _ _
  have h40 := k.f.2.2.1
  obtain ⟨b1, b2, b3, b4⟩ := k.f.2.2.2.2 i hi
  refine eX2_tell hw (c_tellable hw k ⟨_, rfl, rfl, ?_⟩)
  have e : ((h.1 7 2 - nI (fN F)) + nI i) - ((h.1 7 2 - nI (fN F)) + nI i) / 40 * 40 = nI ((T - fN F + i) % 40) := by
    rw [k.x.2.2.1, pk_sub hm, nI_add, lit 40, pk_rem (by omega) (by decide) (by decide)]
  rw [e, show (27 : Int32) + nI ((T - fN F + i) % 40) = nI (27 + (T - fN F + i) % 40) from nI_add 27 _, nI_clamp (by omega), k.x.2.2.2.2.2 i hi]
  refine bY (nI_pos' (by omega)) ⟨vp_in_nI (by omega) (by decide), fun q => ?_, fun q => ?_, fun q => ?_, fun q => ?_, fun q0 q1 q2 q3 => hn (fun j hj => ?_)⟩
  · rw [pk_shrN (by omega) _ 10 (by decide), show (fka F i * 1024 + fkb F i * 128 + fkc F i * 2 + fkw F i) / 2 ^ 10 = fka F i by omega]
    exact hq 0 (by decide) q
  · rw [pk_shrN (by omega) _ 7 (by decide), pk_andN (by omega) 3 (by decide), show (fka F i * 1024 + fkb F i * 128 + fkc F i * 2 + fkw F i) / 2 ^ 7 % 2 ^ 3 = fkb F i by omega]
    exact hq 1 (by decide) q
  · rw [pk_shrN (by omega) _ 1 (by decide), pk_andN (by omega) 6 (by decide), show (fka F i * 1024 + fkb F i * 128 + fkc F i * 2 + fkw F i) / 2 ^ 1 % 2 ^ 6 = fkc F i by omega]
    exact hq 2 (by decide) q
  · rw [pk_andN (by omega) 1 (by decide), show (fka F i * 1024 + fkb F i * 128 + fkc F i * 2 + fkw F i) % 2 ^ 1 = fkw F i by omega]
    exact hq 3 (by decide) q
  · match j, hj with
    | 0, _ => exact q0
    | 1, _ => exact q1
    | 2, _ => exact q2
    | 3, _ => exact q3
theorem m_keptv {i j : Nat} (k : KM A F h) (hi : i < fN F) (hj : j < 4) : h.1 133 (27 + 4 * i + j) = nI (fkv F i j) := by
  obtain ⟨y1, y2, y3, y4⟩ := k.y.2.2.2.2 i hi
  match j, hj with
  | 0, _ => exact y1
  | 1, _ => exact y2
  | 2, _ => exact y3
  | 3, _ => exact y4
theorem st_kept : gStepI l G (gInv Rst) MX11_kept MX12_kept 2 := by
  intro n9 h av hn9 hl hi
  obtain ⟨a, b, rfl⟩ := two_of hl
  obtain ⟨lk, sp, cd, A, F, T, hw, k, m, -, -⟩ := hi.2.2.2.2.2.2.k hn9
  replace hi := gInv.mono Rst_cg n9 h hi
  have h40 := k.f.2.2.1
  have hy : h.1 133 26 = nI (fN F) := m.y.2.2.1
  rcases ixd a (fN F) (by omega) with ⟨i, hi1, rfl⟩ | ha
  · refine eX11_kept (d := 899) hw (bN (nI_pos (by omega)) (c_tellable hw k ⟨_, rfl, rfl, bY (nI_lt hi1 (by omega)) (c_tell hw k hi1 (fun j hj e => ⟨_, rfl, rfl, _, rfl, ?_⟩) (fun z => ⟨_, rfl, rfl, _, rfl, ?_⟩))⟩))
    · subst e
      refine eX12_kept (d := 899) hw ?_
      rw [hy]
      refine m_isIn_y hw hi1 (by omega) ⟨_, rfl, rfl, bN (by decide) (m_isIn_y (n := 4) hw hj (by decide) ⟨_, rfl, rfl, bN (by decide) ?_⟩)⟩
      rw [show (27 : Int32) + 4 * nI i + nI j = nI (27 + 4 * i + j) by rw [lit 27, lit 4, pk_mul, nI_add, nI_add], nI_clamp (by omega), m_keptv m hi1 hj]
      exact ⟨vp_in_nI (by omega) (by decide), _, rfl, rfl, hi⟩
    · refine eX12_kept (d := 899) hw ?_
      rw [hy]
      exact m_isIn_y hw hi1 (by omega) ⟨_, rfl, rfl, bN (by decide) (m_isIn_n (n := 4) hw z (by decide) ⟨_, rfl, rfl, bY rfl ⟨_, rfl, rfl, hi⟩⟩)⟩
  · have mm : gC l G 900 MX12_kept [.ref 82, .int a, .int b] h (fun r h' => ∃ v', r = some (.int v') ∧ -1 = v' ∧ gInv Rst (n9 + 1) h') := by
      refine eX12_kept (d := 899) hw ?_
      rw [hy]
      exact m_isIn_n hw ha (by omega) ⟨_, rfl, rfl, bY rfl ⟨_, rfl, rfl, hi⟩⟩
    refine eX11_kept (d := 899) hw ⟨fun q => ⟨_, rfl, mm⟩, fun q => c_tellable hw k ⟨_, rfl, rfl, fun q2 => absurd q2 ?_, fun _ => ⟨_, rfl, mm⟩⟩⟩
    exact Int32.not_lt.mpr ((ixn (by omega) ha).resolve_left q)
end KP
theorem p32_lt {f : Nat → Nat} (hf : ∀ j, j < 6 → f j ≤ 26) : p32 f 6 < 2 ^ 30 := by
  have h0 := hf 0 (by decide)
  have h1 := hf 1 (by decide)
  have h2 := hf 2 (by decide)
  have h3 := hf 3 (by decide)
  have h4 := hf 4 (by decide)
  have h5 := hf 5 (by decide)
  simp only [p32]
  omega
theorem p32_at {f : Nat → Nat} (hf : ∀ j, j < 6 → f j ≤ 26) {k : Nat} (hk : k < 6) : p32 f 6 / 2 ^ (5 * (5 - k)) % 2 ^ 5 = f k := by
  have h0 := hf 0 (by decide)
  have h1 := hf 1 (by decide)
  have h2 := hf 2 (by decide)
  have h3 := hf 3 (by decide)
  have h4 := hf 4 (by decide)
  have h5 := hf 5 (by decide)
  match k, hk with
  | 0, _ => simp only [p32]; omega
  | 1, _ => simp only [p32]; omega
  | 2, _ => simp only [p32]; omega
  | 3, _ => simp only [p32]; omega
  | 4, _ => simp only [p32]; omega
  | 5, _ => simp only [p32]; omega
/-- how many letters a name has -/
theorem nwf.len {f : Nat → Nat} (h : nwf f) : ∃ n, 1 ≤ n ∧ n ≤ 6 ∧ (∀ j, j < n → 1 ≤ f j ∧ f j ≤ 26) ∧ (∀ j, n ≤ j → j < 6 → f j = 0) := by
  obtain ⟨h1, h2, h3⟩ := h
  suffices H : ∀ r n, n + r = 6 → 1 ≤ n → (∀ j, j < n → 1 ≤ f j ∧ f j ≤ 26) → ∃ n, 1 ≤ n ∧ n ≤ 6 ∧ (∀ j, j < n → 1 ≤ f j ∧ f j ≤ 26) ∧ (∀ j, n ≤ j → j < 6 → f j = 0) by
    refine H 5 1 rfl (by omega) (fun j hj => ?_)
    have : j = 0 := by omega
    subst this
    exact ⟨by omega, h1 0 (by omega)⟩
  intro r
  induction r with
  | zero => intro n hn hn1 hj; exact ⟨n, hn1, by omega, hj, fun j a b => by omega⟩
  | succ r ih =>
    intro n hn hn1 hj
    by_cases e : f n = 0
    · refine ⟨n, hn1, by omega, hj, fun j a b => ?_⟩
      suffices H : ∀ i, n + i < 6 → f (n + i) = 0 by
        have := H (j - n) (by omega)
        rwa [show n + (j - n) = j by omega] at this
      intro i
      induction i with
      | zero => intro _; exact e
      | succ i ih2 => intro hi; exact h3 (n + i) (by omega) (ih2 (by omega))
    · refine ih (n + 1) (by omega) (by omega) (fun j a => ?_)
      by_cases e2 : j = n
      · subst e2; exact ⟨by omega, h1 j (by omega)⟩
      · exact hj j (by omega)
theorem p27_tail {f : Nat → Nat} {n : Nat} (h : ∀ j, n ≤ j → j < 6 → f j = 0) : ∀ r, n + r ≤ 6 → p27 f (n + r) = p27 f n
  | 0, _ => rfl
  | r + 1, hr => by
    show (if f (n + r) = 0 then p27 f (n + r) else _) = _
    rw [if_pos (h (n + r) (by omega) (by omega))]
    exact p27_tail h r (by omega)
theorem p27_step {f : Nat → Nat} {n : Nat} (h : ∀ j, j < n → 1 ≤ f j ∧ f j ≤ 26) {m : Nat} (hm : m < n) : p27 f (m + 1) = 27 * p27 f m + f m := by
  show (if f m = 0 then _ else _) = _
  rw [if_neg (by have := h m hm; omega)]
theorem p27_lt {f : Nat → Nat} {n : Nat} (h : ∀ j, j < n → 1 ≤ f j ∧ f j ≤ 26) : ∀ m, m ≤ n → p27 f m < 27 ^ m
  | 0, _ => by unfold p27; decide
  | m + 1, hm => by
    have := p27_lt h m (by omega)
    have h2 := h m (by omega)
    rw [p27_step h (by omega), Nat.pow_succ]
    omega
section LT
variable {p : Program} {l : Launch} {e : Env} {s : State} {m : MethodId} {args : Array Value} {below : List Frame} {meth : Method} {c : Code} {G : gG} {d : Nat} {Q : Option Value → gH → Prop} {h : gH} {lk sp : Nat} {cd : Option Nat}
theorem m_letL2 {f : Nat → Nat} {n k : Nat} {x1 x2 x6 : Int32} (hw : gWf h lk sp cd) (hf : ∀ j, j < n → 1 ≤ f j ∧ f j ≤ 26) (hn : n ≤ 6) (hq : Q (some (.int (nI (f k)))) h) : ∀ r, k + r < n → gg p l e s m args below meth c G (d + 1) MX12_letter Q 103 [some (.ref 82), some (.int x1), some (.int x2), some (.int (nI k)), some (.long (lN (p27 f (k + r + 1)))), none, some (.int x6), some (.int (nI (k + r))), none] [] h := by
  intro r
  have lt9 : ∀ m, m ≤ n → p27 f m < 2 ^ 62 := fun m hm => Nat.lt_of_lt_of_le (p27_lt hf m hm) (Nat.le_trans (Nat.pow_le_pow_right (by decide) (show m ≤ 6 by omega)) (by decide))
  induction r with
  | zero =>
    intro hr
    refine wX12_letter_103 hw.1 hw.2.1 hw.2.2.1 (bY (Int32.le_refl _) ?_)
    have := lt9 (k + 1) (by omega)
    have h2 := hf k (by omega)
    rw [show (27 : Int64) = lN 27 from rfl, pk_lRem (by rw [Nat.add_zero]; omega) (by decide) (by decide), lN_i, Nat.add_zero, p27_step hf (by omega), show (27 * p27 f k + f k) % 27 = f k by omega]
    exact hq
  | succ r ih =>
    intro hr
    have := lt9 (k + (r + 1) + 1) (by omega)
    have h2 := hf (k + (r + 1)) (by omega)
    refine wX12_letter_103 hw.1 hw.2.1 hw.2.2.1 (bN (nI_ge (by omega) (by omega)) ?_)
    rw [show (27 : Int64) = lN 27 from rfl, pk_lDiv (a := p27 f (k + (r + 1) + 1)) (by omega) (by decide) (by decide), p27_step hf (show k + (r + 1) < n by omega), show (27 * p27 f (k + (r + 1)) + f (k + (r + 1))) / 27 = p27 f (k + (r + 1)) by omega, show nI (k + (r + 1)) + -1 = nI (k + r) from pk_m1 (k + r)]
    exact ih (by omega)
theorem m_letL1 {f : Nat → Nat} {n k : Nat} {x1 x2 : Int32} (hw : gWf h lk sp cd) (hf : ∀ j, j < n → 1 ≤ f j ∧ f j ≤ 26) (hz : ∀ j, n ≤ j → j < 6 → f j = 0) (hn : n ≤ 6) (hk : k < 6) (hq : Q (some (.int (nI (f k)))) h) : ∀ r i, i + r = n → gg p l e s m args below meth c G (d + 1) MX12_letter Q 68 [some (.ref 82), some (.int x1), some (.int x2), some (.int (nI k)), some (.long (lN (p27 f n))), none, some (.int (nI i)), some (.long (lN (p27 f r))), none] [] h := by
  intro r
  have lt9 : ∀ m, m ≤ n → p27 f m < 2 ^ 62 := fun m hm => Nat.lt_of_lt_of_le (p27_lt hf m hm) (Nat.le_trans (Nat.pow_le_pow_right (by decide) (show m ≤ 6 by omega)) (by decide))
  induction r with
  | zero =>
    intro i hi
    have hi : i = n := by omega
    subst hi
    refine wX12_letter_68 hw.1 hw.2.1 hw.2.2.1 (bY ?_ ?_)
    · rw [lg_cmp_le]
      exact (pk_lLE (a := 0) (b := 0) (by decide) (by decide)).mpr (Nat.le_refl 0)
    · rcases Nat.lt_or_ge k i with z | z
      · refine bY (nI_lt z (by omega)) ?_
        have e9 := m_letL2 (p := p) (e := e) (s := s) (m := m) (args := args) (below := below) (meth := meth) (c := c) (l := l) (G := G) (d := d) (x1 := x1) (x2 := x2) (x6 := nI i) hw hf hn hq (i - 1 - k) (by omega)
        rw [show k + (i - 1 - k) + 1 = i by omega, show k + (i - 1 - k) = i - 1 by omega] at e9
        rw [show nI i - 1 = nI (i - 1) from pk_sub (b := 1) (by omega)]
        exact e9
      · refine bN (nI_nlt z (by omega)) ?_
        rw [hz k z hk] at hq
        exact hq
  | succ r ih =>
    intro i hi
    have := lt9 (r + 1) (by omega)
    have h2 := hf r (by omega)
    refine wX12_letter_68 hw.1 hw.2.1 hw.2.2.1 (bN ?_ ?_)
    · rw [lg_cmp_le]
      refine mt (pk_lLE (b := 0) (by omega) (by decide)).mp ?_
      rw [p27_step hf (by omega)]
      omega
    · rw [show (27 : Int64) = lN 27 from rfl, pk_lDiv (by omega) (by decide) (by decide), p27_step hf (by omega), show (27 * p27 f r + f r) / 27 = p27 f r by omega, nI_1]
      exact ih (i + 1) (by omega)
end LT
section ST5
variable {l : Launch} {G : gG}
theorem c_letterOf {d : Nat} {Q : Option Value → gH → Prop} {h : gH} {lk sp : Nat} {cd : Option Nat} {f : Nat → Nat} {k : Nat} (hw : gWf h lk sp cd) (hf : nwf f) (hk : k < 6) (hq : Q (some (.int (nI (f k)))) h) : gC l G d MX11_letterOf [.int (nI (p32 f 6)), .int (nI k)] h Q := by
  refine eX11_letterOf hw ?_
  have hb := p32_lt hf.1
  have e1 : ∀ k, k < 6 → ((((5 : Int32) * (5 - nI k)) &&& 31).toBitVec.smod 32).toNat = 5 * (5 - k) := by decide
  rw [pk_shrN (by omega) _ (5 * (5 - k)) (e1 k hk), pk_andN (Nat.lt_of_le_of_lt (Nat.div_le_self _ _) (by omega)) 5 (by decide), p32_at hf.1 hk]
  exact hq
theorem m_letter {d : Nat} {Q : Option Value → gH → Prop} {h : gH} {lk sp : Nat} {cd : Option Nat} {A F : qT} {z w k : Nat} (hw : gWf h lk sp cd) (m : KM A F h) (hz : z < 2) (hwn : w < (if z = 0 then qB A else qH A)) (hk : k < 6) (hq : Q (some (.int (nI (qnm A z w k)))) h) : gC l G (d + 1) MX12_letter [.ref 82, .int (nI z), .int (nI w), .int (nI k)] h Q := by
  have h6 := m.g.B6
  have h7 := m.g.H6
  have hn6 : (if z = 0 then qB A else qH A) ≤ 6 := by split <;> omega
  have hnw : nwf (qnm A z w) := by
    match z, hz with
    | 0, _ => exact m.g.bn w hwn
    | 1, _ => exact m.g.hn w hwn
  have e7 : h.1 119 (7 + z) = nI (if z = 0 then qB A else qH A) := by
    match z, hz with
    | 0, _ => exact m.l.B
    | 1, _ => exact m.l.H
  have en : h.2.1 120 (12 + 6 * z + w) = lN (p27 (qnm A z w) 6) := by
    match z, hz with
    | 0, _ => exact m.l.bn w hwn
    | 1, _ => exact m.l.hn w hwn
  obtain ⟨n, n1, n2, n3, n4⟩ := hnw.len
  have e27 : p27 (qnm A z w) 6 = p27 (qnm A z w) n := by
    have := p27_tail n4 (6 - n) (by omega)
    rwa [show n + (6 - n) = 6 by omega] at this
  refine eX12_letter hw (fun p e s m args below meth c => ?_)
  refine m_isIn_y (n := 2) hw hz (by decide) ⟨_, rfl, rfl, bN (by decide) ?_⟩
  rw [show (7 : Int32) + nI z = nI (7 + z) from nI_add 7 z, nI_clamp (by omega), e7]
  refine ⟨vp_in_nI (by omega) (by decide), m_isIn_y hw hwn (by omega) ⟨_, rfl, rfl, bN (by decide) (m_isIn_y (n := 6) hw hk (by decide) ⟨_, rfl, rfl, bN' (by decide) ?_⟩)⟩⟩
  rw [show (12 : Int32) + 6 * nI z + nI w = nI (12 + 6 * z + w) by rw [lit 12, lit 6, pk_mul, nI_add, nI_add], nI_clamp (by omega), en, e27]
  exact ⟨vp_in_nI (by omega) (by decide), m_letL1 hw n3 n4 n2 hk hq n 0 (by omega)⟩
end ST5
section ST6
variable {l : Launch} {G : gG}
theorem m_letter_n {d : Nat} {Q : Option Value → gH → Prop} {h : gH} {lk sp : Nat} {cd : Option Nat} {A F : qT} {a1 a2 a3 : Int32} (hw : gWf h lk sp cd) (m : KM A F h) (hn : ∀ z w k, z < 2 → a1 = nI z → w < (if z = 0 then qB A else qH A) → a2 = nI w → k < 6 → a3 = nI k → False) (hq : Q (some (.int (-1))) h) : gC l G (d + 1) MX12_letter [.ref 82, .int a1, .int a2, .int a3] h Q := by
  have h6 := m.g.B6
  have h7 := m.g.H6
  refine eX12_letter hw (fun p e s m9 args below meth c => ?_)
  rcases ixd a1 2 (by decide) with ⟨z, hz, rfl⟩ | hz
  · have e7 : h.1 119 (7 + z) = nI (if z = 0 then qB A else qH A) := by
      match z, hz with
      | 0, _ => exact m.l.B
      | 1, _ => exact m.l.H
    have hn6 : (if z = 0 then qB A else qH A) ≤ 6 := by split <;> omega
    refine m_isIn_y (n := 2) hw hz (by decide) ⟨_, rfl, rfl, bN (by decide) ?_⟩
    rw [show (7 : Int32) + nI z = nI (7 + z) from nI_add 7 z, nI_clamp (by omega), e7]
    refine ⟨vp_in_nI (by omega) (by decide), ?_⟩
    rcases ixd a2 (if z = 0 then qB A else qH A) (by omega) with ⟨w, hw2, rfl⟩ | hw2
    · refine m_isIn_y hw hw2 (by omega) ⟨_, rfl, rfl, bN (by decide) (m_isIn_n (n := 6) hw (fun k hk e3 => hn z w k hz rfl hw2 rfl hk e3) (by decide) ⟨_, rfl, rfl, bY' rfl hq⟩)⟩
    · exact m_isIn_n hw hw2 (by omega) ⟨_, rfl, rfl, bY rfl hq⟩
  · exact m_isIn_n (n := 2) hw hz (by decide) ⟨_, rfl, rfl, bY rfl hq⟩
theorem st_letter : gStepI l G (gInv Rst) MX11_letter MX12_letter 3 := by
  intro n9 h av hn9 hl hi
  obtain ⟨a, b, c, rfl⟩ := three_of hl
  obtain ⟨lk, sp, cd, A, F, T, hw, k, m, -, -⟩ := hi.2.2.2.2.2.2.k hn9
  replace hi := gInv.mono Rst_cg n9 h hi
  have h6 := k.g.B6
  have h7 := k.g.H6
  rcases ixd c 6 (by decide) with ⟨j, hj, rfl⟩ | hc
  · refine eX11_letter (d := 899) hw (bN (nI_pos (by omega)) (bY (nI_lt (b := 6) hj (by decide)) ⟨fun q => ⟨fun q2 => ⟨_, rfl, ?_⟩, fun q2 => ?_⟩, fun q => ?_⟩))
    · refine m_letter_n hw m (fun z w k hz e1 _ _ _ _ => ?_) ⟨_, rfl, rfl, hi⟩
      match z, hz with
      | 0, _ => exact q e1
      | 1, _ => exact q2 e1
    · subst q2
      rcases ixd b (qH A) (by omega) with ⟨w, hw2, rfl⟩ | hw2
      · refine c_isHand_y hw k.g k.l hw2 ⟨_, rfl, rfl, bN (by decide) ?_⟩
        rw [nI_clamp (by omega), k.l.hn w hw2]
        exact ⟨vp_in_nI (by omega) (by decide), c_letterOf hw (k.g.hn w hw2) hj ⟨_, rfl, rfl, _, rfl, m_letter (z := 1) hw m (by decide) hw2 hj ⟨_, rfl, rfl, hi⟩⟩⟩
      · refine c_isHand_n hw k.g k.l hw2 ⟨_, rfl, rfl, bY rfl ⟨_, rfl, m_letter_n hw m (fun z w k hz e1 e2 e3 _ _ => ?_) ⟨_, rfl, rfl, hi⟩⟩⟩
        match z, hz with
        | 0, _ => exact q e1
        | 1, _ => exact hw2 w e2 e3
    · subst q
      rcases ixd b (qB A) (by omega) with ⟨w, hw2, rfl⟩ | hw2
      · refine c_isBoat_y hw k.g k.l hw2 ⟨_, rfl, rfl, bN (by decide) ?_⟩
        rw [nI_clamp (by omega), k.l.bn w hw2]
        exact ⟨vp_in_nI (by omega) (by decide), c_letterOf hw (k.g.bn w hw2) hj ⟨_, rfl, rfl, _, rfl, m_letter (z := 0) hw m (by decide) hw2 hj ⟨_, rfl, rfl, hi⟩⟩⟩
      · refine c_isBoat_n hw k.g k.l hw2 ⟨_, rfl, rfl, bY rfl (bN' (by decide) ⟨_, rfl, m_letter_n hw m (fun z w k hz e1 e2 e3 _ _ => ?_) ⟨_, rfl, rfl, hi⟩⟩)⟩
        match z, hz with
        | 0, _ => exact hw2 w e2 e3
        | 1, _ => exact absurd e1 (by decide)
  · have mm : gC l G 900 MX12_letter [.ref 82, .int a, .int b, .int c] h (fun r h' => ∃ v', r = some (.int v') ∧ -1 = v' ∧ gInv Rst (n9 + 1) h') := m_letter_n hw m (fun z w k _ _ _ _ e1 e2 => hc k e1 e2) ⟨_, rfl, rfl, hi⟩
    refine eX11_letter (d := 899) hw ⟨fun q => ⟨_, rfl, mm⟩, fun q => ⟨fun q2 => absurd q2 ?_, fun _ => ⟨_, rfl, mm⟩⟩⟩
    exact Int32.not_lt.mpr ((ixn (n := 6) (by decide) hc).resolve_left q)
end ST6
