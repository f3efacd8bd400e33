section CM
variable {l : Launch} {G : gG} {d : Nat} {Q : Option Value → gH → Prop} {h : gH} {lk sp : Nat} {cd : Option Nat} {A F : qT}
theorem m_isIn_y {j n : Nat} (hw : gWf h lk sp cd) (hj : j < n) (hn : n < 2 ^ 30) (hq : Q (some (.int 1)) h) : gC l G d MX12_isIn [.long (nI j).toInt64, .long 0, .long (nI n - 1).toInt64] h Q :=
  c_isInI 0 (nI n - 1) hw (fun _ _ => hq) (fun z => absurd ⟨nI_pos' (by omega), (i_le1 (by omega) hn).mpr hj⟩ z)
theorem m_isIn_n {a : Int32} {n : Nat} (hw : gWf h lk sp cd) (q : ∀ j, j < n → a ≠ nI j) (hn : n < 2 ^ 30) (hq : Q (some (.int 0)) h) : gC l G d MX12_isIn [.long a.toInt64, .long 0, .long (nI n - 1).toInt64] h Q := by
  refine c_isInI 0 (nI n - 1) hw (fun z1 z2 => absurd z2 ?_) (fun _ => hq)
  obtain ⟨j, hj, rfl⟩ := nI_of (Int32.not_lt.mpr z1)
  rcases Nat.lt_or_ge j n with h1 | h1
  · exact absurd rfl (q j h1)
  · rw [Int32.le_iff_toInt_le, nI_toInt (by omega), show (1 : Int32) = nI 1 from rfl, pk_sub_toInt (by omega) (by omega)]
    omega
theorem m_columns (hw : gWf h lk sp cd) (k : LM A h) (hq : Q (some (.int (nI (qC A)))) h) : gC l G d MX12_columns [.ref 82] h Q := eX12_columns hw (by rw [k.C]; exact hq)
theorem m_boatMany (hw : gWf h lk sp cd) (k : LM A h) (hq : Q (some (.int (nI (qB A)))) h) : gC l G d MX12_boatMany [.ref 82] h Q := eX12_boatMany hw (by rw [k.B]; exact hq)
theorem m_handMany (hw : gWf h lk sp cd) (k : LM A h) (hq : Q (some (.int (nI (qH A)))) h) : gC l G d MX12_handMany [.ref 82] h Q := eX12_handMany hw (by rw [k.H]; exact hq)
theorem m_cellMany (hw : gWf h lk sp cd) (k : LM A h) (hq : Q (some (.int (nI (qN A)))) h) : gC l G (d + 1) MX12_cellMany [.ref 82] h Q :=
  eX12_cellMany hw (m_columns hw k ⟨_, rfl, rfl, by rw [k.R, pk_mul]; exact hq⟩)
theorem m_isBoat_y {j : Nat} (hw : gWf h lk sp cd) (g : qG A) (k : LM A h) (hj : j < qB A) (hq : Q (some (.int 1)) h) : gC l G (d + 1) MX12_isBoat [.ref 82, .int (nI j)] h Q := by
  have := g.B6
  exact eX12_isBoat hw (m_boatMany hw k ⟨_, rfl, rfl, m_isIn_y hw hj (by omega) ⟨_, rfl, rfl, Or.inr rfl, hq⟩⟩)
theorem m_isBoat_n {a : Int32} (hw : gWf h lk sp cd) (g : qG A) (k : LM A h) (q : ∀ j, j < qB A → a ≠ nI j) (hq : Q (some (.int 0)) h) : gC l G (d + 1) MX12_isBoat [.ref 82, .int a] h Q := by
  have := g.B6
  exact eX12_isBoat hw (m_boatMany hw k ⟨_, rfl, rfl, m_isIn_n hw q (by omega) ⟨_, rfl, rfl, Or.inl rfl, hq⟩⟩)
theorem m_isHand_y {j : Nat} (hw : gWf h lk sp cd) (g : qG A) (k : LM A h) (hj : j < qH A) (hq : Q (some (.int 1)) h) : gC l G (d + 1) MX12_isHand [.ref 82, .int (nI j)] h Q := by
  have := g.H6
  exact eX12_isHand hw (m_handMany hw k ⟨_, rfl, rfl, m_isIn_y hw hj (by omega) ⟨_, rfl, rfl, Or.inr rfl, hq⟩⟩)
theorem m_isHand_n {a : Int32} (hw : gWf h lk sp cd) (g : qG A) (k : LM A h) (q : ∀ j, j < qH A → a ≠ nI j) (hq : Q (some (.int 0)) h) : gC l G (d + 1) MX12_isHand [.ref 82, .int a] h Q := by
  have := g.H6
  exact eX12_isHand hw (m_handMany hw k ⟨_, rfl, rfl, m_isIn_n hw q (by omega) ⟨_, rfl, rfl, Or.inl rfl, hq⟩⟩)
theorem m_isCell_y {j : Nat} (hw : gWf h lk sp cd) (g : qG A) (k : LM A h) (hj : j < qN A) (hq : Q (some (.int 1)) h) : gC l G (d + 2) MX12_isCell [.ref 82, .int (nI j)] h Q := by
  have := g.N48
  exact eX12_isCell hw (m_cellMany hw k ⟨_, rfl, rfl, m_isIn_y hw hj (by omega) ⟨_, rfl, rfl, Or.inr rfl, hq⟩⟩)
theorem m_isCell_n {a : Int32} (hw : gWf h lk sp cd) (g : qG A) (k : LM A h) (q : ∀ j, j < qN A → a ≠ nI j) (hq : Q (some (.int 0)) h) : gC l G (d + 2) MX12_isCell [.ref 82, .int a] h Q := by
  have := g.N48
  exact eX12_isCell hw (m_cellMany hw k ⟨_, rfl, rfl, m_isIn_n hw q (by omega) ⟨_, rfl, rfl, Or.inl rfl, hq⟩⟩)
theorem qrow {c : Nat} (g : qG A) (hc : c < qN A) : c / qC A < qR A ∧ c % qC A < qC A ∧ 0 < qC A := by
  have h3 := g.C3 hc
  exact ⟨Nat.div_lt_of_lt_mul hc, Nat.mod_lt _ (by omega), by omega⟩
theorem m_kindAt {j : Nat} (hw : gWf h lk sp cd) (g : qG A) (k : LM A h) (hj : j < qN A) (hq : Q (some (.int (nI (mkd (qkd A j))))) h) : gC l G (d + 1) MX12_kindAt [.ref 82, .int (nI j)] h Q := by
  have h48 := g.N48
  have h8 := g.C8
  have h6 := g.R6
  obtain ⟨r1, r2, r3⟩ := qrow g hj
  have e0 : ¬ nI (qC A) = 0 := nI_ne0 r3 (by omega)
  refine eX12_kindAt hw (m_columns hw k ⟨_, rfl, rfl, e0, m_columns hw k ⟨_, rfl, rfl, e0, ?_⟩⟩)
  have e : (48 + 8 * (nI j / nI (qC A))) + (nI j - nI j / nI (qC A) * nI (qC A)) = nI (48 + 8 * (j / qC A) + j % qC A) := by
    rw [pk_rem (by omega) r3 (by omega), pk_div (by omega) r3 (by omega), lit 48, lit 8, pk_mul, nI_add, nI_add]
  rw [e, nI_clamp (by omega), k.kd j hj]
  exact ⟨vp_in_nI (by omega) (by decide), hq⟩
theorem mkd4 {a : Nat} (h : a ≤ 4) : (nI (mkd a) = 9 ↔ a = 4) ∧ (nI (mkd a) = 3 ↔ a = 3) ∧ (nI (mkd a) = 0 ↔ a = 0) := by
  have : ∀ a, a < 5 → (nI (mkd a) = 9 ↔ a = 4) ∧ (nI (mkd a) = 3 ↔ a = 3) ∧ (nI (mkd a) = 0 ↔ a = 0) := by decide
  exact this a (by omega)
theorem m_isLand {j : Nat} (hw : gWf h lk sp cd) (g : qG A) (k : LM A h) (hj : j < qN A) (hy : qkd A j = 4 → Q (some (.int 1)) h) (hn : qkd A j ≠ 4 → Q (some (.int 0)) h) : gC l G (d + 2) MX12_isLand [.ref 82, .int (nI j)] h Q := by
  have e := mkd4 (g.kd j hj)
  exact eX12_isLand hw (m_kindAt hw g k hj ⟨_, rfl, rfl, fun z => hn (mt e.1.mpr z), fun z => hy (e.1.mp z)⟩)
theorem m_isWreck {j : Nat} (hw : gWf h lk sp cd) (g : qG A) (k : LM A h) (hj : j < qN A) (hy : qkd A j = 3 → Q (some (.int 1)) h) (hn : qkd A j ≠ 3 → Q (some (.int 0)) h) : gC l G (d + 2) MX12_isWreck [.ref 82, .int (nI j)] h Q := by
  have e := mkd4 (g.kd j hj)
  exact eX12_isWreck hw (m_kindAt hw g k hj ⟨_, rfl, rfl, fun z => hn (mt e.2.1.mpr z), fun z => hy (e.2.1.mp z)⟩)
theorem m_isWater_y {j : Nat} (hw : gWf h lk sp cd) (g : qG A) (k : LM A h) (hj : qW A j) (hq : Q (some (.int 1)) h) : gC l G (d + 3) MX12_isWater [.ref 82, .int (nI j)] h Q :=
  eX12_isWater hw (m_isCell_y hw g k hj.1 ⟨_, rfl, rfl, bN (by decide) (m_isLand hw g k hj.1 (fun z => absurd z hj.2) (fun _ => ⟨_, rfl, rfl, bY' rfl hq⟩))⟩)
theorem m_isWater_n {a : Int32} (hw : gWf h lk sp cd) (g : qG A) (k : LM A h) (hn : ∀ j, qW A j → a ≠ nI j) (hq : Q (some (.int 0)) h) : gC l G (d + 3) MX12_isWater [.ref 82, .int a] h Q := by
  have := g.N48
  refine eX12_isWater hw ?_
  rcases ixd a (qN A) (by omega) with ⟨j, hj, rfl⟩ | hc
  · have e4 : qkd A j = 4 := Decidable.byContradiction (fun e => hn j ⟨hj, e⟩ rfl)
    exact m_isCell_y hw g k hj ⟨_, rfl, rfl, bN (by decide) (m_isLand hw g k hj (fun _ => ⟨_, rfl, rfl, bN' (by decide) hq⟩) (fun z => absurd e4 z))⟩
  · exact m_isCell_n hw g k hc ⟨_, rfl, rfl, bY rfl hq⟩
theorem m_depthOf {j : Nat} (hw : gWf h lk sp cd) (g : qG A) (k : LM A h) (hj : qW A j) (hq : Q (some (.int (nI (qdp A j)))) h) : gC l G (d + 3) MX12_depthOf [.ref 82, .int (nI j)] h Q := by
  have h4 := g.kd j hj.1
  unfold qdp at hq
  rw [if_neg hj.2] at hq
  refine eX12_depthOf hw (m_isWreck hw g k hj.1 (fun z => ⟨_, rfl, rfl, bN (by decide) ?_⟩) (fun z => ⟨_, rfl, rfl, bY rfl (m_kindAt hw g k hj.1 ⟨_, rfl, rfl, ?_⟩)⟩))
  · rw [z] at hq
    exact hq
  · have h42 := hj.2
    rw [Nat.min_eq_right (by omega)] at hq
    unfold mkd
    rw [if_neg h42]
    exact hq
theorem m_size {a b : Nat} (hw : gWf h lk sp cd) (ha : a < 2 ^ 30) (hb : b < 2 ^ 30) (hq : Q (some (.int (nI (adf a b)))) h) : gC l G d MX12_size [.int (nI a - nI b)] h Q := by
  refine eX12_size hw ?_
  unfold adf at hq
  rcases Nat.lt_or_ge a b with z | z
  · refine bN (Int32.not_le.mpr (pk_sneg hb z)) ?_
    rw [show -(nI a - nI b) = nI b - nI a by grind, pk_sub (by omega)]
    rw [show a - b + (b - a) = b - a by omega] at hq
    exact hq
  · rw [pk_sub z]
    rw [show a - b + (b - a) = a - b by omega] at hq
    exact bY (nI_pos' (by omega)) hq
theorem m_offOf {a b : Nat} (hw : gWf h lk sp cd) (g : qG A) (k : LM A h) (ha : a < qN A) (hb : b < qN A) (hq : Q (some (.int (nI (qds A a b)))) h) : gC l G (d + 1) MX12_offOf [.ref 82, .int (nI a), .int (nI b)] h Q := by
  have h48 := g.N48
  have h8 := g.C8
  have h6 := g.R6
  obtain ⟨r1, r2, r3⟩ := qrow g ha
  obtain ⟨s1, s2, s3⟩ := qrow g hb
  have e0 : ¬ nI (qC A) = 0 := nI_ne0 r3 (by omega)
  refine eX12_offOf hw (m_columns hw k ⟨_, rfl, rfl, e0, m_columns hw k ⟨_, rfl, rfl, e0, ?_⟩⟩)
  rw [pk_rem (by omega) r3 (by omega), pk_rem (by omega) r3 (by omega)]
  refine m_size hw (by omega) (by omega) ⟨_, rfl, rfl, m_columns hw k ⟨_, rfl, rfl, e0, m_columns hw k ⟨_, rfl, rfl, e0, ?_⟩⟩⟩
  rw [pk_div (by omega) r3 (by omega), pk_div (by omega) r3 (by omega)]
  refine m_size hw (by omega) (by omega) ⟨_, rfl, rfl, ?_⟩
  rw [nI_add]
  exact hq
theorem qds_lt {a b : Nat} (g : qG A) (ha : a < qN A) (hb : b < qN A) : qds A a b ≤ 12 := by
  have h8 := g.C8
  have h6 := g.R6
  obtain ⟨r1, r2, r3⟩ := qrow g ha
  obtain ⟨s1, s2, s3⟩ := qrow g hb
  unfold qds adf
  generalize a / qC A = x1 at *
  generalize b / qC A = x2 at *
  generalize a % qC A = x3 at *
  generalize b % qC A = x4 at *
  omega
theorem qhm_lt (c : Nat) : ∀ k, qhm A c k ≤ 99
  | 0 => by unfold qhm; omega
  | k + 1 => by
    have := qhm_lt c k
    unfold qhm
    split <;> omega
theorem m_homeOf {j : Nat} (hw : gWf h lk sp cd) (g : qG A) (k : LM A h) (hj : j < qN A) (hq : Q (some (.int (nI (qhm A j (qN A))))) h) : gC l G (d + 2) MX12_homeOf [.ref 82, .int (nI j)] h Q := by
  have h48 := g.N48
  refine eX12_homeOf hw (fun p e s m args below meth c => ?_)
  suffices H : ∀ r i, i + r = qN A → gg p l e s m args below meth c G (d + 1 + 1) MX12_homeOf Q 5 [some (.ref 82), some (.int (nI j)), some (.int (nI (qhm A j i))), some (.int (nI i))] [] h from H (qN A) 0 (by omega)
  intro r
  induction r with
  | zero =>
    intro i hi
    rw [show i = qN A by omega]
    exact wX12_homeOf_5 hw.1 hw.2.1 hw.2.2.1 (m_cellMany hw k ⟨_, rfl, rfl, bY (Int32.le_refl _) hq⟩)
  | succ r ih =>
    intro i hi
    have e9 := ih (i + 1) (by omega)
    have hi2 : i < qN A := by omega
    have hd := qds_lt g hi2 hj
    have hm := qhm_lt (A := A) j i
    have ek := (mkd4 (g.kd i hi2)).2.2
    unfold qhm at e9
    refine wX12_homeOf_5 hw.1 hw.2.1 hw.2.2.1 (m_cellMany hw k ⟨_, rfl, rfl, bN (nI_ge hi2 (by omega)) (m_kindAt hw g k hi2 ⟨_, rfl, rfl, fun z => ?_, fun z => m_offOf hw g k hi2 hj ⟨_, rfl, rfl, fun z2 => ?_, fun z2 => m_offOf hw g k hi2 hj ⟨_, rfl, rfl, ?_⟩⟩⟩)⟩)
    · rw [if_neg (fun q => z (ek.mpr q.1))] at e9
      rw [nI_1]
      exact e9
    · rw [nI_leI (by omega) (by omega)] at z2
      rw [if_neg (by omega)] at e9
      rw [nI_1]
      exact e9
    · rw [nI_leI (by omega) (by omega)] at z2
      rw [if_pos ⟨ek.mp z, by omega⟩] at e9
      rw [nI_1]
      exact e9
theorem m_skyIn {t : Nat} (hw : gWf h lk sp cd) (g : qG A) (k : LM A h) (ht : t ≤ 999) (hq : Q (some (.int (nI (qsky A t (qK A)).2))) h) : gC l G d MX12_skyIn [.ref 82, .int (nI t)] h Q := by
  have h10 := g.K10
  refine eX12_skyIn hw (fun p e s m args below meth c => ?_)
  suffices H : ∀ r i, i + r = qK A → gg p l e s m args below meth c G d MX12_skyIn Q 7 [some (.ref 82), some (.int (nI t)), some (.int (nI (qsky A t i).1 - 1)), some (.int (nI (qsky A t i).2)), some (.int (nI i))] [] h from H (qK A) 0 (by omega)
  intro r
  induction r with
  | zero =>
    intro i hi
    rw [show i = qK A by omega]
    refine wX12_skyIn_7 hw.1 hw.2.1 hw.2.2.1 (bY ?_ hq)
    rw [k.K]
    exact Int32.le_refl _
  | succ r ih =>
    intro i hi
    have b1 := qsky_lt g t i (by omega)
    have b2 := g.sh i (by omega)
    have e := ih (i + 1) (by omega)
    have e20 : 20 + 2 * nI i = nI (20 + 2 * i) := by rw [lit 20, lit 2, pk_mul, nI_add]
    have e21 : 21 + 2 * nI i = nI (21 + 2 * i) := by rw [lit 21, lit 2, pk_mul, nI_add]
    have v20 : vp_in (nI (20 + 2 * i)) 40 := vp_in_nI (by omega) (by decide)
    have v21 : vp_in (nI (21 + 2 * i)) 40 := vp_in_nI (by omega) (by decide)
    refine wX12_skyIn_7 hw.1 hw.2.1 hw.2.2.1 (bN (by rw [k.K]; exact nI_ge (by omega) (by omega)) ?_)
    rw [e20, e21, nI_clamp (show 20 + 2 * i < 2 ^ 31 by omega), nI_clamp (show 21 + 2 * i < 2 ^ 31 by omega), k.sh i (by omega), k.sq i (by omega), nI_1]
    unfold qsky at e
    refine ⟨v20, fun z => ?_, fun z => ⟨v20, fun z2 => ⟨v20, v21, ?_⟩, fun z2 => ?_⟩⟩
    · rw [nI_ltI (by omega) (by omega)] at z
      rw [if_neg (by omega)] at e
      exact e
    · rw [nI_ltI (by omega) (by omega)] at z
      rw [← Int32.not_le, i_le1 (by omega) (by omega)] at z2
      rw [if_pos ⟨by omega, by omega⟩, i_s1] at e
      exact e
    · rw [← Int32.not_le, i_le1 (by omega) (by omega)] at z2
      rw [if_neg (by omega)] at e
      exact e
theorem m_cellOf {b : Nat} (hw : gWf h lk sp cd) (k : KM A F h) (hb : b < qB A) (hq : Q (some (.int (nI (fc F b)))) h) : gC l G d MX12_cellOf [.ref 82, .int (nI b)] h Q := by
  have := k.g.B6
  refine eX12_cellOf hw ?_
  rw [show (2 : Int32) + 4 * nI b = nI (2 + 4 * b) by rw [lit 2, lit 4, pk_mul, nI_add], nI_clamp (by omega), (k.y.bt b hb).1]
  exact ⟨vp_in_nI (by omega) (by decide), hq⟩
theorem m_trustOf {b : Nat} (hw : gWf h lk sp cd) (k : KM A F h) (hb : b < qB A) (hq : Q (some (.int (nI (ft F b)))) h) : gC l G d MX12_trustOf [.ref 82, .int (nI b)] h Q := by
  have := k.g.B6
  refine eX12_trustOf hw ?_
  rw [show (2 : Int32) + 4 * nI b + 1 = nI (2 + 4 * b + 1) by rw [lit 2, lit 4, lit 1, pk_mul, nI_add, nI_add], nI_clamp (by omega), (k.y.bt b hb).2.1]
  exact ⟨vp_in_nI (by omega) (by decide), hq⟩
theorem m_balksOf {b : Nat} (hw : gWf h lk sp cd) (k : KM A F h) (hb : b < qB A) (hq : Q (some (.int (nI (fb F b)))) h) : gC l G d MX12_balksOf [.ref 82, .int (nI b)] h Q := by
  have := k.g.B6
  refine eX12_balksOf hw ?_
  rw [show (2 : Int32) + 4 * nI b + 2 = nI (2 + 4 * b + 2) by rw [lit 2, lit 4, pk_mul, nI_add, nI_add], nI_clamp (by omega), (k.y.bt b hb).2.2.1]
  exact ⟨vp_in_nI (by omega) (by decide), hq⟩
theorem m_handOf {b : Nat} (hw : gWf h lk sp cd) (k : KM A F h) (hb : b < qB A) (hq : Q (some (.int (nI (fh F b) - 1))) h) : gC l G d MX12_handOf [.ref 82, .int (nI b)] h Q := by
  have := k.g.B6
  refine eX12_handOf hw ?_
  rw [show (2 : Int32) + 4 * nI b + 3 = nI (2 + 4 * b + 3) by rw [lit 2, lit 4, lit 3, pk_mul, nI_add, nI_add], nI_clamp (by omega), (k.y.bt b hb).2.2.2]
  exact ⟨vp_in_nI (by omega) (by decide), hq⟩
theorem m_boatsIn {v : Int32} (hw : gWf h lk sp cd) (k : KM A F h) (hq : Q (some (.int (fbt F v (qB A)))) h) : gC l G (d + 1) MX12_boatsIn [.ref 82, .int v] h Q := by
  have h6 := k.g.B6
  refine eX12_boatsIn hw (fun p e s m args below meth c => ?_)
  suffices H : ∀ r i, i + r = qB A → gg p l e s m args below meth c G (d + 1) MX12_boatsIn Q 4 [some (.ref 82), some (.int v), some (.int (fbt F v i)), some (.int (nI i))] [] h from H (qB A) 0 (by omega)
  intro r
  induction r with
  | zero =>
    intro i hi
    rw [show i = qB A by omega]
    exact wX12_boatsIn_4 hw.1 hw.2.1 hw.2.2.1 (m_boatMany hw k.l ⟨_, rfl, rfl, bY (Int32.le_refl _) hq⟩)
  | succ r ih =>
    intro i hi
    have e9 := ih (i + 1) (by omega)
    unfold fbt at e9
    refine wX12_boatsIn_4 hw.1 hw.2.1 hw.2.2.1 (m_boatMany hw k.l ⟨_, rfl, rfl, bN (nI_ge (by omega) (by omega)) (m_cellOf hw k (by omega) ⟨_, rfl, rfl, fun z => ?_, fun z => ?_⟩)⟩)
    · rw [if_neg z] at e9
      rw [nI_1]
      exact e9
    · rw [if_pos z] at e9
      rw [nI_1]
      exact e9
theorem m_boatWith {v : Int32} (hw : gWf h lk sp cd) (k : KM A F h) (hq : Q (some (.int (fwh F v (qB A) 0))) h) : gC l G (d + 1) MX12_boatWith [.ref 82, .int v] h Q := by
  have h6 := k.g.B6
  refine eX12_boatWith hw (fun p e s m args below meth c => ?_)
  suffices H : ∀ r i, i + r = qB A → Q (some (.int (fwh F v r i))) h → gg p l e s m args below meth c G (d + 1) MX12_boatWith Q 2 [some (.ref 82), some (.int v), some (.int (nI i))] [] h from H (qB A) 0 (by omega) hq
  intro r
  induction r with
  | zero =>
    intro i hi hq
    exact wX12_boatWith_2 hw.1 hw.2.1 hw.2.2.1 (m_boatMany hw k.l ⟨_, rfl, rfl, bY (nI_le (by omega) (by omega)) hq⟩)
  | succ r ih =>
    intro i hi hq
    refine wX12_boatWith_2 hw.1 hw.2.1 hw.2.2.1 (m_boatMany hw k.l ⟨_, rfl, rfl, bN (nI_ge (by omega) (by omega)) (m_handOf hw k (by omega) ⟨_, rfl, rfl, fun z => ?_, fun z => ?_⟩)⟩)
    · unfold fwh at hq
      rw [if_neg z] at hq
      rw [nI_1]
      exact ih (i + 1) (by omega) hq
    · unfold fwh at hq
      rw [if_pos z] at hq
      exact hq
theorem m_sumOf7 (hw : gWf h lk sp cd) (k : KM A F h) (hq : Q (some (.int (fsb F (qB A)))) h) : gC l G (d + 1) MX12_sumOf [.ref 82, .int 7] h Q := by
  have h6 := k.g.B6
  refine eX12_sumOf hw (fun p e s m args below meth c => ?_)
  suffices H : ∀ r i, i + r = qB A → gg p l e s m args below meth c G (d + 1) MX12_sumOf Q 4 [some (.ref 82), some (.int 7), some (.int (fsb F i)), some (.int (nI i))] [] h from H (qB A) 0 (by omega)
  intro r
  induction r with
  | zero =>
    intro i hi
    rw [show i = qB A by omega]
    exact wX12_sumOf_4 hw.1 hw.2.1 hw.2.2.1 (m_boatMany hw k.l ⟨_, rfl, rfl, bY (Int32.le_refl _) hq⟩)
  | succ r ih =>
    intro i hi
    have e9 := ih (i + 1) (by omega)
    unfold fsb at e9
    refine wX12_sumOf_4 hw.1 hw.2.1 hw.2.2.1 (m_boatMany hw k.l ⟨_, rfl, rfl, bN (nI_ge (by omega) (by omega)) (bY' rfl (m_balksOf hw k (by omega) ⟨_, rfl, rfl, ?_⟩))⟩)
    rw [nI_1]
    exact e9
theorem m_sumOf8 (hw : gWf h lk sp cd) (k : KM A F h) (hq : Q (some (.int (fst_ F (qB A)))) h) : gC l G (d + 1) MX12_sumOf [.ref 82, .int 8] h Q := by
  have h6 := k.g.B6
  refine eX12_sumOf hw (fun p e s m args below meth c => ?_)
  suffices H : ∀ r i, i + r = qB A → gg p l e s m args below meth c G (d + 1) MX12_sumOf Q 4 [some (.ref 82), some (.int 8), some (.int (fst_ F i)), some (.int (nI i))] [] h from H (qB A) 0 (by omega)
  intro r
  induction r with
  | zero =>
    intro i hi
    rw [show i = qB A by omega]
    exact wX12_sumOf_4 hw.1 hw.2.1 hw.2.2.1 (m_boatMany hw k.l ⟨_, rfl, rfl, bY (Int32.le_refl _) hq⟩)
  | succ r ih =>
    intro i hi
    have e9 := ih (i + 1) (by omega)
    unfold fst_ at e9
    refine wX12_sumOf_4 hw.1 hw.2.1 hw.2.2.1 (m_boatMany hw k.l ⟨_, rfl, rfl, bN (nI_ge (by omega) (by omega)) (bN' (by decide) (m_trustOf hw k (by omega) ⟨_, rfl, rfl, ?_⟩))⟩)
    rw [nI_1]
    exact e9
theorem m_liked {b j : Nat} (hw : gWf h lk sp cd) (g : qG A) (k : LM A h) (hb : b < qB A) (hj : j < qH A) (hq : Q (some (.int (nI (qlk A b j)))) h) : gC l G d MX12_liked [.ref 82, .int (nI b), .int (nI j)] h Q := by
  have := g.H6
  have := g.B6
  refine eX12_liked hw ?_
  have e : 36 + 6 * nI b + nI j = nI (36 + (6 * b + j)) := by
    rw [lit 36, lit 6, pk_mul, nI_add, nI_add, Nat.add_assoc]
  rw [e, nI_clamp (by omega), k.lk b j hb hj]
  exact ⟨vp_in_nI (by omega) (by decide), hq⟩
end CM
