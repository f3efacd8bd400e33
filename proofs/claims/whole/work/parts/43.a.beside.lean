def geoB (C a b : Nat) : Bool := decide (C < 3) || (decide (adf (a % C) (b % C) + adf (a / C) (b / C) = 1) == ((decide (C ≤ a) && decide (b = a - C)) || (decide (a % C + 1 < C) && decide (b = a + 1)) || decide (b = a + C) || (decide (0 < a % C) && decide (b = a - 1))))
theorem geo0 : ∀ C, C < 9 → ∀ a, a < 48 → ∀ b, b < 48 → geoB C a b = true := by decide +kernel
theorem geo {C a b : Nat} (h3 : 3 ≤ C) (h8 : C ≤ 8) (ha : a < 48) (hb : b < 48) : (adf (a % C) (b % C) + adf (a / C) (b / C) = 1) ↔ ((C ≤ a ∧ b = a - C) ∨ (a % C + 1 < C ∧ b = a + 1) ∨ (b = a + C) ∨ (0 < a % C ∧ b = a - 1)) := by
  have h := geo0 C (by omega) a ha b hb
  unfold geoB at h
  rw [Bool.or_eq_true] at h
  rcases h with h | h
  · have := of_decide_eq_true h; omega
  · rw [beq_iff_eq] at h
    constructor
    · intro q
      rw [decide_eq_true q] at h
      have h := h.symm
      simp only [Bool.or_eq_true, Bool.and_eq_true, decide_eq_true_eq] at h
      omega
    · intro q
      have : decide (adf (a % C) (b % C) + adf (a / C) (b / C) = 1) = true := by
        rw [h]
        simp only [Bool.or_eq_true, Bool.and_eq_true, decide_eq_true_eq]
        omega
      exact of_decide_eq_true this
/-- the cell up, right, down or left of one, and 1; 0 if there is none -/
def nbr (A : qT) (c w : Nat) : Nat := if w = 0 then (if qC A ≤ c then c - qC A + 1 else 0) else if w = 1 then (if c % qC A + 1 < qC A then c + 1 + 1 else 0) else if w = 2 then (if c + qC A < qN A then c + qC A + 1 else 0) else (if 0 < c % qC A then c - 1 + 1 else 0)
/-- .. if it is water -/
def wtn (A : qT) (y : Nat) : Nat := if y = 0 then 0 else if qkd A (y - 1) = 4 then 0 else y
def stp (A : qT) (c w : Nat) : Nat := wtn A (nbr A c w)
/-- x is water beside c -/
def bsd (A : qT) (c x : Nat) : Prop := qW A x ∧ qds A c x = 1
section NB
variable {l : Launch} {G : gG} {d : Nat} {Q : Option Value → gH → Prop} {h : gH} {lk sp : Nat} {cd : Option Nat} {A F : qT} {T c w : Nat}
theorem nbr_lt (g : qG A) (hc : c < qN A) : nbr A c w ≤ qN A := by
  obtain ⟨h1, h2, h3⟩ := qrow g hc
  have e := Nat.div_add_mod c (qC A)
  unfold nbr
  split
  · split <;> omega
  · split
    · split
      · have : qC A * (c / qC A + 1) ≤ qC A * qR A := Nat.mul_le_mul_left _ h1
        rw [Nat.mul_add, Nat.mul_one] at this
        unfold qN
        omega
      · omega
    · split
      · split <;> omega
      · split <;> omega
theorem wtn_s {y x : Nat} : wtn A y = x + 1 ↔ y = x + 1 ∧ qkd A x ≠ 4 := by
  unfold wtn
  by_cases h1 : y = 0
  · rw [if_pos h1]; omega
  · rw [if_neg h1]
    by_cases h2 : qkd A (y - 1) = 4
    · rw [if_pos h2]
      constructor
      · intro q; omega
      · rintro ⟨q, q2⟩
        rw [q, Nat.add_sub_cancel] at h2
        exact absurd h2 q2
    · rw [if_neg h2]
      constructor
      · intro q
        rw [q, Nat.add_sub_cancel] at h2
        exact ⟨q, h2⟩
      · exact fun q => q.1
theorem wtn_le {y : Nat} : wtn A y ≤ y := by
  unfold wtn
  split
  · omega
  · split <;> omega
theorem stp_w (g : qG A) (hc : c < qN A) {x : Nat} (hs : stp A c w = x + 1) : qW A x := by
  obtain ⟨q1, q2⟩ := wtn_s.mp hs
  have := nbr_lt (w := w) g hc
  exact ⟨by omega, q2⟩
theorem bsd_iff (g : qG A) (hc : c < qN A) {x : Nat} : bsd A c x ↔ ∃ w, w < 4 ∧ stp A c w = x + 1 := by
  have h3 := g.C3 hc
  have h8 := g.C8
  have h48 := g.N48
  constructor
  · rintro ⟨⟨hx, hk⟩, hd⟩
    have := (geo h3 h8 (by omega) (by omega)).mp hd
    rcases this with q | q | q | q
    · exact ⟨0, by decide, wtn_s.mpr ⟨by show (if qC A ≤ c then _ else _) = _; rw [if_pos q.1, q.2], hk⟩⟩
    · exact ⟨1, by decide, wtn_s.mpr ⟨by show (if c % qC A + 1 < qC A then _ else _) = _; rw [if_pos q.1, q.2], hk⟩⟩
    · exact ⟨2, by decide, wtn_s.mpr ⟨by show (if c + qC A < qN A then _ else _) = _; rw [if_pos (by omega), q], hk⟩⟩
    · exact ⟨3, by decide, wtn_s.mpr ⟨by show (if 0 < c % qC A then _ else _) = _; rw [if_pos q.1, q.2], hk⟩⟩
  · rintro ⟨w, hw, hs⟩
    have hx := stp_w g hc hs
    refine ⟨hx, (geo h3 h8 (by omega) (by have := hx.1; omega)).mpr ?_⟩
    have hn := (wtn_s.mp hs).1
    have : w = 0 ∨ w = 1 ∨ w = 2 ∨ w = 3 := by omega
    have hm := Nat.mod_le c (qC A)
    rcases this with e | e | e | e <;> subst e
    · have hn : (if qC A ≤ c then c - qC A + 1 else 0) = x + 1 := hn
      split at hn <;> omega
    · have hn : (if c % qC A + 1 < qC A then c + 1 + 1 else 0) = x + 1 := hn
      split at hn <;> omega
    · have hn : (if c + qC A < qN A then c + qC A + 1 else 0) = x + 1 := hn
      split at hn <;> omega
    · have hn : (if 0 < c % qC A then c - 1 + 1 else 0) = x + 1 := hn
      split at hn <;> omega
theorem c_wres {v : Int32} {y : Nat} (hw : gWf h lk sp cd) (g : qG A) (k : LC A lk h) (hv : (y = 0 ∧ ∀ j, j < qN A → v ≠ nI j) ∨ (∃ x, y = x + 1 ∧ x < qN A ∧ v = nI x)) (hq : Q (some (.int (nI (wtn A y) - 1))) h) : gC l G (d + 1) MX4_isWater [.ref lk, .int v] h (rI fun v2 h2 => h2.2.2 = h.2.2 ∧ ((v2 = 0 → Q (some (.int (-1))) h2) ∧ (¬ v2 = 0 → Q (some (.int v)) h2))) := by
  have h48 := g.N48
  rcases hv with ⟨rfl, hv⟩ | ⟨x, rfl, hx, rfl⟩
  · exact c_isWater_n hw g k (fun j hj => hv j hj.1) ⟨_, rfl, rfl, bY rfl hq⟩
  · by_cases e : qkd A x = 4
    · refine c_isWater_n hw g k (fun j hj z => ?_) ⟨_, rfl, rfl, bY rfl ?_⟩
      · rw [(nI_eq (by omega) (by have := hj.1; omega)).mp z] at e
        exact hj.2 e
      · have : wtn A (x + 1) = 0 := by unfold wtn; rw [if_neg (by omega), Nat.add_sub_cancel, if_pos e]
        rw [this] at hq
        exact hq
    · refine c_isWater_y hw g k ⟨hx, e⟩ ⟨_, rfl, rfl, bN (by decide) ?_⟩
      rw [wtn_s.mpr ⟨rfl, e⟩, i_s1] at hq
      exact hq
theorem i_rem {a b : Nat} (ha : a < 2 ^ 31) (hb : 0 < b) (hb2 : b < 2 ^ 31) : nI a - nI a / nI b * nI b = nI (a % b) := pk_rem ha hb hb2
theorem i_neg {a b : Nat} (h : a < b) (hb : b < 2 ^ 30) : nI a - nI b < 0 := by
  rw [Int32.lt_iff_toInt_lt, pk_sub_toInt (by omega) hb, show (0 : Int32).toInt = 0 by decide]
  omega
theorem c_stepFrom (hw : gWf h lk sp cd) (g : qG A) (k : LC A lk h) (hc : c < qN A) (hw4 : w < 4) (hq : Q (some (.int (nI (stp A c w) - 1))) h) : gC l G (d + 2) MX4_stepFrom [.ref lk, .int (nI c), .int (nI w)] h Q := by
  have h3 := g.C3 hc
  have h8 := g.C8
  have h48 := g.N48
  have hnl := fun w => nbr_lt (w := w) g hc
  have m1 : ∀ j, j < qN A → (-1 : Int32) ≠ nI j := fun j hj q => i_nm1 (a := j) (by omega) q.symm
  refine eX4_stepFrom hw hw.2.1 (c_isCell_y hw g k hc ⟨_, rfl, rfl, bN (by decide) ?_⟩)
  rw [k.C, i_rem (by omega) (by omega) (by omega)]
  have hw' : w = 0 ∨ w = 1 ∨ w = 2 ∨ w = 3 := by omega
  have hml := Nat.mod_lt c (show 0 < qC A by omega)
  refine bY (nI_le (a := 1) (by omega) (by omega)) ⟨nI_ne0 (by omega) (by omega), ?_⟩
  rcases hw' with e | e | e | e <;> subst e
  · refine ⟨fun _ => ?_, fun z => absurd z (by decide), fun z => absurd z (by decide), fun z => absurd z (by decide), fun z => absurd rfl z⟩
    refine c_wres (y := nbr A c 0) hw g k ?_ hq
    have e : nbr A c 0 = if qC A ≤ c then c - qC A + 1 else 0 := rfl
    have hn := hnl 0
    by_cases z : qC A ≤ c
    · rw [if_pos z] at e
      exact Or.inr ⟨c - qC A, e, by omega, pk_sub z⟩
    · rw [if_neg z] at e
      refine Or.inl ⟨e, fun j hj q => ?_⟩
      have := i_neg (a := c) (b := qC A) (by omega) (by omega)
      rw [q] at this
      exact absurd this (nI_pos (by omega))
  · refine ⟨fun z => absurd z (by decide), fun _ => ⟨fun z => ?_, fun z => ?_⟩, fun z => absurd z (by decide), fun z => absurd z (by decide), fun _ z => absurd rfl z⟩
    · rw [nI_1, nI_leI (by omega) (by omega)] at z
      have e : nbr A c 1 = 0 := by show (if c % qC A + 1 < qC A then _ else _) = _; rw [if_neg (by omega)]
      exact c_wres (y := nbr A c 1) hw g k (Or.inl ⟨e, m1⟩) hq
    · rw [nI_1, nI_leI (by omega) (by omega)] at z
      have hn := hnl 1
      have e : nbr A c 1 = c + 1 + 1 := by show (if c % qC A + 1 < qC A then _ else _) = _; rw [if_pos (by omega)]
      rw [nI_1]
      exact c_wres (y := nbr A c 1) hw g k (Or.inr ⟨c + 1, e, by omega, rfl⟩) hq
  · refine ⟨fun z => absurd z (by decide), fun z => absurd z (by decide), fun _ => ?_, fun z => absurd z (by decide), fun _ _ z => absurd rfl z⟩
    rw [nI_add]
    refine c_wres (y := nbr A c 2) hw g k ?_ hq
    have e : nbr A c 2 = if c + qC A < qN A then c + qC A + 1 else 0 := rfl
    by_cases z : c + qC A < qN A
    · rw [if_pos z] at e
      exact Or.inr ⟨c + qC A, e, z, rfl⟩
    · rw [if_neg z] at e
      refine Or.inl ⟨e, fun j hj q => ?_⟩
      have := (nI_eq (by omega) (by omega)).mp q
      omega
  · refine ⟨fun z => absurd z (by decide), fun z => absurd z (by decide), fun z => absurd z (by decide), fun _ => ⟨fun z => ?_, fun z => ?_⟩, fun _ _ _ z => absurd rfl z⟩
    · have z := (nI_leI (b := 0) (by omega) (by decide)).mp z
      have e : nbr A c 3 = 0 := by show (if 0 < c % qC A then _ else _) = _; rw [if_neg (by omega)]
      exact c_wres (y := nbr A c 3) hw g k (Or.inl ⟨e, m1⟩) hq
    · have z := mt (nI_leI (b := 0) (by omega) (by decide)).mpr z
      have hml := Nat.mod_le c (qC A)
      have e : nbr A c 3 = c - 1 + 1 := by show (if 0 < c % qC A then _ else _) = _; rw [if_pos (by omega)]
      rw [show nI c - 1 = nI (c - 1) from pk_sub (b := 1) (by omega)]
      exact c_wres (y := nbr A c 3) hw g k (Or.inr ⟨c - 1, e, by omega, rfl⟩) hq
theorem m_beside (hw : gWf h lk sp cd) (g : qG A) (k : LM A h) (hc : c < qN A) (hw4 : w < 4) (hq : Q (some (.int (nI (nbr A c w) - 1))) h) : gC l G (d + 2) MX12_beside [.ref 82, .int (nI c), .int (nI w)] h Q := by
  have h3 := g.C3 hc
  have h8 := g.C8
  have h48 := g.N48
  have hw' : w = 0 ∨ w = 1 ∨ w = 2 ∨ w = 3 := by omega
  have hml := Nat.mod_lt c (show 0 < qC A by omega)
  have hmc := Nat.mod_le c (qC A)
  refine eX12_beside hw (m_columns hw k ⟨_, rfl, rfl, nI_ne0 (by omega) (by omega), ?_⟩)
  rw [i_rem (by omega) (by omega) (by omega)]
  rcases hw' with e | e | e | e <;> subst e
  · refine bY' rfl (m_columns hw k ⟨_, rfl, rfl, fun z => ?_, fun z => m_columns hw k ⟨_, rfl, rfl, ?_⟩⟩)
    · rw [nI_ltI (by omega) (by omega)] at z
      have e : nbr A c 0 = 0 := by show (if qC A ≤ c then _ else _) = _; rw [if_neg (by omega)]
      rw [e] at hq; exact hq
    · rw [nI_ltI (by omega) (by omega)] at z
      have e : nbr A c 0 = c - qC A + 1 := by show (if qC A ≤ c then _ else _) = _; rw [if_pos (by omega)]
      rw [e, i_s1] at hq
      rw [pk_sub (by omega)]
      exact hq
  · refine bN' (by decide) (bY' rfl (m_columns hw k ⟨_, rfl, rfl, fun z => ?_, fun z => ?_⟩))
    · rw [nI_1, nI_leI (by omega) (by omega)] at z
      have e : nbr A c 1 = 0 := by show (if c % qC A + 1 < qC A then _ else _) = _; rw [if_neg (by omega)]
      rw [e] at hq; exact hq
    · rw [nI_1, nI_leI (by omega) (by omega)] at z
      have e : nbr A c 1 = c + 1 + 1 := by show (if c % qC A + 1 < qC A then _ else _) = _; rw [if_pos (by omega)]
      rw [e, i_s1] at hq
      rw [nI_1]
      exact hq
  · refine bN' (by decide) (bN' (by decide) (bY' rfl (m_columns hw k ⟨_, rfl, rfl, m_cellMany hw k ⟨_, rfl, rfl, fun z => ?_, fun z => m_columns hw k ⟨_, rfl, rfl, ?_⟩⟩⟩)))
    · rw [nI_add, nI_leI (by omega) (by omega)] at z
      have e : nbr A c 2 = 0 := by show (if c + qC A < qN A then _ else _) = _; rw [if_neg (by omega)]
      rw [e] at hq; exact hq
    · rw [nI_add, nI_leI (by omega) (by omega)] at z
      have e : nbr A c 2 = c + qC A + 1 := by show (if c + qC A < qN A then _ else _) = _; rw [if_pos (by omega)]
      rw [e, i_s1] at hq
      rw [nI_add]
      exact hq
  · refine bN' (by decide) (bN' (by decide) (bN' (by decide) ⟨fun z => ?_, fun z => ?_⟩))
    · have z := (nI_leI (b := 0) (by omega) (by decide)).mp z
      have e : nbr A c 3 = 0 := by show (if 0 < c % qC A then _ else _) = _; rw [if_neg (by omega)]
      rw [e] at hq; exact hq
    · have z := mt (nI_leI (b := 0) (by omega) (by decide)).mpr z
      have e : nbr A c 3 = c - 1 + 1 := by show (if 0 < c % qC A then _ else _) = _; rw [if_pos (by omega)]
      rw [e, i_s1] at hq
      rw [show nI c - 1 = nI (c - 1) from pk_sub (b := 1) (by omega)]
      exact hq
theorem c_isBeside {a : Int32} (hw : gWf h lk sp cd) (g : qG A) (k : LC A lk h) (hc : c < qN A) (hy : ∀ x, a = nI x → bsd A c x → Q (some (.int 1)) h) (hn : (∀ x, bsd A c x → a ≠ nI x) → Q (some (.int 0)) h) : gC l G (d + 3) MX4_isBeside [.ref lk, .int (nI c), .int a] h Q := by
  have h48 := g.N48
  refine eX4_isBeside hw hw.2.1 (fun p e s m args below meth cc => ?_)
  suffices H : ∀ r w, w + r = 4 → (∀ v, v < w → nI (stp A c v) - 1 ≠ a ∨ a = -1) → gg p l e s m args below meth cc G (d + 2 + 1) MX4_isBeside Q 2 [some (.ref lk), some (.int (nI c)), some (.int a), some (.int (nI w))] [] h from H 4 0 (by omega) (fun v hv => absurd hv (Nat.not_lt_zero _))
  intro r
  induction r with
  | zero =>
    intro w hw9 hv
    have : w = 4 := by omega
    subst this
    refine wX4_isBeside_2 hw.1 hw.2.1 hw.2.2.1 hw.2.1 (bY (Int32.le_refl _) (hn (fun x hx ea => ?_)))
    obtain ⟨v, v4, vs⟩ := (bsd_iff g hc).mp hx
    have hx1 := hx.1.1
    rcases hv v v4 with q | q
    · rw [vs, i_s1] at q
      exact q ea.symm
    · rw [ea] at q
      exact i_nm1 (by omega) q
  | succ r ih =>
    intro w hw9 hv
    refine wX4_isBeside_2 hw.1 hw.2.1 hw.2.2.1 hw.2.1 (bN (nI_ge (b := 4) (by omega) (by decide)) ⟨fun z => ?_, fun z => c_stepFrom hw g k hc (by omega) ⟨_, rfl, rfl, fun z2 => ?_, fun z2 => ?_⟩⟩)
    · rw [nI_1]
      exact ih (w + 1) (by omega) (fun v hv' => Or.inr z)
    · rw [nI_1]
      refine ih (w + 1) (by omega) (fun v hv' => ?_)
      by_cases e9 : v = w
      · subst e9; exact Or.inl z2
      · exact hv v (by omega)
    · have s0 : stp A c w ≠ 0 := fun e => z (by rw [← z2, e]; rfl)
      obtain ⟨x, hx⟩ : ∃ x, stp A c w = x + 1 := ⟨stp A c w - 1, by omega⟩
      rw [hx, i_s1] at z2
      exact hy x z2.symm ((bsd_iff g hc).mpr ⟨w, by omega, hx⟩)
theorem m_isBeside {a : Int32} (hw : gWf h lk sp cd) (g : qG A) (k : LM A h) (hc : c < qN A) (hy : ∀ x, a = nI x → bsd A c x → Q (some (.int 1)) h) (hn : (∀ x, bsd A c x → a ≠ nI x) → Q (some (.int 0)) h) : gC l G (d + 4) MX12_isBeside [.ref 82, .int (nI c), .int a] h Q := by
  have h48 := g.N48
  refine eX12_isBeside hw ?_
  rcases wtr A a g with ⟨j, hj, rfl⟩ | hb
  · have hd := qds_lt g hc hj.1
    refine m_isWater_y hw g k hj ⟨_, rfl, rfl, bN (by decide) (m_offOf hw g k hc hj.1 ⟨_, rfl, rfl, fun z => hn (fun x hx ea => ?_), fun z => hy j rfl ⟨hj, (nI_eq (b := 1) (by omega) (by decide)).mp z⟩⟩)⟩
    have hx1 := hx.1.1
    have := hj.1
    have e9 := (nI_eq (by omega) (by omega)).mp ea
    subst e9
    exact z (by rw [hx.2]; rfl)
  · exact m_isWater_n hw g k hb ⟨_, rfl, rfl, bY rfl (hn (fun x hx => hb x hx.1))⟩
end NB
