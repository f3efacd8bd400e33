/-! the tape as numbers -/
def tpn (h : gH) (i : Nat) : Nat := (h.1 2 i).toNatClampNeg
theorem tpn_e {h : gH} (q : I_tap h) {i : Nat} (hi : i < 1600) : h.1 2 i = nI (tpn h i) ∧ h.1 83 i = nI (tpn h i) ∧ tpn h i < 256 := by
  obtain ⟨e, c, hc, ec⟩ := q.2 i hi
  have : tpn h i = c := by unfold tpn; rw [ec, nI_clamp (by omega)]
  rw [this, e, ec]
  exact ⟨rfl, rfl, hc⟩
def bOK (A : qT) (t : Nat → Nat) (b : Nat) : Prop := qW A (t (5 + 4 * b)) ∧ t (5 + 4 * b + 1) ≤ 99 ∧ t (5 + 4 * b + 2) ≤ 99 ∧ t (5 + 4 * b + 3) ≤ qH A ∧ ∀ i, i < b → 0 < t (5 + 4 * b + 3) → t (8 + 4 * i) ≠ t (5 + 4 * b + 3)
def iOK (A : qT) (t : Nat → Nat) (n : Nat) (x : Nat → Int32) : Prop := n = 6 + 4 * qB A ∧ x (5 + 4 * qB A) = sealv x (5 + 4 * qB A) ∧ 256 * t 0 + t 1 ≤ 999 ∧ 65536 * t 2 + 256 * t 3 + t 4 ≤ 999999 ∧ ∀ b, b < qB A → bOK A t b
section ON
variable {l : Launch} {G : gG} {d : Nat} {Q : Option Value → gH → Prop} {h h0 : gH} {lk sp : Nat} {cd : Option Nat} {A F : qT} {T n : Nat} {t : Nat → Nat}
theorem c_isWaterB {v : Nat} (hw : gWf h lk sp cd) (g : qG A) (k : LC A lk h) (hv : v < 2 ^ 31) (hy : qW A v → Q (some (.int 1)) h) (hn : ¬ qW A v → Q (some (.int 0)) h) : gC l G (d + 1) MX4_isWater [.ref lk, .int (nI v)] h Q := by
  have := g.N48
  rcases Classical.em (qW A v) with z | z
  · exact c_isWater_y hw g k z (hy z)
  · exact c_isWater_n hw g k (fun j hj e => z (by rw [(nI_eq hv (by have := hj.1; omega)).mp e]; exact hj)) (hn z)
theorem m_isWaterB {v : Nat} (hw : gWf h lk sp cd) (g : qG A) (k : LM A h) (hv : v < 2 ^ 31) (hy : qW A v → Q (some (.int 1)) h) (hn : ¬ qW A v → Q (some (.int 0)) h) : gC l G (d + 3) MX12_isWater [.ref 82, .int (nI v)] h Q := by
  have := g.N48
  rcases Classical.em (qW A v) with z | z
  · exact m_isWater_y hw g k z (hy z)
  · exact m_isWater_n hw g k (fun j hj e => z (by rw [(nI_eq hv (by have := hj.1; omega)).mp e]; exact hj)) (hn z)
theorem s2 : gSH[2]? = some (20, 1600) := rfl
theorem s83 : gSH[83]? = some (20, 1600) := rfl
theorem c_hourIn (hw : gWf h lk sp cd) (ht : ∀ i, i < 1600 → h.1 2 i = nI (t i) ∧ t i < 256) (hq : Q (some (.int (nI (256 * t 0 + t 1)))) h) : gC l G d MX2_hourIn [.ref 2] h Q := by
  refine eX2_hourIn hw s2 (bY (by decide) ⟨pk_in 0 1600 (by decide), pk_in 1 1600 (by decide), ?_⟩)
  rw [(ht 0 (by decide)).1, (ht 1 (by decide)).1, lit 256, pk_mul, nI_add, Nat.mul_comm]
  exact hq
theorem c_coinsIn (hw : gWf h lk sp cd) (ht : ∀ i, i < 1600 → h.1 2 i = nI (t i) ∧ t i < 256) (hq : Q (some (.int (nI (65536 * t 2 + 256 * t 3 + t 4)))) h) : gC l G d MX2_coinsIn [.ref 2] h Q := by
  refine eX2_coinsIn hw s2 (bY (by decide) ⟨pk_in 2 1600 (by decide), pk_in 3 1600 (by decide), pk_in 4 1600 (by decide), ?_⟩)
  rw [(ht 2 (by decide)).1, (ht 3 (by decide)).1, (ht 4 (by decide)).1, lit 256, pk_mul, nI_add, pk_mul, nI_add, show (t 2 * 256 + t 3) * 256 + t 4 = 65536 * t 2 + 256 * t 3 + t 4 by omega]
  exact hq
theorem c_isImage (hw : gWf h lk sp cd) (g : qG A) (k : LC A lk h) (hn : n ≤ 1600) (ht : ∀ i, i < 1600 → h.1 2 i = nI (t i) ∧ t i < 256) (hy : iOK A t n (h.1 2) → Q (some (.int 1)) h) (hno : ¬ iOK A t n (h.1 2) → Q (some (.int 0)) h) : gC l G (d + 2) MX11_isImage [.ref 0, .ref 2, .int (nI n)] h Q := by
  have h6 := g.B6
  have hH := g.H6
  have h48 := g.N48
  have e5 : (5 : Int32) + 4 * h.1 lk 13 = nI (5 + 4 * qB A) := by rw [k.B, lit 5, lit 4, pk_mul, nI_add]
  refine eX11_isImage hw s2 (fun p e s m args below meth c => ?_)
  rw [e5, nI_1, nI_clamp (by omega)]
  have e16 : ∀ b : Nat, (5 : Int32) + 4 * nI b = nI (5 + 4 * b) := fun b => by rw [lit 5, lit 4, pk_mul, nI_add]
  refine ⟨fun z => hno (fun q => z (by rw [q.1]; congr 1; omega)), fun z => ⟨fun z2 => ?_, fun _ => ⟨vp_in_nI (by omega) (by decide), c_sealOf hw s2 (by decide) (by omega) ⟨_, rfl, rfl, fun z3 => ?_, fun z3 => hno (fun q => z3 q.2.1)⟩⟩⟩⟩
  · rw [show Int32.ofNat 1600 = nI 1600 from rfl] at z2
    have := (nI_ltI (by decide) (by omega)).mp z2
    omega
  have z := (nI_eq (by omega) (by omega)).mp z
  have t0 := (ht 0 (by decide)).2
  have t1 := (ht 1 (by decide)).2
  have t2 := (ht 2 (by decide)).2
  have t3 := (ht 3 (by decide)).2
  have t4 := (ht 4 (by decide)).2
  refine c_hourIn hw ht ⟨_, rfl, rfl, fun z4 => hno (fun q => ?_), fun z4 => c_coinsIn hw ht ⟨_, rfl, rfl, fun z5 => ?_, fun z5 => hno (fun q => ?_)⟩⟩
  · have z4 := (nI_ltI (a := 999) (by decide) (by omega)).mp z4
    have := q.2.2.1
    omega
  rotate_left
  · have z5 := mt (nI_leI (b := 999999) (by omega) (by decide)).mpr z5
    have := q.2.2.2.1
    omega
  have z4 := mt (nI_ltI (a := 999) (by decide) (by omega)).mpr z4
  have z5 := (nI_leI (b := 999999) (by omega) (by decide)).mp z5
  have hy : (∀ b, b < qB A → bOK A t b) → Q (some (.int 1)) h := fun q => hy ⟨by omega, z3, by omega, z5, q⟩
  have hno : ∀ b, b < qB A → ¬ bOK A t b → Q (some (.int 0)) h := fun b hb q => hno (fun q2 => q (q2.2.2.2.2 b hb))
  suffices H : ∀ r b M, b + r = qB A → M < 128 → (∀ v, 0 < v → v < 7 → (bin M v ↔ ∃ i, i < b ∧ t (8 + 4 * i) = v)) → (∀ b', b' < b → bOK A t b') → gg p l e s m args below meth c G (d + 1 + 1) MX11_isImage Q 69 [some (.ref 0), some (.ref 2), some (.int (nI n)), some (.int (nI (5 + 4 * qB A))), some (.int (nI M)), some (.int (nI b)), none, none, none] [] h from H (qB A) 0 0 (by omega) (by decide) (fun v h1 h2 => ⟨fun q => by unfold bin at q; simp at q, fun ⟨i, hi, _⟩ => absurd hi (Nat.not_lt_zero _)⟩) (fun b hb => absurd hb (Nat.not_lt_zero _))
  intro r
  induction r with
  | zero =>
    intro b M hb hM hv ho
    refine wX11_isImage_69 hw.1 hw.2.1 hw.2.2.1 s2 (bY (by rw [k.B]; exact nI_le (by omega) (by omega)) (hy (fun b' hb' => ho b' (by omega))))
  | succ r ih =>
    intro b M hb hM hv ho
    have v0 := ht (5 + 4 * b) (by omega)
    have v1 := ht (5 + 4 * b + 1) (by omega)
    have v2 := ht (5 + 4 * b + 2) (by omega)
    have v3 := ht (5 + 4 * b + 3) (by omega)
    refine wX11_isImage_69 hw.1 hw.2.1 hw.2.2.1 s2 (bN (by rw [k.B]; exact nI_ge (by omega) (by omega)) ?_)
    rw [e16, show nI (5 + 4 * b) + 1 = nI (5 + 4 * b + 1) from nI_add _ 1, show nI (5 + 4 * b) + 2 = nI (5 + 4 * b + 2) from nI_add _ 2, show nI (5 + 4 * b) + 3 = nI (5 + 4 * b + 3) from nI_add _ 3, nI_clamp (show 5 + 4 * b < 2 ^ 31 by omega), nI_clamp (show 5 + 4 * b + 3 < 2 ^ 31 by omega), v0.1, v3.1]
    refine ⟨vp_in_nI (by omega) (by decide), vp_in_nI (by omega) (by decide), c_isWaterB hw g k (by omega) (fun w0 => ⟨_, rfl, rfl, bN (by decide) ?_⟩) (fun w0 => ⟨_, rfl, rfl, bY rfl (hno b (by omega) (fun q => w0 q.1))⟩)⟩
    rw [nI_clamp (show 5 + 4 * b + 1 < 2 ^ 31 by omega), nI_clamp (show 5 + 4 * b + 2 < 2 ^ 31 by omega), v1.1, v2.1, k.H, nI_1]
    refine ⟨vp_in_nI (by omega) (by decide), fun y1 => hno b (by omega) (fun q => ?_), fun y1 => ⟨vp_in_nI (by omega) (by decide), fun y2 => hno b (by omega) (fun q => ?_), fun y2 => ⟨fun y3 => hno b (by omega) (fun q => ?_), fun y3 => ?_⟩⟩⟩
    · have y1 := (nI_ltI (a := 99) (by decide) (by omega)).mp y1
      have := q.2.1
      omega
    · have y2 := (nI_ltI (a := 99) (by decide) (by omega)).mp y2
      have := q.2.2.1
      omega
    · have y3 := (nI_ltI (by omega) (by omega)).mp y3
      have := q.2.2.2.1
      omega
    have y1 := mt (nI_ltI (a := 99) (by decide) (by omega)).mpr y1
    have y2 := mt (nI_ltI (a := 99) (by decide) (by omega)).mpr y2
    have y3 := mt (nI_ltI (by omega) (by omega)).mpr y3
    have h7 : t (5 + 4 * b + 3) < 7 := by omega
    obtain ⟨bs1, bs2⟩ := bit_set M hM (t (5 + 4 * b + 3)) h7
    rw [bs1]
    have nx : (∀ i, i < b → 0 < t (5 + 4 * b + 3) → t (8 + 4 * i) ≠ t (5 + 4 * b + 3)) → gg p l e s m args below meth c G (d + 1 + 1) MX11_isImage Q 69 [some (.ref 0), some (.ref 2), some (.int (nI n)), some (.int (nI (5 + 4 * qB A))), some (.int (nI (bset M (t (5 + 4 * b + 3))))), some (.int (nI (b + 1))), none, none, none] [] h := fun hd => by
      refine ih (b + 1) _ (by omega) bs2 (fun v h1 h2 => ?_) (fun b' hb' => ?_)
      · rw [bset_in hM h7 h2, hv v h1 h2]
        constructor
        · rintro (⟨i, hi, ei⟩ | ei)
          · exact ⟨i, by omega, ei⟩
          · exact ⟨b, by omega, by rw [ei]; congr 1; omega⟩
        · rintro ⟨i, hi, ei⟩
          by_cases eb : i = b
          · subst eb
            refine Or.inr ?_
            rw [← ei]
            congr 1
            omega
          · exact Or.inl ⟨i, by omega, ei⟩
      · by_cases eb : b' = b
        · subst eb; exact ⟨w0, by omega, by omega, by omega, hd⟩
        · exact ho b' (by omega)
    refine ⟨fun y4 => nx (fun i hi hp => ?_), fun y4 => ⟨fun y5 => nx (fun i hi hp he => ?_), fun y5 => hno b (by omega) (fun q => ?_)⟩⟩
    · have y4 := (nI_leI (b := 0) (by omega) (by decide)).mp y4
      omega
    · rw [bin_c hM h7] at y5
      exact y5 ((hv _ hp h7).mpr ⟨i, hi, he⟩)
    · rw [bin_c hM h7] at y5
      have y4 := mt (nI_leI (b := 0) (by omega) (by decide)).mpr y4
      obtain ⟨i, hi, he⟩ := (hv _ (by omega) h7).mp y5
      exact q.2.2.2.2 i hi (by omega) he
theorem m_isBoatTold {b : Nat} (hw : gWf h lk sp cd) (g : qG A) (k : LM A h) (hb : b < qB A) (ht : ∀ i, i < 1600 → h.1 83 i = nI (t i) ∧ t i < 256) (hy : bOK A t b → Q (some (.int 1)) h) (hno : ¬ bOK A t b → Q (some (.int 0)) h) : gC l G (d + 4) MX12_isBoatTold [.ref 82, .int (nI b)] h Q := by
  have h6 := g.B6
  have hH := g.H6
  have h48 := g.N48
  have e16 : ∀ b : Nat, (5 : Int32) + 4 * nI b = nI (5 + 4 * b) := fun b => by rw [lit 5, lit 4, pk_mul, nI_add]
  have v0 := ht (5 + 4 * b) (by omega)
  have v1 := ht (5 + 4 * b + 1) (by omega)
  have v2 := ht (5 + 4 * b + 2) (by omega)
  have v3 := ht (5 + 4 * b + 3) (by omega)
  refine eX12_isBoatTold hw (fun p e s m args below meth c => ?_)
  rw [e16, show nI (5 + 4 * b) + 1 = nI (5 + 4 * b + 1) from nI_add _ 1, show nI (5 + 4 * b) + 2 = nI (5 + 4 * b + 2) from nI_add _ 2, show nI (5 + 4 * b) + 3 = nI (5 + 4 * b + 3) from nI_add _ 3, nI_clamp (show 5 + 4 * b < 2 ^ 31 by omega), v0.1]
  refine ⟨vp_in_nI (by omega) (by decide), m_isWaterB hw g k (by omega) (fun w0 => ⟨_, rfl, rfl, bN (by decide) ?_⟩) (fun w0 => ⟨_, rfl, rfl, bY rfl (hno (fun q => w0 q.1))⟩)⟩
  rw [nI_clamp (show 5 + 4 * b + 1 < 2 ^ 31 by omega), nI_clamp (show 5 + 4 * b + 2 < 2 ^ 31 by omega), nI_clamp (show 5 + 4 * b + 3 < 2 ^ 31 by omega), v1.1, v2.1, v3.1]
  refine ⟨vp_in_nI (by omega) (by decide), fun y1 => hno (fun q => ?_), fun y1 => ⟨vp_in_nI (by omega) (by decide), fun y2 => hno (fun q => ?_), fun y2 => ⟨vp_in_nI (by omega) (by decide), m_handMany hw k ⟨_, rfl, rfl, fun y3 => ?_, fun y3 => hno (fun q => ?_)⟩⟩⟩⟩
  · have y1 := (nI_ltI (a := 99) (by decide) (by omega)).mp y1
    have := q.2.1
    omega
  · have y2 := (nI_ltI (a := 99) (by decide) (by omega)).mp y2
    have := q.2.2.1
    omega
  rotate_left
  · have y3 := mt (nI_leI (by omega) (by omega)).mpr y3
    have := q.2.2.2.1
    omega
  have y1 := mt (nI_ltI (a := 99) (by decide) (by omega)).mpr y1
  have y2 := mt (nI_ltI (a := 99) (by decide) (by omega)).mpr y2
  have y3 := (nI_leI (by omega) (by omega)).mp y3
  suffices H : ∀ r i, i + r = b → (∀ i', i' < i → 0 < t (5 + 4 * b + 3) → t (8 + 4 * i') ≠ t (5 + 4 * b + 3)) → gg p l e s m args below meth c G (d + 3 + 1) MX12_isBoatTold Q 64 [some (.ref 82), some (.int (nI b)), some (.int (nI (5 + 4 * b))), some (.int (nI i))] [] h from H b 0 (by omega) (fun i hi => absurd hi (Nat.not_lt_zero _))
  intro r
  induction r with
  | zero =>
    intro i hi hd
    have : i = b := by omega
    subst this
    exact wX12_isBoatTold_64 hw.1 hw.2.1 hw.2.2.1 (bY (Int32.le_refl _) (hy ⟨w0, by omega, by omega, y3, hd⟩))
  | succ r ih =>
    intro i hi hd
    have v8 := ht (8 + 4 * i) (by omega)
    have e8 : (8 : Int32) + 4 * nI i = nI (8 + 4 * i) := by rw [lit 8, lit 4, pk_mul, nI_add]
    refine wX12_isBoatTold_64 hw.1 hw.2.1 hw.2.2.1 (bN (nI_ge (by omega) (by omega)) ?_)
    rw [show nI (5 + 4 * b) + 3 = nI (5 + 4 * b + 3) from nI_add _ 3, e8, nI_clamp (show 5 + 4 * b + 3 < 2 ^ 31 by omega), nI_clamp (show 8 + 4 * i < 2 ^ 31 by omega), v3.1, v8.1, nI_1]
    have nx : (0 < t (5 + 4 * b + 3) → t (8 + 4 * i) ≠ t (5 + 4 * b + 3)) → gg p l e s m args below meth c G (d + 3 + 1) MX12_isBoatTold Q 64 [some (.ref 82), some (.int (nI b)), some (.int (nI (5 + 4 * b))), some (.int (nI (i + 1)))] [] h := fun q => ih (i + 1) (by omega) (fun i' hi' => by
      by_cases ei : i' = i
      · subst ei; exact q
      · exact hd i' (by omega))
    refine ⟨vp_in_nI (by omega) (by decide), fun z => nx (fun hp => ?_), fun z => ⟨vp_in_nI (by omega) (by decide), vp_in_nI (by omega) (by decide), fun z2 => nx (fun hp he => z2 (by rw [he])), fun z2 => hno (fun q => ?_)⟩⟩
    · have z := (nI_leI (b := 0) (by omega) (by decide)).mp z
      omega
    · have z := mt (nI_leI (b := 0) (by omega) (by decide)).mpr z
      exact q.2.2.2.2 i (by omega) (by omega) ((nI_eq (by omega) (by omega)).mp z2)
theorem m_isTold (hw : gWf h lk sp cd) (g : qG A) (k : LM A h) (hn : n ≤ 1600) (ht : ∀ i, i < 1600 → h.1 83 i = nI (t i) ∧ t i < 256) (hy : qC A ≠ 0 → iOK A t n (h.1 83) → Q (some (.int 1)) h) (hno : ¬ (qC A ≠ 0 ∧ iOK A t n (h.1 83)) → Q (some (.int 0)) h) : gC l G (d + 5) MX12_isTold [.ref 82, .int (nI n)] h Q := by
  have h6 := g.B6
  refine eX12_isTold hw (fun p e s m args below meth c => ?_)
  rw [k.il]
  refine ⟨fun z => hno (fun q => ?_), fun z => ?_⟩
  · rw [if_neg q.1] at z
    exact absurd z (by decide)
  have hC : qC A ≠ 0 := fun e => z (by rw [if_pos e])
  have hy := hy hC
  have hno : ¬ iOK A t n (h.1 83) → Q (some (.int 0)) h := fun q => hno (fun q2 => q q2.2)
  refine m_boatMany hw k ⟨_, rfl, rfl, fun z => hno (fun q => z ?_), fun z => ?_⟩
  · rw [q.1, lit 6, lit 4, pk_mul, nI_add]
  rw [lit 6, lit 4, pk_mul, nI_add, nI_eq (by omega) (by omega)] at z
  rw [show nI n - 1 = nI (5 + 4 * qB A) by rw [z]; exact (pk_sub (b := 1) (by omega)).trans (by congr 1; omega), nI_clamp (by omega)]
  have t0 := (ht 0 (by decide)).2
  have t1 := (ht 1 (by decide)).2
  have t2 := (ht 2 (by decide)).2
  have t3 := (ht 3 (by decide)).2
  have t4 := (ht 4 (by decide)).2
  refine ⟨vp_in_nI (by omega) (by decide), m_checked hw s83 (by decide) (by omega) ⟨_, rfl, rfl, fun z3 => hno (fun q => z3 q.2.1), fun z3 => ?_⟩⟩
  rw [(ht 0 (by decide)).1, (ht 1 (by decide)).1, lit 256, pk_mul, nI_add]
  refine ⟨fun z4 => hno (fun q => ?_), fun z4 => eX12_coinsTold hw ?_⟩
  · have z4 := (nI_ltI (a := 999) (by decide) (by omega)).mp z4
    have := q.2.2.1
    omega
  rw [(ht 2 (by decide)).1, (ht 3 (by decide)).1, (ht 4 (by decide)).1, lit 65536, lit 256, pk_mul, pk_mul, nI_add, nI_add]
  refine ⟨_, rfl, rfl, fun z5 => ?_, fun z5 => hno (fun q => ?_)⟩
  rotate_left
  · have z5 := mt (nI_leI (b := 999999) (by omega) (by decide)).mpr z5
    have := q.2.2.2.1
    omega
  have z4 := mt (nI_ltI (a := 999) (by decide) (by omega)).mpr z4
  have z5 := (nI_leI (b := 999999) (by omega) (by decide)).mp z5
  suffices H : ∀ r b, b + r = qB A → (∀ b', b' < b → bOK A t b') → gg p l e s m args below meth c G (d + 4 + 1) MX12_isTold Q 78 [some (.ref 82), some (.int (nI n)), some (.int (nI b))] [] h from H (qB A) 0 (by omega) (fun b hb => absurd hb (Nat.not_lt_zero _))
  intro r
  induction r with
  | zero =>
    intro b hb ho
    exact wX12_isTold_78 hw.1 hw.2.1 hw.2.2.1 (m_boatMany hw k ⟨_, rfl, rfl, bY (nI_le (by omega) (by omega)) (hy ⟨z, z3, by omega, z5, fun b' hb' => ho b' (by omega)⟩)⟩)
  | succ r ih =>
    intro b hb ho
    refine wX12_isTold_78 hw.1 hw.2.1 hw.2.2.1 (m_boatMany hw k ⟨_, rfl, rfl, bN (nI_ge (by omega) (by omega)) (m_isBoatTold hw g k (by omega) ht (fun o => ⟨_, rfl, rfl, bN' (by decide) ?_⟩) (fun o => ⟨_, rfl, rfl, bY' rfl (hno (fun q => o (q.2.2.2.2 b (by omega))))⟩))⟩)
    rw [nI_1]
    exact ih (b + 1) (by omega) (fun b' hb' => by
      by_cases e9 : b' = b
      · subst e9; exact o
      · exact ho b' (by omega))
end ON
