/-! files -/
/-- one of a file tries: fleet, how bold (and 1), how many went -/
def fl1 (A : qT) (b c : Nat) (S : qS) : qS := (ftr A S.1 b c S.2.1, if fer A S.1 b c S.2.1 ≤ ft S.1 b then lrn A S.1 b c S.2.1 + 1 else S.2.1, S.2.2 + if fer A S.1 b c S.2.1 ≤ ft S.1 b then 1 else 0)
def flr (A : qT) (t : Nat → Nat) (c : Nat) : Nat → Nat → qS → qS
  | 0, _, S => S
  | r + 1, k, S => flr A t c r (k + 1) (fl1 A (t k) c S)
section FL
variable {l : Launch} {G : gG} {d : Nat} {Q : Option Value → gH → Prop} {h h0 : gH} {lk sp : Nat} {cd : Option Nat} {A F : qT} {T n b c bo : Nat} {t : Nat → Nat}
theorem ftr_t : ft (ftr A F b c bo) b = lrn A F b c bo := by
  unfold ftr
  split
  · show fkp _ _ _ _ 2 b = _
    rw [fkp_o (by decide) (Or.inl (by decide)), fupd_i (by decide), fupd_s]
  · show fkp _ _ _ _ 2 b = _
    rw [fkp_o (by decide) (Or.inl (by decide)), fupd_i (by decide), fupd_s]
theorem fl1_bo {S : qS} (q : fG A S.1) (hb : b < qB A) (h100 : S.2.1 ≤ 100) : (fl1 A b c S).2.1 ≤ 100 := by
  have := lrn_le (c := c) (bo := S.2.1) q hb
  show (if fer A S.1 b c S.2.1 ≤ ft S.1 b then lrn A S.1 b c S.2.1 + 1 else S.2.1) ≤ 100
  split <;> omega
theorem flr_g (g : qG A) (hc : qW A c) : ∀ r k (S : qS), (∀ i, i < k + r → t i < qB A) → fG A S.1 → fG A (flr A t c r k S).1
  | 0, _, _, _, q => q
  | r + 1, k, S, ht, q => flr_g g hc r (k + 1) _ (fun i hi => ht i (by omega)) (ftr_g g q (ht k (by omega)) hc)
/-- the class sends a file -/
theorem c_sendFile (hw : gWf h lk sp cd) (k : KC A F T lk h) (hT : T + 6 ≤ 153600) (hn : n ≤ 6) (hc : qW A c) (ht : ∀ i, i < n → h.1 2 i = nI (t i) ∧ t i < qB A) (hq : ∀ h' T', gEq [7, 45, 46, 48] h h' → KC A (flr A t c n 0 (F, 0, 0)).1 T' lk h' → T' ≤ T + n → Q (some (.int (nI (flr A t c n 0 (F, 0, 0)).2.2))) h') : gC l G (d + 6) MX1_sendFile [.ref 53, .ref 2, .int (nI n), .int (nI c)] h Q := by
  have h6 := k.g.B6
  refine eX1_sendFile hw s2 (fun p e s m args below meth cc => ?_)
  generalize hR : flr A t c n 0 (F, 0, 0) = R at hq
  suffices H : ∀ r i (S : qS) T' h', i + r = n → flr A t c r i S = R → gEq [7, 45, 46, 48] h h' → KC A S.1 T' lk h' → T' ≤ T + i → S.2.1 ≤ 100 → gg p l e s m args below meth cc G (d + 5 + 1) MX1_sendFile Q 9 [some (.ref 53), some (.ref 2), some (.int (nI n)), some (.int (nI c)), some (.int (nI S.2.2)), some (.int (nI S.2.1 - 1)), some (.int (nI i)), none] [] h' from H n 0 (F, 0, 0) T h (by omega) hR (gEq.rf _ _) k (by omega) (Nat.zero_le _)
  intro r
  induction r with
  | zero =>
    intro i S T' h' hi hS e1 k1 hT' hbo
    have : i = n := by omega
    subst this
    have hS : S = R := hS
    subst hS
    have hwh := hw.eq e1
    exact wX1_sendFile_9 hwh.1 hwh.2.1 hwh.2.2.1 s2 (bY (Int32.le_refl _) (hq h' T' e1 k1 hT'))
  | succ r ih =>
    intro i S T' h' hi hS e1 k1 hT' hbo
    have hwh := hw.eq e1
    obtain ⟨t1, t2⟩ := ht i (by omega)
    have hS : flr A t c r (i + 1) (fl1 A (t i) c S) = R := hS
    refine wX1_sendFile_9 hwh.1 hwh.2.1 hwh.2.2.1 s2 (bN (nI_ge (by omega) (by omega)) (bN (by rw [show Int32.ofNat 1600 = nI 1600 from rfl]; exact nI_ge (by omega) (by decide)) ⟨vp_in_nI (by omega) (by decide), ?_⟩))
    rw [nI_clamp (by omega), (e1.1 2 (by decide)).1, t1, nI_1, nI_1]
    refine c_attempt hwh k1 (by omega) t2 hc hbo (fun h2 e2 k2 => ⟨_, rfl, e2.2, ?_⟩)
    have e3 : gEq [7, 45, 46, 48] h h2 := (e1.tr e2).mono (fun x hx => by simp at hx ⊢; omega)
    have hw2 := hw.eq e3
    have hbo2 := fl1_bo (c := c) k1.f t2 hbo
    by_cases z : fer A S.1 (t i) c S.2.1 ≤ ft S.1 (t i)
    · have ef : fl1 A (t i) c S = (ftr A S.1 (t i) c S.2.1, lrn A S.1 (t i) c S.2.1 + 1, S.2.2 + 1) := by unfold fl1; rw [if_pos z, if_pos z]
      rw [if_pos z]
      refine bY' rfl (c_trustOf hw2 k2 t2 ⟨_, rfl, rfl, ?_⟩)
      rw [ftr_t, ← i_s1 (lrn A S.1 (t i) c S.2.1)]
      rw [ef] at hS hbo2
      exact ih (i + 1) (ftr A S.1 (t i) c S.2.1, lrn A S.1 (t i) c S.2.1 + 1, S.2.2 + 1) (T' + 1) h2 (by omega) hS e3 k2 (by omega) hbo2
    · have ef : fl1 A (t i) c S = (ftr A S.1 (t i) c S.2.1, S.2.1, S.2.2) := by unfold fl1; rw [if_neg z, if_neg z]; rfl
      rw [if_neg z]
      refine bN' (by decide) ?_
      rw [ef] at hS hbo2
      exact ih (i + 1) (ftr A S.1 (t i) c S.2.1, S.2.1, S.2.2) (T' + 1) h2 (by omega) hS e3 k2 (by omega) hbo2
theorem m_files (hw : gWf h lk sp cd) (k : KM A F h) (hn : n ≤ 6) (hc : qW A c) (ht : ∀ i, i < n → h.1 137 i = nI (t i) ∧ t i < qB A) (hq : ∀ h', MT h h' → KM A (flr A t c n 0 (F, 0, 0)).1 h' → Q (some (.int (nI (flr A t c n 0 (F, 0, 0)).2.2))) h') : gC l G (d + 8) MX12_files [.ref 82, .int (nI n), .int (nI c)] h Q := by
  have h6 := k.g.B6
  refine eX12_files hw (fun p e s m args below meth cc => ?_)
  generalize hR : flr A t c n 0 (F, 0, 0) = R at hq
  suffices H : ∀ r i (S : qS) h', i + r = n → flr A t c r i S = R → MT h h' → KM A S.1 h' → S.2.1 ≤ 100 → gg p l e s m args below meth cc G (d + 7 + 1) MX12_files Q 8 [some (.ref 82), some (.int (nI n)), some (.int (nI c)), some (.int (nI S.2.1 - 1)), some (.int (nI S.2.2)), some (.int (nI i))] [] h' from H n 0 (F, 0, 0) h (by omega) hR MT.rf k (Nat.zero_le _)
  intro r
  induction r with
  | zero =>
    intro i S h' hi hS e1 k1 hbo
    have : i = n := by omega
    subst this
    have hS : S = R := hS
    subst hS
    have hwh := hw.eq e1.1
    exact wX12_files_8 hwh.1 hwh.2.1 hwh.2.2.1 (bY (Int32.le_refl _) (hq h' e1 k1))
  | succ r ih =>
    intro i S h' hi hS e1 k1 hbo
    have hwh := hw.eq e1.1
    obtain ⟨t1, t2⟩ := ht i (by omega)
    have hS : flr A t c r (i + 1) (fl1 A (t i) c S) = R := hS
    refine wX12_files_8 hwh.1 hwh.2.1 hwh.2.2.1 (bN (nI_ge (by omega) (by omega)) ⟨vp_in_nI (by omega) (by decide), ?_⟩)
    rw [nI_clamp (by omega), (e1.1.1 137 (by decide)).1, t1, nI_1, nI_1]
    refine m_tries hwh k1 t2 hc hbo (fun h2 e2 k2 => ⟨_, rfl, e2.1.2, ?_⟩)
    have e3 := e1.tr e2
    have hw2 := hw.eq e3.1
    have hbo2 := fl1_bo (c := c) k1.f t2 hbo
    rw [(e3.1.1 137 (by decide)).1, t1]
    by_cases z : fer A S.1 (t i) c S.2.1 ≤ ft S.1 (t i)
    · have ef : fl1 A (t i) c S = (ftr A S.1 (t i) c S.2.1, lrn A S.1 (t i) c S.2.1 + 1, S.2.2 + 1) := by unfold fl1; rw [if_pos z, if_pos z]
      rw [if_pos z]
      refine bN' (by decide) ⟨vp_in_nI (by omega) (by decide), m_trustOf hw2 k2 t2 ⟨_, rfl, rfl, ?_⟩⟩
      rw [ftr_t, ← i_s1 (lrn A S.1 (t i) c S.2.1)]
      rw [ef] at hS hbo2
      exact ih (i + 1) (ftr A S.1 (t i) c S.2.1, lrn A S.1 (t i) c S.2.1 + 1, S.2.2 + 1) h2 (by omega) hS e3 k2 hbo2
    · have ef : fl1 A (t i) c S = (ftr A S.1 (t i) c S.2.1, S.2.1, S.2.2) := by unfold fl1; rw [if_neg z, if_neg z]; rfl
      rw [if_neg z]
      refine bY' rfl ?_
      rw [ef] at hS hbo2
      exact ih (i + 1) (ftr A S.1 (t i) c S.2.1, S.2.1, S.2.2) h2 (by omega) hS e3 k2 hbo2
/-- how many bits -/
def bc (m : Nat) : Nat := m % 2 + m / 2 % 2 + m / 4 % 2 + m / 8 % 2 + m / 16 % 2 + m / 32 % 2
theorem bc_set0 : ∀ m, m < 64 → ∀ j, j < 6 → (m / 2 ^ j % 2 == 1 || bc (bset m j) == bc m + 1) = true := by decide +kernel
theorem bc_set {m j : Nat} (hm : m < 64) (hj : j < 6) (hb : ¬ m / 2 ^ j % 2 = 1) : bc (bset m j) = bc m + 1 := by
  have h := bc_set0 m hm j hj
  rw [Bool.or_eq_true, beq_iff_eq, beq_iff_eq] at h
  exact h.resolve_left hb
theorem bset_lt {m j B : Nat} (hm : m < 2 ^ B) (hj : j < B) : bset m j < 2 ^ B := by
  unfold bset
  split
  · exact hm
  · rename_i e
    obtain ⟨k, rfl⟩ : ∃ k, B = j + 1 + k := ⟨B - (j + 1), by omega⟩
    -- the bit j of m is 0
    have hp : 0 < 2 ^ j := Nat.two_pow_pos j
    have e1 : m = 2 ^ j * (m / 2 ^ j) + m % 2 ^ j := (Nat.div_add_mod m (2 ^ j)).symm
    have e2 : m % 2 ^ j < 2 ^ j := Nat.mod_lt _ hp
    have e3 : m / 2 ^ j % 2 = 0 := by omega
    have e4 : 2 ^ (j + 1 + k) = 2 ^ j * (2 * 2 ^ k) := by rw [Nat.add_assoc, Nat.pow_add, Nat.pow_add]
    rw [e4] at hm ⊢
    have e5 : m / 2 ^ j < 2 * 2 ^ k := Nat.div_lt_of_lt_mul hm
    have e6 : m / 2 ^ j + 1 < 2 * 2 ^ k + 1 := by omega
    have e7 : m / 2 ^ j + 1 + 1 ≤ 2 * 2 ^ k + 0 := by omega
    have e8 : 2 ^ j * (m / 2 ^ j + 1 + 1) ≤ 2 ^ j * (2 * 2 ^ k) := Nat.mul_le_mul_left _ (by omega)
    rw [Nat.mul_add, Nat.mul_add, Nat.mul_one] at e8
    omega
/-- the boats on the tape as a set, if they are different boats -/
def tset (A : qT) (t : Nat → Nat) : Nat → Option Nat
  | 0 => some 0
  | k + 1 => match tset A t k with
    | none => none
    | some m => if t k < qB A ∧ ¬ m / 2 ^ t k % 2 = 1 then some (bset m (t k)) else none
theorem tset_p (g : qG A) : ∀ k m, tset A t k = some m → m < 2 ^ qB A ∧ bc m = k ∧ ∀ i, i < k → t i < qB A
  | 0, m, h => by
    have : 0 = m := Option.some.inj h
    subst this
    exact ⟨Nat.two_pow_pos _, rfl, fun i hi => absurd hi (Nat.not_lt_zero _)⟩
  | k + 1, m, h => by
    unfold tset at h
    cases hk : tset A t k with
    | none => rw [hk] at h; cases h
    | some m0 =>
      rw [hk] at h
      obtain ⟨p1, p2, p3⟩ := tset_p g k m0 hk
      have h6 := g.B6
      have hp : 2 ^ qB A ≤ 2 ^ 6 := Nat.pow_le_pow_right (by decide) h6
      have h : (if t k < qB A ∧ ¬ m0 / 2 ^ t k % 2 = 1 then some (bset m0 (t k)) else none) = some m := h
      by_cases z : t k < qB A ∧ ¬ m0 / 2 ^ t k % 2 = 1
      · rw [if_pos z] at h
        have e : bset m0 (t k) = m := Option.some.inj h
        subst e
        refine ⟨bset_lt p1 z.1, by rw [bc_set (by omega) (by omega) z.2, p2], fun i hi => ?_⟩
        by_cases e9 : i = k
        · rw [e9]; exact z.1
        · exact p3 i (by omega)
      · rw [if_neg z] at h; cases h
theorem tset_n : ∀ j k, tset A t k = none → tset A t (k + j) = none
  | 0, _, h => h
  | j + 1, k, h => by
    have := tset_n j k h
    show tset A t (k + j + 1) = none
    unfold tset
    rw [this]
theorem tset_s {k m : Nat} (h : tset A t k = some m) : tset A t (k + 1) = if t k < qB A ∧ ¬ m / 2 ^ t k % 2 = 1 then some (bset m (t k)) else none := by
  show (match tset A t k with | none => none | some m => _) = _
  rw [h]
theorem c_bitsOfTape (hw : gWf h lk sp cd) (g : qG A) (k : LC A lk h) (hn : n ≤ 1600) (ht : ∀ i, i < 1600 → h.1 2 i = nI (t i) ∧ t i < 256) (hy : ∀ m, tset A t n = some m → Q (some (.int (nI m))) h) (hno : tset A t n = none → Q (some (.int 0)) h) : gC l G (d + 1) MX11_bitsOfTape [.ref 0, .int (nI n)] h Q := by
  have h6 := g.B6
  have hp : 2 ^ qB A ≤ 2 ^ 6 := Nat.pow_le_pow_right (by decide) h6
  refine eX11_bitsOfTape hw (fun p e s m args below meth c => ?_)
  suffices H : ∀ r i M, i + r = n → tset A t i = some M → gg p l e s m args below meth c G (d + 1) MX11_bitsOfTape Q 4 [some (.ref 0), some (.int (nI n)), some (.int (nI M)), some (.int (nI i)), none] [] h from H n 0 0 (by omega) rfl
  intro r
  induction r with
  | zero =>
    intro i M hi hM
    have : i = n := by omega
    subst this
    exact wX11_bitsOfTape_4 hw.1 hw.2.1 hw.2.2.1 (bY (Int32.le_refl _) (hy M hM))
  | succ r ih =>
    intro i M hi hM
    obtain ⟨p1, p2, p3⟩ := tset_p g i M hM
    obtain ⟨t1, t2⟩ := ht i (by omega)
    have nx := tset_s hM
    have out : tset A t (i + 1) = none → Q (some (.int 0)) h := fun q => hno (by
      have := tset_n (A := A) (t := t) r (i + 1) q
      rw [show i + 1 + r = n by omega] at this
      exact this)
    refine wX11_bitsOfTape_4 hw.1 hw.2.1 hw.2.2.1 (bN (nI_ge (by omega) (by omega)) (bN (nI_ge (b := 1600) (by omega) (by decide)) ⟨vp_in_nI (by omega) (by decide), ?_⟩))
    rw [nI_clamp (by omega), t1, nI_1]
    by_cases z : t i < qB A
    · refine c_isBoat_y hw g k z ⟨_, rfl, rfl, bN (by decide) ?_⟩
      rw [bin_c (by omega) (by omega), (bit_set M (by omega) (t i) (by omega)).1]
      refine ⟨fun q => ih (i + 1) _ (by omega) (by rw [nx, if_pos ⟨z, q⟩]), fun q => out (by rw [nx, if_neg (fun q2 => q2.2 q)])⟩
    · exact c_isBoat_n hw g k (fun j hj e9 => z (by rw [(nI_eq (by omega) (by omega)).mp e9]; exact hj)) ⟨_, rfl, rfl, bY rfl (out (by rw [nx, if_neg (fun q => z q.1)]))⟩
theorem m_fileL {p : Program} {e : Env} {s : State} {m : MethodId} {args : Array Value} {below : List Frame} {meth : Method} {c : Code} {a : Int32} (hw : gWf h0 lk sp cd) (g : qG A) (k : LM A h0) (hn1 : 1 ≤ n) (hn : n ≤ 6) (ht : ∀ i, i < 1600 → h0.1 83 i = nI (t i) ∧ t i < 256)
    (hy : ∀ M h', tset A t n = some M → gEq [137] h0 h' → (∀ i, i < n → h'.1 137 i = nI (t i)) → gC l G (d + 3) MX12_canFile [.ref 82, .int (nI M), .int a] h' (rI fun v2 h2 => h2.2.2 = h'.2.2 ∧ ((¬ v2 = 0 → gC l G (d + 3) MX12_keeps [.ref 82] h2 (rV fun h3 => h3.2.2 = h2.2.2 ∧ gC l G (d + 3) MX12_files [.ref 82, .int (nI n), .int a] h3 (rI fun v4 h4 => h4.2.2 = h3.2.2 ∧ Q (some (.int v4)) h4))) ∧ (v2 = 0 → gC l G (d + 3) MX12_refuses [.ref 82, .int 2] h2 (rI fun v5 h5 => h5.2.2 = h2.2.2 ∧ Q (some (.int v5)) h5)))))
    (hno : ∀ h', tset A t n = none → gEq [137] h0 h' → gC l G (d + 3) MX12_refuses [.ref 82, .int 2] h' (rI fun v1 h1 => h1.2.2 = h'.2.2 ∧ Q (some (.int v1)) h1)) :
    ∀ r i M h, i + r = n → tset A t i = some M → gEq [137] h0 h → (∀ i', i' < i → h.1 137 i' = nI (t i')) → gg p l e s m args below meth c G (d + 3 + 1) MX12_file Q 26 [some (.ref 82), some (.int a), some (.int (nI n)), some (.int (nI M)), some (.int 1), some (.int (nI i))] [] h := by
  have h6 := g.B6
  have hp : 2 ^ qB A ≤ 2 ^ 6 := Nat.pow_le_pow_right (by decide) h6
  intro r
  induction r with
  | zero =>
    intro i M h hi hM e1 e2
    have : i = n := by omega
    subst this
    have hwh := hw.eq e1
    exact wX12_file_26 hwh.1 hwh.2.1 hwh.2.2.1 (bY (Int32.le_refl _) (bN (by decide) (hy M h hM e1 e2)))
  | succ r ih =>
    intro i M h hi hM e1 e2
    have hwh := hw.eq e1
    have lm : LM A h := k.cg (fun x hx => e1.1 x (fun z => by simp at hx z; omega)) (by rw [(e1.1 82 (by decide)).1])
    obtain ⟨p1, p2, p3⟩ := tset_p g i M hM
    obtain ⟨t1, t2⟩ := ht i (by omega)
    have x83 := (e1.1 83 (by decide)).1
    have nx := tset_s hM
    have out : ∀ M' : Int32, tset A t (i + 1) = none → gg p l e s m args below meth c G (d + 3 + 1) MX12_file Q 26 [some (.ref 82), some (.int a), some (.int (nI n)), some (.int M'), some (.int 0), some (.int (nI (i + 1)))] [] h := fun M' q => by
      have f := hno h (by
        have := tset_n (A := A) (t := t) r (i + 1) q
        rw [show i + 1 + r = n by omega] at this
        exact this) e1
      exact wX12_file_26 hwh.1 hwh.2.1 hwh.2.2.1 ⟨fun _ => bY rfl f, fun _ => bY rfl (bY rfl f)⟩
    refine wX12_file_26 hwh.1 hwh.2.1 hwh.2.2.1 (bN (nI_ge (by omega) (by omega)) (bN (by decide) ⟨vp_in_nI (by omega) (by decide), ?_⟩))
    rw [nI_clamp (by omega), x83, t1, nI_1]
    by_cases z : t i < qB A
    · refine m_isBoat_y hwh g lm z ⟨_, rfl, rfl, bN (by decide) ⟨vp_in_nI (by omega) (by decide), ?_⟩⟩
      rw [x83, t1, bin_z (by omega) (by omega), (bit_set M (by omega) (t i) (by omega)).1]
      refine ⟨fun q => out _ (by rw [nx, if_neg (fun q2 => q q2.2)]), fun q => ⟨vp_in_nI (by omega) (by decide), vp_in_nI (by omega) (by decide), vp_in_nI (by omega) (by decide), ih (i + 1) _ _ (by omega) (by rw [nx, if_pos ⟨z, q⟩]) (gE1 (by decide) e1) (fun i' hi' => ?_)⟩⟩
      by_cases e9 : i' = i
      · subst e9; exact sI_s _ _ _ _
      · rw [sI_nb e9]; exact e2 i' (by omega)
    · exact m_isBoat_n hwh g lm (fun j hj e9 => z (by rw [(nI_eq (by omega) (by omega)).mp e9]; exact hj)) ⟨_, rfl, rfl, bY rfl (out _ (by rw [nx, if_neg (fun q => z q.1)]))⟩
end FL
