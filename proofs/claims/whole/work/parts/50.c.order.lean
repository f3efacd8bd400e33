section OR3
variable {l : Launch} {G : gG} {d : Nat} {Q : Option Value → gH → Prop} {h h0 : gH} {lk sp : Nat} {cd : Option Nat} {A F F' : qT} {T n b c M bo go g p v : Nat}
theorem c_sort (hw : gWf h lk sp cd) (k : KC A F T lk h) (hc : c < qN A) (hM : M < 2 ^ qB A) (hq : ∀ h' g p, gEq [45, 46, 48, 53, 54, 55] h h' → g ≤ 7 → g ≠ 0 → (∀ i, i < pcn M → h'.1 55 i = nI (dg (pcn M) p i)) → Bst A F M (pcn M) c (6 ^ pcn M) g p → Q (some (.int (nI g - 1))) h') : gC l G (d + pcn M + 6) MX1_sort [.ref 53, .int (nI M), .int (nI c)] h Q := by
  have h6 := k.g.B6
  have p64 : 2 ^ qB A ≤ 2 ^ 6 := Nat.pow_le_pow_right (by decide) h6
  have e1 : gEq [53] h (sI h 53 4 (-1)) := gEq.sI h 53 4 (-1)
  have k1 : KC A F T lk (sI h 53 4 (-1)) := k.eq hw e1 (fun x hx => by simp at hx; omega)
  refine eX1_sort hw ?_
  have := c_placeOne (l := l) (G := G) (d := d) (lk := lk) (sp := sp) (cd := cd) (A := A) (F := F) (T := T) (c := c) (M := M) hc hM (pcn M) (at_ := 0) (X := M) (P := 0) (g := 0) (p := 0) (h := sI h 53 4 (-1)) (Q := rV fun h1 => h1.2.2 = (sI h 53 4 (-1)).2.2 ∧ Q (some (.int (h1.1 53 4))) h1) (hw.eq e1) k1 (Nat.zero_add _) ⟨by omega, fun j _ => ⟨fun q => ⟨q, fun i hi => absurd hi (Nat.not_lt_zero _)⟩, fun q => q.1⟩⟩ rfl (fun i hi => absurd hi (Nat.not_lt_zero _)) (by rw [sI_s]; decide) (by omega) (fun q => absurd rfl q) (fun i hi => absurd hi (Nat.not_lt_zero _)) (by rw [Nat.zero_mul]; exact Bst.zero) (fun h2 g2 p2 x1 x2 x3 x4 x5 x6 x7 => ⟨rfl, x1.2, by
    rw [x2]
    exact hq h2 g2 p2 ((e1.tr x1).mono (fun x hx => by simp at hx ⊢; omega)) x3 x4 x5 (by rw [Nat.zero_add, Nat.one_mul] at x7; exact x7)⟩)
  exact this
/-! the model -/
theorem vals_cg {bo fe u : Nat} (h1 : fH F' = fH F) (h2 : ft F' b = ft F b) (h3 : fb F' b = fb F b) (h4 : fh F' b = fh F b) : vals A F' b c bo fe u = vals A F b c bo fe u := by
  unfold vals
  rw [h1, h2, h3, h4]
theorem fer_cg (h1 : fH F' = fH F) (h2 : ft F' b = ft F b) (h3 : fb F' b = fb F b) (h4 : fh F' b = fh F b) : fer A F' b c bo = fer A F b c bo := by
  unfold fer
  rw [show (fun u => ((vals A F' b c bo 0 u : Nat) : Int)) = fun u => ((vals A F b c bo 0 u : Nat) : Int) from funext fun u => by rw [vals_cg h1 h2 h3 h4]]
theorem lrn_cg (h1 : fH F' = fH F) (h2 : ft F' b = ft F b) (h3 : fb F' b = fb F b) (h4 : fh F' b = fh F b) : lrn A F' b c bo = lrn A F b c bo := by
  have e := fer_cg (A := A) (c := c) (bo := bo) h1 h2 h3 h4
  have el : lrp A F' b c bo = lrp A F b c bo := by unfold lrp; rw [e, h2]
  unfold lrn
  rw [el, e, h2, show (fun u => ((vals A F' b c bo (fer A F b c bo) u : Nat) : Int)) = fun u => ((vals A F b c bo (fer A F b c bo) u : Nat) : Int) from funext fun u => by rw [vals_cg h1 h2 h3 h4]]
theorem ftr_o {b' : Nat} (hb : b' ≠ b) : ft (ftr A F b c bo) b' = ft F b' ∧ fb (ftr A F b c bo) b' = fb F b' ∧ fh (ftr A F b c bo) b' = fh F b' := by
  unfold ftr
  split
  · refine ⟨?_, ?_, ?_⟩
    · show fkp _ _ _ _ 2 b' = _
      rw [fkp_o (by decide) (Or.inl (by decide)), fupd_i (by decide), fupd_j hb]; rfl
    · show fkp _ _ _ _ 3 b' = _
      rw [fkp_o (by decide) (Or.inl (by decide)), fupd_i (by decide), fupd_i (by decide)]; rfl
    · show fkp _ _ _ _ 4 b' = _
      rw [fkp_o (by decide) (Or.inl (by decide)), fupd_i (by decide), fupd_i (by decide)]; rfl
  · refine ⟨?_, ?_, ?_⟩
    · show fkp _ _ _ _ 2 b' = _
      rw [fkp_o (by decide) (Or.inl (by decide)), fupd_i (by decide), fupd_j hb]; rfl
    · show fkp _ _ _ _ 3 b' = _
      rw [fkp_o (by decide) (Or.inl (by decide)), fupd_j hb, fupd_i (by decide)]; rfl
    · show fkp _ _ _ _ 4 b' = _
      rw [fkp_o (by decide) (Or.inl (by decide)), fupd_i (by decide), fupd_i (by decide)]; rfl
/-- a file of boats that are all different goes as the row is reckoned -/
theorem flr_smr {t : Nat → Nat} : ∀ r k (S : qS), (∀ i j, i < j → j < k + r → t i ≠ t j) → fH S.1 = fH F → (∀ i, k ≤ i → i < k + r → ft S.1 (t i) = ft F (t i) ∧ fb S.1 (t i) = fb F (t i) ∧ fh S.1 (t i) = fh F (t i)) → S.2 = smr A F c t k → (flr A t c r k S).2 = smr A F c t (k + r)
  | 0, _, _, _, _, _, h => h
  | r + 1, k, S, hi, h1, h2, h3 => by
    obtain ⟨s1, s2, s3⟩ := h2 k (Nat.le_refl _) (by omega)
    have ef : ∀ bo, fer A S.1 (t k) c bo = fer A F (t k) c bo := fun bo => fer_cg h1 s1 s2 s3
    have el : ∀ bo, lrn A S.1 (t k) c bo = lrn A F (t k) c bo := fun bo => lrn_cg h1 s1 s2 s3
    have ih := flr_smr r (k + 1) (fl1 A (t k) c S) (fun i j x y => hi i j x (by omega)) (by show fH (ftr A S.1 (t k) c S.2.1) = _; rw [ftr_h]; exact h1) (fun i x y => by
      have o := ftr_o (A := A) (F := S.1) (c := c) (bo := S.2.1) (b := t k) (b' := t i) (fun q => hi k i (by omega) (by omega) q.symm)
      obtain ⟨a1, a2, a3⟩ := h2 i (by omega) (by omega)
      exact ⟨o.1.trans a1, o.2.1.trans a2, o.2.2.trans a3⟩) (by
      show (if fer A S.1 (t k) c S.2.1 ≤ ft S.1 (t k) then lrn A S.1 (t k) c S.2.1 + 1 else S.2.1, S.2.2 + if fer A S.1 (t k) c S.2.1 ≤ ft S.1 (t k) then 1 else 0) = if fer A F (t k) c (smr A F c t k).1 ≤ ft F (t k) then (lrn A F (t k) c (smr A F c t k).1 + 1, (smr A F c t k).2 + 1) else smr A F c t k
      rw [ef, el, s1, h3]
      split
      · rfl
      · rw [Nat.add_zero])
    rw [show k + (r + 1) = k + 1 + r by omega]
    exact ih
theorem FM.cg7 {B : Nat} {y y' : Nat → Int32} (hB : B ≤ 6) (hN : fN F ≤ 40) (e : ∀ j, j < 187 → y' j = y j) (q : FM B F y) : FM B F y' := by
  obtain ⟨q1, q2, q3, q4, q5⟩ := q
  refine ⟨by rw [e 0 (by decide)]; exact q1, by rw [e 1 (by decide)]; exact q2, by rw [e 26 (by decide)]; exact q3, fun b hb => ?_, fun i hi => ?_⟩
  · rw [e _ (by omega), e _ (by omega), e _ (by omega), e _ (by omega)]; exact q4 b hb
  · rw [e _ (by omega), e _ (by omega), e _ (by omega), e _ (by omega)]; exact q5 i hi
theorem m_putsAside (hw : gWf h lk sp cd) (hq : ∀ h', gEq [134] h h' → (∀ j, j < 187 → h'.1 134 j = h.1 133 j) → Q none h') : gC l G d MX12_putsAside [.ref 82] h Q := by
  refine eX12_putsAside hw (fun p e s m args below meth cc => ?_)
  suffices H : ∀ r i h', i + r = 187 → gEq [134] h h' → (∀ j, j < i → h'.1 134 j = h.1 133 j) → gg p l e s m args below meth cc G d MX12_putsAside Q 2 [some (.ref 82), some (.int (nI i))] [] h' from H 187 0 h (by omega) (gEq.rf _ _) (fun j hj => absurd hj (Nat.not_lt_zero _))
  intro r
  induction r with
  | zero =>
    intro i h' hi e1 v1
    have hwh := hw.eq e1
    exact wX12_putsAside_2 hwh.1 hwh.2.1 hwh.2.2.1 (bY (nI_le (a := 187) (by omega) (by omega)) (hq h' e1 (fun j hj => v1 j (by omega))))
  | succ r ih =>
    intro i h' hi e1 v1
    have hwh := hw.eq e1
    refine wX12_putsAside_2 hwh.1 hwh.2.1 hwh.2.2.1 (bN (nI_ge (b := 187) (by omega) (by decide)) ⟨vp_in_nI (by omega) (by decide), vp_in_nI (by omega) (by decide), ?_⟩)
    rw [nI_clamp (by omega), nI_1]
    refine ih (i + 1) _ (by omega) (gE1 (by decide) e1) (fun j hj => ?_)
    by_cases e : j = i
    · subst e; rw [sI_s, (e1.1 133 (by decide)).1]
    · rw [sI_nb e]; exact v1 j (by omega)
theorem m_takesBack (hw : gWf h lk sp cd) (hq : ∀ h', gEq [133] h h' → (∀ j, j < 187 → h'.1 133 j = h.1 134 j) → Q none h') : gC l G d MX12_takesBack [.ref 82] h Q := by
  refine eX12_takesBack hw (fun p e s m args below meth cc => ?_)
  suffices H : ∀ r i h', i + r = 187 → gEq [133] h h' → (∀ j, j < i → h'.1 133 j = h.1 134 j) → gg p l e s m args below meth cc G d MX12_takesBack Q 2 [some (.ref 82), some (.int (nI i))] [] h' from H 187 0 h (by omega) (gEq.rf _ _) (fun j hj => absurd hj (Nat.not_lt_zero _))
  intro r
  induction r with
  | zero =>
    intro i h' hi e1 v1
    have hwh := hw.eq e1
    exact wX12_takesBack_2 hwh.1 hwh.2.1 hwh.2.2.1 (bY (nI_le (a := 187) (by omega) (by omega)) (hq h' e1 (fun j hj => v1 j (by omega))))
  | succ r ih =>
    intro i h' hi e1 v1
    have hwh := hw.eq e1
    refine wX12_takesBack_2 hwh.1 hwh.2.1 hwh.2.2.1 (bN (nI_ge (b := 187) (by omega) (by decide)) ⟨vp_in_nI (by omega) (by decide), vp_in_nI (by omega) (by decide), ?_⟩)
    rw [nI_clamp (by omega), nI_1]
    refine ih (i + 1) _ (by omega) (gE1 (by decide) e1) (fun j hj => ?_)
    by_cases e : j = i
    · subst e; rw [sI_s, (e1.1 134 (by decide)).1]
    · rw [sI_nb e]; exact v1 j (by omega)
theorem bits1 : ∀ m, m < 64 → 0 < m → nI m &&& (nI m - 1) = nI (m &&& (m - 1)) ∧ (m &&& (m - 1)) < m ∧ pcn (m &&& (m - 1)) + 1 = pcn m := by decide +kernel
theorem m_bits {m : Nat} (hw : gWf h lk sp cd) (hm : m < 64) (hq : Q (some (.int (nI (pcn m)))) h) : gC l G d MX12_bits [.int (nI m)] h Q := by
  refine eX12_bits hw (fun p e s m' args below meth cc => ?_)
  suffices H : ∀ r x k, x ≤ r → x < 64 → k + pcn x = pcn m → gg p l e s m' args below meth cc G d MX12_bits Q 4 [some (.int (nI m)), some (.int (nI k)), some (.int (nI x))] [] h from H m m 0 (Nat.le_refl _) hm (Nat.zero_add _)
  intro r
  induction r with
  | zero =>
    intro x k hx hx2 hk
    have : x = 0 := by omega
    subst this
    have hk : k = pcn m := hk
    subst hk
    exact wX12_bits_4 hw.1 hw.2.1 hw.2.2.1 (bY rfl hq)
  | succ r ih =>
    intro x k hx hx2 hk
    refine wX12_bits_4 hw.1 hw.2.1 hw.2.2.1 ⟨fun q => ?_, fun q => ?_⟩
    · have : x = 0 := (nI_eq (b := 0) (by omega) (by decide)).mp q
      subst this
      have hk : k = pcn m := hk
      subst hk
      exact hq
    · have x0 : 0 < x := Nat.pos_of_ne_zero (fun z => q (by rw [z]; rfl))
      obtain ⟨b1, b2, b3⟩ := bits1 x hx2 x0
      rw [b1, nI_1]
      exact ih _ (k + 1) (by omega) (by omega) (by omega)
theorem m_isRow (hw : gWf h lk sp cd) (hM : M < 64) (hn : n ≤ 6) (hv : v < 6 ^ n) (hq : ∀ h', gEq [137] h h' → (∀ i, i < n → h'.1 137 i = nI (dg n v i)) → (vld M n v → Q (some (.int 1)) h') ∧ (¬ vld M n v → Q (some (.int 0)) h')) : gC l G d MX12_isRow [.ref 82, .int (nI v), .int (nI n), .int (nI M)] h Q := by
  have p6 : 6 ^ n ≤ 6 ^ 6 := Nat.pow_le_pow_right (by decide) hn
  refine eX12_isRow hw (fun p e s m' args below meth cc => ?_)
  suffices H : ∀ r got h', r ≤ n → gEq [137] h h' → got < 64 → (∀ i, r ≤ i → i < n → h'.1 137 i = nI (dg n v i)) → (∀ j, j < 6 → (bin got j ↔ ∃ i, r ≤ i ∧ i < n ∧ dg n v i = j)) → gg p l e s m' args below meth cc G d MX12_isRow Q 11 [some (.ref 82), some (.int (nI v)), some (.int (nI n)), some (.int (nI M)), some (.int (nI (v / 6 ^ (n - r)))), some (.int (nI got)), some (.int (nI r - 1))] [] h' by
    have := H n 0 h (Nat.le_refl _) (gEq.rf _ _) (by decide) (fun i a b => by omega) (fun j hj => ⟨fun q => by unfold bin at q; simp at q, fun ⟨i, a, b, _⟩ => by omega⟩)
    rw [Nat.sub_self, Nat.pow_zero, Nat.div_one] at this
    exact this
  intro r
  induction r with
  | zero =>
    intro got h' hr e1 g64 v1 b1
    have hwh := hw.eq e1
    obtain ⟨q1, q2⟩ := hq h' e1 (fun i hi => v1 i (Nat.zero_le _) hi)
    have eq : got = M ↔ vld M n v := by
      constructor
      · intro z j hj
        rw [← z, b1 j hj]
        exact ⟨fun ⟨i, _, i2, i3⟩ => ⟨i, i2, i3⟩, fun ⟨i, i2, i3⟩ => ⟨i, Nat.zero_le _, i2, i3⟩⟩
      · intro z
        refine bin_ext g64 hM (fun j hj => ?_)
        rw [z j hj, b1 j hj]
        exact ⟨fun ⟨i, _, i2, i3⟩ => ⟨i, i2, i3⟩, fun ⟨i, i2, i3⟩ => ⟨i, Nat.zero_le _, i2, i3⟩⟩
    refine wX12_isRow_11 hwh.1 hwh.2.1 hwh.2.2.1 (bY (by rw [i_m1]; decide) ?_)
    rw [nI_eq (by omega) (by omega), eq]
    exact ⟨q2, q1⟩
  | succ r ih =>
    intro got h' hr e1 g64 v1 b1
    have hwh := hw.eq e1
    have dl : dg n v r < 6 := dg_lt
    have vd : v / 6 ^ (n - (r + 1)) ≤ v := Nat.div_le_self _ _
    have ed : v / 6 ^ (n - (r + 1)) % 6 = dg n v r := by unfold dg; rw [show n - 1 - r = n - (r + 1) by omega]
    have e6 : v / 6 ^ (n - (r + 1)) / 6 = v / 6 ^ (n - r) := by rw [Nat.div_div_eq_div_mul, ← Nat.pow_succ, show (n - (r + 1)).succ = n - r by omega]
    rw [i_s1]
    refine wX12_isRow_11 hwh.1 hwh.2.1 hwh.2.2.1 (bN (nI_pos (by omega)) ⟨vp_in_nI (by omega) (by decide), vp_in_nI (by omega) (by decide), ?_⟩)
    rw [nI_clamp (by omega), sI_s, lit 6, i_rem (by omega) (by decide) (by decide), ed, pk_div (by omega) (by decide) (by decide), e6, (bit_set got (by omega) (dg n v r) (by omega)).1, show nI r + (-1) = nI r - 1 by rw [Int32.sub_eq_add_neg]]
    refine ih _ _ (by omega) (gE1 (by decide) e1) (bset_lt (B := 6) g64 dl) (fun i a b => ?_) (fun j hj => ?_)
    · by_cases e : i = r
      · subst e; exact sI_s _ _ _ _
      · rw [sI_nb e]; exact v1 i (by omega) b
    · rw [bset_in (by omega) (by omega) (by omega), b1 j hj]
      constructor
      · rintro (⟨i, a, b, c⟩ | z)
        · exact ⟨i, by omega, b, c⟩
        · exact ⟨r, Nat.le_refl _, by omega, z.symm⟩
      · rintro ⟨i, a, b, c⟩
        by_cases e : i = r
        · subst e; exact Or.inr c.symm
        · exact Or.inl ⟨i, by omega, b, c⟩
end OR3
