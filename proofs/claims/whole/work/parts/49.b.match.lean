/-- how many of the first n hands are not in X -/
def unb (X : Nat) : Nat → Nat
  | 0 => 0
  | h + 1 => unb X h + if X / 2 ^ h % 2 = 1 then 0 else 1
def MCs (K R : Nat → Nat) (h : gH) : Prop := (∀ j, j < 6 → h.1 56 j = nI (K j) - 1) ∧ ∀ b, b < 6 → h.1 57 b = nI (R b)
def MMs (K R : Nat → Nat) (h : gH) : Prop := (∀ j, j < 6 → h.1 139 j = nI (K j) - 1) ∧ ∀ b, b < 6 → h.1 140 b = nI (R b)
def CJ (A F : qT) (K R : Nat → Nat) : Prop := DA A F K (fun b h => bin (R b) h ∧ K h ≠ b + 1) ∧ (∀ h b, h < qH A → K h = b + 1 → bin (R b) h) ∧ ∀ b, b < qB A → R b < 2 ^ qH A
def MJ (A F : qT) (K R : Nat → Nat) : Prop := DA A F K (fun b h => bin (R b) h) ∧ ∀ b, b < qB A → R b < 64
def mU (A : qT) (R : Nat → Nat) : Nat := smn (fun b => unb (R b) (qH A)) (qB A)
def mE (A : qT) (K : Nat → Nat) : Nat := smn (fun h => if K h = 0 then 1 else 0) (qH A)
theorem i_eqs {a b : Nat} (ha : a < 2 ^ 29) (hb : b < 2 ^ 29) : nI a - 1 = nI b ↔ a = b + 1 := by
  rw [← i_s1 b, i_eq1 (by omega) (by omega)]
theorem bfull : ∀ H, H < 7 → ∀ m, m < 64 → m < 2 ^ H → (∀ h, h < H → m / 2 ^ h % 2 = 1) → m = 2 ^ H - 1 := by decide +kernel
theorem ball : ∀ H, H < 7 → ∀ h, h < H → (2 ^ H - 1) / 2 ^ h % 2 = 1 := by decide +kernel
section MT2
variable {A F : qT} {K K' R : Nat → Nat} {b b0 h n X x : Nat}
theorem unb_le : ∀ n, unb X n ≤ n
  | 0 => Nat.le_refl _
  | n + 1 => by
    have := unb_le n
    unfold unb
    split <;> omega
theorem unb_0 : ∀ n, unb X n = 0 → ∀ h, h < n → bin X h
  | 0, _, h, hh => absurd hh (Nat.not_lt_zero _)
  | n + 1, e, h, hh => by
    unfold unb at e
    split at e
    · rename_i q
      by_cases eh : h = n
      · subst eh; exact q
      · exact unb_0 n e h (by omega)
    · omega
theorem unb_bset (hX : X < 128) (hx : x < 7) : ∀ n, n ≤ 6 → unb (bset X x) n ≤ unb X n
  | 0, _ => Nat.le_refl _
  | n + 1, hn => by
    have i1 := unb_bset hX hx n (by omega)
    have i2 := bset_in (m := X) (j := x) (i := n) hX hx (by omega)
    unfold bin at i2
    unfold unb
    by_cases q : X / 2 ^ n % 2 = 1
    · rw [if_pos (i2.mpr (Or.inl q)), if_pos q]; omega
    · rw [if_neg q]; split <;> omega
theorem unb_lt (hX : X < 128) (hx : x < 7) (hb : ¬ bin X x) : ∀ n, n ≤ 6 → x < n → unb (bset X x) n < unb X n
  | 0, _, h => absurd h (Nat.not_lt_zero _)
  | n + 1, hn, h => by
    have i0 := unb_bset hX hx n (by omega)
    have i2 := bset_in (m := X) (j := x) (i := n) hX hx (by omega)
    unfold bin at i2
    unfold unb
    by_cases e : x = n
    · subst e
      rw [if_pos (i2.mpr (Or.inr rfl)), if_neg (show ¬ X / 2 ^ x % 2 = 1 from hb)]
      omega
    · have i1 := unb_lt hX hx hb n (by omega) (by omega)
      by_cases q : X / 2 ^ n % 2 = 1
      · rw [if_pos (i2.mpr (Or.inl q)), if_pos q]; omega
      · rw [if_neg q]; split <;> omega
theorem smn_0 {L : Nat → Nat} : ∀ n, smn L n = 0 → ∀ x, x < n → L x = 0
  | 0, _, x, hx => absurd hx (Nat.not_lt_zero _)
  | n + 1, e, x, hx => by
    unfold smn at e
    by_cases ex : x = n
    · subst ex; omega
    · exact smn_0 n (by omega) x (by omega)
theorem smn_le {L : Nat → Nat} {c : Nat} (hL : ∀ x, L x ≤ c) : ∀ n, smn L n ≤ n * c
  | 0 => by unfold smn; omega
  | n + 1 => by
    have i1 := smn_le hL n
    have i2 := hL n
    unfold smn
    rw [Nat.succ_mul]
    omega
theorem mU_up (g : qG A) (hb : b < qB A) (hR : R b < 128) (hx : x < qH A) (hn : ¬ bin (R b) x) : mU A (upn R b (bset (R b) x)) < mU A R := by
  have h6 := g.H6
  have e : (fun b' => unb (upn R b (bset (R b) x) b') (qH A)) = upn (fun b' => unb (R b') (qH A)) b (unb (bset (R b) x) (qH A)) := by
    funext y
    by_cases q : y = b
    · subst q; rw [upn_s, upn_s]
    · rw [upn_n q, upn_n q]
  unfold mU
  rw [e]
  exact smn_up (L := fun b' => unb (R b') (qH A)) (unb_lt hR (by omega) hn (qH A) h6 hx) (qB A) hb
theorem mE_up (hh : h < qH A) (hk : K h = 0) : mE A (upn K h (b + 1)) < mE A K := by
  have e : (fun y => if upn K h (b + 1) y = 0 then 1 else 0) = upn (fun y => if K y = 0 then 1 else 0) h 0 := by
    funext y
    by_cases q : y = h
    · subst q; rw [upn_s, upn_s, if_neg (by omega)]
    · rw [upn_n q, upn_n q]
  unfold mE
  rw [e]
  exact smn_up (L := fun y => if K y = 0 then 1 else 0) (by show 0 < if K h = 0 then 1 else 0; rw [if_pos hk]; omega) (qH A) hh
theorem mE_le (hk : K h ≠ 0) : mE A (upn K h (b + 1)) = mE A K := by
  have e : (fun y => if upn K h (b + 1) y = 0 then 1 else 0) = (fun y => if K y = 0 then 1 else 0) := by
    funext y
    by_cases q : y = h
    · subst q; rw [upn_s, if_neg (by omega), if_neg hk]
    · rw [upn_n q]
  unfold mE
  rw [e]
theorem hhb_m (hn : hhb K b n ≠ 0) : ∀ r, hhb K b (n + r) = hhb K b n
  | 0 => rfl
  | r + 1 => by
    have i := hhb_m hn r
    show (if hhb K b (n + r) ≠ 0 then hhb K b (n + r) else _) = _
    rw [i, if_pos hn]
theorem hhb_f (h0 : hhb K b h = 0) (hk : K h = b + 1) (hn : h < n) : hhb K b n = h + 1 := by
  have e : hhb K b (h + 1) = h + 1 := by
    show (if hhb K b h ≠ 0 then _ else _) = _
    rw [if_neg (fun q => q h0), if_pos hk]
  obtain ⟨r, rfl⟩ : ∃ r, n = h + 1 + r := ⟨n - (h + 1), by omega⟩
  rw [hhb_m (by omega) r, e]
theorem hhb_n (h0 : hhb K b h = 0) (hk : K h ≠ b + 1) : hhb K b (h + 1) = 0 := by
  show (if hhb K b h ≠ 0 then _ else _) = _
  rw [if_neg (fun q => q h0), if_neg hk]
/-- what asking makes of the keepers -/
def askd (F : qT) (K : Nat → Nat) (b x : Nat) (K' : Nat → Nat) : Prop := (K x = 0 ∧ K' = upn K x (b + 1)) ∨ ∃ b0, K x = b0 + 1 ∧ ((pfh F b b0 ∧ K' = upn K x (b + 1)) ∨ (¬ pfh F b b0 ∧ K' = K))
theorem CJ.step (g : qG A) (j : CJ A F K R) (hb : b < qB A) (fr : ∀ h, h < qH A → K h ≠ b + 1) (hx : bst A b (R b) (qH A) = x + 1) (ha : askd F K b x K') : CJ A F K' (upn R b (bset (R b) x)) := by
  obtain ⟨d, j2, j3⟩ := j
  have h6 := g.H6
  have p64 : 2 ^ qH A ≤ 2 ^ 6 := Nat.pow_le_pow_right (by decide) h6
  have hRb := j3 b hb
  obtain ⟨x1, x2, x3⟩ := bst_s _ hx
  have bi : ∀ h, h < qH A → (bin (bset (R b) x) h ↔ bin (R b) h ∨ h = x) := fun h hh => bset_in (by omega) (by omega) (by omega)
  have nr : ¬ (bin (R b) x ∧ K x ≠ b + 1) := fun q => x2 q.1
  have best : ∀ h', h' < qH A → ¬ (bin (R b) h' ∧ K h' ≠ b + 1) → h' = x ∨ pfb A b x h' := fun h' hh' q => x3 h' hh' (fun q2 => q ⟨q2, fr h' hh'⟩)
  have r3 : ∀ b', b' < qB A → upn R b (bset (R b) x) b' < 2 ^ qH A := fun b' hb' => by
    by_cases q : b' = b
    · subst q; rw [upn_s]; exact bset_lt hRb x1
    · rw [upn_n q]; exact j3 b' hb'
  have r2 : ∀ h b', h < qH A → upn K x (b + 1) h = b' + 1 → bin (upn R b (bset (R b) x) b') h := fun h b' hh e => by
    by_cases q : h = x
    · subst q
      rw [upn_s] at e
      have : b' = b := by omega
      subst this
      rw [upn_s]
      exact (bi h hh).mpr (Or.inr rfl)
    · rw [upn_n q] at e
      have o := j2 h b' hh e
      by_cases q2 : b' = b
      · subst q2; exact absurd e (fr h hh)
      · rw [upn_n q2]; exact o
  have rb : ∀ b2 h2, h2 < qH A → (bin (upn R b (bset (R b) x) b2) h2 ↔ bin (R b2) h2 ∨ (b2 = b ∧ h2 = x)) := fun b2 h2 hh2 => by
    by_cases q : b2 = b
    · subst q; rw [upn_s, bi h2 hh2]; exact ⟨fun z => z.imp id (fun z => ⟨rfl, z⟩), fun z => z.imp id (fun z => z.2)⟩
    · rw [upn_n q]; exact ⟨Or.inl, fun z => z.resolve_right (fun z => q z.1)⟩
  rcases ha with ⟨k0, rfl⟩ | ⟨b0, k0, ⟨w, rfl⟩ | ⟨w, rfl⟩⟩
  · refine ⟨d.fill hb x1 fr nr best k0 (fun b2 h2 hb2 hh2 => ?_), r2, r3⟩
    rw [rb b2 h2 hh2]
    by_cases q : h2 = x
    · subst q
      rw [upn_s, k0]
      constructor
      · rintro ⟨z1 | z1, z2⟩
        · exact ⟨z1, by omega⟩
        · exact absurd (by rw [z1.1]) z2
      · rintro ⟨z1, z2⟩
        refine ⟨Or.inl z1, fun z => ?_⟩
        have : b2 = b := by omega
        subst this
        exact x2 z1
    · rw [upn_n q]
      exact ⟨fun z => ⟨z.1.resolve_right (fun y => q y.2), z.2⟩, fun z => ⟨Or.inl z.1, z.2⟩⟩
  · have ne : b ≠ b0 := fun z => fr x x1 (by rw [z]; exact k0)
    refine ⟨d.win hb x1 fr nr best k0 w (fun b2 h2 hb2 hh2 => ?_), r2, r3⟩
    rw [rb b2 h2 hh2]
    by_cases q : h2 = x
    · subst q
      rw [upn_s, k0]
      constructor
      · rintro ⟨z1 | z1, z2⟩
        · by_cases y : b2 = b0
          · exact Or.inr ⟨y, rfl⟩
          · exact Or.inl ⟨z1, by omega⟩
        · exact absurd (by rw [z1.1]) z2
      · rintro (⟨z1, z2⟩ | ⟨z1, -⟩)
        · refine ⟨Or.inl z1, fun z => ?_⟩
          have : b2 = b := by omega
          subst this
          exact x2 z1
        · subst z1
          exact ⟨Or.inl (j2 h2 b2 hh2 k0), by omega⟩
    · rw [upn_n q]
      exact ⟨fun z => Or.inl ⟨z.1.resolve_right (fun y => q y.2), z.2⟩, fun z => by
        rcases z with z | z
        · exact ⟨Or.inl z.1, z.2⟩
        · exact absurd z.2 q⟩
  · refine ⟨d.lose hb x1 fr k0 w (fun b2 h2 hb2 hh2 => ?_), fun h b' hh e => ?_, r3⟩
    · rw [rb b2 h2 hh2]
      constructor
      · rintro ⟨z1 | z1, z2⟩
        · exact Or.inl ⟨z1, z2⟩
        · exact Or.inr z1
      · rintro (⟨z1, z2⟩ | ⟨z1, z2⟩)
        · exact ⟨Or.inl z1, z2⟩
        · refine ⟨Or.inr ⟨z1, z2⟩, ?_⟩
          subst z1; subst z2
          exact fr h2 hh2
    · exact (rb b' h hh).mpr (Or.inl (j2 h b' hh e))
/-- the model's: what is refused -/
def askm (F : qT) (K R : Nat → Nat) (b x : Nat) (K' R' : Nat → Nat) : Prop := (K x = 0 ∧ K' = upn K x (b + 1) ∧ R' = R) ∨ ∃ b0, K x = b0 + 1 ∧ ((pfh F b b0 ∧ K' = upn K x (b + 1) ∧ R' = upn R b0 (bset (R b0) x)) ∨ (¬ pfh F b b0 ∧ K' = K ∧ R' = upn R b (bset (R b) x)))
theorem MJ.step {R' : Nat → Nat} (g : qG A) (j : MJ A F K R) (hb : b < qB A) (fr : ∀ h, h < qH A → K h ≠ b + 1) (hx : bst A b (R b) (qH A) = x + 1) (ha : askm F K R b x K' R') : MJ A F K' R' ∧ mU A R' + mE A K' < mU A R + mE A K := by
  obtain ⟨d, j3⟩ := j
  have h6 := g.H6
  have hRb := j3 b hb
  obtain ⟨x1, x2, x3⟩ := bst_s _ hx
  have up : ∀ b1, b1 < qB A → (∀ b', b' < qB A → upn R b1 (bset (R b1) x) b' < 64) ∧ ∀ b2 h2, h2 < qH A → (bin (upn R b1 (bset (R b1) x) b2) h2 ↔ bin (R b2) h2 ∨ (b2 = b1 ∧ h2 = x)) := fun b1 hb1 => by
    have hR1 := j3 b1 hb1
    refine ⟨fun b' hb' => ?_, fun b2 h2 hh2 => ?_⟩
    · by_cases q : b' = b1
      · subst q; rw [upn_s]; exact bset_lt (B := 6) hR1 (by omega)
      · rw [upn_n q]; exact j3 b' hb'
    · by_cases q : b2 = b1
      · subst q
        rw [upn_s, bset_in (by omega) (by omega) (by omega)]
        exact ⟨fun z => z.imp id (fun z => ⟨rfl, z⟩), fun z => z.imp id (fun z => z.2)⟩
      · rw [upn_n q]; exact ⟨Or.inl, fun z => z.resolve_right (fun z => q z.1)⟩
  rcases ha with ⟨k0, rfl, rfl⟩ | ⟨b0, k0, ⟨w, rfl, rfl⟩ | ⟨w, rfl, rfl⟩⟩
  · have := mE_up (b := b) x1 k0
    exact ⟨⟨d.fill hb x1 fr x2 x3 k0 (fun _ _ _ _ => Iff.rfl), j3⟩, by omega⟩
  · have hl := d.1 x x1
    have hb0 : b0 < qB A := by omega
    have nb := (d.2.1 x b0 x1 k0).1
    have hR0 := j3 b0 hb0
    have m1 := mU_up g hb0 (by omega) x1 nb
    have m2 := mE_le (A := A) (b := b) (show K x ≠ 0 by omega)
    exact ⟨⟨d.win hb x1 fr x2 x3 k0 w (fun b2 h2 _ hh2 => (up b0 hb0).2 b2 h2 hh2), (up b0 hb0).1⟩, by omega⟩
  · have m1 := mU_up g hb (by omega) x1 x2
    exact ⟨⟨d.lose hb x1 fr k0 w (fun b2 h2 _ hh2 => (up b hb).2 b2 h2 hh2), (up b hb).1⟩, by omega⟩
end MT2
