/-! dreads of all cells; trusts that can be -/
def lfr (A F : qT) (b c : Nat) : Nat := if qkd A c = 4 then 1000000 else fer A F b c 0
def tLo (f g : Nat → Nat) : Nat → Nat
  | 0 => 0
  | i + 1 => if g i = 1 then max (tLo f g i) (f i) else tLo f g i
def tUp (f g : Nat → Nat) : Nat → Nat
  | 0 => 100
  | i + 1 => if g i = 1 then tUp f g i else min (tUp f g i) (f i)
theorem tLo_le {f g : Nat → Nat} (h : ∀ i, f i ≤ 99) : ∀ n, tLo f g n ≤ 99
  | 0 => Nat.zero_le _
  | n + 1 => by
    have := tLo_le (g := g) h n
    have := h n
    unfold tLo
    split <;> omega
theorem tUp_le {f g : Nat → Nat} : ∀ n, tUp f g n ≤ 100
  | 0 => Nat.le_refl _
  | n + 1 => by
    have := tUp_le (f := f) (g := g) n
    unfold tUp
    split <;> omega
theorem tr_iff {f g : Nat → Nat} {t : Nat} (ht : t < 100) : ∀ n, (∀ i, i < n → (f i ≤ t ↔ g i = 1)) ↔ tLo f g n ≤ t ∧ t < tUp f g n
  | 0 => ⟨fun _ => ⟨Nat.zero_le _, ht⟩, fun _ i hi => absurd hi (Nat.not_lt_zero _)⟩
  | n + 1 => by
    have ih := tr_iff (f := f) (g := g) ht n
    have e1 : tLo f g (n + 1) = if g n = 1 then max (tLo f g n) (f n) else tLo f g n := rfl
    have e2 : tUp f g (n + 1) = if g n = 1 then tUp f g n else min (tUp f g n) (f n) := rfl
    rw [e1, e2]
    constructor
    · intro q
      have h1 := ih.mp (fun i hi => q i (by omega))
      have h2 := q n (by omega)
      by_cases z : g n = 1
      · rw [if_pos z, if_pos z]
        have := h2.mpr z
        omega
      · rw [if_neg z, if_neg z]
        have := mt h2.mp z
        omega
    · intro q i hi
      by_cases z : g n = 1
      · rw [if_pos z, if_pos z] at q
        by_cases ei : i = n
        · subst ei; exact ⟨fun _ => z, fun _ => by omega⟩
        · exact ih.mpr ⟨by omega, q.2⟩ i (by omega)
      · rw [if_neg z, if_neg z] at q
        by_cases ei : i = n
        · subst ei; exact ⟨fun w => by omega, fun w => absurd w z⟩
        · exact ih.mpr ⟨q.1, by omega⟩ i (by omega)
/-- what the model leaves alone, but for the cells of L -/
def MG (L : List Nat) (h0 h : gH) : Prop := gEq L h0 h ∧ (∀ j, j ≠ 66 → h.1 82 j = h0.1 82 j) ∧ h.2.1 82 = h0.2.1 82
section LF
variable {l : Launch} {G : gG} {d : Nat} {Q : Option Value → gH → Prop} {h h0 : gH} {lk sp : Nat} {cd : Option Nat} {A F : qT} {T n b : Nat} {L : List Nat}
theorem MG.rf : MG L h h := ⟨gEq.rf _ _, fun _ _ => rfl, rfl⟩
theorem MG.mf {h1 h2 : gH} (a : MG L h h1) (b : MF h1 h2) (hL : ∀ x, x ∈ [82, 131, 132] → x ∈ L) : MG L h h2 := ⟨(a.1.tr b.1).mono (fun x hx => by rcases List.mem_append.mp hx with z | z; exact z; exact hL x z), fun j hj => (b.2.1 j hj).trans (a.2.1 j hj), b.2.2.trans a.2.2⟩
theorem MG.si {h1 : gH} {k i : Nat} {x : Int32} (a : MG L h h1) (hk : k ∈ L) (h82 : k ≠ 82) : MG L h (sI h1 k i x) := ⟨gE1 hk a.1, fun j hj => by rw [sI_ne (fun z => h82 z.symm)]; exact a.2.1 j hj, a.2.2⟩
theorem KM.mg (k : KM A F h) {h1 : gH} (e : MG L h h1) (hL : ∀ x, x ∈ L → x ≠ 133 ∧ ¬ (119 ≤ x ∧ x ≤ 129)) : KM A F h1 := k.eq e.1 hL (e.2.1 58 (by decide))
theorem lfr_le (g : qG A) (c : Nat) : lfr A F b c ≤ 1000000 := by
  have := fer_le (A := A) (F := F) (b := b) (c := c) (bo := 0) g
  unfold lfr
  split <;> omega
theorem m_laysFears (hw : gWf h lk sp cd) (k : KM A F h) (hb : b < qB A) (hq : ∀ h', MG [82, 131, 132, 135] h h' → (∀ c, c < qN A → h'.1 135 c = nI (lfr A F b c)) → Q none h') : gC l G (d + 6) MX12_laysFears [.ref 82, .int (nI b)] h Q := by
  have h48 := k.g.N48
  refine eX12_laysFears hw (fun p e s m args below meth cc => ?_)
  suffices H : ∀ r c h', c + r = qN A → MG [82, 131, 132, 135] h h' → (∀ c', c' < c → h'.1 135 c' = nI (lfr A F b c')) → gg p l e s m args below meth cc G (d + 5 + 1) MX12_laysFears Q 2 [some (.ref 82), some (.int (nI b)), some (.int (nI c))] [] h' from H (qN A) 0 h (by omega) MG.rf (fun c hc => absurd hc (Nat.not_lt_zero _))
  intro r
  induction r with
  | zero =>
    intro c h' hc e1 v1
    have hwh := hw.eq e1.1
    have k1 := k.mg e1 (fun x hx => by simp at hx; omega)
    exact wX12_laysFears_2 hwh.1 hwh.2.1 hwh.2.2.1 (m_cellMany hwh k1.l ⟨_, rfl, rfl, bY (nI_le (by omega) (by omega)) (hq h' e1 (fun c' hc' => v1 c' (by omega)))⟩)
  | succ r ih =>
    intro c h' hc e1 v1
    have hwh := hw.eq e1.1
    have k1 := k.mg e1 (fun x hx => by simp at hx; omega)
    refine wX12_laysFears_2 hwh.1 hwh.2.1 hwh.2.2.1 (m_cellMany hwh k1.l ⟨_, rfl, rfl, bN (nI_ge (by omega) (by omega)) (m_isLand hwh k.g k1.l (by omega) (fun z => ⟨_, rfl, rfl, bN (by decide) ⟨vp_in_nI (by omega) (by decide), ?_⟩⟩) (fun z => ⟨_, rfl, rfl, bY rfl (m_dreadOf (bo := 0) hwh k1 hb ⟨by omega, z⟩ (by decide) (fun h2 e2 => ⟨_, rfl, e2.1.2, vp_in_nI (by omega) (by decide), ?_⟩))⟩))⟩)
    · rw [nI_clamp (by omega), nI_1]
      refine ih (c + 1) _ (by omega) (e1.si (by decide) (by decide)) (fun c' hc' => ?_)
      by_cases ec : c' = c
      · subst ec
        rw [sI_s]
        unfold lfr
        rw [if_pos z]
        rfl
      · rw [sI_nb ec]; exact v1 c' (by omega)
    · rw [nI_clamp (by omega), nI_1]
      have e3 := e1.mf e2 (by decide)
      refine ih (c + 1) _ (by omega) (e3.si (by decide) (by decide)) (fun c' hc' => ?_)
      by_cases ec : c' = c
      · subst ec
        rw [sI_s]
        unfold lfr
        rw [if_neg z]
      · rw [sI_nb ec, (e2.1.1 135 (by decide)).1]; exact v1 c' (by omega)
/-- the trials, as both have them -/
def TT (A : qT) (h : gH) (n b : Nat) (tc tg : Nat → Nat) : Prop := 0 < n ∧ n ≤ 20 ∧ b < qB A ∧ h.1 58 4 = nI n ∧ h.1 82 76 = nI n ∧ h.1 58 3 = nI b ∧ h.1 82 77 = nI b ∧ ∀ i, i < n → qW A (tc i) ∧ tg i ≤ 1 ∧ h.1 59 i = nI (tc i) ∧ h.1 141 (2 * i) = nI (tc i) ∧ h.1 60 i = nI (tg i) ∧ h.1 141 (2 * i + 1) = nI (tg i)
theorem RT.tt (g : qG A) (q : RT A h) : (h.1 58 4 = 0 ∧ h.1 82 76 = 0) ∨ ∃ n b tc tg, TT A h n b tc tg := by
  have h48 := g.N48
  obtain ⟨⟨t, t1, t2, t3, t4, t5⟩, -⟩ := q
  rcases Nat.eq_zero_or_pos t with z | z
  · subst z; exact Or.inl ⟨t2, t3⟩
  · obtain ⟨b, b1, b2, b3⟩ := t4 z
    refine Or.inr ⟨t, b, fun i => (h.1 59 i).toNatClampNeg, fun i => (h.1 60 i).toNatClampNeg, z, t1, b1, t2, t3, b2, b3, fun i hi => ?_⟩
    obtain ⟨c, g9, c1, c2, c3, c4, c5, c6, c7⟩ := t5 i hi
    have e1 : (h.1 59 i).toNatClampNeg = c := by rw [c4, nI_clamp (by omega)]
    have e2 : (h.1 60 i).toNatClampNeg = g9 := by rw [c6, nI_clamp (by omega)]
    show qW A (h.1 59 i).toNatClampNeg ∧ (h.1 60 i).toNatClampNeg ≤ 1 ∧ h.1 59 i = nI (h.1 59 i).toNatClampNeg ∧ h.1 141 (2 * i) = nI (h.1 59 i).toNatClampNeg ∧ h.1 60 i = nI (h.1 60 i).toNatClampNeg ∧ h.1 141 (2 * i + 1) = nI (h.1 60 i).toNatClampNeg
    rw [e1, e2]
    exact ⟨⟨c1, c2⟩, c3, c4, c5, c6, c7⟩
/-- what the class's trials leave alone -/
def CT8 (h0 h : gH) : Prop := gEq [45, 46, 48, 58] h0 h ∧ ∀ j, j < 5 → h.1 58 j = h0.1 58 j
theorem c_findTrusts {tc tg : Nat → Nat} (hw : gWf h lk sp cd) (k : KC A F T lk h) (t : TT A h n b tc tg) (hq : ∀ h', CT8 h h' → h'.1 58 5 = nI (tLo (fun i => fer A F b (tc i) 0) tg n) → h'.1 58 6 = nI (tUp (fun i => fer A F b (tc i) 0) tg n) - 1 → Q (some (.int (nI (tUp (fun i => fer A F b (tc i) 0) tg n - tLo (fun i => fer A F b (tc i) 0) tg n)))) h') : gC l G (d + 5) MX8_findTrusts [.ref 58] h Q := by
  obtain ⟨n1, n2, hb, t1, t2, t3, t4, t5⟩ := t
  have h48 := k.g.N48
  have fl : ∀ i, fer A F b (tc i) 0 ≤ 99 := fun i => fer_le k.g
  have lo := tLo_le (f := fun i => fer A F b (tc i) 0) (g := tg) fl
  have up := tUp_le (f := fun i => fer A F b (tc i) 0) (g := tg)
  refine eX8_findTrusts hw (fun p e s m args below meth cc => ?_)
  suffices H : ∀ r i h', i + r = n → CT8 h h' → h'.1 58 5 = nI (tLo (fun i => fer A F b (tc i) 0) tg i) → h'.1 58 6 = nI (tUp (fun i => fer A F b (tc i) 0) tg i) - 1 → gg p l e s m args below meth cc G (d + 4 + 1) MX8_findTrusts Q 13 [some (.ref 58), some (.int (nI i)), none] [] h' from H n 0 _ (by omega) ⟨gE1 (by decide) (gE1 (by decide) (gEq.rf _ _)), fun j hj => by rw [sI_nb (by omega), sI_nb (by omega)]⟩ (by rw [sI_nb (by decide)]; exact sI_s _ _ _ _) (by rw [sI_s]; show (99 : Int32) = nI 100 - 1; decide)
  intro r
  induction r with
  | zero =>
    intro i h' hi e1 v5 v6
    have : i = n := by omega
    subst this
    have hwh := hw.eq e1.1
    have l1 := lo i
    have l2 := up i
    refine wX8_findTrusts_13 hwh.1 hwh.2.1 hwh.2.2.1 (bY (by rw [e1.2 4 (by decide), t1]; exact Int32.le_refl _) ?_)
    have hq := hq h' e1 v5 v6
    rw [v5, v6]
    generalize tLo (fun i => fer A F b (tc i) 0) tg i = X at *
    generalize tUp (fun i => fer A F b (tc i) 0) tg i = Y at *
    have e9 : (if 0 < nI Y - 1 - nI X + 1 then nI Y - 1 - nI X + 1 else 0) = nI (Y - X) := by
      have ev : nI Y - 1 - nI X + 1 = iI ((Y : Int) - X) := by
        rw [iI_nat (show Y < 2 ^ 31 by omega), iI_nat (show X < 2 ^ 31 by omega), show (1 : Int32) = iI 1 by decide, iI_sub, iI_sub]
        refine Int32.toInt_inj.mp ?_
        rw [show iI ((Y : Int) - 1 - X) + iI 1 = iI ((Y : Int) - 1 - X + 1) from (Int32.ofInt_add _ _).symm, show (Y : Int) - 1 - X + 1 = Y - X by omega]
      rw [ev, show (0 : Int32) = iI 0 by decide]
      by_cases z : X < Y
      · rw [if_pos ((iI_lt (by omega) (by omega) (by omega) (by omega)).mpr (by omega)), iI_nat (by omega)]
        congr 1
        omega
      · rw [if_neg (mt (iI_lt (by omega) (by omega) (by omega) (by omega)).mp (by omega)), show Y - X = 0 by omega]
        decide
    rw [e9]
    exact hq
  | succ r ih =>
    intro i h' hi e1 v5 v6
    have hwh := hw.eq e1.1
    have k1 : KC A F T lk h' := k.eq hw e1.1 (fun x hx => by simp at hx; omega)
    obtain ⟨s1, s2, s3, s4, s5, s6⟩ := t5 i (by omega)
    have l1 := lo i
    have l2 := up i
    have l3 := fl i
    have hs1 := s1.1
    refine wX8_findTrusts_13 hwh.1 hwh.2.1 hwh.2.2.1 (bN (by rw [e1.2 4 (by decide), t1]; exact nI_ge (by omega) (by omega)) (bN (nI_ge (b := 20) (by omega) (by decide)) ⟨vp_in_nI (by omega) (by decide), ?_⟩))
    rw [nI_clamp (by omega), e1.2 3 (by decide), t3, (e1.1.1 59 (by decide)).1, s3]
    refine c_fearOf (bo := 0) hwh k1 hb s1.1 (by decide) (fun h2 e2 => ⟨_, rfl, e2.2, vp_in_nI (by omega) (by decide), ?_⟩)
    have c58 := (e2.1 58 (by decide)).1
    have e3 : CT8 h h2 := ⟨(e1.1.tr e2).mono (fun x hx => by simp at hx ⊢; omega), fun j hj => by rw [c58]; exact e1.2 j hj⟩
    rw [(e3.1.1 60 (by decide)).1, s5, c58, v5, v6, nI_1]
    have eLo : tLo (fun i => fer A F b (tc i) 0) tg (i + 1) = if tg i = 1 then max (tLo (fun i => fer A F b (tc i) 0) tg i) (fer A F b (tc i) 0) else tLo (fun i => fer A F b (tc i) 0) tg i := rfl
    have eUp : tUp (fun i => fer A F b (tc i) 0) tg (i + 1) = if tg i = 1 then tUp (fun i => fer A F b (tc i) 0) tg i else min (tUp (fun i => fer A F b (tc i) 0) tg i) (fer A F b (tc i) 0) := rfl
    have g1 : nI (tg i) = 1 ↔ tg i = 1 := nI_eq (b := 1) (by omega) (by decide)
    rw [g1]
    have wk : ∀ (s : Nat) (v : Int32), 5 ≤ s → CT8 h (sI h2 58 s v) := fun s v hs => ⟨gE1 (by decide) e3.1, fun j hj => by rw [sI_nb (by omega)]; exact e3.2 j hj⟩
    refine ⟨fun z => ?_, fun z => ?_⟩
    · refine ih (i + 1) _ (by omega) (wk 6 _ (by decide)) ?_ ?_
      · rw [sI_nb (by decide), c58, v5, eLo, if_neg z]
      · rw [sI_s, eUp, if_neg z]
        generalize tUp (fun i => fer A F b (tc i) 0) tg i = Y at *
        generalize fer A F b (tc i) 0 = X at *
        have o1 : nI X - 1 = iI ((X : Int) - 1) := by rw [iI_nat (show X < 2 ^ 31 by omega), show (1 : Int32) = iI 1 by decide, iI_sub]
        have o2 : nI Y - 1 = iI ((Y : Int) - 1) := by rw [iI_nat (show Y < 2 ^ 31 by omega), show (1 : Int32) = iI 1 by decide, iI_sub]
        have o3 : nI (min Y X) - 1 = iI (((min Y X : Nat) : Int) - 1) := by rw [iI_nat (show min Y X < 2 ^ 31 by omega), show (1 : Int32) = iI 1 by decide, iI_sub]
        rw [o1, o2, o3]
        by_cases zz : X < Y
        · rw [if_pos ((iI_lt (by omega) (by omega) (by omega) (by omega)).mpr (by omega)), show min Y X = X by omega]
        · rw [if_neg (mt (iI_lt (by omega) (by omega) (by omega) (by omega)).mp (by omega)), show min Y X = Y by omega]
    · refine ih (i + 1) _ (by omega) (wk 5 _ (by decide)) ?_ ?_
      · rw [sI_s, eLo, if_pos z, i_max (by omega) (by omega)]
      · rw [sI_nb (by decide), c58, v6, eUp, if_pos z]
/-- whether the model finds that a trust can be -/
theorem m_canTrust {tc tg : Nat → Nat} {x : Nat} (hw : gWf h lk sp cd) (g : qG A) (hn2 : n ≤ 20) (t2 : h.1 82 76 = nI n) (t5 : ∀ i, i < n → qW A (tc i) ∧ tg i ≤ 1 ∧ h.1 141 (2 * i) = nI (tc i) ∧ h.1 141 (2 * i + 1) = nI (tg i)) (hf : ∀ c, c < qN A → h.1 135 c = nI (lfr A F b c)) (hx : x < 100) (hy : tLo (fun i => fer A F b (tc i) 0) tg n ≤ x → x < tUp (fun i => fer A F b (tc i) 0) tg n → Q (some (.int 1)) h) (hno : ¬ (tLo (fun i => fer A F b (tc i) 0) tg n ≤ x ∧ x < tUp (fun i => fer A F b (tc i) 0) tg n) → Q (some (.int 0)) h) : gC l G d MX12_canTrust [.ref 82, .int (nI x)] h Q := by
  have h48 := g.N48
  have fl : ∀ i, fer A F b (tc i) 0 ≤ 99 := fun i => fer_le g
  have ti := tr_iff (f := fun i => fer A F b (tc i) 0) (g := tg) hx n
  have hno : ∀ i, i < n → ¬ (fer A F b (tc i) 0 ≤ x ↔ tg i = 1) → Q (some (.int 0)) h := fun i hi q => hno (fun q2 => q (ti.mpr q2 i hi))
  have hy : (∀ i, i < n → (fer A F b (tc i) 0 ≤ x ↔ tg i = 1)) → Q (some (.int 1)) h := fun q => hy (ti.mp q).1 (ti.mp q).2
  refine eX12_canTrust hw (fun p e s m args below meth cc => ?_)
  suffices H : ∀ r i, i + r = n → (∀ i', i' < i → (fer A F b (tc i') 0 ≤ x ↔ tg i' = 1)) → gg p l e s m args below meth cc G d MX12_canTrust Q 2 [some (.ref 82), some (.int (nI x)), some (.int (nI i))] [] h from H n 0 (by omega) (fun i hi => absurd hi (Nat.not_lt_zero _))
  intro r
  induction r with
  | zero =>
    intro i hi ho
    have : i = n := by omega
    subst this
    exact wX12_canTrust_2 hw.1 hw.2.1 hw.2.2.1 (bY (by rw [t2]; exact Int32.le_refl _) (hy ho))
  | succ r ih =>
    intro i hi ho
    obtain ⟨s1, s2, s3, s4⟩ := t5 i (by omega)
    have l3 := fl i
    have hs1 := s1.1
    have e2 : (2 : Int32) * nI i = nI (2 * i) := by rw [lit 2, pk_mul]
    have ef : lfr A F b (tc i) = fer A F b (tc i) 0 := if_neg s1.2
    refine wX12_canTrust_2 hw.1 hw.2.1 hw.2.2.1 (bN (by rw [t2]; exact nI_ge (by omega) (by omega)) ?_)
    rw [e2, nI_1, nI_clamp (show 2 * i < 2 ^ 31 by omega), nI_clamp (show 2 * i + 1 < 2 ^ 31 by omega), s3, s4, nI_clamp (show tc i < 2 ^ 31 by omega), hf _ s1.1, ef, nI_ltI (by omega) (by omega), nI_1]
    have nx : (fer A F b (tc i) 0 ≤ x ↔ tg i = 1) → gg p l e s m args below meth cc G d MX12_canTrust Q 2 [some (.ref 82), some (.int (nI x)), some (.int (nI (i + 1)))] [] h := fun q => ih (i + 1) (by omega) (fun i' hi' => by
      by_cases ei : i' = i
      · subst ei; exact q
      · exact ho i' (by omega))
    have z0 : (0 : Int32) = nI (tg i) ↔ tg i = 0 := by rw [show (0 : Int32) = nI 0 from rfl, nI_eq (by decide) (by omega)]; omega
    have z1 : (1 : Int32) = nI (tg i) ↔ tg i = 1 := by rw [show (1 : Int32) = nI 1 from rfl, nI_eq (by decide) (by omega)]; omega
    rw [z0, z1]
    refine ⟨vp_in_nI (by omega) (by decide), vp_in_nI (by omega) (by decide), fun z => ⟨vp_in_nI (by omega) (by decide), fun q => nx ⟨fun q2 => by omega, fun q2 => by omega⟩, fun q => hno i (by omega) (fun q2 => ?_)⟩, fun z => ⟨vp_in_nI (by omega) (by decide), fun q => nx ⟨fun _ => q, fun _ => by omega⟩, fun q => hno i (by omega) (fun q2 => q (q2.mp (by omega)))⟩⟩
    have := q2.mpr (by omega)
    omega
end LF
