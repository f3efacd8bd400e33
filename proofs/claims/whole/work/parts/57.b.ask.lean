/-- how many boats are in a cell -/
def crw (F : qT) (B : Nat) (v : Int32) : Nat := pcn (fbt F v B).toNatClampNeg
def Cq (A F : qT) : Int → Int := fun x => if 0 ≤ x ∧ x < 48 then (crw F (qB A) (iI x) : Nat) else 0
/-- what the words of a question are worth at cell c, for boat b -/
def Vn (A F : qT) (b c u : Nat) : Nat := if u = 24 then c else if u = 25 then c % qC A else if u = 26 then c / qC A else if u = 12 then (if qkd A c = 4 then 99 else fer A F b c 0) else vals A F b c 0 0 u
def Vq (A F : qT) (b c : Nat) : Nat → Int := fun u => (Vn A F b c u : Nat)
section QV
variable {l : Launch} {G : gG} {d : Nat} {Q : Option Value → gH → Prop} {h h0 h1 h2 : gH} {lk sp : Nat} {cd : Option Nat} {A F : qT} {b c : Nat}
theorem crw_m (F : qT) (v : Int32) {B : Nat} (hB : B ≤ 6) : ∃ M, M < 64 ∧ fbt F v B = nI M ∧ crw F B v = pcn M ∧ pcn M ≤ 6 := by
  obtain ⟨M, m1, m2, _⟩ := fbt_m F v B hB
  have m64 : M < 64 := Nat.lt_of_lt_of_le m1 (Nat.pow_le_pow_right (by decide) hB)
  refine ⟨M, m64, m2, ?_, ?_⟩
  · unfold crw
    rw [m2, nI_clamp (by omega)]
  · have : ∀ M, M < 64 → pcn M ≤ 6 := by decide
    exact this M m64
theorem fbt_0 {v : Int32} : ∀ k, (∀ b, b < k → nI (fc F b) ≠ v) → fbt F v k = 0
  | 0, _ => rfl
  | k + 1, h => by
    show (if nI (fc F k) = v then _ else fbt F v k) = 0
    rw [if_neg (h k (Nat.lt_succ_self _))]
    exact fbt_0 k (fun b hb => h b (Nat.lt_succ_of_lt hb))
theorem Cq_m (g : qG A) (x : Int) : mil (Cq A F x) := by
  unfold Cq
  split
  · obtain ⟨M, _, _, m3, m4⟩ := crw_m F (iI x) g.B6
    rw [m3]
    constructor <;> omega
  · exact ⟨by decide, by decide⟩
theorem Cq_o (x : Int) (h : x < 0 ∨ 48 ≤ x) : Cq A F x = 0 := if_neg (by omega)
theorem Cq_n (g : qG A) (f : fG A F) {x : Int} (h : ¬ (0 ≤ x ∧ x ≤ (qN A : Int) - 1)) : Cq A F x = 0 := by
  have N48 := g.N48
  unfold Cq
  split
  · rename_i hx
    have z : fbt F (iI x) (qB A) = 0 := fbt_0 _ (fun b hb e => by
      have f1 := (f.2.2.2.1 b hb).1
      rw [iI_nat (by omega), iI_eq (by omega) (by omega) (by omega) (by omega)] at e
      omega)
    unfold crw
    rw [z]; rfl
  · rfl
theorem Vn_le (g : qG A) (f : fG A F) (hb : b < qB A) (hc : c < qN A) {u : Nat} (hu : u ∈ [24, 25, 26, 16, 17, 18, 12, 3]) : Vn A F b c u ≤ 99 := by
  have N48 := g.N48
  have r := qrow g hc
  have C8 := g.C8
  have R6 := g.R6
  have hu : u = 24 ∨ u = 25 ∨ u = 26 ∨ u = 16 ∨ u = 17 ∨ u = 18 ∨ u = 12 ∨ u = 3 := by simpa using hu
  rcases hu with z | z | z | z | z | z | z | z <;> subst z
  · show c ≤ 99; omega
  · show c % qC A ≤ 99; omega
  · show c / qC A ≤ 99; omega
  · show qdp A c ≤ 99
    have := qdp_le (c := c) g
    omega
  · show qwr A c ≤ 99
    unfold qwr; split <;> omega
  · show qhm A c (qN A) ≤ 99
    exact qhm_lt c _
  · show (if qkd A c = 4 then 99 else fer A F b c 0) ≤ 99
    split
    · omega
    · exact fer_le g
  · show ft F b ≤ 99
    exact (f.2.2.2.1 b hb).2.2.1
theorem lIn {k : Nat} (hk : k < 2 ^ 31) : (nI k).toInt64 = lI (k : Nat) := by rw [iI_nat hk]; exact iI_l (by omega) (by omega)
/-- the model's frame while it reckons a question -/
def MU (h0 h : gH) : Prop := gEq [82, 131, 132, 166] h0 h ∧ (∀ j, j ≠ 66 → j ≠ 112 → h.1 82 j = h0.1 82 j) ∧ h.2.1 82 = h0.2.1 82
theorem MU.rf : MU h h := ⟨gEq.rf _ _, fun _ _ _ => rfl, rfl⟩
theorem MU.tr (a : MU h h1) (e : MU h1 h2) : MU h h2 := ⟨(a.1.tr e.1).mono (fun x hx => by simp at hx ⊢; omega), fun j x y => (e.2.1 j x y).trans (a.2.1 j x y), e.2.2.trans a.2.2⟩
theorem MF.mu (e : MF h h1) : MU h h1 := ⟨e.1.mono (fun x hx => by simp at hx ⊢; omega), fun j x _ => e.2.1 j x, e.2.2⟩
theorem MU.put (e : MU h0 h) (n : Nat) (v : Int64) (m : Nat) : MU h0 (sI (sL h 166 n v) 82 112 (nI m)) := by
  obtain ⟨e1, e2, e3⟩ := e
  refine ⟨((e1.tr (gEq.sL h 166 n v)).tr (gEq.sI _ 82 112 (nI m))).mono (fun x hx => by simp at hx ⊢; omega), fun j _ hj => ?_, ?_⟩
  · rw [sI_nb hj]
    exact e2 j (by assumption) hj
  · show (sL h 166 n v).2.1 82 = _
    rw [sL_na (by decide)]
    exact e3
theorem MU.si (e : MU h0 h) (v : Int32) : MU h0 (sI h 82 112 v) := ⟨(e.1.tr (gEq.sI h 82 112 v)).mono (fun x hx => by simp at hx ⊢; omega), fun j x y => by rw [sI_nb y]; exact e.2.1 j x y, e.2.2⟩
theorem MU.sl (e : MU h0 h) (n : Nat) (v : Int64) : MU h0 (sL h 166 n v) := ⟨(e.1.tr (gEq.sL h 166 n v)).mono (fun x hx => by simp at hx ⊢; omega), fun j x y => e.2.1 j x y, by rw [sL_na (by decide)]; exact e.2.2⟩
theorem KM.mu (k : KM A F h) (e : MU h h1) : KM A F h1 := k.eq e.1 (fun x hx => by simp at hx; omega) (e.2.1 58 (by decide) (by decide))
theorem m_qPartOf {j : Nat} (hw : gWf h lk sp cd) (k : KM A F h) (hb : b < qB A) (hc : c < qN A) (h83 : h.1 82 83 = nI b) (hj : j < 8) (hq : ∀ h', MF h h' → Q (some (.long (lI (Vq A F b c (qwd j))))) h') : gC l G (d + 6) MX12_qPartOf [.ref 82, .int (nI j), .int (nI c)] h Q := by
  have g := k.g
  have N48 := g.N48
  have r := qrow g hc
  have C8 := g.C8
  have R6 := g.R6
  have E : ∀ c : Nat, c < 9 → (nI j = nI c ↔ j = c) := fun c hc => nI_eq (by omega) (by omega)
  have B6 := g.B6
  have n0 : ¬ nI (qC A) = 0 := fun y => by
    have : qC A = 0 := (nI_eq (b := 0) (by omega) (by decide)).mp y
    omega
  refine eX12_qPartOf hw ⟨fun z => ?_, fun z => ?_, fun z => ?_, fun z => ?_, fun z => ?_, fun z => ?_, fun z => ?_, fun z0 z1 z2 z3 z4 z5 z6 => ?_⟩
  · have : j = 0 := (E 0 (by decide)).mp z
    subst this
    rw [lIn (by omega)]
    exact hq h MF.rf
  · have : j = 1 := (E 1 (by decide)).mp z
    subst this
    refine m_columns hw k.l ⟨_, rfl, rfl, n0, ?_⟩
    rw [pk_rem (by omega) r.2.2 (by omega), lIn (by omega)]
    exact hq h MF.rf
  · have : j = 2 := (E 2 (by decide)).mp z
    subst this
    refine m_columns hw k.l ⟨_, rfl, rfl, n0, ?_⟩
    rw [pk_div (by omega) r.2.2 (by omega), lIn (by omega)]
    exact hq h MF.rf
  · have : j = 3 := (E 3 (by decide)).mp z
    subst this
    have e0 : Vq A F b c (qwd 3) = (qdp A c : Nat) := rfl
    have hq := hq
    rw [e0] at hq
    refine m_isLand (d := d + 3) hw g k.l hc (fun z4 => ⟨_, rfl, rfl, bN (by decide) ?_⟩) (fun z4 => ⟨_, rfl, rfl, bY rfl (m_depthOf (d := d + 2) hw g k.l ⟨hc, z4⟩ ⟨_, rfl, rfl, ?_⟩)⟩)
    · have : qdp A c = 0 := if_pos z4
      have q0 := hq h MF.rf
      rw [this] at q0
      exact q0
    · have := qdp_le (c := c) g
      rw [lIn (by omega)]
      exact hq h MF.rf
  · have : j = 4 := (E 4 (by decide)).mp z
    subst this
    have e0 : Vq A F b c (qwd 4) = (qwr A c : Nat) := rfl
    have hq := hq
    rw [e0] at hq
    refine m_isWreck (d := d + 3) hw g k.l hc (fun z4 => ⟨_, rfl, rfl, bN (by decide) ?_⟩) (fun z4 => ⟨_, rfl, rfl, bY rfl ?_⟩)
    · have : qwr A c = 1 := if_pos z4
      have q0 := hq h MF.rf
      rw [this] at q0
      exact q0
    · have : qwr A c = 0 := if_neg z4
      have q0 := hq h MF.rf
      rw [this] at q0
      exact q0
  · have : j = 5 := (E 5 (by decide)).mp z
    subst this
    have := qhm_lt (A := A) c (qN A)
    refine m_homeOf (d := d + 3) hw g k.l hc ⟨_, rfl, rfl, ?_⟩
    rw [lIn (by omega)]
    exact hq h MF.rf
  · have : j = 6 := (E 6 (by decide)).mp z
    subst this
    have e0 : Vq A F b c (qwd 6) = ((if qkd A c = 4 then 99 else fer A F b c 0 : Nat) : Int) := rfl
    have hq := hq
    rw [e0] at hq
    refine m_isLand (d := d + 3) hw g k.l hc (fun z4 => ⟨_, rfl, rfl, bN (by decide) ?_⟩) (fun z4 => ⟨_, rfl, rfl, bY rfl ?_⟩)
    · have q0 := hq h MF.rf
      rw [if_pos z4] at q0
      exact q0
    · rw [h83]
      have := fer_le (F := F) (b := b) (c := c) (bo := 0) g
      refine m_dreadOf (d := d) (bo := 0) hw k hb ⟨hc, z4⟩ (by omega) (fun h1 e1 => ⟨_, rfl, e1.1.2, ?_⟩)
      have q0 := hq h1 e1
      rw [if_neg z4] at q0
      rw [lIn (by omega)]
      exact q0
  · have e0 : j ≠ 0 := fun y => z0 ((E 0 (by decide)).mpr y)
    have e1 : j ≠ 1 := fun y => z1 ((E 1 (by decide)).mpr y)
    have e2 : j ≠ 2 := fun y => z2 ((E 2 (by decide)).mpr y)
    have e3 : j ≠ 3 := fun y => z3 ((E 3 (by decide)).mpr y)
    have e4 : j ≠ 4 := fun y => z4 ((E 4 (by decide)).mpr y)
    have e5 : j ≠ 5 := fun y => z5 ((E 5 (by decide)).mpr y)
    have e6 : j ≠ 6 := fun y => z6 ((E 6 (by decide)).mpr y)
    have : j = 7 := by omega
    subst this
    rw [h83]
    have f1 := (k.f.2.2.2.1 b hb).2.2.1
    refine m_trustOf hw k hb ⟨_, rfl, rfl, ?_⟩
    rw [lIn (by omega)]
    exact hq h MF.rf
theorem m_qOf {x : Int} {a1 : Int32} {a3 : Int32} (hw : gWf h lk sp cd) (k : KM A F h) (hx : mil x) (hq : Q (some (.long (lI (Cq A F x)))) h) : gC l G (d + 2) MX12_qOf [.ref 82, .int a1, .long (lI x), .int a3] h Q := by
  have g := k.g
  have N48 := g.N48
  unfold mil at hx
  have e1 : ((nI (qN A) - 1 : Int32)).toInt64 = lI ((qN A : Int) - 1) := by
    rw [iI_nat (by omega), show (1 : Int32) = iI 1 by decide, iI_sub]
    exact iI_l (by omega) (by omega)
  have o0 : (0 : Int64) = lI 0 := by decide
  refine eX12_qOf hw (m_cellMany (d := d) hw k.l ⟨_, rfl, rfl, ?_⟩)
  rw [e1]
  refine c_isIn hw (fun z1 z2 => ⟨_, rfl, rfl, bN (by decide) ?_⟩) (fun z => ⟨_, rfl, rfl, bY rfl ?_⟩)
  · rw [o0, lI_le (by omega) (by omega) (by omega) (by omega)] at z1
    rw [lI_le (by omega) (by omega) (by omega) (by omega)] at z2
    rw [lI_i]
    obtain ⟨M, m1, m2, m3, m4⟩ := crw_m F (iI x) g.B6
    refine m_boatsIn (d := d) hw k ⟨_, rfl, rfl, ?_⟩
    rw [m2]
    refine m_bits hw m1 ⟨_, rfl, rfl, ?_⟩
    rw [lIn (by omega), ← m3]
    have e : Cq A F x = (crw F (qB A) (iI x) : Nat) := if_pos (by omega)
    rw [← e]
    exact hq
  · rw [o0, lI_le (by omega) (by omega) (by omega) (by omega), lI_le (by omega) (by omega) (by omega) (by omega)] at z
    rw [Cq_n g k.f z] at hq
    exact hq
def MR (V : Nat → Int) (C : Int → Int) (f : Nat → Nat) (h0 : gH) (i : Nat) (h : gH) : Prop := MU h0 h ∧ h.1 82 112 = nI (dpu f i) ∧ ∀ j, j < dpu f i → h.2.1 166 j = lI (evS V C f i j)
theorem MR.mf {V : Nat → Int} {C : Int → Int} {f : Nat → Nat} {i : Nat} (t : MR V C f h0 i h) (e : MF h h1) : MR V C f h0 i h1 := ⟨t.1.tr e.mu, by rw [e.2.1 112 (by decide)]; exact t.2.1, fun j hj => by rw [(e.1.1 166 (by decide)).2]; exact t.2.2 j hj⟩
theorem MR.push {V : Nat → Int} {C : Int → Int} {f : Nat → Nat} {i : Nat} (t : MR V C f h0 i h) (hp : psh (f i)) : MR V C f h0 (i + 1) (sI (sL h 166 (dpu f i) (lI (if f i < 27 then V (f i) else (f i - 1000 : Nat)))) 82 112 (nI (dpu f i + 1))) := by
  obtain ⟨t1, t2, t3⟩ := t
  have ed : dpu f (i + 1) = dpu f i + 1 := by
    show (if psh (f i) then _ else _) = _
    rw [if_pos hp]
  refine ⟨t1.put _ _ _, by rw [ed, sI_s], fun j hj => ?_⟩
  rw [ed] at hj
  show (sL h 166 _ _).2.1 166 j = lI (if psh (f i) then _ else _)
  rw [if_pos hp]
  by_cases e : j = dpu f i
  · rw [e, if_pos rfl, sL_s]
  · rw [if_neg e, sL_nb e]
    exact t3 j (by omega)
/-- a question is reckoned at a cell -/
theorem m_qTold {e : List Nat} {f : Nat → Nat} (hw : gWf h lk sp cd) (k : KM A F h) (hb : b < qB A) (hc : c < qN A) (h83 : h.1 82 83 = nI b) (h106 : h.1 82 106 = nI e.length) (hcd : ∀ i, i < e.length → h.1 164 i = nI (qtd (e.getD i 0))) (hf : ∀ i, i < e.length → f i = cv (e.getD i 0)) (ha : ∀ u, u ∈ e → aq u) (hu : uwf f e.length) (hn : 0 < e.length) (hl : e.length ≤ 1600) (hB : ∀ i, i < e.length → okB (Vq A F b c) (Cq A F) f i) (hq : ∀ h', MU h h' → Q (some (.long (lI (evS (Vq A F b c) (Cq A F) f e.length 0)))) h') : gC l G (d + 7) MX12_qTold [.ref 82, .int (nI c)] h Q := by
  have g := k.g
  have ff := k.f
  have wd : ∀ i, i < e.length → f i < 27 → f i ∈ [24, 25, 26, 16, 17, 18, 12, 3] := fun i hi z => by
    have a := ha _ (getD_m hi)
    rw [hf i hi] at z ⊢
    generalize e.getD i 0 = w at a z ⊢
    unfold cv at z ⊢
    by_cases q : w = 31
    · rw [if_pos q] at z; omega
    · rw [if_neg q] at z ⊢
      unfold aq at a
      rcases a with (⟨_, a⟩ | a | a) | a
      · have a : w = 24 ∨ w = 25 ∨ w = 26 ∨ w = 16 ∨ w = 17 ∨ w = 18 ∨ w = 12 ∨ w = 3 ∨ w = 27 := of_decide_eq_true a
        simp; omega
      · simp at a; omega
      · omega
      · omega
  have hVm : ∀ i, i < e.length → f i < 27 → mil (Vq A F b c (f i)) := fun i hi z => by
    have := Vn_le g ff hb hc (wd i hi z)
    constructor
    · show -1000000 ≤ ((Vn A F b c (f i) : Nat) : Int); omega
    · show ((Vn A F b c (f i) : Nat) : Int) ≤ 1000000; omega
  have hm := evS_m (C := Cq A F) hu hVm (fun i hi q x => Cq_m g x)
  refine eX12_qTold hw (fun p9 e9 s9 m9 args9 below9 meth9 cc9 => ?_)
  suffices H : ∀ r i h', i + r = e.length → MR (Vq A F b c) (Cq A F) f h i h' → gg p9 l e9 s9 m9 args9 below9 meth9 cc9 G (d + 6 + 1) MX12_qTold Q 7 [some (.ref 82), some (.int (nI c)), some (.int (nI i)), none] [] h' from H e.length 0 _ (by omega) ⟨MU.rf.si _, sI_s _ _ _ _, fun j hj => absurd hj (Nat.not_lt_zero _)⟩
  intro r
  induction r with
  | zero =>
    intro i h' hi t
    have hi : i = e.length := by omega
    subst hi
    obtain ⟨t1, t2, t3⟩ := t
    have hwh := hw.eq t1.1
    have d1 := hu.2 hn
    refine wX12_qTold_7 hwh.1 hwh.2.1 hwh.2.2.1 ?_
    rw [t1.2.1 106 (by decide) (by decide), h106, t3 0 (by omega)]
    exact bY (nI_le (Nat.le_refl _) (by omega)) (hq h' t1)
  | succ r ih =>
    intro i h' hi t
    have tt := t
    obtain ⟨t1, t2, t3⟩ := t
    have hwh := hw.eq t1.1
    have hin : i < e.length := by omega
    have kh := k.mu t1
    have h83' : h'.1 82 83 = nI b := by rw [t1.2.1 83 (by decide) (by decide)]; exact h83
    obtain ⟨f1, f2, f3, f4⟩ := hu.1 i hin
    have hBi := hB i hin
    have fi := hf i hin
    have au := ha _ (getD_m hin)
    have hmi := hm i (by omega)
    have c64 : h'.1 164 i = nI (qtd (e.getD i 0)) := by rw [(t1.1.1 164 (by decide)).1]; exact hcd i hin
    have ej : nI i + 1 = nI (i + 1) := by rw [nI_1]
    refine wX12_qTold_7 hwh.1 hwh.2.1 hwh.2.2.1 ?_
    rw [t1.2.1 106 (by decide) (by decide), h106]
    refine bN (nI_ge hin (by omega)) ?_
    rw [nI_clamp (n := i) (by omega), c64, ej]
    refine ⟨vp_in_nI (by omega) (by decide), ?_⟩
    generalize e.getD i 0 = u at fi au
    have d64 : dpu f i ≤ 64 := by
      cases i with
      | zero => exact Nat.zero_le _
      | succ i => exact (hu.1 i (by omega)).2.2.2
    -- kinds of codes
    have cs : (1000 ≤ u ∧ u ≤ 10999) ∨ u = 31 ∨ (∃ j, j < 8 ∧ u = qwd j) ∨ u = 27 ∨ u = 30 ∨ u ∈ [28, 29, 32, 33, 42, 43, 45, 47, 60, 61, 62] := by
      unfold aq at au
      rcases au with (⟨_, a⟩ | a | a) | a
      · have a : u = 24 ∨ u = 25 ∨ u = 26 ∨ u = 16 ∨ u = 17 ∨ u = 18 ∨ u = 12 ∨ u = 3 ∨ u = 27 := of_decide_eq_true a
        rcases a with a | a | a | a | a | a | a | a | a
        · exact Or.inr (Or.inr (Or.inl ⟨0, by decide, a⟩))
        · exact Or.inr (Or.inr (Or.inl ⟨1, by decide, a⟩))
        · exact Or.inr (Or.inr (Or.inl ⟨2, by decide, a⟩))
        · exact Or.inr (Or.inr (Or.inl ⟨3, by decide, a⟩))
        · exact Or.inr (Or.inr (Or.inl ⟨4, by decide, a⟩))
        · exact Or.inr (Or.inr (Or.inl ⟨5, by decide, a⟩))
        · exact Or.inr (Or.inr (Or.inl ⟨6, by decide, a⟩))
        · exact Or.inr (Or.inr (Or.inl ⟨7, by decide, a⟩))
        · exact Or.inr (Or.inr (Or.inr (Or.inl a)))
      · refine Or.inr (Or.inr (Or.inr (Or.inr (Or.inr ?_))))
        simp at a ⊢; omega
      · exact Or.inl a
      · by_cases a31 : u = 31
        · exact Or.inr (Or.inl a31)
        · by_cases a30 : u = 30
          · exact Or.inr (Or.inr (Or.inr (Or.inr (Or.inl a30))))
          · refine Or.inr (Or.inr (Or.inr (Or.inr (Or.inr ?_))))
            simp; omega
    rcases cs with z | z | ⟨j, j8, z⟩ | z | z | z
    · -- a number
      have q : qtd u = u := if_pos z.1
      have fu : f i = u := by rw [fi]; exact if_neg (by omega)
      have ps : psh (f i) := Or.inr (by omega)
      have q1 : ¬ nI (qtd u) < 1000 := by rw [q]; exact nI_nlt (a := u) (b := 1000) (by omega) (by omega)
      refine bN q1 ?_
      rw [q, show nI u - 1000 = nI (u - 1000) from pk_sub (a := u) (b := 1000) (by omega), lIn (by omega)]
      refine m_qPuts hwh (by omega) t2 ⟨rfl, rfl, ih (i + 1) _ (by omega) ?_⟩
      have := tt.push ps
      rw [fu, if_neg (by omega)] at this
      exact this
    · -- all
      subst z
      have fu : f i = 1001 := fi
      have ps : psh (f i) := Or.inr (by omega)
      refine bY (by decide) (bY (by decide) (bY (by decide) (bY' (by decide) ?_)))
      refine m_qPuts hwh (by omega) t2 ⟨rfl, rfl, ih (i + 1) _ (by omega) ?_⟩
      have := tt.push ps
      rw [fu, if_neg (by decide)] at this
      exact this
    · -- a word
      have qj : ∀ j, j < 8 → qtd (qwd j) = 40 + j ∧ cv (qwd j) = qwd j ∧ qwd j < 27 := by decide
      obtain ⟨x1, x2, x3⟩ := qj j j8
      rw [z] at fi
      rw [x2] at fi
      have ps : psh (f i) := Or.inl (by omega)
      have vm := hVm i hin (by omega)
      rw [z, x1]
      have l1 : nI (40 + j) < 1000 := nI_lt (a := 40 + j) (b := 1000) (by omega) (by decide)
      have l2 : nI (40 + j) < 60 := nI_lt (a := 40 + j) (b := 60) (by omega) (by decide)
      have l3 : ¬ nI (40 + j) < 40 := nI_nlt (a := 40 + j) (b := 40) (by omega) (by omega)
      refine bY l1 (bY l2 (bN l3 ?_))
      rw [show nI (40 + j) - 40 = nI j by rw [show (40 : Int32) = nI 40 from rfl, pk_sub (a := 40 + j) (b := 40) (by omega)]; congr 1; omega]
      refine m_qPartOf (d := d) hwh kh hb hc h83' j8 (fun h2 e2 => ⟨_, rfl, e2.1.2, ?_⟩)
      have hw2 := hwh.eq e2.1
      rw [fi] at vm
      unfold mil at vm
      refine m_qClip hw2 (by omega) (by omega) ⟨_, rfl, rfl, ?_⟩
      rw [clp_id vm]
      have t2' := tt.mf e2
      refine m_qPuts hw2 (by omega) t2'.2.1 ⟨rfl, rfl, ih (i + 1) _ (by omega) ?_⟩
      have := t2'.push ps
      rw [fi, if_pos x3] at this
      exact this
    · -- boats
      subst z
      have fu : f i = 27 := fi
      have un1 : una (f i) := Or.inl fu
      have ps : ¬ psh (f i) := by rw [fu]; decide
      have d1 := f2 un1
      have ed : dpu f (i + 1) = dpu f i := by
        show (if psh (f i) then _ else if una (f i) then _ else _) = _
        rw [if_neg ps, if_pos un1]
      have dm : nI (dpu f i) - 1 = nI (dpu f i - 1) := by
        obtain ⟨y, hy⟩ : ∃ y, dpu f i = y + 1 := ⟨dpu f i - 1, by omega⟩
        rw [hy, i_s1]; rfl
      refine bY (by decide) (bN (by decide) ?_)
      rw [t2, dm, nI_clamp (by omega), t3 _ (by omega)]
      have mt := hmi (dpu f i - 1) (by omega)
      have cm := Cq_m (F := F) g (evS (Vq A F b c) (Cq A F) f i (dpu f i - 1))
      have cm' := cm
      unfold mil at cm'
      refine ⟨vp_in_nI (by omega) (by decide), m_qOf (d := d + 4) hwh kh mt ⟨_, rfl, rfl, m_qClip hwh (by omega) (by omega) ⟨_, rfl, rfl, vp_in_nI (by omega) (by decide), ih (i + 1) _ (by omega) ⟨t1.sl _ _, by rw [ed]; exact t2, fun j hj => ?_⟩⟩⟩⟩
      rw [ed] at hj
      rw [clp_id cm]
      show (sL h' 166 _ _).2.1 166 j = lI (if psh (f i) then _ else if una (f i) then (if j = dpu f i - 1 then un (Cq A F) (f i) (evS (Vq A F b c) (Cq A F) f i (dpu f i - 1)) else evS (Vq A F b c) (Cq A F) f i j) else _)
      rw [if_neg ps, if_pos un1]
      by_cases ey : j = dpu f i - 1
      · rw [if_pos ey, ey, sL_s, fu]; rfl
      · rw [if_neg ey, sL_nb ey]; exact t3 j hj
    · -- not
      subst z
      have fu : f i = 30 := fi
      have un1 : una (f i) := Or.inr fu
      have ps : ¬ psh (f i) := by rw [fu]; decide
      have d1 := f2 un1
      have ed : dpu f (i + 1) = dpu f i := by
        show (if psh (f i) then _ else if una (f i) then _ else _) = _
        rw [if_neg ps, if_pos un1]
      have dm : nI (dpu f i) - 1 = nI (dpu f i - 1) := by
        obtain ⟨y, hy⟩ : ∃ y, dpu f i = y + 1 := ⟨dpu f i - 1, by omega⟩
        rw [hy, i_s1]; rfl
      refine bY (by decide) (bY (by decide) (bY (by decide) (bN' (by decide) (bY' (by decide) ?_))))
      rw [t2, dm, nI_clamp (by omega), t3 _ (by omega)]
      refine ⟨vp_in_nI (by omega) (by decide), vp_in_nI (by omega) (by decide), ih (i + 1) _ (by omega) ⟨t1.sl _ _, by rw [ed]; exact t2, fun j hj => ?_⟩⟩
      rw [ed] at hj
      show (sL h' 166 _ _).2.1 166 j = lI (if psh (f i) then _ else if una (f i) then (if j = dpu f i - 1 then un (Cq A F) (f i) (evS (Vq A F b c) (Cq A F) f i (dpu f i - 1)) else evS (Vq A F b c) (Cq A F) f i j) else _)
      rw [if_neg ps, if_pos un1]
      by_cases ey : j = dpu f i - 1
      · rw [if_pos ey, ey, sL_s, fu]
        rcases hBi.1 fu with y | y <;> rw [y] <;> rfl
      · rw [if_neg ey, sL_nb ey]; exact t3 j hj
    · -- two are joined
      have qj : ∀ u, u ∈ [28, 29, 32, 33, 42, 43, 45, 47, 60, 61, 62] → qtd u < 12 ∧ cv u = u ∧ ¬ psh u ∧ ¬ una u := by decide
      obtain ⟨x1, x2, x3, x4⟩ := qj u z
      rw [x2] at fi
      have ps : ¬ psh (f i) := by rw [fi]; exact x3
      have un1 : ¬ una (f i) := by rw [fi]; exact x4
      have d2 := f3 ps un1
      obtain ⟨y, hy⟩ : ∃ y, dpu f i = y + 2 := ⟨dpu f i - 2, by omega⟩
      have ed : dpu f (i + 1) = y + 1 := by
        show (if psh (f i) then _ else if una (f i) then _ else dpu f i - 1) = _
        rw [if_neg ps, if_neg un1]; omega
      have l1 : nI (qtd u) < 1000 := nI_lt (b := 1000) (by omega) (by decide)
      have l2 : nI (qtd u) < 60 := nI_lt (b := 60) (by omega) (by decide)
      have l3 : nI (qtd u) < 40 := nI_lt (b := 40) (by omega) (by decide)
      have l4 : ¬ nI (qtd u) = 13 := fun q => by have := (nI_eq (b := 13) (by omega) (by decide)).mp q; omega
      have l5 : ¬ nI (qtd u) = 12 := fun q => by have := (nI_eq (b := 12) (by omega) (by decide)).mp q; omega
      refine bY l1 (bY l2 (bY l3 (bN' l4 (bN' l5 ?_))))
      refine m_qJoins (d := d + 5) hwh z (fun q => ?_) (by omega) (by rw [t2, hy]) (hmi y (by omega)) (hmi (y + 1) (by omega)) (t3 y (by omega)) (t3 (y + 1) (by omega)) ⟨rfl, rfl, ih (i + 1) _ (by omega) ⟨(t1.si _).put _ _ _, by rw [ed, sI_s], fun j hj => ?_⟩⟩
      · have := hBi.2 (by rw [fi]; exact q)
        rw [hy] at this
        exact this
      · rw [ed] at hj
        show (sL _ 166 _ _).2.1 166 j = lI (if psh (f i) then _ else if una (f i) then _ else (if j = dpu f i - 2 then jn (f i) (evS (Vq A F b c) (Cq A F) f i (dpu f i - 2)) (evS (Vq A F b c) (Cq A F) f i (dpu f i - 1)) else evS (Vq A F b c) (Cq A F) f i j))
        rw [if_neg ps, if_neg un1, hy, fi]
        by_cases ey : j = y
        · rw [ey, if_pos (by omega), sL_s]; rfl
        · rw [if_neg (by omega), sL_nb ey]; exact t3 j (by omega)
end QV
