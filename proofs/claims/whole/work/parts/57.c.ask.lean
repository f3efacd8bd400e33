section CA
variable {l : Launch} {G : gG} {d : Nat} {Q : Option Value → gH → Prop} {h h0 h1 h2 : gH} {lk sp : Nat} {cd : Option Nat} {A F : qT} {b c T : Nat}
theorem c_countCrowds (hw : gWf h lk sp cd) (k : KC A F T lk h) (hq : ∀ h', gEq [47] h h' → (∀ c : Nat, c < 48 → h'.1 47 c = iI (Cq A F c)) → Q none h') : gC l G (d + 3) MX9_countCrowds [.ref 29] h Q := by
  have B6 := k.g.B6
  refine eX9_countCrowds hw (fun p9 e9 s9 m9 args9 below9 meth9 cc9 => ?_)
  have L : ∀ r x h', x + r = 48 → gEq [47] h h' → (∀ c : Nat, c < x → h'.1 47 c = iI (Cq A F c)) → gg p9 l e9 s9 m9 args9 below9 meth9 cc9 G (d + 3) MX9_countCrowds Q 2 [some (.ref 29), some (.int (nI x))] [] h' := by
    intro r
    induction r with
    | zero =>
      intro x h' hx e' a
      have hx' : x = 48 := hx
      subst hx'
      have hw' := hw.eq e'
      exact wX9_countCrowds_2 hw'.1 hw'.2.1 hw'.2.2.1 (bY (by decide) (hq h' e' a))
    | succ r ih =>
      intro x h' hx e' a
      have hw' := hw.eq e'
      have k' : KC A F T lk h' := k.eq hw e' (fun x hx => by simp at hx; omega)
      obtain ⟨M, m1, m2, m3, m4⟩ := crw_m F (nI x) B6
      have ej : nI x + 1 = nI (x + 1) := by rw [nI_1]
      refine wX9_countCrowds_2 hw'.1 hw'.2.1 hw'.2.2.1 (bN (nI_ge (b := 48) (by omega) (by decide)) (c_bitsIn (d := d) hw' k' ⟨_, rfl, rfl, ?_⟩))
      rw [m2]
      refine c_bitCount hw' m1 ⟨_, rfl, rfl, vp_in_nI (by omega) (by decide), ?_⟩
      rw [ej, nI_clamp (n := x) (by omega)]
      refine ih (x + 1) _ (by omega) (gE1 (by decide) e') (fun c hc => ?_)
      by_cases y : c = x
      · subst y
        have e1 : Cq A F (c : Int) = (crw F (qB A) (iI (c : Int)) : Nat) := if_pos (by omega)
        rw [sI_s, e1, ← iI_nat (n := c) (by omega), m3, iI_nat (by omega)]
      · rw [sI_nb y]; exact a c (by omega)
  exact L 48 0 h rfl (gEq.rf _ _) (fun c hc => absurd hc (Nat.not_lt_zero _))
/-- the question's codes, as the class keeps them -/
def QCd (e : List Nat) (f : Nat → Nat) (h : gH) : Prop := h.1 63 0 = nI 0 ∧ h.1 64 0 = nI (0 + e.length) ∧ ∀ i, i < e.length → h.1 62 (0 + i) = ucc (f i)
theorem c_answerFor {e : List Nat} {f : Nat → Nat} (hw : gWf h lk sp cd) (k : KC A F T lk h) (hb : b < qB A) (hc : c < qN A) (hcd : QCd e f h) (hf : ∀ i, i < e.length → f i < 27 → f i ∈ [24, 25, 26, 16, 17, 18, 12, 3]) (hu : uwf f e.length) (hn : 0 < e.length) (hl : e.length ≤ 1600) (hcr : ∀ c : Nat, c < 48 → h.1 47 c = iI (Cq A F c)) (hq : ∀ h', gEq [45, 46, 48] h h' → Q (some (.int (iI (evS (Vq A F b c) (Cq A F) f e.length 0)))) h') : gC l G (d + 5) MX9_answerFor [.ref 29, .ref 61, .int (nI b), .int (nI c)] h Q := by
  have g := k.g
  have ff := k.f
  have N48 := g.N48
  have r := qrow g hc
  have C8 := g.C8
  have R6 := g.R6
  have C3 := g.C3 hc
  have ec : (if 1 < h.1 lk 11 then h.1 lk 11 else 1) = nI (qC A) := by
    rw [k.l.C]
    have : (1 : Int32) < nI (qC A) := nI_lt (a := 1) (by omega) (by omega)
    rw [if_pos this]
  have n0 : ¬ nI (qC A) = 0 := fun y => by
    have : qC A = 0 := (nI_eq (b := 0) (by omega) (by decide)).mp y
    omega
  have er : nI c - nI c / nI (qC A) * nI (qC A) = nI (c % qC A) := pk_rem (by omega) r.2.2 (by omega)
  have ed : nI c / nI (qC A) = nI (c / qC A) := pk_div (by omega) r.2.2 (by omega)
  have V12 : Vn A F b c 12 = if qkd A c = 4 then 99 else fer A F b c 0 := rfl
  have fin : ∀ h3 (v : Nat), gEq [45, 46, 48] h h3 → v = Vn A F b c 12 → (∀ fe u, u ∈ [16, 17, 18, 19, 20, 6, 21, 22] → h3.1 46 u = nI (vals A F b c 0 fe u)) → (¬ nI (qC A) = 0 ∧ ¬ nI (qC A) = 0 ∧ gC l G (d + 4) MX2_trustOf [.ref 6, .int (nI b)] (sI (sI (sI (sI h3 46 24 (nI c)) 46 25 (nI c - nI c / nI (qC A) * nI (qC A))) 46 26 (nI c / nI (qC A))) 46 12 (nI v)) (rI fun v4 h4 => h4.2.2 = (sI (sI (sI (sI h3 46 24 (nI c)) 46 25 (nI c - nI c / nI (qC A) * nI (qC A))) 46 26 (nI c / nI (qC A))) 46 12 (nI v)).2.2 ∧ gC l G (d + 4) MX6_reckon [.ref 45, .ref 61, .int 0] (sI h4 46 3 v4) (rI fun v5 h5 => h5.2.2 = (sI h4 46 3 v4).2.2 ∧ Q (some (.int v5)) h5))) := fun h3 v e3 hv hl3 => by
    rw [er, ed]
    have e4 : gEq [45, 46, 48] h (sI (sI (sI (sI h3 46 24 (nI c)) 46 25 (nI (c % qC A))) 46 26 (nI (c / qC A))) 46 12 (nI v)) := gE1 (by decide) (gE1 (by decide) (gE1 (by decide) (gE1 (by decide) e3)))
    have e5 : ∀ x, gEq [45, 46, 48] h (sI (sI (sI (sI (sI h3 46 24 (nI c)) 46 25 (nI (c % qC A))) 46 26 (nI (c / qC A))) 46 12 (nI v)) 46 3 x) := fun x => gE1 (by decide) e4
    have k4 : KC A F T lk (sI (sI (sI (sI h3 46 24 (nI c)) 46 25 (nI (c % qC A))) 46 26 (nI (c / qC A))) 46 12 (nI v)) := k.eq hw e4 (fun x hx => by simp at hx; omega)
    refine ⟨n0, n0, c_trustOf (d := d + 3) (hw.eq e4) k4 hb ⟨_, rfl, rfl, ?_⟩⟩
    have E5 := e5 (nI (ft F b))
    refine c_reckon (d := d + 1) (V := Vq A F b c) (C := Cq A F) (f := f) (cc := 61) (q := 0) (o := 0) (n := e.length) (hw.eq E5) (Or.inr (Or.inl rfl)) (by decide) (by rw [(E5.1 63 (by decide)).1]; exact hcd.1) (by rw [(E5.1 64 (by decide)).1]; exact hcd.2.1) hn (by omega) (fun i hi => by rw [(E5.1 62 (by decide)).1]; exact hcd.2.2 i hi) hu (fun i hi z => ?_) (fun i hi z => ⟨fun c hc => by rw [(E5.1 47 (by decide)).1]; exact hcr c hc, Cq_o, Cq_m g⟩) (fun h6 e6 => ⟨_, rfl, e6.2, hq h6 ((E5.tr e6).mono (fun x hx => by simp at hx ⊢; omega))⟩)
    have mem := hf i hi z
    have le := Vn_le g ff hb hc mem
    refine ⟨⟨by show -1000000 ≤ ((Vn A F b c (f i) : Nat) : Int); omega, by show ((Vn A F b c (f i) : Nat) : Int) ≤ 1000000; omega⟩, ?_⟩
    have tg : iI (Vq A F b c (f i)) = nI (Vn A F b c (f i)) := (iI_nat (by omega)).symm
    rw [tg]
    have mem : f i = 24 ∨ f i = 25 ∨ f i = 26 ∨ f i = 16 ∨ f i = 17 ∨ f i = 18 ∨ f i = 12 ∨ f i = 3 := by simpa using mem
    rcases mem with y | y | y | y | y | y | y | y <;> rw [y]
    · rw [sI_nb (by decide), sI_nb (by decide), sI_nb (by decide), sI_nb (by decide), sI_s]; rfl
    · rw [sI_nb (by decide), sI_nb (by decide), sI_nb (by decide), sI_s]; rfl
    · rw [sI_nb (by decide), sI_nb (by decide), sI_s]; rfl
    · rw [sI_nb (by decide), sI_nb (by decide), sI_nb (by decide), sI_nb (by decide), sI_nb (by decide), hl3 0 16 (by decide)]; rfl
    · rw [sI_nb (by decide), sI_nb (by decide), sI_nb (by decide), sI_nb (by decide), sI_nb (by decide), hl3 0 17 (by decide)]; rfl
    · rw [sI_nb (by decide), sI_nb (by decide), sI_nb (by decide), sI_nb (by decide), sI_nb (by decide), hl3 0 18 (by decide)]; rfl
    · rw [sI_nb (by decide), sI_s, hv]
    · rw [sI_s]; rfl
  refine eX9_answerFor hw (Or.inr (Or.inl rfl)) (c_isLand (d := d + 3) hw g k.l hc (fun z => ⟨_, rfl, rfl, bN (by decide) ?_⟩) (fun z => ⟨_, rfl, rfl, bY rfl ?_⟩))
  · refine c_look (d := d + 1) (bo := 0) hw k hb hc (by decide) (fun h3 e3 a3 => ⟨rfl, e3.2, ?_⟩)
    rw [ec]
    exact fin h3 99 (e3.mono (fun x hx => by simp at hx ⊢; omega)) (by rw [V12, if_pos z]) a3
  · refine c_fearOf (d := d) (bo := 0) hw k hb hc (by decide) (fun h2 e2 => ⟨_, rfl, e2.2, ?_⟩)
    have k2 : KC A F T lk h2 := k.eq hw e2 (fun x hx => by simp at hx; omega)
    refine c_look (d := d + 1) (bo := 0) (hw.eq e2) k2 hb hc (by decide) (fun h3 e3 a3 => ⟨rfl, e3.2, ?_⟩)
    rw [ec]
    exact fin h3 (fer A F b c 0) ((e2.tr e3).mono (fun x hx => by simp at hx ⊢; omega)) (by rw [V12, if_neg z]) a3
/-! what a question answers, of k cells -/
def aF (g : Nat → Int) : Nat → Int
  | 0 => -1
  | k + 1 => if g k ≠ 0 ∧ aF g k = -1 then k else aF g k
def aL (g : Nat → Int) : Nat → Int
  | 0 => -1
  | k + 1 => if g k ≠ 0 then k else aL g k
def aM (g : Nat → Int) : Nat → Int
  | 0 => 0
  | k + 1 => if g k ≠ 0 then aM g k + 1 else aM g k
def aT (g : Nat → Int) : Nat → Int
  | 0 => 0
  | k + 1 => aT g k + g k
def aX (g : Nat → Int) : Nat → Int
  | 0 => 0
  | k + 1 => if k = 0 then g 0 else if g k < aX g k then aX g k else g k
def aN (g : Nat → Int) : Nat → Int
  | 0 => 0
  | k + 1 => if k = 0 then g 0 else if g k < aN g k then g k else aN g k
def anw (κ : Nat) (g : Nat → Int) (k : Nat) : Int := if κ = 0 then aF g k else if κ = 1 then aL g k else if κ = 2 then aM g k else if κ = 3 then aT g k else if κ = 4 then aX g k else aN g k
theorem an_b {g : Nat → Int} (hg : ∀ k, mil (g k)) : ∀ k, k ≤ 48 → (-1 ≤ aF g k ∧ aF g k < k) ∧ (-1 ≤ aL g k ∧ aL g k < k) ∧ (0 ≤ aM g k ∧ aM g k ≤ k) ∧ (-1000000 * (k : Int) ≤ aT g k ∧ aT g k ≤ 1000000 * (k : Int)) ∧ mil (aX g k) ∧ mil (aN g k)
  | 0, _ => by
    have z1 : aF g 0 = -1 := rfl
    have z2 : aL g 0 = -1 := rfl
    have z3 : aM g 0 = 0 := rfl
    have z4 : aT g 0 = 0 := rfl
    have z5 : aX g 0 = 0 := rfl
    have z6 : aN g 0 = 0 := rfl
    unfold mil
    rw [z1, z2, z3, z4, z5, z6]
    decide
  | k + 1, hk => by
    obtain ⟨h1, h2, h3, h4, h5, h6⟩ := an_b hg k (by omega)
    have gk := hg k
    have g0 := hg 0
    unfold mil at *
    refine ⟨?_, ?_, ?_, ?_, ?_, ?_⟩
    · show -1 ≤ (if g k ≠ 0 ∧ aF g k = -1 then (k : Int) else aF g k) ∧ (if g k ≠ 0 ∧ aF g k = -1 then (k : Int) else aF g k) < ((k + 1 : Nat) : Int)
      split <;> omega
    · show -1 ≤ (if g k ≠ 0 then (k : Int) else aL g k) ∧ (if g k ≠ 0 then (k : Int) else aL g k) < ((k + 1 : Nat) : Int)
      split <;> omega
    · show 0 ≤ (if g k ≠ 0 then aM g k + 1 else aM g k) ∧ (if g k ≠ 0 then aM g k + 1 else aM g k) ≤ ((k + 1 : Nat) : Int)
      split <;> omega
    · show -1000000 * ((k + 1 : Nat) : Int) ≤ aT g k + g k ∧ aT g k + g k ≤ 1000000 * ((k + 1 : Nat) : Int)
      omega
    · show -1000000 ≤ (if k = 0 then g 0 else if g k < aX g k then aX g k else g k) ∧ (if k = 0 then g 0 else if g k < aX g k then aX g k else g k) ≤ 1000000
      split
      · exact g0
      · split <;> omega
    · show -1000000 ≤ (if k = 0 then g 0 else if g k < aN g k then g k else aN g k) ∧ (if k = 0 then g 0 else if g k < aN g k then g k else aN g k) ≤ 1000000
      split
      · exact g0
      · split <;> omega
/-- what a question's codes are worth at a cell -/
def gq (A F : qT) (b : Nat) (f : Nat → Nat) (n : Nat) : Nat → Int := fun c => if c < qN A then evS (Vq A F b c) (Cq A F) f n 0 else 0
theorem gq_m {f : Nat → Nat} {n : Nat} (g : qG A) (ff : fG A F) (hb : b < qB A) (hf : ∀ i, i < n → f i < 27 → f i ∈ [24, 25, 26, 16, 17, 18, 12, 3]) (hu : uwf f n) (hn : 0 < n) (c : Nat) : mil (gq A F b f n c) := by
  unfold gq
  split
  · rename_i hc
    refine evS_m (C := Cq A F) hu (fun i hi z => ?_) (fun i hi q x => Cq_m g x) n (Nat.le_refl _) 0 (by rw [hu.2 hn]; decide)
    have := Vn_le g ff hb hc (hf i hi z)
    constructor
    · show -1000000 ≤ ((Vn A F b c (f i) : Nat) : Int); omega
    · show ((Vn A F b c (f i) : Nat) : Int) ≤ 1000000; omega
  · exact ⟨by decide, by decide⟩
theorem c_answer {e : List Nat} {f : Nat → Nat} {κ : Nat} (hw : gWf h lk sp cd) (k : KC A F T lk h) (hb : b < qB A) (hκ : κ < 6) (hcd : QCd e f h) (hf : ∀ i, i < e.length → f i < 27 → f i ∈ [24, 25, 26, 16, 17, 18, 12, 3]) (hu : uwf f e.length) (hn : 0 < e.length) (hl : e.length ≤ 1600) (hq : ∀ h', gEq [45, 46, 47, 48] h h' → Q (some (.long (lI (anw κ (gq A F b f e.length) (qN A))))) h') : gC l G (d + 6) MX11_answer [.ref 0, .int (nI (34 + κ)), .int (nI b)] h Q := by
  have g := k.g
  have N48 := g.N48
  have hm := gq_m (b := b) g k.f hb hf hu hn
  generalize hgv : gq A F b f e.length = gv at hq hm
  refine eX11_answer hw (fun p9 e9 s9 m9 args9 below9 meth9 cc9 => c_countCrowds (d := d + 2) hw k (fun h1 e1 a1 => ⟨rfl, e1.2, ?_⟩))
  have L : ∀ r x h', x + r = qN A → gEq [45, 46, 47, 48] h h' → (∀ c : Nat, c < 48 → h'.1 47 c = iI (Cq A F c)) → gg p9 l e9 s9 m9 args9 below9 meth9 cc9 G (d + 6) MX11_answer Q 27 [some (.ref 0), some (.int (nI (34 + κ))), some (.int (nI b)), some (.int (iI (aM gv x))), some (.int (iI (aF gv x))), some (.int (iI (aL gv x))), some (.long (lI (aT gv x))), none, some (.long (lI (aX gv x))), none, some (.long (lI (aN gv x))), none, some (.int (nI x)), none, none] [] h' := by
    intro r
    induction r with
    | zero =>
      intro x h' hx e' cr
      have hx' : x = qN A := hx
      subst hx'
      have hw' := hw.eq e'
      have k' : KC A F T lk h' := k.eq hw e' (fun x hx => by simp at hx; omega)
      obtain ⟨b1, b2, b3, b4, b5, b6⟩ := an_b hm (qN A) N48
      have hq := hq h' e'
      have E : ∀ c : Nat, c < 40 → (nI (34 + κ) = nI c ↔ 34 + κ = c) := fun c hc => nI_eq (by omega) (by omega)
      refine wX11_answer_27 hw'.1 hw'.2.1 hw'.2.2.1 (c_cells (d := d + 4) hw' g k'.l ⟨_, rfl, rfl, bY (nI_le (Nat.le_refl _) (by omega)) ⟨fun z => ?_, fun z => ?_, fun z => ?_, fun z => ?_, fun z => ?_, fun z => ?_, fun z0 z1 z2 z3 z4 z5 => ?_⟩⟩)
      · have : κ = 0 := by have := (E 34 (by decide)).mp z; omega
        subst this
        rw [iI_l (by omega) (by omega)]; exact hq
      · have : κ = 1 := by have := (E 35 (by decide)).mp z; omega
        subst this
        rw [iI_l (by omega) (by omega)]; exact hq
      · have : κ = 2 := by have := (E 36 (by decide)).mp z; omega
        subst this
        rw [iI_l (by omega) (by omega)]; exact hq
      · have : κ = 3 := by have := (E 37 (by decide)).mp z; omega
        subst this
        exact hq
      · have : κ = 4 := by have := (E 38 (by decide)).mp z; omega
        subst this
        exact hq
      · have : κ = 5 := by have := (E 39 (by decide)).mp z; omega
        subst this
        exact hq
      · exact absurd ((E 34 (by decide)).mpr (by
          have e1 : 34 + κ ≠ 35 := fun y => z1 ((E 35 (by decide)).mpr y)
          have e2 : 34 + κ ≠ 36 := fun y => z2 ((E 36 (by decide)).mpr y)
          have e3 : 34 + κ ≠ 37 := fun y => z3 ((E 37 (by decide)).mpr y)
          have e4 : 34 + κ ≠ 38 := fun y => z4 ((E 38 (by decide)).mpr y)
          have e5 : 34 + κ ≠ 39 := fun y => z5 ((E 39 (by decide)).mpr y)
          omega)) z0
    | succ r ih =>
      intro x h' hx e' cr
      have hw' := hw.eq e'
      have k' : KC A F T lk h' := k.eq hw e' (fun x hx => by simp at hx; omega)
      have xN : x < qN A := by omega
      have x48 : x < 48 := by omega
      obtain ⟨b1, b2, b3, b4, b5, b6⟩ := an_b hm x (by omega)
      have gx := hm x
      have gx' := gx
      unfold mil at gx' b5 b6
      have qc' : QCd e f h' := by
        unfold QCd
        rw [(e'.1 63 (by decide)).1, (e'.1 64 (by decide)).1, (e'.1 62 (by decide)).1]
        exact hcd
      refine wX11_answer_27 hw'.1 hw'.2.1 hw'.2.2.1 (c_cells (d := d + 4) hw' g k'.l ⟨_, rfl, rfl, bN (nI_ge xN (by omega)) (c_answerFor (d := d) hw' k' hb xN qc' hf hu hn hl cr (fun h2 e2 => ⟨_, rfl, e2.2, ?_⟩))⟩)
      have ev : evS (Vq A F b x) (Cq A F) f e.length 0 = gv x := by rw [← hgv]; exact (if_pos xN).symm
      rw [ev, iI_l (by omega) (by omega)]
      have E2 : gEq [45, 46, 47, 48] h h2 := (e'.tr e2).mono (fun x hx => by simp at hx ⊢; omega)
      have hw2 := hw.eq E2
      have cr2 : ∀ c : Nat, c < 48 → h2.1 47 c = iI (Cq A F c) := fun c hc => by rw [(e2.1 47 (by decide)).1]; exact cr c hc
      have z0 : nI x = 0 ↔ x = 0 := nI_eq (b := 0) (by omega) (by decide)
      have ej : nI x + 1 = nI (x + 1) := by rw [nI_1]
      have IH := ih (x + 1) h2 (by omega) E2 cr2
      -- behind the largest and the least
      have g95 : gg p9 l e9 s9 m9 args9 below9 meth9 cc9 G (d + 6) MX11_answer Q 95 [some (.ref 0), some (.int (nI (34 + κ))), some (.int (nI b)), some (.int (iI (aM gv x))), some (.int (iI (aF gv x))), some (.int (iI (aL gv x))), some (.long (lI (aT gv x))), none, some (.long (lI (aX gv (x + 1)))), none, some (.long (lI (aN gv x))), none, some (.int (nI x)), some (.long (lI (gv x))), none] [.long (lI (aN gv (x + 1)))] h2 := by
        have zg : lI (gv x) = 0 ↔ gv x = 0 := by rw [show (0 : Int64) = lI 0 by decide, lI_eq (by omega) (by omega) (by omega) (by omega)]
        refine wX11_answer_95 hw2.1 hw2.2.1 hw2.2.2.1 ?_
        rw [lg_cmp_eq, zg, lI_add]
        have g133 : ∀ (m1 m2 m3 : Int), m1 = aM gv (x + 1) → m2 = aF gv (x + 1) → m3 = aL gv (x + 1) → gg p9 l e9 s9 m9 args9 below9 meth9 cc9 G (d + 6) MX11_answer Q 133 [some (.ref 0), some (.int (nI (34 + κ))), some (.int (nI b)), some (.int (iI m1)), some (.int (iI m2)), some (.int (iI m3)), some (.long (lI (aT gv x + gv x))), none, some (.long (lI (aX gv (x + 1)))), none, some (.long (lI (aN gv (x + 1)))), none, some (.int (nI x)), some (.long (lI (gv x))), none] [] h2 := fun m1 m2 m3 y1 y2 y3 => by
          subst y1; subst y2; subst y3
          refine wX11_answer_133 hw2.1 hw2.2.1 hw2.2.2.1 ?_
          rw [ej]
          exact IH
        have m1 : iI (aM gv x) + 1 = iI (aM gv x + 1) := by rw [show (1 : Int32) = iI 1 by decide]; exact (Int32.ofInt_add _ _).symm
        have zf : iI (aF gv x) = -1 ↔ aF gv x = -1 := by rw [show (-1 : Int32) = iI (-1) by decide, iI_eq (by omega) (by omega) (by omega) (by omega)]
        refine ⟨fun z => g133 _ _ _ ?_ ?_ ?_, fun z => ?_⟩
        · show _ = if gv x ≠ 0 then _ else _
          rw [if_neg (fun y => y z)]
        · show _ = if gv x ≠ 0 ∧ _ then _ else _
          rw [if_neg (fun y => y.1 z)]
        · show _ = if gv x ≠ 0 then _ else _
          rw [if_neg (fun y => y z)]
        · rw [zf, m1]
          have fa : aM gv x + 1 = aM gv (x + 1) := by
            show _ = if gv x ≠ 0 then _ else _
            rw [if_pos z]
          have fl : ((x : Nat) : Int) = aL gv (x + 1) := by
            show _ = if gv x ≠ 0 then _ else _
            rw [if_pos z]
          refine ⟨fun y => ?_, fun y => ?_⟩
          · refine wX11_answer_127 hw2.1 hw2.2.1 hw2.2.2.1 ?_
            rw [iI_nat (n := x) (by omega)]
            have := g133 _ (aF gv x) _ fa (by
              show _ = if gv x ≠ 0 ∧ _ then _ else _
              rw [if_neg (fun w => y w.2)]) fl
            rw [iI_nat (n := x) (by omega)] at this
            exact this
          · refine wX11_answer_127 hw2.1 hw2.2.1 hw2.2.2.1 ?_
            rw [iI_nat (n := x) (by omega)]
            have := g133 _ ((x : Nat) : Int) _ fa (by
              show _ = if gv x ≠ 0 ∧ _ then _ else _
              rw [if_pos ⟨z, y⟩]) fl
            rw [iI_nat (n := x) (by omega)] at this
            exact this
      have g76 : gg p9 l e9 s9 m9 args9 below9 meth9 cc9 G (d + 6) MX11_answer Q 76 [some (.ref 0), some (.int (nI (34 + κ))), some (.int (nI b)), some (.int (iI (aM gv x))), some (.int (iI (aF gv x))), some (.int (iI (aL gv x))), some (.long (lI (aT gv x))), none, some (.long (lI (aX gv x))), none, some (.long (lI (aN gv x))), none, some (.int (nI x)), some (.long (lI (gv x))), none] [.long (lI (aX gv (x + 1)))] h2 := by
        refine wX11_answer_76 hw2.1 hw2.2.1 hw2.2.2.1 ?_
        rw [z0]
        refine ⟨fun z => ?_, fun z => ?_⟩
        · have e9' : (if lI (gv x) < lI (aN gv x) then lI (gv x) else lI (aN gv x)) = lI (aN gv (x + 1)) := by
            have lt : lI (gv x) < lI (aN gv x) ↔ gv x < aN gv x := lI_lt (by omega) (by omega) (by omega) (by omega)
            show _ = lI (if x = 0 then _ else if gv x < aN gv x then gv x else aN gv x)
            rw [if_neg z]
            by_cases w : gv x < aN gv x
            · rw [if_pos w, if_pos (lt.mpr w)]
            · rw [if_neg w, if_neg (fun y => w (lt.mp y))]
          rw [e9']
          exact g95
        · have e9' : lI (gv x) = lI (aN gv (x + 1)) := by
            show _ = lI (if x = 0 then gv 0 else _)
            rw [if_pos z, z]
          have := g95
          rw [← e9'] at this
          exact this
      rw [z0]
      refine ⟨fun z => ?_, fun z => ?_⟩
      · have e9' : (if lI (gv x) < lI (aX gv x) then lI (aX gv x) else lI (gv x)) = lI (aX gv (x + 1)) := by
          have lt : lI (gv x) < lI (aX gv x) ↔ gv x < aX gv x := lI_lt (by omega) (by omega) (by omega) (by omega)
          show _ = lI (if x = 0 then _ else if gv x < aX gv x then aX gv x else gv x)
          rw [if_neg z]
          by_cases w : gv x < aX gv x
          · rw [if_pos w, if_pos (lt.mpr w)]
          · rw [if_neg w, if_neg (fun y => w (lt.mp y))]
        rw [e9']
        exact g76
      · have e9' : lI (gv x) = lI (aX gv (x + 1)) := by
          show _ = lI (if x = 0 then gv 0 else _)
          rw [if_pos z, z]
        have := g76
        rw [← e9'] at this
        exact this
  exact L (qN A) 0 h1 (by omega) (e1.mono (fun x hx => by simp at hx ⊢; omega)) a1
end CA
