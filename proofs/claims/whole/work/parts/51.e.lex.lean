def TPm (t : Nat → Nat) (h : gH) : Prop := (∀ i, i < 1600 → h.1 83 i = nI (t i)) ∧ (∀ i, i < 34 → ∀ j, j < wln i → h.1 (85 + i) j = nI (96 + wlt i j)) ∧ (∀ i, i < 21 → ∀ j, j < wln (wqt i) → h.1 (143 + i) j = nI (96 + wlt (wqt i) j))
/-- of the model nothing has changed but where it reads -/
def MLx (h h' : gH) : Prop := gEq [82] h h' ∧ (∀ j, j ∉ [2, 4, 10, 45] → h'.1 82 j = h.1 82 j) ∧ h'.2.1 82 = h.2.1 82
def MFl (f q : Nat) (h h' : gH) : Prop := gEq [82] h h' ∧ (∀ j, j ∉ [2, 4, 5, 6, 10, 45] → h'.1 82 j = h.1 82 j) ∧ h'.2.1 82 = h.2.1 82 ∧ h'.1 82 5 = nI f ∧ h'.1 82 6 = nI q
def MTk (t : Nat → Nat) (n s : Nat) (b : Bool) (h : gH) : Prop := s ≤ n ∧ skp t n s = s ∧ h.1 82 3 = nI n ∧ h.1 82 5 = 0 ∧ ∃ a e, a ≤ s ∧ skp t n a = s ∧ e ≤ s + 1 ∧ h.1 82 2 = nI a ∧ h.1 82 4 = nI e - 1 ∧ (b = true ↔ e = s + 1)
section LM1
variable {l : Launch} {G : gG} {d : Nat} {Q : Option Value → gH → Prop} {h h0 : gH} {lk sp : Nat} {cd : Option Nat} {t : Nat → Nat} {n s k c i f w : Nat} {b B : Bool}
theorem MLx.rf : MLx h h := ⟨gEq.rf _ _, fun _ _ => rfl, rfl⟩
theorem MLx.tr {h1 h2 : gH} (a : MLx h h1) (b : MLx h1 h2) : MLx h h2 := ⟨(a.1.tr b.1).mono (fun x hx => by simpa using hx), fun j hj => (b.2.1 j hj).trans (a.2.1 j hj), b.2.2.trans a.2.2⟩
theorem MLx.si {h1 : gH} {x : Int32} (a : MLx h h1) (hi : i ∈ [2, 4, 10, 45]) : MLx h (sI h1 82 i x) := ⟨gE1 (by decide) a.1, fun j hj => by rw [sI_nb (show j ≠ i from fun z => hj (by rw [z]; exact hi))]; exact a.2.1 j hj, a.2.2⟩
theorem MLx.fl {h1 h2 : gH} {q : Nat} (a : MLx h h1) (b : MFl f q h1 h2) : MFl f q h h2 := ⟨(a.1.tr b.1).mono (fun x hx => by simpa using hx), fun j hj => (b.2.1 j hj).trans (a.2.1 j (fun z => hj (by simp at z ⊢; omega))), b.2.2.1.trans a.2.2, b.2.2.2.1, b.2.2.2.2⟩
theorem TPm.ml {h' : gH} (q : TPm t h) (e : gEq [82] h h') : TPm t h' := ⟨fun i hi => by rw [(e.1 83 (by decide)).1]; exact q.1 i hi, fun i hi j hj => by rw [(e.1 (85 + i) (by simp; omega)).1]; exact q.2.1 i hi j hj, fun i hi j hj => by rw [(e.1 (143 + i) (by simp; omega)).1]; exact q.2.2 i hi j hj⟩
theorem MTk.at (k : MTk t n s b h) (hs : h.1 82 2 = nI s) : ∃ e, e ≤ s + 1 ∧ h.1 82 4 = nI e - 1 ∧ (b = true ↔ e = s + 1) := by
  obtain ⟨_, _, _, _, a, e, _, _, h3, _, h5, h6⟩ := k
  exact ⟨e, h3, h5, h6⟩
theorem MTk.mk' (hs : s ≤ n) (h0 : skp t n s = s) (h3 : h.1 82 3 = nI n) (h5 : h.1 82 5 = 0) (h2 : h.1 82 2 = nI s) {e : Nat} (he : e ≤ s + 1) (h4 : h.1 82 4 = nI e - 1) (hb : b = true ↔ e = s + 1) : MTk t n s b h := ⟨hs, h0, h3, h5, s, e, Nat.le_refl _, h0, he, h2, h4, hb⟩
theorem m_look (hw : gWf h lk sp cd) (tw : TWf t n) (tp : TPm t h) (k : MTk t n s b h) (hq : ∀ h', MLx h h' → MTk t n s b h' → h'.1 82 2 = nI s → Q (some (.int (if s < n then nI (t s) else -1))) h') : gC l G d MX12_look [.ref 82] h Q := by
  have n16 := tw.1
  obtain ⟨k1, k2, k3, k4, a, e, k5, k6, k7, k8, k9, k10⟩ := k
  have F : ∀ (p : Program) (e9 : Env) (s9 : State) (m : MethodId) (args : Array Value) (below : List Frame) (meth : Method) (c : Code) (i : Nat) (h' : gH), i ≤ s → skp t n i = s → MLx h h' → h'.1 82 2 = nI i → h'.1 82 4 = nI e - 1 → (i < s → gg p l e9 s9 m args below meth c G d MX12_look Q 0 [some (.ref 82)] [] (sI h' 82 2 (nI (i + 1)))) → ((((h'.1 82 3) ≤ (h'.1 82 2) → (((h'.1 82 3) ≤ (h'.1 82 2) → Q (some (.int (-1))) h') ∧ (¬ (h'.1 82 3) ≤ (h'.1 82 2) → (vp_in ((h'.1 82 2)) 1600 ∧ Q (some (.int (h'.1 83 ((h'.1 82 2) : Int32).toNatClampNeg))) h')))) ∧ (¬ (h'.1 82 3) ≤ (h'.1 82 2) → (vp_in ((h'.1 82 2)) 1600 ∧ (((h'.1 83 ((h'.1 82 2) : Int32).toNatClampNeg) = 10 → gg p l e9 s9 m args below meth c G d MX12_look Q 0 [some (.ref 82)] [] (sI h' 82 2 ((h'.1 82 2) + 1))) ∧ (¬ (h'.1 83 ((h'.1 82 2) : Int32).toNatClampNeg) = 10 → (vp_in ((h'.1 82 2)) 1600 ∧ ((¬ (h'.1 83 ((h'.1 82 2) : Int32).toNatClampNeg) = 32 → (((h'.1 82 3) ≤ (h'.1 82 2) → Q (some (.int (-1))) h') ∧ (¬ (h'.1 82 3) ≤ (h'.1 82 2) → (vp_in ((h'.1 82 2)) 1600 ∧ Q (some (.int (h'.1 83 ((h'.1 82 2) : Int32).toNatClampNeg))) h')))) ∧ ((h'.1 83 ((h'.1 82 2) : Int32).toNatClampNeg) = 32 → gg p l e9 s9 m args below meth c G d MX12_look Q 0 [some (.ref 82)] [] (sI h' 82 2 ((h'.1 82 2) + 1))))))))))) := by
    intro p e9 s9 m args below meth c i h' hi hsk e1 a2 a4 go
    have a3 : h'.1 82 3 = nI n := (e1.2.1 3 (by decide)).trans k3
    have a5 : h'.1 82 5 = 0 := (e1.2.1 5 (by decide)).trans k4
    have stop : i = s → MTk t n s b h' := fun z => MTk.mk' k1 k2 a3 a5 (by rw [a2, z]) k7 a4 k10
    have hq' : i = s → Q (some (.int (if s < n then nI (t s) else -1))) h' := fun z => hq h' e1 (stop z) (by rw [a2, z])
    rw [a2, a3, nI_leI (by omega) (by omega), nI_1]
    refine ⟨fun z => ⟨fun _ => ?_, fun y => absurd z y⟩, fun z => ⟨vp_in_nI (by omega) (by decide), ?_⟩⟩
    · have : i = s := by omega
      have q := hq' this
      rw [if_neg (by omega)] at q
      exact q
    · have ci := tw.2 i
      rw [nI_clamp (by omega), (e1.1.1 83 (by decide)).1, tp.1 i (by omega)]
      have z1 : nI (t i) = 10 ↔ t i = 10 := nI_eq (b := 10) (by omega) (by decide)
      have z2 : nI (t i) = 32 ↔ t i = 32 := nI_eq (b := 32) (by omega) (by decide)
      rw [z1, z2]
      have bl : cls (t i) = 0 → i < s := fun y => by
        have : skp t n i = skp t n (i + 1) := rn_y (by omega) y
        have := skp_le (t := t) (n := n) (p := i + 1)
        omega
      refine ⟨fun y => go (bl (cls0.mpr (Or.inl y))), fun y => ⟨vp_in_nI (by omega) (by decide), fun x => ⟨fun w => absurd w z, fun _ => ⟨vp_in_nI (by omega) (by decide), ?_⟩⟩, fun x => go (bl (cls0.mpr (Or.inr x)))⟩⟩
      have : i = s := by rw [← hsk]; exact (rn_n (fun v => by have := cls0.mp v.2; omega)).symm
      have q := hq' this
      rw [if_pos (by omega), ← this] at q
      exact q
  have H : ∀ (p : Program) (e9 : Env) (s9 : State) (m : MethodId) (args : Array Value) (below : List Frame) (meth : Method) (c : Code) (r i : Nat) (h' : gH), i + r = s → skp t n i = s → MLx h h' → h'.1 82 2 = nI i → h'.1 82 4 = nI e - 1 → gg p l e9 s9 m args below meth c G d MX12_look Q 0 [some (.ref 82)] [] h' := by
    intro p e9 s9 m args below meth c r
    induction r with
    | zero =>
      intro i h' hi hsk e1 a2 a4
      have hwh := hw.eq e1.1
      exact wX12_look_0 hwh.1 hwh.2.1 hwh.2.2.1 (F p e9 s9 m args below meth c i h' (by omega) hsk e1 a2 a4 (fun z => by omega))
    | succ r ih =>
      intro i h' hi hsk e1 a2 a4
      have hwh := hw.eq e1.1
      refine wX12_look_0 hwh.1 hwh.2.1 hwh.2.2.1 (F p e9 s9 m args below meth c i h' (by omega) hsk e1 a2 a4 (fun z => ih (i + 1) _ (by omega) ?_ (e1.si (by decide)) (sI_s _ _ _ _) (by rw [sI_nb (by decide)]; exact a4)))
      have y : i < n ∧ cls (t i) = 0 := Classical.byContradiction (fun y => by have : skp t n i = i := rn_n y; omega)
      rw [← hsk]
      exact (rn_y y.1 y.2).symm
  refine eX12_look hw (fun p e9 s9 m args below meth c => F p e9 s9 m args below meth c a h k5 k6 MLx.rf k8 k9 (fun z => H p e9 s9 m args below meth c (s - (a + 1)) (a + 1) _ (by omega) ?_ (MLx.rf.si (by decide)) (sI_s _ _ _ _) (by rw [sI_nb (by decide)]; exact k9)))
  have y : a < n ∧ cls (t a) = 0 := Classical.byContradiction (fun y => by have : skp t n a = a := rn_n y; omega)
  rw [← k6]
  exact (rn_y y.1 y.2).symm
theorem m_isLetter {x : Int32} (hw : gWf h lk sp cd) (hy : ∀ c, x = nI c → cls c = 1 → Q (some (.int 1)) h) (hn : (∀ c, c < 256 → x = nI c → cls c ≠ 1) → Q (some (.int 0)) h) : gC l G d MX12_isLetter [.int x] h Q := by
  refine eX12_isLetter hw ⟨fun z => hn (fun c hc e q => ?_), fun z => ⟨fun y => hn (fun c hc e q => ?_), fun y => ?_⟩⟩
  · have := cls1.mp q
    subst e
    exact absurd z (nI_nlt (b := 97) (by omega) (by omega))
  · have := cls1.mp q
    subst e
    exact absurd y (nI_nlt (a := 122) (by omega) (by decide))
  · have z' : ¬ x < 0 := fun q => z (Int32.lt_trans q (by decide))
    obtain ⟨c, hc, rfl⟩ := nI_of z'
    have z1 : nI c < 97 ↔ c < 97 := nI_ltI (b := 97) (by omega) (by decide)
    have z2 : 122 < nI c ↔ 122 < c := nI_ltI (a := 122) (by decide) (by omega)
    rw [z1] at z
    rw [z2] at y
    exact hy c rfl (cls1.mpr ⟨by omega, by omega⟩)
theorem m_isDigit {x : Int32} (hw : gWf h lk sp cd) (hy : ∀ c, x = nI c → cls c = 2 → Q (some (.int 1)) h) (hn : (∀ c, c < 256 → x = nI c → cls c ≠ 2) → Q (some (.int 0)) h) : gC l G d MX12_isDigit [.int x] h Q := by
  refine eX12_isDigit hw ⟨fun z => hn (fun c hc e q => ?_), fun z => ⟨fun y => hn (fun c hc e q => ?_), fun y => ?_⟩⟩
  · have := cls2.mp q
    subst e
    exact absurd z (nI_nlt (b := 48) (by omega) (by omega))
  · have := cls2.mp q
    subst e
    exact absurd y (nI_nlt (a := 57) (by omega) (by decide))
  · have z' : ¬ x < 0 := fun q => z (Int32.lt_trans q (by decide))
    obtain ⟨c, hc, rfl⟩ := nI_of z'
    have z1 : nI c < 48 ↔ c < 48 := nI_ltI (b := 48) (by omega) (by decide)
    have z2 : 57 < nI c ↔ 57 < c := nI_ltI (a := 57) (by decide) (by omega)
    rw [z1] at z
    rw [z2] at y
    exact hy c rfl (cls2.mpr ⟨by omega, by omega⟩)
/-- what stands at s, as a letter or not -/
theorem m_letterS (hw : gWf h lk sp cd) (tw : TWf t n) (hy : s < n → cls (t s) = 1 → Q (some (.int 1)) h) (hn : ¬ (s < n ∧ cls (t s) = 1) → Q (some (.int 0)) h) : gC l G d MX12_isLetter [.int (if s < n then nI (t s) else -1)] h Q := by
  have ts := tw.2 s
  by_cases z : s < n
  · rw [if_pos z]
    refine m_isLetter hw (fun c e q => ?_) (fun q => hn (fun y => q (t s) ts rfl y.2))
    have c9 := cls1.mp q
    have : t s = c := (nI_eq (by omega) (by omega)).mp e
    subst this
    exact hy z q
  · rw [if_neg z]
    exact m_isLetter hw (fun c e q => absurd e.symm (i_nm1 (by have := cls1.mp q; omega))) (fun _ => hn (fun y => z y.1))
theorem m_digitS (hw : gWf h lk sp cd) (tw : TWf t n) (hy : s < n → cls (t s) = 2 → Q (some (.int 1)) h) (hn : ¬ (s < n ∧ cls (t s) = 2) → Q (some (.int 0)) h) : gC l G d MX12_isDigit [.int (if s < n then nI (t s) else -1)] h Q := by
  have ts := tw.2 s
  by_cases z : s < n
  · rw [if_pos z]
    refine m_isDigit hw (fun c e q => ?_) (fun q => hn (fun y => q (t s) ts rfl y.2))
    have c9 := cls2.mp q
    have : t s = c := (nI_eq (by omega) (by omega)).mp e
    subst this
    exact hy z q
  · rw [if_neg z]
    exact m_isDigit hw (fun c e q => absurd e.symm (i_nm1 (by have := cls2.mp q; omega))) (fun _ => hn (fun y => z y.1))
theorem m_fail {q : Nat} (hw : gWf h lk sp cd) (h5 : h.1 82 5 = 0) (hq : ∀ h', MFl f q h h' → Q none h') : gC l G d MX12_fail [.ref 82, .int (nI f), .int (nI q)] h Q := by
  refine eX12_fail hw (bY h5 (hq _ ⟨gE1 (by decide) (gE1 (by decide) (gEq.rf _ _)), fun j hj => ?_, rfl, ?_, sI_s _ _ _ _⟩))
  · rw [sI_nb (fun z => hj (by rw [z]; decide)), sI_nb (fun z => hj (by rw [z]; decide))]
  · rw [sI_nb (by decide), sI_s]
theorem m_isHere (hw : gWf h lk sp cd) (tw : TWf t n) (tp : TPm t h) (k : MTk t n s b h) (hi : i < 40) (hs : gSH[w]? = some (22, wln i)) (w82 : w ≠ 82) (hl : ∀ j, j < wln i → h.1 w j = nI (96 + wlt i j)) (hy : ∀ h', MLx h h' → MTk t n s b h' → h'.1 82 2 = nI s → isW t n i (s, b) → Q (some (.int 1)) h') (hn : ∀ h', MLx h h' → MTk t n s b h' → h'.1 82 2 = nI s → ¬ isW t n i (s, b) → Q (some (.int 0)) h') : gC l G (d + 1) MX12_isHere [.ref 82, .ref w] h Q := by
  have n16 := tw.1
  obtain ⟨w1, w2, w3⟩ := wln_b i hi
  refine eX12_isHere hw hs (fun p e s9 m args below meth cc => bY' k.2.2.2.1 (m_look hw tw tp k (fun h1 e1 k1 a1 => ⟨_, rfl, e1.1.2, ?_⟩)))
  have hw1 := hw.eq e1.1
  have tp1 := tp.ml e1.1
  have sn := k1.1
  obtain ⟨e9, e9l, e9h, e9b⟩ := k1.at a1
  have a3 := k1.2.2.1
  refine m_letterS hw1 tw (fun z1 z2 => ⟨_, rfl, rfl, bN (by decide) ?_⟩) (fun z => ⟨_, rfl, rfl, bY rfl (hn h1 e1 k1 a1 (fun q => ?_))⟩)
  · rw [a1, e9h, show nI s = nI e9 - 1 ↔ e9 = s + 1 from ⟨fun q => (i_eqs (by omega) (by omega)).mp q.symm, fun q => ((i_eqs (by omega) (by omega)).mpr q).symm⟩]
    refine ⟨fun y => ?_, fun y => hn h1 e1 k1 a1 (fun q => ?_)⟩
    · have bf : b = false := by
        cases hb : b with
        | false => rfl
        | true => exact absurd (e9b.mp hb) y
      have etk : tks t n s = rn t n 1 s := by unfold tks; rw [if_neg (by omega), if_pos z2]
      have tl := tks_le (t := t) k1.1
      have hg := tks_gt (t := t) z1
      have kw : tkk t n s b = 1001 := (tkk_w.mpr ⟨⟨z1, z2, bf⟩, tw.2⟩).1
      have iw : isW t n i (s, b) ↔ wat t n s i := ⟨fun q => q.2, fun q => ⟨kw, q⟩⟩
      have H76 : tks t n s - s = wln i → ∀ x2, ∀ r j, j + r = wln i → (∀ j', j' < j → t (s + j') = 96 + wlt i j') → gg p l e s9 m args below meth cc G (d + 1) MX12_isHere Q 76 [some (.ref 82), some (.ref w), some (.int x2), some (.int (nI j))] [] h1 := by
        intro hlen x2 r
        induction r with
        | zero =>
          intro j hj a
          refine wX12_isHere_76 hw1.1 hw1.2.1 hw1.2.2.1 hs (bY (nI_le (a := wln i) (by omega) (by omega)) (hy h1 e1 k1 a1 (iw.mpr ⟨hlen, fun j' hj' => a j' (by omega)⟩)))
        | succ r ih =>
          intro j hj a
          have wl := ((w3 j (by omega)).1 (by omega)).2
          have ts := tw.2 (s + j)
          refine wX12_isHere_76 hw1.1 hw1.2.1 hw1.2.2.1 hs (bN (nI_ge (b := wln i) (by omega) (by omega)) ?_)
          rw [a1, nI_add, nI_clamp (show s + j < 2 ^ 31 by omega), nI_clamp (show j < 2 ^ 31 by omega), tp1.1 _ (by omega), (e1.1.1 w (by simpa using w82)).1, hl j (by omega), nI_eq (by omega) (by omega), nI_1]
          refine ⟨vp_in_nI (by omega) (by decide), vp_in_nI (by omega) (by omega), fun q => ih (j + 1) (by omega) (fun j' hj' => ?_), fun q => hn h1 e1 k1 a1 (fun q2 => q ((iw.mp q2).2 j (by omega)))⟩
          by_cases e : j' = j
          · subst e; exact q
          · exact a j' (by omega)
      suffices H : ∀ r x, n - x ≤ r → s < x → x ≤ n → rn t n 1 s = rn t n 1 x → gg p l e s9 m args below meth cc G (d + 1) MX12_isHere Q 35 [some (.ref 82), some (.ref w), some (.int (nI x)), none] [] h1 by
        have ts := tw.2 s
        refine wX12_isHere_35 hw1.1 hw1.2.1 hw1.2.2.1 hs (bN (by rw [a3]; exact nI_ge z1 (by omega)) ⟨vp_in_nI (by omega) (by decide), ?_⟩)
        rw [nI_clamp (by omega), tp1.1 s (by omega), nI_1]
        exact m_isLetter hw1 (fun c e q => ⟨_, rfl, rfl, bN (by decide) (H (n - (s + 1)) (s + 1) (Nat.le_refl _) (by omega) (by omega) (rn_y z1 z2))⟩) (fun q => absurd z2 (q (t s) ts rfl))
      intro r x hr sx xn er
      have stop : ¬ (x < n ∧ cls (t x) = 1) → ((nI x - nI s = Int32.ofNat (wln i) → gg p l e s9 m args below meth cc G (d + 1) MX12_isHere Q 76 [some (.ref 82), some (.ref w), some (.int (nI x)), some (.int 0)] [] h1) ∧ (¬ nI x - nI s = Int32.ofNat (wln i) → Q (some (.int 0)) h1)) := fun z => by
        have ex : tks t n s = x := by rw [etk, er, rn_n z]
        have le : nI x - nI s = Int32.ofNat (wln i) ↔ x - s = wln i := by rw [pk_sub (by omega)]; exact nI_eq (b := wln i) (by omega) (by omega)
        rw [le]
        exact ⟨fun q => H76 (by omega) _ (wln i) 0 (by omega) (fun j' hj' => absurd hj' (Nat.not_lt_zero _)), fun q => hn h1 e1 k1 a1 (fun q2 => q (by have := (iw.mp q2).1; omega))⟩
      induction r generalizing x with
      | zero =>
        have : x = n := by omega
        refine wX12_isHere_35 hw1.1 hw1.2.1 hw1.2.2.1 hs (bY (by rw [a3]; exact nI_le (by omega) (by omega)) ?_)
        rw [a1]
        exact stop (by omega)
      | succ r ih =>
        by_cases xx : x < n
        · have tx := tw.2 x
          refine wX12_isHere_35 hw1.1 hw1.2.1 hw1.2.2.1 hs (bN (by rw [a3]; exact nI_ge xx (by omega)) ⟨vp_in_nI (by omega) (by decide), ?_⟩)
          rw [nI_clamp (by omega), tp1.1 x (by omega), nI_1]
          refine m_isLetter hw1 (fun c e q => ⟨_, rfl, rfl, bN (by decide) ?_⟩) (fun q => ⟨_, rfl, rfl, bY rfl (by rw [a1]; exact stop (fun v => q (t x) tx rfl v.2))⟩)
          have c9 := cls1.mp q
          have : t x = c := (nI_eq (by omega) (by omega)).mp e
          subst this
          refine ih (x + 1) (by omega) (by omega) (by omega) (er.trans (rn_y xx q)) (fun z => ?_)
          have ex : tks t n s = x + 1 := by rw [etk, er, rn_y xx q, rn_n z]
          have le : nI (x + 1) - nI s = Int32.ofNat (wln i) ↔ x + 1 - s = wln i := by rw [pk_sub (by omega)]; exact nI_eq (b := wln i) (by omega) (by omega)
          rw [le]
          exact ⟨fun q => H76 (by omega) _ (wln i) 0 (by omega) (fun j' hj' => absurd hj' (Nat.not_lt_zero _)), fun q => hn h1 e1 k1 a1 (fun q2 => q (by have := (iw.mp q2).1; omega))⟩
        · refine wX12_isHere_35 hw1.1 hw1.2.1 hw1.2.2.1 hs (bY (by rw [a3]; exact nI_le (by omega) (by omega)) ?_)
          rw [a1]
          exact stop (by omega)
    · have bt := e9b.mpr y
      have := (tkk_w.mp ⟨q.1, tw.2⟩).1.2.2
      exact absurd (show b = false from this) (by rw [bt]; decide)
  · have := (tkk_w.mp ⟨q.1, tw.2⟩).1
    exact z ⟨this.1, this.2.1⟩
end LM1
