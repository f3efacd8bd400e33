def TWf (t : Nat → Nat) (n : Nat) : Prop := n ≤ 1600 ∧ ∀ i, t i < 256
def TPc (t : Nat → Nat) (n : Nat) (h : gH) : Prop := h.1 1 2 = nI n ∧ (∀ i, i < 1600 → h.1 2 i = nI (t i)) ∧ ∀ i, i < 40 → h.1 3 i = nI (p32 (wlt i) 6)
/-- nothing but the reader has changed; neither its size nor its fault -/
def CLx (h h' : gH) : Prop := gEq [1] h h' ∧ h'.1 1 2 = h.1 1 2 ∧ h'.1 1 8 = h.1 1 8 ∧ h'.1 1 9 = h.1 1 9
def CTk (t : Nat → Nat) (n s : Nat) (b : Bool) (h : gH) : Prop := s ≤ n ∧ skp t n s = s ∧ h.1 1 3 = kI (tkk t n s b) ∧ h.1 1 4 = nI s ∧ h.1 1 5 = nI (tks t n s) ∧ (s < n → cls (t s) = 1 → (∀ i, i < 40 → (h.1 1 6 = nI i ↔ wat t n s i)) ∧ (h.1 1 6 = -1 ∨ ∃ i, i < 40 ∧ h.1 1 6 = nI i) ∧ (tks t n s - s ≤ 6 → h.1 1 7 = nI (p32 (ltr t n s) 6)))
def chI (c : Nat) : Int32 := if cls c = 1 then -2 else if cls c = 2 then -3 else nI c
section LC1
variable {l : Launch} {G : gG} {d : Nat} {Q : Option Value → gH → Prop} {h h0 : gH} {lk sp : Nat} {cd : Option Nat} {t : Nat → Nat} {n s p k c : Nat} {b : Bool}
theorem CLx.rf : CLx h h := ⟨gEq.rf _ _, rfl, rfl, rfl⟩
theorem CLx.tr {h1 h2 : gH} (a : CLx h h1) (b : CLx h1 h2) : CLx h h2 := ⟨(a.1.tr b.1).mono (fun x hx => by simpa using hx), b.2.1.trans a.2.1, b.2.2.1.trans a.2.2.1, b.2.2.2.trans a.2.2.2⟩
theorem CLx.si {h1 : gH} {i : Nat} {x : Int32} (a : CLx h h1) (h2 : i ≠ 2) (h8 : i ≠ 8) (h9 : i ≠ 9) : CLx h (sI h1 1 i x) := ⟨gE1 (by decide) a.1, by rw [sI_nb (Ne.symm h2)]; exact a.2.1, by rw [sI_nb (Ne.symm h8)]; exact a.2.2.1, by rw [sI_nb (Ne.symm h9)]; exact a.2.2.2⟩
theorem TPc.cl {h' : gH} (q : TPc t n h) (e : CLx h h') : TPc t n h' := ⟨by rw [e.2.1]; exact q.1, fun i hi => by rw [(e.1.1 2 (by decide)).1]; exact q.2.1 i hi, fun i hi => by rw [(e.1.1 3 (by decide)).1]; exact q.2.2 i hi⟩
theorem kI_w (hk : k < 1004) : (kI k = -2 ↔ k = 1001) ∧ (kI k = -3 ↔ k = 1002) ∧ (kI k = -1 ↔ k = 1000) := by
  unfold kI
  by_cases a : k = 1000
  · subst a; decide
  · rw [if_neg a]
    by_cases b : k = 1001
    · subst b; decide
    · rw [if_neg b]
      by_cases c : k = 1002
      · subst c; decide
      · rw [if_neg c]
        by_cases d : k = 1003
        · subst d; decide
        · rw [if_neg d]
          have p : ∀ m : Int32, m < 0 → nI k ≠ m := fun m hm e => nI_pos (n := k) (by omega) (by rw [e]; exact hm)
          exact ⟨⟨fun e => absurd e (p _ (by decide)), fun e => absurd e b⟩, ⟨fun e => absurd e (p _ (by decide)), fun e => absurd e c⟩, ⟨fun e => absurd e (p _ (by decide)), fun e => absurd e a⟩⟩
theorem kI_c (hk : k < 1004) (hc : c < 256) : kI k = nI c ↔ k = c := by
  have p : ∀ m : Int32, m < 0 → m ≠ nI c := fun m hm e => nI_pos (n := c) (by omega) (by rw [← e]; exact hm)
  unfold kI
  split
  · exact ⟨fun e => absurd e (p _ (by decide)), fun e => by omega⟩
  · split
    · exact ⟨fun e => absurd e (p _ (by decide)), fun e => by omega⟩
    · split
      · exact ⟨fun e => absurd e (p _ (by decide)), fun e => by omega⟩
      · split
        · exact ⟨fun e => absurd e (p _ (by decide)), fun e => by omega⟩
        · exact nI_eq (by omega) (by omega)
theorem c_kindOf (hw : gWf h lk sp cd) (hc : c < 256) (hq : Q (some (.int (chI c))) h) : gC l G d MX5_kindOf [.int (nI c)] h Q := by
  refine eX5_kindOf hw ?_
  have a1 : nI c < 97 ↔ c < 97 := nI_ltI (b := 97) (by omega) (by decide)
  have a2 : nI c < 48 ↔ c < 48 := nI_ltI (b := 48) (by omega) (by decide)
  have a3 : 57 < nI c ↔ 57 < c := nI_ltI (a := 57) (by decide) (by omega)
  have a4 : 122 < nI c ↔ 122 < c := nI_ltI (a := 122) (by decide) (by omega)
  rw [a1, a2, a3, a4]
  unfold chI at hq
  have w : 97 ≤ c → c ≤ 122 → Q (some (.int (-2))) h := fun x y => by rw [if_pos (cls1.mpr ⟨x, y⟩)] at hq; exact hq
  have g : 48 ≤ c → c ≤ 57 → Q (some (.int (-3))) h := fun x y => by rw [if_neg (fun z => by have := cls1.mp z; omega), if_pos (cls2.mpr ⟨x, y⟩)] at hq; exact hq
  have o : ¬ (97 ≤ c ∧ c ≤ 122) → ¬ (48 ≤ c ∧ c ≤ 57) → Q (some (.int (nI c))) h := fun x y => by rw [if_neg (mt cls1.mp x), if_neg (mt cls2.mp y)] at hq; exact hq
  exact ⟨fun x => ⟨fun y => o (by omega) (by omega), fun y => ⟨fun z => o (by omega) (by omega), fun z => g (by omega) (by omega)⟩⟩, fun x => ⟨fun y => ⟨fun z => o (by omega) (by omega), fun z => ⟨fun u => o (by omega) (by omega), fun u => g (by omega) (by omega)⟩⟩, fun y => w (by omega) (by omega)⟩⟩
theorem c_isBlank (hw : gWf h lk sp cd) (hc : c < 256) (hy : cls c = 0 → Q (some (.int 1)) h) (hn : cls c ≠ 0 → Q (some (.int 0)) h) : gC l G d MX5_isBlank [.int (nI c)] h Q := by
  refine eX5_isBlank hw ?_
  have a1 : nI c = 10 ↔ c = 10 := nI_eq (b := 10) (by omega) (by decide)
  have a2 : nI c = 32 ↔ c = 32 := nI_eq (b := 32) (by omega) (by decide)
  rw [a1, a2]
  exact ⟨fun x => hy (cls0.mpr (Or.inl x)), fun x => ⟨fun y => hn (fun z => by have := cls0.mp z; omega), fun y => hy (cls0.mpr (Or.inr y))⟩⟩
theorem p32_s {f : Nat → Nat} {j : Nat} (hf : ∀ j, j < 6 → f j ≤ 26) (hj : j < 6) : p32 f j < 2 ^ (5 * j) := by
  induction j with
  | zero => unfold p32; decide
  | succ j ih =>
    have i := ih (by omega)
    have h2 := hf j (by omega)
    unfold p32
    rw [show 5 * (j + 1) = 5 * j + 5 by omega, Nat.pow_add]
    omega
theorem shl5 {f : Nat → Nat} {j : Nat} (hf : ∀ j, j < 6 → f j ≤ 26) (hj : j < 6) : (nI (p32 f j) <<< (5 &&& 31)) ||| nI (f j) = nI (p32 f (j + 1)) := by
  have a := p32_s hf hj
  have b := hf j hj
  have c : 2 ^ (5 * j) ≤ 2 ^ 25 := Nat.pow_le_pow_right (by decide) (by omega)
  rw [pk_shlN (5 &&& 31) 5 (by decide) (by omega), nI_or, n_or (by omega)]
  show _ = nI (32 * p32 f j + f j)
  congr 1
  omega
/-- what a word is -/
theorem c_readWord (hw : gWf h lk sp cd) (tw : TWf t n) (tp : TPc t n h) (hs : s ≤ n) (h4 : h.1 1 4 = nI s) (h5 : h.1 1 5 = nI (tks t n s)) (h3 : h.1 1 3 = -2 ↔ s < n ∧ cls (t s) = 1) (hq : ∀ h', CLx h h' → h'.1 1 3 = h.1 1 3 → h'.1 1 4 = h.1 1 4 → h'.1 1 5 = h.1 1 5 → (s < n → cls (t s) = 1 → (∀ i, i < 40 → (h'.1 1 6 = nI i ↔ wat t n s i)) ∧ (h'.1 1 6 = -1 ∨ ∃ i, i < 40 ∧ h'.1 1 6 = nI i) ∧ (tks t n s - s ≤ 6 → h'.1 1 7 = nI (p32 (ltr t n s) 6))) → Q none h') : gC l G d MX5_readWord [.ref 1] h Q := by
  have n16 := tw.1
  have hl := tks_le (t := t) hs
  have e0 : CLx h (sI (sI h 1 7 0) 1 6 (-1)) := (CLx.rf.si (by decide) (by decide) (by decide)).si (by decide) (by decide) (by decide)
  have f0 : ∀ i, i ≠ 6 → i ≠ 7 → (sI (sI h 1 7 0) 1 6 (-1)).1 1 i = h.1 1 i := fun i a b => by rw [sI_nb a, sI_nb b]
  refine eX5_readWord hw (fun p e sS m args below meth cc => ?_)
  rw [h3, h4, h5]
  refine ⟨fun z => hq _ e0 (f0 3 (by decide) (by decide)) (f0 4 (by decide) (by decide)) (f0 5 (by decide) (by decide)) (fun a b => absurd ⟨a, b⟩ z), fun ⟨z, hc⟩ => ?_⟩
  have hg := tks_gt (t := t) z
  have lb := ltr_b z hc
  have le6 : nI (tks t n s) - nI s ≤ 6 ↔ tks t n s - s ≤ 6 := by rw [pk_sub (by omega)]; exact nI_leI (b := 6) (by omega) (by decide)
  rw [le6]
  refine ⟨fun y => ?_, fun y => hq _ e0 (f0 3 (by decide) (by decide)) (f0 4 (by decide) (by decide)) (f0 5 (by decide) (by decide)) (fun _ _ => ⟨fun i hi => ⟨fun q => ?_, fun q => ?_⟩, Or.inl (sI_s _ _ _ _), fun q => absurd q y⟩)⟩
  · have l26 : ∀ j, j < 6 → ltr t n s j ≤ 26 := fun j _ => by
      rcases Nat.lt_or_ge (s + j) (tks t n s) with z | z
      · exact ((lb j).1 z).2
      · rw [(lb j).2 z]; omega
    have H113 : ∀ r i h', i + r = 40 → CLx h h' → h'.1 1 3 = h.1 1 3 → h'.1 1 4 = h.1 1 4 → h'.1 1 5 = h.1 1 5 → h'.1 1 7 = nI (p32 (ltr t n s) 6) → ((h'.1 1 6 = -1 ∧ ∀ i', i' < i → ¬ wat t n s i') ∨ ∃ i', i' < i ∧ h'.1 1 6 = nI i' ∧ wat t n s i') → gg p l e sS m args below meth cc G d MX5_readWord Q 113 [some (.ref 1), some (.int (nI i)), none] [] h' := by
      intro r
      induction r with
      | zero =>
        intro i h' hi e1 a3 a4 a5 a7 a6
        have hwh := hw.eq e1.1
        refine wX5_readWord_113 hwh.1 hwh.2.1 hwh.2.2.1 (bY (nI_le (a := 40) (by omega) (by omega)) (hq h' e1 a3 a4 a5 (fun _ _ => ⟨fun j hj => ?_, ?_, fun _ => a7⟩)))
        · rcases a6 with ⟨b1, b2⟩ | ⟨i', b1, b2, b3⟩
          · rw [b1]
            exact ⟨fun q => absurd q.symm (i_nm1 (by omega)), fun q => absurd q (b2 j (by omega))⟩
          · rw [b2, nI_eq (by omega) (by omega)]
            exact ⟨fun q => q ▸ b3, fun q => wat_u (by omega) hj b3 q⟩
        · rcases a6 with ⟨b1, b2⟩ | ⟨i', b1, b2, b3⟩
          · exact Or.inl b1
          · exact Or.inr ⟨i', by omega, b2⟩
      | succ r ih =>
        intro i h' hi e1 a3 a4 a5 a7 a6
        have hwh := hw.eq e1.1
        have p6 := p32_lt l26
        obtain ⟨w1, w2, w3⟩ := wln_b i (by omega)
        have q6 : p32 (wlt i) 6 < 2 ^ 30 := p32_lt (fun j hj => by
          rcases Nat.lt_or_ge j (wln i) with z | z
          · exact ((w3 j hj).1 z).2
          · rw [(w3 j hj).2 z]; omega)
        refine wX5_readWord_113 hwh.1 hwh.2.1 hwh.2.2.1 (bN (nI_ge (b := 40) (by omega) (by decide)) ⟨vp_in_nI (by omega) (by decide), ?_⟩)
        rw [nI_clamp (by omega), (e1.1.1 3 (by decide)).1, tp.2.2 i (by omega), a7, nI_eq (by omega) (by omega), wat_p z hc y (by omega), nI_1]
        have k1 : ∀ x : Int32, ∀ k, k ≠ 6 → (sI h' 1 6 x).1 1 k = h'.1 1 k := fun x k hk => sI_nb hk
        refine ⟨fun q => ih (i + 1) _ (by omega) (e1.si (by decide) (by decide) (by decide)) ((k1 _ 3 (by decide)).trans a3) ((k1 _ 4 (by decide)).trans a4) ((k1 _ 5 (by decide)).trans a5) ((k1 _ 7 (by decide)).trans a7) ?_, fun q => ih (i + 1) _ (by omega) (e1.si (by decide) (by decide) (by decide)) ((k1 _ 3 (by decide)).trans a3) ((k1 _ 4 (by decide)).trans a4) ((k1 _ 5 (by decide)).trans a5) ((k1 _ 7 (by decide)).trans a7) (Or.inr ⟨i, by omega, sI_s _ _ _ _, q⟩)⟩
        rw [sI_s]
        rcases a6 with ⟨b1, b2⟩ | ⟨i', b1, b2, b3⟩
        · refine Or.inl ⟨b1, fun i' hi' => ?_⟩
          by_cases ei : i' = i
          · subst ei; exact q
          · exact b2 i' (by omega)
        · exact Or.inr ⟨i', by omega, b2, b3⟩
    suffices H : ∀ r j h', j + r = 6 → CLx h h' → h'.1 1 3 = h.1 1 3 → h'.1 1 4 = h.1 1 4 → h'.1 1 5 = h.1 1 5 → h'.1 1 6 = -1 → h'.1 1 7 = nI (p32 (ltr t n s) j) → gg p l e sS m args below meth cc G d MX5_readWord Q 39 [some (.ref 1), some (.int (nI (s + j))), none] [] h' from H 6 0 _ (by omega) e0 (f0 3 (by decide) (by decide)) (f0 4 (by decide) (by decide)) (f0 5 (by decide) (by decide)) (sI_s _ _ _ _) (by rw [sI_nb (by decide), sI_s]; rfl)
    intro r
    induction r with
    | zero =>
      intro j h' hj e1 a3 a4 a5 a6 a7
      have : j = 6 := by omega
      subst this
      have hwh := hw.eq e1.1
      refine wX5_readWord_39 hwh.1 hwh.2.1 hwh.2.2.1 (bY ?_ (H113 40 0 h' (by omega) e1 a3 a4 a5 a7 (Or.inl ⟨a6, fun i hi => absurd hi (Nat.not_lt_zero _)⟩)))
      rw [a4, h4, lit 6, nI_add]
      exact Int32.le_refl _
    | succ r ih =>
      intro j h' hj e1 a3 a4 a5 a6 a7
      have hwh := hw.eq e1.1
      have sh := shl5 (j := j) l26 (by omega)
      refine wX5_readWord_39 hwh.1 hwh.2.1 hwh.2.2.1 (bN ?_ (bN (nI_pos (by omega)) ?_))
      · rw [a4, h4, lit 6, nI_add]
        exact nI_ge (by omega) (by omega)
      rw [a5, h5, a7, nI_leI (by omega) (by omega), nI_1, show s + j + 1 = s + (j + 1) by omega]
      have nxt : ∀ x : Int32, x = nI (ltr t n s j) → gg p l e sS m args below meth cc G d MX5_readWord Q 39 [some (.ref 1), some (.int (nI (s + (j + 1)))), none] [] (sI h' 1 7 ((nI (p32 (ltr t n s) j) <<< (5 &&& 31)) ||| x)) := fun x hx => by
        subst hx
        exact ih (j + 1) _ (by omega) (e1.si (by decide) (by decide) (by decide)) (by rw [sI_nb (by decide)]; exact a3) (by rw [sI_nb (by decide)]; exact a4) (by rw [sI_nb (by decide)]; exact a5) (by rw [sI_nb (by decide)]; exact a6) (by rw [sI_s, sh])
      refine ⟨fun q => nxt 0 (by rw [(lb j).2 q]; rfl), fun q => bY (nI_lt (b := 1600) (by omega) (by decide)) ⟨vp_in_nI (by omega) (by decide), ?_⟩⟩
      rw [nI_clamp (by omega), (e1.1.1 2 (by decide)).1, tp.2.1 _ (by omega)]
      have c1 := rn_in (t := t) (n := n) (q := 1) s (s + j) (by omega) (by
        have : tks t n s = rn t n 1 s := by unfold tks; rw [if_neg (by omega), if_pos hc]
        omega)
      have c2 := cls1.mp c1.2
      refine nxt _ ?_
      rw [lit 97, pk_sub (by omega), nI_1]
      congr 1
      unfold ltr
      rw [if_pos (by omega)]
      omega
  · rw [sI_s] at q
    exact absurd q.symm (i_nm1 (by omega))
  · have := (wln_b i hi).2.1
    have := q.1
    omega
end LC1
