/-! the calmest water beside a cell; how a boat runs -/
def cfr (A F : qT) (b c : Nat) : Nat := if qkd A c = 4 then 99 else fer A F b c 0
/-- the calmest water beside c among the first w ways (the first of them), and 1; 0 if there is none -/
def lbs (A : qT) (f : Nat → Nat) (c : Nat) : Nat → Nat
  | 0 => 0
  | w + 1 => if stp A c w = 0 then lbs A f c w else if lbs A f c w = 0 ∨ f (stp A c w - 1) < f (lbs A f c w - 1) ∨ (f (stp A c w - 1) = f (lbs A f c w - 1) ∧ stp A c w < lbs A f c w) then stp A c w else lbs A f c w
/-- .. if it is calmer than c -/
def cms (A : qT) (f : Nat → Nat) (c w : Nat) : Nat := if lbs A f c w ≠ 0 ∧ f (lbs A f c w - 1) < f c then lbs A f c w else 0
def cml (A : qT) (f : Nat → Nat) (c w : Nat) : Nat := if cms A f c w = 0 then f c else f (cms A f c w - 1)
/-- where it is after k steps -/
def rnc (A : qT) (f : Nat → Nat) (c : Nat) : Nat → Nat
  | 0 => c
  | k + 1 => cms A f (rnc A f c k) 4 - 1
def cnl (f : Nat → Nat) (v : Nat) : Nat → Nat
  | 0 => 0
  | k + 1 => cnl f v k + if f k < v then 1 else 0
theorem cnl_le (f : Nat → Nat) (v : Nat) : ∀ k, cnl f v k ≤ k
  | 0 => Nat.le_refl _
  | k + 1 => by
    have := cnl_le f v k
    unfold cnl
    split <;> omega
theorem cnl_mono (f : Nat → Nat) {v v' : Nat} (h : v' ≤ v) : ∀ k, cnl f v' k ≤ cnl f v k
  | 0 => Nat.le_refl _
  | k + 1 => by
    have := cnl_mono f h k
    unfold cnl
    split <;> split <;> omega
theorem cnl_lt (f : Nat → Nat) {v x : Nat} (h : f x < v) : ∀ k, x < k → cnl f (f x) k < cnl f v k
  | 0, hx => absurd hx (Nat.not_lt_zero _)
  | k + 1, hx => by
    have h1 := cnl_mono f (Nat.le_of_lt h) k
    unfold cnl
    by_cases e : x = k
    · subst e
      rw [if_neg (Nat.lt_irrefl _), if_pos h]
      omega
    · have := cnl_lt f h k (by omega)
      split <;> split <;> omega
theorem cnl_self (f : Nat → Nat) {x : Nat} : ∀ k, x < k → cnl f (f x) k + 1 ≤ k
  | 0, hx => absurd hx (Nat.not_lt_zero _)
  | k + 1, hx => by
    unfold cnl
    by_cases e : x = k
    · subst e
      have := cnl_le f (f x) x
      rw [if_neg (Nat.lt_irrefl _)]
      omega
    · have := cnl_self f k (x := x) (by omega)
      split <;> omega
section RN
variable {l : Launch} {G : gG} {d : Nat} {Q : Option Value → gH → Prop} {h h0 : gH} {lk sp : Nat} {cd : Option Nat} {A F : qT} {T n b c w : Nat} {f : Nat → Nat}
theorem cfr_w (hc : qkd A c ≠ 4) : cfr A F b c = fer A F b c 0 := if_neg hc
theorem lfr_w (hc : qkd A c ≠ 4) : lfr A F b c = fer A F b c 0 := if_neg hc
theorem cfr_le (g : qG A) (c : Nat) : cfr A F b c ≤ 99 := by
  have := fer_le (A := A) (F := F) (b := b) (c := c) (bo := 0) g
  unfold cfr
  split <;> omega
theorem lbs_w (g : qG A) (hc : c < qN A) : ∀ w {x : Nat}, lbs A f c w = x + 1 → qW A x
  | 0, x, e => absurd e (by unfold lbs; omega)
  | w + 1, x, e => by
    unfold lbs at e
    split at e
    · exact lbs_w g hc w e
    · split at e
      · exact stp_w g hc e
      · exact lbs_w g hc w e
theorem cms_lb {x : Nat} (e : cms A f c w = x + 1) : lbs A f c w = x + 1 ∧ f x < f c := by
  unfold cms at e
  split at e
  · rename_i q
    rw [e, Nat.add_sub_cancel] at q
    exact ⟨e, q.2⟩
  · omega
theorem cms_w (g : qG A) (hc : c < qN A) {x : Nat} (e : cms A f c w = x + 1) : qW A x := lbs_w g hc w (cms_lb e).1
/-- what the class's loop does with one way more -/
theorem cms_0 (z : stp A c w = 0) : cms A f c (w + 1) = cms A f c w := by
  have e : lbs A f c (w + 1) = lbs A f c w := by
    show (if stp A c w = 0 then _ else _) = _
    rw [if_pos z]
  unfold cms
  rw [e]
theorem cml_0 (z : stp A c w = 0) : cml A f c (w + 1) = cml A f c w := by
  unfold cml
  rw [cms_0 z]
theorem lbs_s {x : Nat} (z : stp A c w = x + 1) : lbs A f c (w + 1) = if lbs A f c w = 0 ∨ f x < f (lbs A f c w - 1) ∨ (f x = f (lbs A f c w - 1) ∧ x + 1 < lbs A f c w) then x + 1 else lbs A f c w := by
  show (if stp A c w = 0 then _ else _) = _
  rw [z, if_neg (by omega), Nat.add_sub_cancel]
theorem cms_s {x : Nat} (z : stp A c w = x + 1) : cms A f c (w + 1) = if f x < cml A f c w ∨ (cms A f c w ≠ 0 ∧ f x = cml A f c w ∧ x + 1 < cms A f c w) then x + 1 else cms A f c w := by
  have e := lbs_s (f := f) z
  unfold cml
  unfold cms
  rw [e]
  generalize lbs A f c w = L
  by_cases q : L ≠ 0 ∧ f (L - 1) < f c
  · rw [if_pos q, if_neg q.1]
    by_cases q2 : L = 0 ∨ f x < f (L - 1) ∨ (f x = f (L - 1) ∧ x + 1 < L)
    · rw [if_pos q2, Nat.add_sub_cancel, if_pos ⟨by omega, by omega⟩, if_pos (by omega)]
    · rw [if_neg q2, if_pos q, if_neg (by omega)]
  · rw [if_neg q, if_pos rfl]
    by_cases q2 : L = 0 ∨ f x < f (L - 1) ∨ (f x = f (L - 1) ∧ x + 1 < L)
    · rw [if_pos q2, Nat.add_sub_cancel]
      by_cases q3 : f x < f c
      · rw [if_pos ⟨by omega, q3⟩, if_pos (Or.inl q3)]
      · rw [if_neg (fun q4 => q3 q4.2), if_neg (by omega)]
    · rw [if_neg q2, if_neg q, if_neg (by omega)]
theorem cml_s {x : Nat} (z : stp A c w = x + 1) : cml A f c (w + 1) = if f x < cml A f c w then f x else cml A f c w := by
  have e := cms_s (f := f) z
  have hm : cml A f c w = if cms A f c w = 0 then f c else f (cms A f c w - 1) := rfl
  have h1 : cml A f c (w + 1) = if cms A f c (w + 1) = 0 then f c else f (cms A f c (w + 1) - 1) := rfl
  rw [h1, e]
  by_cases q : f x < cml A f c w
  · rw [if_pos q, if_pos (Or.inl q), if_neg (by omega), Nat.add_sub_cancel]
  · rw [if_neg q]
    by_cases q2 : cms A f c w ≠ 0 ∧ f x = cml A f c w ∧ x + 1 < cms A f c w
    · rw [if_pos (Or.inr q2), if_neg (by omega), Nat.add_sub_cancel]
      exact q2.2.1
    · have nq : ¬ (f x < cml A f c w ∨ (cms A f c w ≠ 0 ∧ f x = cml A f c w ∧ x + 1 < cms A f c w)) := fun z => z.elim q q2
      rw [if_neg nq]
      exact hm.symm
theorem c_readFears (hw : gWf h lk sp cd) (k : KC A F T lk h) (hb : b < qB A) (hq : ∀ h', gEq [45, 46, 48, 50] h h' → (∀ c, c < qN A → h'.1 50 c = nI (cfr A F b c)) → Q none h') : gC l G (d + 5) MX10_readFears [.ref 49, .int (nI b)] h Q := by
  have h48 := k.g.N48
  refine eX10_readFears hw (fun p e s m args below meth cc => ?_)
  suffices H : ∀ r c h', c + r = qN A → gEq [45, 46, 48, 50] h h' → (∀ c', c' < c → h'.1 50 c' = nI (cfr A F b c')) → gg p l e s m args below meth cc G (d + 4 + 1) MX10_readFears Q 2 [some (.ref 49), some (.int (nI b)), some (.int (nI c))] [] h' from H (qN A) 0 h (by omega) (gEq.rf _ _) (fun c hc => absurd hc (Nat.not_lt_zero _))
  intro r
  induction r with
  | zero =>
    intro c h' hc e1 v1
    have hwh := hw.eq e1
    have k1 : KC A F T lk h' := k.eq hw e1 (fun x hx => by simp at hx; omega)
    exact wX10_readFears_2 hwh.1 hwh.2.1 hwh.2.2.1 (c_cells hwh k.g k1.l ⟨_, rfl, rfl, bY (nI_le (by omega) (by omega)) (hq h' e1 (fun c' hc' => v1 c' (by omega)))⟩)
  | succ r ih =>
    intro c h' hc e1 v1
    have hwh := hw.eq e1
    have k1 : KC A F T lk h' := k.eq hw e1 (fun x hx => by simp at hx; omega)
    refine wX10_readFears_2 hwh.1 hwh.2.1 hwh.2.2.1 (c_cells hwh k.g k1.l ⟨_, rfl, rfl, bN (nI_ge (by omega) (by omega)) (c_isLand hwh k.g k1.l (by omega) (fun z => ⟨_, rfl, rfl, bN (by decide) ⟨vp_in_nI (by omega) (by decide), ?_⟩⟩) (fun z => ⟨_, rfl, rfl, bY rfl (c_fearOf (bo := 0) hwh k1 hb (by omega) (by decide) (fun h2 e2 => ⟨_, rfl, e2.2, vp_in_nI (by omega) (by decide), ?_⟩))⟩))⟩)
    · rw [nI_clamp (by omega), nI_1]
      refine ih (c + 1) _ (by omega) (gE1 (by decide) e1) (fun c' hc' => ?_)
      by_cases ec : c' = c
      · subst ec
        rw [sI_s]
        unfold cfr
        rw [if_pos z]
        rfl
      · rw [sI_nb ec]; exact v1 c' (by omega)
    · rw [nI_clamp (by omega), nI_1]
      have e3 : gEq [45, 46, 48, 50] h h2 := (e1.tr e2).mono (fun x hx => by simp at hx ⊢; omega)
      refine ih (c + 1) _ (by omega) (gE1 (by decide) e3) (fun c' hc' => ?_)
      by_cases ec : c' = c
      · subst ec
        rw [sI_s]
        unfold cfr
        rw [if_neg z]
      · rw [sI_nb ec, (e2.1 50 (by decide)).1]; exact v1 c' (by omega)
theorem c_isCell_s {y : Nat} (hw : gWf h lk sp cd) (g : qG A) (k : LC A lk h) (hy : y ≤ qN A) (h0 : y = 0 → Q (some (.int 0)) h) (h1 : ∀ x, y = x + 1 → Q (some (.int 1)) h) : gC l G d MX4_isCell [.ref lk, .int (nI y - 1)] h Q := by
  have h48 := g.N48
  cases y with
  | zero =>
    rw [i_m1]
    exact c_isCell_n hw g k (fun j hj q => i_nm1 (a := j) (by omega) q.symm) (h0 rfl)
  | succ x =>
    rw [i_s1]
    exact c_isCell_y hw g k (by omega) (h1 x rfl)
theorem stp_lt (g : qG A) (hc : c < qN A) : stp A c w ≤ qN A := Nat.le_trans wtn_le (nbr_lt g hc)
theorem c_calmerBeside (hw : gWf h lk sp cd) (g : qG A) (k : LC A lk h) (hc : qW A c) (hf : ∀ c, c < qN A → h.1 50 c = nI (cfr A F b c)) (hq : Q (some (.int (nI (cms A (fun c => fer A F b c 0) c 4) - 1))) h) : gC l G (d + 3) MX10_calmerBeside [.ref 49, .int (nI c)] h Q := by
  have h48 := g.N48
  have hc1 := hc.1
  have fl : ∀ c, fer A F b c 0 ≤ 99 := fun c => fer_le g
  refine eX10_calmerBeside hw (fun p e s m args below meth cc => c_isCell_y hw g k hc.1 ⟨_, rfl, rfl, bN' (by decide) ⟨vp_in_nI (by omega) (by decide), ?_⟩⟩)
  rw [nI_clamp (by omega), hf c hc.1, cfr_w hc.2]
  generalize hF : (fun c => fer A F b c 0) = f at hq
  have fe : ∀ c, fer A F b c 0 = f c := fun c => by rw [← hF]
  rw [fe]
  have cl : ∀ w, cml A f c w ≤ 99 := fun w => by
    unfold cml
    split <;> (rw [← fe]; exact fl _)
  suffices H : ∀ r w, w + r = 4 → gg p l e s m args below meth cc G (d + 2 + 1) MX10_calmerBeside Q 28 [some (.ref 49), some (.int (nI c)), some (.int (nI (cml A f c w))), some (.int (nI (cms A f c w) - 1)), some (.int (nI w)), none, none] [] h from H 4 0 (by omega)
  intro r
  induction r with
  | zero =>
    intro w hw4
    have : w = 4 := by omega
    subst this
    exact wX10_calmerBeside_28 hw.1 hw.2.1 hw.2.2.1 (bY (Int32.le_refl _) hq)
  | succ r ih =>
    intro w hw4
    have i1 := ih (w + 1) (by omega)
    have hl := cl w
    refine wX10_calmerBeside_28 hw.1 hw.2.1 hw.2.2.1 (bN (nI_ge (b := 4) (by omega) (by decide)) (c_stepFrom hw g k hc.1 (by omega) ⟨_, rfl, rfl, c_isCell_s hw g k (stp_lt g hc.1) (fun z => ⟨_, rfl, rfl, bY' rfl ?_⟩) (fun x z => ⟨_, rfl, rfl, bN' (by decide) ?_⟩)⟩))
    · rw [cms_0 z, cml_0 z] at i1
      rw [nI_1]
      exact i1
    · have hx := stp_w g hc.1 z
      have hx1 := hx.1
      have hv := hf x hx.1
      rw [cfr_w hx.2, fe] at hv
      have hfx : f x ≤ 99 := by rw [← fe]; exact fl x
      rw [z, i_s1, nI_clamp (by omega), hv, nI_1]
      have vi : vp_in (nI x) 48 := vp_in_nI (by omega) (by decide)
      have es := cms_s (f := f) z
      have el := cml_s (f := f) z
      have hcs : cms A f c w ≤ 48 := by
        cases hh : cms A f c w with
        | zero => omega
        | succ y => have := (cms_w g hc.1 hh).1; omega
      have z0 : nI (cms A f c w) - 1 = -1 ↔ cms A f c w = 0 := by rw [← i_m1, i_eq1 (by omega) (by decide)]
      rw [es, el] at i1
      rw [z0, nI_ltI (by omega) (by omega), nI_eq (by omega) (by omega)]
      have take : f x < cml A f c w ∨ (cms A f c w ≠ 0 ∧ f x = cml A f c w ∧ x + 1 < cms A f c w) → gg p l e s m args below meth cc G (d + 2 + 1) MX10_calmerBeside Q 28 [some (.ref 49), some (.int (nI c)), some (.int (nI (f x))), some (.int (nI x)), some (.int (nI (w + 1))), none, none] [] h := fun q => by
        rw [if_pos q, i_s1] at i1
        by_cases q2 : f x < cml A f c w
        · rw [if_pos q2] at i1; exact i1
        · rw [if_neg q2] at i1
          rw [show f x = cml A f c w by omega]
          exact i1
      have stay : ¬ (f x < cml A f c w ∨ (cms A f c w ≠ 0 ∧ f x = cml A f c w ∧ x + 1 < cms A f c w)) → gg p l e s m args below meth cc G (d + 2 + 1) MX10_calmerBeside Q 28 [some (.ref 49), some (.int (nI c)), some (.int (nI (cml A f c w))), some (.int (nI (cms A f c w) - 1)), some (.int (nI (w + 1))), none, none] [] h := fun q => by
        rw [if_neg q, if_neg (fun q2 => q (Or.inl q2))] at i1
        exact i1
      refine ⟨fun y => ⟨vi, fun q => ⟨vi, take (Or.inl q)⟩, fun q => stay (by omega)⟩, fun y => ⟨vi, fun q => ⟨vi, fun q2 => ⟨vi, take (Or.inl q2)⟩, fun q2 => stay (by omega)⟩, fun q => ?_⟩⟩
      have zl : nI (cms A f c w) - 1 ≤ nI x ↔ cms A f c w ≤ x + 1 := by
        rw [show nI (cms A f c w) - 1 = nI (cms A f c w - 1) from pk_sub (b := 1) (by omega), nI_leI (by omega) (by omega)]
        omega
      rw [zl]
      exact ⟨fun q2 => ⟨vi, fun q3 => ⟨vi, take (Or.inl q3)⟩, fun q3 => stay (by omega)⟩, fun q2 => ⟨vi, fun q3 => ⟨vi, take (Or.inl q3)⟩, fun q3 => ⟨vi, take (Or.inr ⟨y, q, by omega⟩)⟩⟩⟩
/-- it stops behind K steps -/
def rnK (A : qT) (f : Nat → Nat) (c K : Nat) : Prop := (∀ j, j < K → cms A f (rnc A f c j) 4 ≠ 0) ∧ cms A f (rnc A f c K) 4 = 0
theorem rnK_u {K K' : Nat} (h1 : rnK A f c K) (h2 : rnK A f c K') : K = K' := by
  rcases Nat.lt_trichotomy K K' with q | q | q
  · exact absurd h1.2 (h2.1 K q)
  · exact q
  · exact absurd h2.2 (h1.1 K' q)
theorem c_runAway (hw : gWf h lk sp cd) (k : KC A F T lk h) (hb : b < qB A) (hq : ∀ h' K, gEq [45, 46, 48, 49, 50] h h' → rnK A (fun c => fer A F b c 0) (fc F b) K → h'.1 49 4 = nI (rnc A (fun c => fer A F b c 0) (fc F b) K) → Q (some (.int (nI K))) h') : gC l G (d + 6) MX10_runAway [.ref 49, .int (nI b)] h Q := by
  have h48 := k.g.N48
  have g := k.g
  obtain ⟨c0, c4, -, -, -⟩ := k.f.2.2.2.1 b hb
  refine eX10_runAway hw (fun p e s m args below meth cc => c_readFears hw k hb (fun h1 e1 v1 => ⟨rfl, e1.2, ?_⟩))
  have hw1 := hw.eq e1
  have k1 : KC A F T lk h1 := k.eq hw e1 (fun x hx => by simp at hx; omega)
  refine c_cellOf hw1 k1 hb ⟨_, rfl, rfl, ?_⟩
  generalize hF : (fun c => fer A F b c 0) = f at hq
  suffices H : ∀ r i h', gEq [45, 46, 48, 49, 50] h h' → (∀ c, c < qN A → h'.1 50 c = nI (cfr A F b c)) → h'.1 49 4 = nI (rnc A f (fc F b) i) → qW A (rnc A f (fc F b) i) → (∀ j, j < i → cms A f (rnc A f (fc F b) j) 4 ≠ 0) → cnl f (f (rnc A f (fc F b) i)) (qN A) < r → i + cnl f (f (rnc A f (fc F b) i)) (qN A) < 48 → gg p l e s m args below meth cc G (d + 5 + 1) MX10_runAway Q 24 [some (.ref 49), some (.int (nI b)), some (.int (nI i)), some (.int (nI i)), none] [] h' from
    H (qN A + 1) 0 _ (gE1 (by decide) (e1.mono (fun x hx => by simp at hx ⊢; omega))) (fun c hc => by rw [sI_ne (by decide)]; exact v1 c hc) (sI_s _ _ _ _) ⟨c0, c4⟩ (fun j hj => absurd hj (Nat.not_lt_zero _)) (by have := cnl_le f (f (rnc A f (fc F b) 0)) (qN A); omega) (by have := cnl_self f (qN A) (x := fc F b) c0; show 0 + cnl f (f (fc F b)) (qN A) < 48; omega)
  intro r
  induction r with
  | zero => intro i h' _ _ _ _ _ q; exact absurd q (Nat.not_lt_zero _)
  | succ r ih =>
    intro i h' e2 v2 v3 hx hj hr hi
    have hwh := hw.eq e2
    have k2 : KC A F T lk h' := k.eq hw e2 (fun x hx => by simp at hx; omega)
    refine wX10_runAway_24 hwh.1 hwh.2.1 hwh.2.2.1 (bN (nI_ge (b := 48) (by omega) (by decide)) ?_)
    rw [v3]
    refine c_calmerBeside (F := F) (b := b) hwh g k2.l hx v2 ?_
    rw [hF, nI_1]
    have hcs : cms A f (rnc A f (fc F b) i) 4 ≤ 48 := by
      cases hh : cms A f (rnc A f (fc F b) i) 4 with
      | zero => omega
      | succ y => have := (cms_w g hx.1 hh).1; omega
    refine ⟨_, rfl, rfl, ?_⟩
    rw [← i_m1, i_eq1 (by omega) (by decide)]
    refine ⟨fun z => ?_, fun z => hq h' i e2 ⟨hj, z⟩ v3⟩
    obtain ⟨y, hy⟩ : ∃ y, cms A f (rnc A f (fc F b) i) 4 = y + 1 := ⟨_, (Nat.succ_pred z).symm⟩
    have er : rnc A f (fc F b) (i + 1) = y := by show cms A f (rnc A f (fc F b) i) 4 - 1 = y; omega
    have hy2 := cms_w g hx.1 hy
    have hlt := cnl_lt f (cms_lb hy).2 (qN A) hy2.1
    refine ih (i + 1) _ (gE1 (by decide) e2) (fun c hc => by rw [sI_ne (by decide)]; exact v2 c hc) ?_ (by rw [er]; exact hy2) (fun j hj' => ?_) (by rw [er]; omega) (by rw [er]; omega)
    · rw [sI_s, er, hy, i_s1]
    · by_cases ej : j = i
      · subst ej; exact z
      · exact hj j (by omega)
theorem m_leastBeside (hw : gWf h lk sp cd) (g : qG A) (k : LM A h) (hc : c < qN A) (hf : ∀ c, c < qN A → h.1 135 c = nI (lfr A F b c)) (hq : Q (some (.int (nI (lbs A (fun c => fer A F b c 0) c 4) - 1))) h) : gC l G (d + 3) MX12_leastBeside [.ref 82, .int (nI c)] h Q := by
  have h48 := g.N48
  have fl : ∀ c, fer A F b c 0 ≤ 99 := fun c => fer_le g
  refine eX12_leastBeside hw (fun p e s m args below meth cc => ?_)
  generalize hF : (fun c => fer A F b c 0) = f at hq
  have fe : ∀ c, fer A F b c 0 = f c := fun c => by rw [← hF]
  suffices H : ∀ r w, w + r = 4 → gg p l e s m args below meth cc G (d + 2 + 1) MX12_leastBeside Q 4 [some (.ref 82), some (.int (nI c)), some (.int (nI (lbs A f c w) - 1)), some (.int (nI w)), none] [] h from H 4 0 (by omega)
  intro r
  induction r with
  | zero =>
    intro w hw4
    have : w = 4 := by omega
    subst this
    exact wX12_leastBeside_4 hw.1 hw.2.1 hw.2.2.1 (bY (Int32.le_refl _) hq)
  | succ r ih =>
    intro w hw4
    have i1 := ih (w + 1) (by omega)
    have hn := nbr_lt (w := w) g hc
    have skip : stp A c w = 0 → gg p l e s m args below meth cc G (d + 2 + 1) MX12_leastBeside Q 4 [some (.ref 82), some (.int (nI c)), some (.int (nI (lbs A f c w) - 1)), some (.int (nI w + 1)), none] [] h := fun z => by
      have e9 : lbs A f c (w + 1) = lbs A f c w := by
        show (if stp A c w = 0 then _ else _) = _
        rw [if_pos z]
      rw [nI_1, ← e9]
      exact i1
    refine wX12_leastBeside_4 hw.1 hw.2.1 hw.2.2.1 (bN (nI_ge (b := 4) (by omega) (by decide)) (m_beside hw g k hc (by omega) ⟨_, rfl, rfl, ?_⟩))
    rw [← i_m1, i_eq1 (by omega) (by decide)]
    refine ⟨fun z => skip (by unfold stp; rw [z]; rfl), fun z => ?_⟩
    obtain ⟨x, hx⟩ : ∃ x, nbr A c w = x + 1 := ⟨_, (Nat.succ_pred z).symm⟩
    rw [hx, i_s1]
    refine m_isLand hw g k (by omega) (fun y => ⟨_, rfl, rfl, bN (by decide) (skip ?_)⟩) (fun y => ⟨_, rfl, rfl, bY rfl ?_⟩)
    · unfold stp wtn
      rw [hx, if_neg (by omega), Nat.add_sub_cancel, if_pos y]
    · have z2 : stp A c w = x + 1 := wtn_s.mpr ⟨hx, y⟩
      have hxw := stp_w g hc z2
      have hx1 := hxw.1
      rw [lbs_s z2] at i1
      rw [nI_1]
      cases hh : lbs A f c w with
      | zero =>
        rw [hh, if_pos (Or.inl rfl), i_s1] at i1
        exact bY rfl i1
      | succ L =>
        have hL := lbs_w g hc w hh
        have hL1 := hL.1
        rw [hh, Nat.add_sub_cancel] at i1
        rw [i_s1]
        refine bN (fun q => i_nm1 (a := L) (by omega) (q.trans i_m1)) ?_
        rw [nI_clamp (show x < 2 ^ 31 by omega), nI_clamp (show L < 2 ^ 31 by omega), hf x hxw.1, hf L hL.1, lfr_w hxw.2, lfr_w hL.2, fe, fe]
        have f1 : f x ≤ 99 := by rw [← fe]; exact fl x
        have f2 : f L ≤ 99 := by rw [← fe]; exact fl L
        rw [nI_ltI (by omega) (by omega), nI_eq (by omega) (by omega), nI_leI (by omega) (by omega)]
        have vx : vp_in (nI x) 48 := vp_in_nI (by omega) (by decide)
        have vL : vp_in (nI L) 48 := vp_in_nI (by omega) (by decide)
        have take : (L + 1 = 0 ∨ f x < f L ∨ (f x = f L ∧ x + 1 < L + 1)) → gg p l e s m args below meth cc G (d + 2 + 1) MX12_leastBeside Q 4 [some (.ref 82), some (.int (nI c)), some (.int (nI x)), some (.int (nI (w + 1))), none] [] h := fun q => by
          rw [if_pos q, i_s1] at i1
          exact i1
        have stay : ¬ (L + 1 = 0 ∨ f x < f L ∨ (f x = f L ∧ x + 1 < L + 1)) → gg p l e s m args below meth cc G (d + 2 + 1) MX12_leastBeside Q 4 [some (.ref 82), some (.int (nI c)), some (.int (nI L)), some (.int (nI (w + 1))), none] [] h := fun q => by
          rw [if_neg q, i_s1] at i1
          exact i1
        exact ⟨vx, vL, fun q => take (by omega), fun q => ⟨vx, vL, fun q2 => stay (by omega), fun q2 => ⟨fun q3 => stay (by omega), fun q3 => take (by omega)⟩⟩⟩
theorem m_runsL {p : Program} {e : Env} {s : State} {m' : MethodId} {args : Array Value} {below : List Frame} {meth : Method} {cc : Code} {a : Int32} (hw : gWf h lk sp cd) (g : qG A) (k : LM A h) (hF : (fun c => fer A F b c 0) = f) (hf : ∀ c, c < qN A → h.1 135 c = nI (lfr A F b c)) (c0 : Nat)
    (hq : ∀ K, rnK A f c0 K → Q (some (.int (if a = 0 then nI (rnc A f c0 K) else nI K))) h) :
    ∀ r i, qW A (rnc A f c0 i) → (∀ j, j < i → cms A f (rnc A f c0 j) 4 ≠ 0) → f (rnc A f c0 i) < r → gg p l e s m' args below meth cc G (d + 3 + 1) MX12_runs Q 41 [some (.ref 82), some (.int (nI b)), some (.int a), some (.int (nI (rnc A f c0 i))), some (.int (nI i)), some (.int (nI (lbs A f (rnc A f c0 i) 4) - 1))] [] h := by
  have h48 := g.N48
  have fe : ∀ c, fer A F b c 0 = f c := fun c => by rw [← hF]
  have fl : ∀ c, f c ≤ 99 := fun c => by rw [← fe]; exact fer_le g
  intro r
  induction r with
  | zero => intro i _ _ q; exact absurd q (Nat.not_lt_zero _)
  | succ r ih =>
    intro i hx hj hr
    have hx1 := hx.1
    have fin : cms A f (rnc A f c0 i) 4 = 0 → ((¬ a = 0 → Q (some (.int (nI i))) h) ∧ (a = 0 → Q (some (.int (nI (rnc A f c0 i)))) h)) := fun z => by
      have := hq i ⟨hj, z⟩
      exact ⟨fun y => by rw [if_neg y] at this; exact this, fun y => by rw [if_pos y] at this; exact this⟩
    refine wX12_runs_41 hw.1 hw.2.1 hw.2.2.1 ?_
    have ec : cms A f (rnc A f c0 i) 4 = if lbs A f (rnc A f c0 i) 4 ≠ 0 ∧ f (lbs A f (rnc A f c0 i) 4 - 1) < f (rnc A f c0 i) then lbs A f (rnc A f c0 i) 4 else 0 := rfl
    cases hh : lbs A f (rnc A f c0 i) 4 with
    | zero => exact bY i_m1 (fin (by rw [ec, if_neg (fun q => q.1 hh)]))
    | succ y =>
      have hy := lbs_w g hx.1 4 hh
      have hy1 := hy.1
      have f1 := fl y
      have f2 := fl (rnc A f c0 i)
      rw [i_s1, nI_clamp (show y < 2 ^ 31 by omega), nI_clamp (show rnc A f c0 i < 2 ^ 31 by omega), hf y hy.1, hf _ hx.1, lfr_w hy.2, lfr_w hx.2, fe, fe, nI_leI (by omega) (by omega)]
      rw [hh, Nat.add_sub_cancel] at ec
      refine bN (i_nm1 (by omega)) ⟨vp_in_nI (by omega) (by decide), vp_in_nI (by omega) (by decide), fun q => fin (by rw [ec, if_neg (by omega)]), fun q => ?_⟩
      rw [if_pos ⟨by omega, by omega⟩] at ec
      have er : rnc A f c0 (i + 1) = y := by show cms A f (rnc A f c0 i) 4 - 1 = y; omega
      refine m_leastBeside (F := F) (b := b) hw g k hy.1 hf ⟨_, rfl, rfl, ?_⟩
      rw [hF, nI_1]
      have := ih (i + 1) (by rw [er]; exact hy) (fun j hj' => by
        by_cases ej : j = i
        · subst ej; omega
        · exact hj j (by omega)) (by rw [er]; omega)
      rw [er] at this
      exact this
theorem st_runs : gStepI l G (gInv Rst) MX11_runs MX12_runs 2 := by
  intro n9 h av hn9 hl hi
  obtain ⟨a, b, rfl⟩ := two_of hl
  obtain ⟨lk, sp, cd, A, F, T, hw, k, m, -, -⟩ := hi.2.2.2.2.2.2.k hn9
  have hm := gInv.mono Rst_cg n9 h hi
  have h6 := k.g.B6
  have h48 := k.g.N48
  rcases ixd a (qB A) (by omega) with ⟨j, hj, rfl⟩ | hb
  · obtain ⟨c0, c4, -, -, -⟩ := k.f.2.2.2.1 j hj
    refine eX11_runs (d := 899) hw (c_isBoat_y hw k.g k.l hj ⟨_, rfl, rfl, bN' (by decide) (c_runAway hw k hj (fun h1 K e1 hK v1 => ⟨_, rfl, e1.2, ?_⟩))⟩)
    have hw1 := hw.eq e1
    have m1 : KM A F h1 := m.eq e1 (fun x hx => by simp at hx; omega) (by rw [(e1.1 82 (by decide)).1])
    have fin : ∀ h2, MG [82, 131, 132, 135] h1 h2 → gInv Rst (n9 + 1) h2 := fun h2 e2 => by
      refine inv_read hi (e1.tr e2.1) (by decide) (fun j hj => ?_) ?_ ?_ ?_
      · rw [e2.2.1 j (fun z => by subst z; revert hj; decide), (e1.1 82 (by decide)).1]
      · rw [e2.2.2, (e1.1 82 (by decide)).2]
      · rw [(e2.1.1 58 (by decide)).1, (e1.1 58 (by decide)).1]
      · rw [(e2.1.1 58 (by decide)).1, (e1.1 58 (by decide)).1]
    have mdl : ∀ v : Int32, (b = 0 → v = nI (rnc A (fun c => fer A F j c 0) (fc F j) K)) → (b = 1 → v = nI K) → (¬ b = 0 → ¬ b = 1 → v = -1) → gC l G 900 MX12_runs [.ref 82, .int (nI j), .int b] h1 (fun r h' => ∃ v'', r = some (.int v'') ∧ v = v'' ∧ gInv Rst (n9 + 1) h') := fun v q0 q1 q3 => by
      refine eX12_runs (d := 899) hw1 (fun p e s m' args below meth cc => m_isBoat_y hw1 m1.g m1.l hj ⟨_, rfl, rfl, bN (by decide) (c_isInI 0 1 hw1 (fun z1 z2 => ⟨_, rfl, rfl, bN' (by decide) ?_⟩) (fun z => ⟨_, rfl, rfl, bY' rfl ⟨_, rfl, ?_, fin h1 MG.rf⟩⟩))⟩)
      · have a2 : ¬ b = 0 → b = 1 := fun z3 => by
          obtain ⟨j, hj, rfl⟩ := nI_of2 (x := b) (M := 1) (n := 1) (by decide) (Int32.not_lt.mpr z1) z2
          have : j = 0 ∨ j = 1 := by omega
          rcases this with e | e <;> subst e
          · exact absurd rfl z3
          · rfl
        refine m_laysFears hw1 m1 hj (fun h2 e2 v2 => ⟨rfl, e2.1.2, ?_⟩)
        have hw2 := hw1.eq e2.1
        have m2 := m1.mg e2 (fun x hx => by simp at hx; omega)
        refine m_cellOf hw2 m2 hj ⟨_, rfl, rfl, m_leastBeside (F := F) (b := j) hw2 m2.g m2.l c0 v2 ⟨_, rfl, rfl, ?_⟩⟩
        refine m_runsL (l := l) (G := G) (d := 896) (p := p) (e := e) (s := s) (m' := m') (args := args) (below := below) (meth := meth) (cc := cc) (a := b) (F := F) (b := j) (Q := fun r h' => ∃ v'', r = some (.int v'') ∧ v = v'' ∧ gInv Rst (n9 + 1) h') hw2 m2.g m2.l rfl v2 (fc F j) (fun K' hK' => ⟨_, rfl, ?_, fin h2 e2⟩) 101 0 ⟨c0, c4⟩ (fun j hj => absurd hj (Nat.not_lt_zero _)) ?_
        · rw [rnK_u hK' hK]
          by_cases y : b = 0
          · rw [if_pos y]; exact q0 y
          · rw [if_neg y]; exact q1 (a2 y)
        · have := fer_le (A := A) (F := F) (b := j) (c := fc F j) (bo := 0) k.g
          show fer A F j (fc F j) 0 < 101
          omega
      · refine q3 (fun e => z ?_) (fun e => z ?_) <;> subst e <;> decide
    rw [v1]
    exact ⟨fun y => ⟨_, rfl, mdl _ (fun _ => rfl) (fun q => absurd (y.symm.trans q) (by decide)) (fun q => absurd y q)⟩, fun y => ⟨_, rfl, mdl _ (fun q => absurd (q.symm.trans y) (by decide)) (fun _ => rfl) (fun _ q => absurd y q)⟩, fun y1 y2 => ⟨_, rfl, mdl _ (fun q => absurd q y1) (fun q => absurd q y2) (fun _ _ => rfl)⟩⟩
  · refine eX11_runs (d := 899) hw (c_isBoat_n hw k.g k.l hb ⟨_, rfl, rfl, bY' rfl ⟨_, rfl, ?_⟩⟩)
    exact eX12_runs (d := 899) hw (fun p e s m' args below meth cc => m_isBoat_n hw m.g m.l hb ⟨_, rfl, rfl, bY rfl ⟨_, rfl, rfl, hm⟩⟩)
end RN
