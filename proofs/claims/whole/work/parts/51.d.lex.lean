/-- a number from lo on, below hi, at p -/
def numF (t : Nat → Nat) (n lo hi : Nat) (p : Nat × Bool) : Except (Nat × Nat) (Nat × (Nat × Bool)) :=
  if tkk t n p.1 p.2 = 1002 then (if tks t n p.1 - p.1 ≤ 4 then (if lo ≤ nvl t p.1 (tks t n p.1 - p.1) ∧ nvl t p.1 (tks t n p.1 - p.1) < hi then .ok (nvl t p.1 (tks t n p.1 - p.1), nx t n p.1, nj t n p.1) else .error (2, p.1)) else .error (1, p.1 + 4)) else .error (1, p.1)
def sgF (t : Nat → Nat) (n c : Nat) (p : Nat × Bool) : Except (Nat × Nat) (Nat × Bool) := if tkk t n p.1 p.2 = c then .ok (nx t n p.1, nj t n p.1) else .error (1, p.1)
def isW (t : Nat → Nat) (n i : Nat) (p : Nat × Bool) : Prop := tkk t n p.1 p.2 = 1001 ∧ wat t n p.1 i
noncomputable def wdF (t : Nat → Nat) (n i : Nat) (p : Nat × Bool) : Except (Nat × Nat) (Nat × Bool) := @ite _ (isW t n i p) (Classical.propDecidable _) (.ok (nx t n p.1, nj t n p.1)) (.error (1, p.1))
/-- a name at p (nothing is gone by) -/
noncomputable def nmF (t : Nat → Nat) (n : Nat) (p : Nat × Bool) : Except (Nat × Nat) Unit := if tkk t n p.1 p.2 = 1001 then (if tks t n p.1 - p.1 ≤ 6 then @ite _ (∃ i, i < 34 ∧ wat t n p.1 i) (Classical.propDecidable _) (.error (1, p.1)) (.ok ()) else .error (1, p.1 + 6)) else .error (1, p.1)
def CFl (f q : Nat) (h h' : gH) : Prop := gEq [1] h h' ∧ h'.1 1 2 = h.1 1 2 ∧ h'.1 1 8 = nI f ∧ h'.1 1 9 = nI q
theorem nvl_lt {t : Nat → Nat} {s : Nat} : ∀ k, (∀ j, j < k → cls (t (s + j)) = 2) → nvl t s k < 10 ^ k
  | 0, _ => by unfold nvl; decide
  | k + 1, h => by
    have i := nvl_lt k (fun j hj => h j (by omega))
    have := cls2.mp (h k (by omega))
    unfold nvl
    rw [Nat.pow_succ]
    omega
section LC3
variable {l : Launch} {G : gG} {d : Nat} {Q : Option Value → gH → Prop} {h h0 : gH} {lk sp : Nat} {cd : Option Nat} {t : Nat → Nat} {n s p k c i f : Nat} {b B : Bool}
theorem CLx.fl {h1 h2 : gH} {q : Nat} (a : CLx h h1) (b : CFl f q h1 h2) : CFl f q h h2 := ⟨(a.1.tr b.1).mono (fun x hx => by simpa using hx), b.2.1.trans a.2.1, b.2.2.1, b.2.2.2⟩
theorem c_fail {q : Nat} (hw : gWf h lk sp cd) (hq : ∀ h', CFl f q h h' → Q (some (.int 0)) h') : gC l G d MX5_fail [.ref 1, .int (nI f), .int (nI q)] h Q := by
  refine eX5_fail hw (hq _ ⟨gE1 (by decide) (gE1 (by decide) (gEq.rf _ _)), ?_, ?_, sI_s _ _ _ _⟩)
  · rw [sI_nb (by decide), sI_nb (by decide)]
  · rw [sI_nb (by decide), sI_s]
theorem c_failHere (hw : gWf h lk sp cd) (h4 : h.1 1 4 = nI s) (hq : ∀ h', CFl f s h h' → Q (some (.int 0)) h') : gC l G (d + 1) MX5_failHere [.ref 1, .int (nI f)] h Q := by
  refine eX5_failHere hw ?_
  rw [h4]
  exact c_fail hw (fun h' e => ⟨_, rfl, e.1.2, Or.inl rfl, hq h' e⟩)
theorem CTk.k3 (k : CTk t n s b h) : h.1 1 3 = kI (tkk t n s b) := k.2.2.1
theorem CTk.k4 (k : CTk t n s b h) : h.1 1 4 = nI s := k.2.2.2.1
theorem CTk.k5 (k : CTk t n s b h) : h.1 1 5 = nI (tks t n s) := k.2.2.2.2.1
theorem CTk.wd (tw : TWf t n) (k : CTk t n s b h) (hk : tkk t n s b = 1001) : s < n ∧ cls (t s) = 1 ∧ (∀ i, i < 40 → (h.1 1 6 = nI i ↔ wat t n s i)) ∧ (h.1 1 6 = -1 ∨ ∃ i, i < 40 ∧ h.1 1 6 = nI i) ∧ (tks t n s - s ≤ 6 → h.1 1 7 = nI (p32 (ltr t n s) 6)) := by
  have := (tkk_w.mp ⟨hk, tw.2⟩).1
  exact ⟨this.1, this.2.1, k.2.2.2.2.2 this.1 this.2.1⟩
theorem c_isWord (hw : gWf h lk sp cd) (tw : TWf t n) (k : CTk t n s b h) (hi : i < 40) (hy : isW t n i (s, b) → Q (some (.int 1)) h) (hn : ¬ isW t n i (s, b) → Q (some (.int 0)) h) : gC l G d MX5_isWord [.ref 1, .int (nI i)] h Q := by
  have tk := tkk_lt (t := t) (n := n) (s := s) (b := b) tw.2
  refine eX5_isWord hw ?_
  rw [k.k3, (kI_w tk).1]
  refine ⟨fun z => hn (fun q => z q.1), fun z => ?_⟩
  rw [(k.wd tw z).2.2.1 i hi]
  exact ⟨fun y => hn (fun q => y q.2), fun y => hy ⟨z, y⟩⟩
theorem c_takeWord (hw : gWf h lk sp cd) (tw : TWf t n) (tp : TPc t n h) (k : CTk t n s b h) (hi : i < 40) (hy : ∀ p' h', wdF t n i (s, b) = .ok p' → CLx h h' → CTk t n p'.1 p'.2 h' → Q (some (.int 1)) h') (hn : ∀ f q h', wdF t n i (s, b) = .error (f, q) → CFl f q h h' → Q (some (.int 0)) h') : gC l G (d + 2) MX5_takeWord [.ref 1, .int (nI i)] h Q := by
  refine eX5_takeWord hw (c_isWord hw tw k hi (fun z => ⟨_, rfl, rfl, bN' (by decide) (c_move hw tw tp k (by have : tkk t n s b = 1001 := z.1; omega) (fun h' e1 k1 => ⟨rfl, e1.1.2, hy (nx t n s, nj t n s) h' (if_pos z) e1 k1⟩))⟩) (fun z => ⟨_, rfl, rfl, bY' rfl (c_failHere (f := 1) hw k.k4 (fun h' e => ⟨_, rfl, e.1.2, Or.inl rfl, hn 1 s h' (if_neg z) e⟩))⟩))
theorem c_takeSign (hw : gWf h lk sp cd) (tw : TWf t n) (tp : TPc t n h) (k : CTk t n s b h) (hc : c < 256) (hy : ∀ p' h', sgF t n c (s, b) = .ok p' → CLx h h' → CTk t n p'.1 p'.2 h' → Q (some (.int 1)) h') (hn : ∀ f q h', sgF t n c (s, b) = .error (f, q) → CFl f q h h' → Q (some (.int 0)) h') : gC l G (d + 2) MX5_takeSign [.ref 1, .int (nI c)] h Q := by
  have tk := tkk_lt (t := t) (n := n) (s := s) (b := b) tw.2
  refine eX5_takeSign hw ?_
  rw [k.k3, kI_c tk hc]
  exact ⟨fun z => c_move hw tw tp k (by omega) (fun h' e1 k1 => ⟨rfl, e1.1.2, hy (nx t n s, nj t n s) h' (if_pos z) e1 k1⟩), fun z => c_failHere (f := 1) hw k.k4 (fun h' e => ⟨_, rfl, e.1.2, Or.inl rfl, hn 1 s h' (if_neg z) e⟩)⟩
/-- the end is asked -/
theorem c_takeEnd (hw : gWf h lk sp cd) (tw : TWf t n) (tp : TPc t n h) (k : CTk t n s b h) (hy : ∀ h', tkk t n s b = 1000 → CLx h h' → Q (some (.int 1)) h') (hn : ∀ h', tkk t n s b ≠ 1000 → CFl 1 s h h' → Q (some (.int 0)) h') : gC l G (d + 2) MX5_takeSign [.ref 1, .int (-1)] h Q := by
  have tk := tkk_lt (t := t) (n := n) (s := s) (b := b) tw.2
  refine eX5_takeSign hw ?_
  rw [k.k3, (kI_w tk).2.2]
  exact ⟨fun z => c_move hw tw tp k (by omega) (fun h' e1 k1 => ⟨rfl, e1.1.2, hy h' z e1⟩), fun z => c_failHere (f := 1) hw k.k4 (fun h' e => ⟨_, rfl, e.1.2, Or.inl rfl, hn h' z e⟩)⟩
theorem c_takeNumber {lo hi : Nat} (hw : gWf h lk sp cd) (tw : TWf t n) (tp : TPc t n h) (k : CTk t n s b h) (hlo : lo < 2 ^ 29) (hhi : hi < 2 ^ 29) (hy : ∀ v p' h', numF t n lo hi (s, b) = .ok (v, p') → CLx h h' → CTk t n p'.1 p'.2 h' → Q (some (.int (nI v))) h') (hn : ∀ f q h', numF t n lo hi (s, b) = .error (f, q) → CFl f q h h' → Q (some (.int (-1))) h') : gC l G (d + 2) MX5_takeNumber [.ref 1, .int (nI lo), .int (nI hi - 1)] h Q := by
  have tk := tkk_lt (t := t) (n := n) (s := s) (b := b) tw.2
  have n16 := tw.1
  have sn := k.1
  have tl := tks_le (t := t) k.1
  refine eX5_takeNumber hw ?_
  rw [k.k3, (kI_w tk).2.1, k.k4, k.k5]
  unfold numF at hy hn
  refine ⟨fun z => ?_, fun z => c_failHere (f := 1) hw k.k4 (fun h' e => ⟨_, rfl, e.1.2, hn 1 s h' (by rw [if_neg z]) e⟩)⟩
  rw [if_pos z] at hy hn
  obtain ⟨dn, d2, -⟩ := (tkk_d.mp ⟨z, tw.2⟩).1
  have hg := tks_gt (t := t) dn
  have etk : tks t n s = rn t n 2 s := by unfold tks; rw [if_neg (by omega), if_neg (by omega), if_pos d2]
  have dg9 : ∀ j, j < tks t n s - s → cls (t (s + j)) = 2 := fun j hj => (rn_in (t := t) (n := n) (q := 2) s (s + j) (by omega) (by omega)).2
  have le4 : nI (tks t n s) - nI s ≤ 4 ↔ tks t n s - s ≤ 4 := by rw [pk_sub (by omega)]; exact nI_leI (b := 4) (by omega) (by decide)
  rw [le4]
  refine ⟨fun y => ?_, fun y => ?_⟩
  · rw [if_pos y] at hy hn
    have vl := nvl_lt (t := t) (s := s) (tks t n s - s) dg9
    have p4 : 10 ^ (tks t n s - s) ≤ 10 ^ 4 := Nat.pow_le_pow_right (by decide) y
    have num : ∀ Q : Option Value → gH → Prop, Q (some (.int (nI (nvl t s (tks t n s - s))))) h → gC l G (d + 1) MX5_numberHere [.ref 1] h Q := fun Q hq => by
      refine eX5_numberHere hw (fun p9 e9 s9 m9 args9 below9 meth9 cc9 => ?_)
      rw [k.k4]
      suffices H : ∀ r j, j + r = tks t n s - s → gg p9 l e9 s9 m9 args9 below9 meth9 cc9 G (d + 1) MX5_numberHere Q 7 [some (.ref 1), some (.int (nI (nvl t s j))), some (.int (nI (s + j)))] [] h from H (tks t n s - s) 0 (by omega)
      intro r
      induction r with
      | zero =>
        intro j hj
        have : j = tks t n s - s := by omega
        subst this
        exact wX5_numberHere_7 hw.1 hw.2.1 hw.2.2.1 (bN (nI_pos (by omega)) (bY (by rw [k.k5]; exact nI_le (by omega) (by omega)) hq))
      | succ r ih =>
        intro j hj
        have cj := cls2.mp (dg9 j (by omega))
        refine wX5_numberHere_7 hw.1 hw.2.1 hw.2.2.1 (bN (nI_pos (by omega)) (bN (by rw [k.k5]; exact nI_ge (by omega) (by omega)) (bN (nI_ge (b := 1600) (by omega) (by decide)) ⟨vp_in_nI (by omega) (by decide), ?_⟩)))
        rw [nI_clamp (by omega), tp.2.1 _ (by omega), nI_1, lit 10, pk_mul, nI_add, lit 48, pk_sub (by omega), show nvl t s j * 10 + t (s + j) - 48 = nvl t s (j + 1) by show _ = 10 * nvl t s j + (t (s + j) - 48); omega]
        exact ih (j + 1) (by omega)
    refine num _ ⟨_, rfl, rfl, ?_⟩
    generalize nvl t s (tks t n s - s) = v at *
    rw [nI_ltI (by omega) (by omega), i_le1 (by omega) (by omega)]
    refine ⟨fun x => c_failHere (f := 2) hw k.k4 (fun h' e => ⟨_, rfl, e.1.2, hn 2 s h' (by rw [if_neg (by omega)]) e⟩), fun x => ⟨fun w => c_move hw tw tp k (by omega) (fun h' e1 k1 => ⟨rfl, e1.1.2, hy v (nx t n s, nj t n s) h' (by rw [if_pos ⟨by omega, by omega⟩]) e1 k1⟩), fun w => c_failHere (f := 2) hw k.k4 (fun h' e => ⟨_, rfl, e.1.2, hn 2 s h' (by rw [if_neg (by omega)]) e⟩)⟩⟩
  · rw [if_neg y] at hn
    rw [lit 4, nI_add]
    exact c_fail (f := 1) (q := s + 4) hw (fun h' e => ⟨_, rfl, e.1.2, hn 1 (s + 4) h' rfl e⟩)
theorem c_isAtName (hw : gWf h lk sp cd) (tw : TWf t n) (k : CTk t n s b h) (hy : nmF t n (s, b) = .ok () → Q (some (.int 1)) h) (hn : ∀ f q h', nmF t n (s, b) = .error (f, q) → CFl f q h h' → Q (some (.int 0)) h') : gC l G (d + 2) MX5_isAtName [.ref 1] h Q := by
  have tk := tkk_lt (t := t) (n := n) (s := s) (b := b) tw.2
  have n16 := tw.1
  have sn := k.1
  have tl := tks_le (t := t) k.1
  refine eX5_isAtName hw ?_
  rw [k.k3, (kI_w tk).1, k.k4, k.k5]
  unfold nmF at hy hn
  refine ⟨fun z => ?_, fun z => c_failHere (f := 1) hw k.k4 (fun h' e => ⟨_, rfl, e.1.2, Or.inl rfl, hn 1 s h' (by rw [if_neg z]) e⟩)⟩
  rw [if_pos z] at hy hn
  obtain ⟨w0, w1, w2, w3, w4⟩ := k.wd tw z
  have hg := tks_gt (t := t) w0
  have le6 : nI (tks t n s) - nI s ≤ 6 ↔ tks t n s - s ≤ 6 := by rw [pk_sub (by omega)]; exact nI_leI (b := 6) (by omega) (by decide)
  rw [le6]
  refine ⟨fun y => ?_, fun y => ?_⟩
  · rw [if_pos y] at hy hn
    rcases w3 with w3 | ⟨i, i40, w3⟩
    · rw [w3]
      refine bY rfl (hy (if_neg (fun ⟨i, i1, i2⟩ => ?_)))
      have := (w2 i (by omega)).mpr i2
      rw [w3] at this
      exact i_nm1 (by omega) this.symm
    · have wi := (w2 i i40).mp w3
      rw [w3]
      have z3 : 34 ≤ nI i ↔ 34 ≤ i := nI_leI (a := 34) (by decide) (by omega)
      rw [z3]
      refine bN (i_nm1 (by omega)) ⟨fun x => hy (if_neg (fun ⟨i', i1, i2⟩ => ?_)), fun x => c_failHere (f := 1) hw k.k4 (fun h' e => ⟨_, rfl, e.1.2, Or.inl rfl, hn 1 s h' (if_pos ⟨i, by omega, wi⟩) e⟩)⟩
      have := wat_u i40 (by omega) wi i2
      omega
  · rw [if_neg y] at hn
    rw [lit 6, nI_add]
    exact c_fail (f := 1) (q := s + 6) hw (fun h' e => ⟨_, rfl, e.1.2, Or.inl rfl, hn 1 (s + 6) h' rfl e⟩)
theorem c_rewind (hw : gWf h lk sp cd) (tw : TWf t n) (tp : TPc t n h) (hq : ∀ h', gEq [1] h h' → h'.1 1 2 = h.1 1 2 → h'.1 1 8 = 0 → h'.1 1 9 = -1 → CTk t n (skp t n 0) false h' → Q none h') : gC l G (d + 2) MX5_rewind [.ref 1] h Q := by
  have e1 : gEq [1] h (sI (sI (sI (sI (sI h 1 3 (-1)) 1 4 0) 1 5 0) 1 8 0) 1 9 (-1)) := gE1 (by decide) (gE1 (by decide) (gE1 (by decide) (gE1 (by decide) (gE1 (by decide) (gEq.rf _ _)))))
  have tp1 : TPc t n (sI (sI (sI (sI (sI h 1 3 (-1)) 1 4 0) 1 5 0) 1 8 0) 1 9 (-1)) := ⟨tp.1, tp.2.1, tp.2.2⟩
  refine eX5_rewind hw (c_move0 (p := 0) (B := false) (hw.eq e1) tw tp1 (Nat.zero_le _) rfl ⟨fun q => ?_, fun q => absurd q (by decide)⟩ (fun h' e2 k2 => ⟨rfl, e2.1.2, hq h' ((e1.tr e2.1).mono (fun x hx => by simpa using hx)) e2.2.1 (e2.2.2.1.trans rfl) (e2.2.2.2.trans rfl) k2⟩))
  rcases q with q | q
  · exact absurd (show (-1 : Int32) = -2 from q) (by decide)
  · exact absurd (show (-1 : Int32) = -3 from q) (by decide)
end LC3
