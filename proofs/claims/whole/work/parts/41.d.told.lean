/-- a token of the lake's sums as a word of the class -/
def cu (t : Nat) : Nat := if 1000 ≤ t then t else twd t
theorem cu_ok {t : Nat} (h : tok t) : uok (cu t) ∧ (t < 7 → ¬ psh (cu t)) ∧ (7 ≤ t → psh (cu t)) ∧ ¬ una (cu t) := by
  rcases h with h | h
  · have : ∀ t, t < 17 → (t = 0 ∨ ((cu t < 31 ∨ cu t ∈ [32, 33, 42, 43, 45, 47, 60, 61, 62]) ∧ (t < 7 → ¬ (cu t < 27 ∨ 1000 ≤ cu t)) ∧ (7 ≤ t → (cu t < 27 ∨ 1000 ≤ cu t)) ∧ ¬ (cu t = 27 ∨ cu t = 30))) := by decide
    obtain ⟨h1, h2, h3, h4⟩ := (this t (by omega)).resolve_left (by omega)
    exact ⟨h1.elim Or.inl (fun q => Or.inr (Or.inl q)), h2, h3, h4⟩
  · have e : cu t = t := if_pos h.1
    rw [e]
    exact ⟨Or.inr (Or.inr h), fun q => by omega, fun _ => Or.inr h.1, fun q => by rcases q with q | q <;> omega⟩
theorem dpu_dep {f : Nat → Nat} {n : Nat} (h : ∀ i, i < n → tok (f i)) : ∀ i, i ≤ n → dpu (fun k => cu (f k)) i = dep f i
  | 0, _ => rfl
  | i + 1, hi => by
    obtain ⟨-, h2, h3, h4⟩ := cu_ok (h i (by omega))
    have ih := dpu_dep h i (by omega)
    show (if psh (cu (f i)) then _ else _) = (if f i < 7 then _ else _)
    by_cases q : f i < 7
    · rw [if_neg (h2 q), if_neg h4, if_pos q, ih]
    · rw [if_pos (h3 (by omega)), if_neg q, ih]
theorem uwf_of {f : Nat → Nat} {n : Nat} (h : twf f n) : uwf (fun k => cu (f k)) n := by
  have e := dpu_dep (f := f) (n := n) (fun i hi => (h.1 i hi).1)
  refine ⟨fun i hi => ?_, fun hn => by rw [e n (Nat.le_refl _)]; exact h.2 hn⟩
  obtain ⟨h1, h2, h3⟩ := h.1 i hi
  obtain ⟨c1, c2, c3, c4⟩ := cu_ok h1
  rw [e i (by omega), e (i + 1) (by omega)]
  exact ⟨c1, fun q => absurd q c4, fun q _ => h2 (Decidable.byContradiction (fun z => q (c3 (by omega)))), h3⟩
theorem tcc_cu {t : Nat} : tcc t = ucc (cu t) := by
  unfold tcc ucc cu
  by_cases q : 1000 ≤ t
  · rw [if_pos q, if_pos q, if_pos q]
  · rw [if_neg q, if_neg q, if_neg (show ¬ 1000 ≤ twd t from ?_)]
    have : ∀ t, twd t ≤ 47 := fun t => by
      by_cases z : t < 17
      · have : ∀ t, t < 17 → twd t ≤ 47 := by decide
        exact this t z
      · unfold twd
        rw [List.getD_eq_getElem?_getD, List.getElem?_eq_none (by simp; omega)]
        decide
    have := this t
    omega
theorem sL_nb {h : gH} {k i b : Nat} {x : Int64} (hb : b ≠ i) : (sL h k i x).2.1 k b = h.2.1 k b := (sL_b h k i x b hb).2.1
section MD
variable {l : Launch} {G : gG} {d : Nat} {Q : Option Value → gH → Prop} {h h0 : gH} {lk sp : Nat} {cd : Option Nat}
theorem m_clip {y : Int} (hw : gWf h lk sp cd) (h1 : -1000000000000000 ≤ y) (h2 : y ≤ 1000000000000000) (hq : Q (some (.long (lI (clp y)))) h) : gC l G d MX12_clip [.long (lI y)] h Q := by
  refine eX12_clip hw ?_
  rw [lg_cmp_le, lg_cmp_ge, l_mil', l_mil, lI_le (by omega) (by omega) (by omega) (by omega), lI_le (by omega) (by omega) (by omega) (by omega)]
  unfold clp at hq
  refine ⟨fun z => ⟨fun z2 => ?_, fun z2 => ?_⟩, fun z => ?_⟩
  · by_cases e : y < 1000000
    · rw [if_pos e, if_neg (by omega)] at hq; exact hq
    · rw [if_neg e] at hq; rw [show y = 1000000 by omega]; exact hq
  · rw [if_pos (by omega), if_pos (by omega)] at hq; exact hq
  · rw [if_neg (by omega)] at hq; exact hq
theorem m_floor {a b : Int} (hw : gWf h lk sp cd) (ha : mil a) (hb : mil b) (hq : Q (some (.long (lI (fdi a b)))) h) : gC l G d MX12_floor [.long (lI a), .long (lI b)] h Q := by
  have t1 := tdm b ha
  have t2 := tdv_m b ha
  have ed := lI_div ha hb
  unfold mil at ha hb t2
  have e0 : (0 : Int64) = lI 0 := by decide
  have e1 : (1 : Int64) = lI 1 := by decide
  refine eX12_floor hw ?_
  have z0 : lI b = 0 ↔ b = 0 := by rw [e0, lI_eq (by omega) (by omega) (by omega) (by omega)]
  have zr : lI (a - a.tdiv b * b) = 0 ↔ a.tdiv b * b = a := by rw [e0, lI_eq (by omega) (by omega) (by omega) (by omega)]; omega
  have za : 0 ≤ lI a ↔ 0 ≤ a := by rw [e0, lI_le (by omega) (by omega) (by omega) (by omega)]
  have zb : 0 ≤ lI b ↔ 0 ≤ b := by rw [e0, lI_le (by omega) (by omega) (by omega) (by omega)]
  simp only [lg_cmp_eq, lg_cmp_ge]
  rw [ed, lI_mul, lI_sub, zr, za, zb, z0]
  unfold fdi at hq
  refine ⟨fun q => ⟨q, q, fun r => ?_, fun r => ?_⟩, fun q => ?_⟩
  · rw [if_neg q, if_pos r] at hq; exact hq
  · rw [if_neg q, if_neg r] at hq
    refine ⟨fun x => ⟨fun y => ?_, fun y => ?_⟩, fun x => ⟨fun y => ?_, fun y => ?_⟩⟩
    · rw [if_pos (by omega)] at hq; exact hq
    · rw [if_neg (by omega)] at hq; rw [e1, lI_sub]; exact hq
    · rw [if_neg (by omega)] at hq; rw [e1, lI_sub]; exact hq
    · rw [if_pos (by omega)] at hq; exact hq
  · rw [if_pos q] at hq; exact hq
theorem m_puts {v : Int64} {n : Nat} (hw : gWf h lk sp cd) (hn : n < 1700) (h3 : h.1 82 66 = nI n) (hq : Q none (sI (sL h 131 n v) 82 66 (nI (n + 1)))) : gC l G d MX12_puts [.ref 82, .long v] h Q := by
  refine eX12_puts hw ?_
  rw [h3, nI_clamp (by omega), nI_1]
  exact ⟨vp_in_nI hn (by decide), hq⟩
theorem m_joins {t n : Nat} {a b : Int} (hw : gWf h lk sp cd) (ht : 1 ≤ t) (ht6 : t < 7) (hn : n < 1600) (h3 : h.1 82 66 = nI (n + 2)) (ha : mil a) (hb : mil b) (e1 : h.2.1 131 n = lI a) (e2 : h.2.1 131 (n + 1) = lI b) (hq : Q none (sI (sL (sI h 82 66 (nI n)) 131 n (lI (jn (twd t) a b))) 82 66 (nI (n + 1)))) : gC l G (d + 1) MX12_joins [.ref 82, .int (nI t)] h Q := by
  have n1 : nI (n + 2) - 1 = nI (n + 1) := nI_pred (n + 1)
  have n2 : nI (n + 2) - 2 = nI n := pk_sub (a := n + 2) (b := 2) (by omega)
  refine eX12_joins hw ?_
  rw [h3, n1, n2, nI_clamp (show n + 1 < 2 ^ 31 by omega), nI_clamp (show n < 2 ^ 31 by omega), e1, e2, lI_add, lI_sub, lI_mul]
  have ma := ha
  have mb := hb
  unfold mil at ha hb
  have hwk := hw.eq (gEq.sI h 82 66 (nI n))
  have pt : ∀ v : Int64, v = lI (jn (twd t) a b) → gC l G d MX12_puts [.ref 82, .long v] (sI h 82 66 (nI n)) (rV fun h2 => h2.2.2 = (sI h 82 66 (nI n)).2.2 ∧ Q none h2) := fun v hv => m_puts hwk (by omega) (sI_s _ _ _ _) ⟨rfl, rfl, by rw [hv]; exact hq⟩
  have hab : -1000000000000 ≤ a * b ∧ a * b ≤ 1000000000000 := by
    have h1 : (a * b).natAbs ≤ 1000000 * 1000000 := by rw [Int.natAbs_mul]; exact Nat.mul_le_mul (by omega) (by omega)
    omega
  have kt : ∀ n : Nat, n < 100 → nI t = nI n → t = n := fun n hn q => (nI_eq (by omega) (by omega)).mp q
  refine ⟨vp_in_nI (by omega) (by decide), vp_in_nI (by omega) (by decide), fun q => ?_, fun q => ?_, fun q => ?_, fun q => ?_, fun q => ?_, fun q1 q2 q3 q4 q5 => ?_⟩
  · have := kt 1 (by decide) q; subst this
    exact m_clip hwk (by omega) (by omega) ⟨_, rfl, rfl, pt _ rfl⟩
  · have := kt 2 (by decide) q; subst this
    exact m_clip hwk (by omega) (by omega) ⟨_, rfl, rfl, pt _ rfl⟩
  · have := kt 3 (by decide) q; subst this
    exact m_clip hwk (by omega) (by omega) ⟨_, rfl, rfl, pt _ rfl⟩
  · have := kt 4 (by decide) q; subst this
    exact m_floor hwk ma mb ⟨_, rfl, rfl, pt _ rfl⟩
  · have := kt 5 (by decide) q; subst this
    rw [lg_cmp_ge, lI_le (by omega) (by omega) (by omega) (by omega)]
    refine ⟨fun z => pt _ ?_, fun z => pt _ ?_⟩
    · show lI b = lI (if b < a then b else a)
      by_cases e : b < a
      · rw [if_pos e]
      · rw [if_neg e, show a = b by omega]
    · show lI a = lI (if b < a then b else a)
      rw [if_neg (by omega)]
  · have : t = 6 := by
      have n1 : t ≠ 1 := fun e => q1 (by rw [e]; rfl)
      have n2 : t ≠ 2 := fun e => q2 (by rw [e]; rfl)
      have n3 : t ≠ 3 := fun e => q3 (by rw [e]; rfl)
      have n4 : t ≠ 4 := fun e => q4 (by rw [e]; rfl)
      have n5 : t ≠ 5 := fun e => q5 (by rw [e]; rfl)
      omega
    subst this
    rw [lg_cmp_le, lI_le (by omega) (by omega) (by omega) (by omega)]
    refine ⟨fun z => pt _ ?_, fun z => pt _ ?_⟩
    · show lI b = lI (if a < b then b else a)
      by_cases e : a < b
      · rw [if_pos e]
      · rw [if_neg e, show a = b by omega]
    · show lI a = lI (if a < b then b else a)
      rw [if_neg (by omega)]
/-- what the model's reckoning leaves alone -/
def ME (h0 h : gH) : Prop := gEq [82, 131] h0 h ∧ (∀ j, j ≠ 66 → h.1 82 j = h0.1 82 j) ∧ h.2.1 82 = h0.2.1 82
theorem ME.put (e : ME h0 h) (n : Nat) (v : Int64) (m : Nat) : ME h0 (sI (sL h 131 n v) 82 66 (nI m)) := by
  obtain ⟨e1, e2, e3⟩ := e
  refine ⟨((e1.tr (gEq.sL h 131 n v)).tr (gEq.sI _ 82 66 (nI m))).mono (fun x hx => by simp at hx ⊢; omega), fun j hj => ?_, ?_⟩
  · rw [sI_nb hj]
    exact e2 j hj
  · show (sL h 131 n v).2.1 82 = _
    rw [sL_na (by decide)]
    exact e3
theorem ME.set (e : ME h0 h) (m : Nat) : ME h0 (sI h 82 66 (nI m)) := by
  obtain ⟨e1, e2, e3⟩ := e
  exact ⟨(e1.tr (gEq.sI h 82 66 (nI m))).mono (fun x hx => by simp at hx ⊢; omega), fun j hj => by rw [sI_nb hj]; exact e2 j hj, e3⟩
def MP (V : Nat → Int) (f : Nat → Nat) (h0 : gH) (i : Nat) (h : gH) : Prop := ME h0 h ∧ h.1 82 66 = nI (dpu f i) ∧ ∀ j, j < dpu f i → h.2.1 131 j = lI (evS V (fun _ => 0) f i j)
theorem MP.push {V : Nat → Int} {f : Nat → Nat} {i : Nat} (t : MP V f h0 i h) (hp : psh (f i)) : MP V f h0 (i + 1) (sI (sL h 131 (dpu f i) (lI (if f i < 27 then V (f i) else (f i - 1000 : Nat)))) 82 66 (nI (dpu f i + 1))) := by
  obtain ⟨t1, t2, t3⟩ := t
  have ed : dpu f (i + 1) = dpu f i + 1 := by
    show (if psh (f i) then _ else _) = _
    rw [if_pos hp]
  refine ⟨t1.put _ _ _, by rw [ed, sI_s], fun j hj => ?_⟩
  rw [ed] at hj
  show (sL h 131 _ _).2.1 131 j = lI (if psh (f i) then _ else _)
  rw [if_pos hp]
  by_cases e : j = dpu f i
  · rw [e, if_pos rfl, sL_s]
  · rw [if_neg e, sL_nb e]
    exact t3 j (by omega)
theorem m_told {V : Nat → Int} {f : Nat → Nat} {q o n : Nat} (hw : gWf h lk sp cd) (hp : q < 3) (h2 : h.1 127 (3 + q) = nI o) (h3 : h.1 128 (3 + q) = nI (o + n)) (hn : 0 < n) (hb : o + n ≤ 1600) (hr : ∀ i, i < n → h.1 129 (1600 + (o + i)) = nI (f i)) (hf : twf f n) (hV : ∀ i, i < n → 7 ≤ f i → f i ≤ 16 → mil (V (twd (f i))) ∧ h.1 132 (f i - 7) = iI (V (twd (f i)))) (hq : ∀ h', ME h h' → Q (some (.int (nI (clt (evS V (fun _ => 0) (fun k => cu (f k)) n 0))))) h') : gC l G (d + 2) MX12_told [.ref 82, .int (nI q)] h Q := by
  have e3 : (3 : Int32) + nI q = nI (3 + q) := nI_add 3 q
  have c3 : (nI (3 + q)).toNatClampNeg = 3 + q := nI_clamp (by omega)
  have hu := uwf_of hf
  have hVm : ∀ i, i < n → cu (f i) < 27 → mil (V (cu (f i))) := fun i hi z => by
    have ht := (hf.1 i hi).1
    by_cases q : f i < 7
    · exact absurd (Or.inl z) ((cu_ok ht).2.1 q)
    · have : f i ≤ 16 := by
        rcases ht with ht | ht
        · omega
        · unfold cu at z
          rw [if_pos ht.1] at z
          omega
      have e : cu (f i) = twd (f i) := if_neg (by omega)
      rw [e]
      exact (hV i hi (by omega) this).1
  have hm := evS_m (C := fun _ => 0) hu hVm (fun i hi q x => ⟨by decide, by decide⟩)
  refine eX12_told hw (fun p e s m args below meth c => ?_)
  rw [e3, c3, h2]
  refine ⟨vp_in_nI (by omega) (by decide), ?_⟩
  suffices H : ∀ r i h', i + r = n → MP V (fun k => cu (f k)) h i h' → gg p l e s m args below meth c G (d + 1 + 1) MX12_told Q 14 [some (.ref 82), some (.int (nI q)), some (.int (nI (o + i))), none] [] h' from H n 0 _ (by omega) ⟨ME.set ⟨gEq.rf _ _, fun _ _ => rfl, rfl⟩ 0, sI_s _ _ _ _, fun j hj => absurd hj (Nat.not_lt_zero _)⟩
  intro r
  induction r with
  | zero =>
    intro i h' hi t
    have hi : i = n := by omega
    subst hi
    obtain ⟨t1, t2, t3⟩ := t
    have hwh := hw.eq t1.1
    have d1 := hu.2 hn
    have m0 := hm i (Nat.le_refl _) 0 (by omega)
    have hq := hq h' t1
    refine wX12_told_14 hwh.1 hwh.2.1 hwh.2.2.1 ?_
    rw [e3, c3, (t1.1.1 128 (by decide)).1, h3, t3 0 (by omega), lg_cmp_ge, lg_cmp_le]
    generalize evS V (fun _ => 0) (fun k => cu (f k)) i 0 = x at *
    unfold mil at m0
    have x0 : 0 ≤ lI x ↔ 0 ≤ x := by rw [show (0 : Int64) = lI 0 by decide, lI_le (by omega) (by omega) (by omega) (by omega)]
    have x9 : lI x ≤ 99 ↔ x ≤ 99 := by rw [show (99 : Int64) = lI 99 by decide, lI_le (by omega) (by omega) (by omega) (by omega)]
    unfold clt at hq
    refine ⟨vp_in_nI (by omega) (by decide), bY (Int32.le_refl _) ⟨fun z => ⟨fun z2 => ?_, fun z2 => ?_⟩, fun z => ?_⟩⟩
    · have z := x0.mp z
      have z2 := x9.mp z2
      rw [if_neg (by omega), if_neg (by omega), iI_nat (by omega)] at hq
      rw [lI_i]
      have : ((x.toNat : Nat) : Int) = x := by omega
      rw [this] at hq
      exact hq
    · have z := x0.mp z
      have z2 := mt x9.mpr z2
      rw [if_neg (by omega), if_pos (by omega)] at hq
      exact hq
    · have z := mt x0.mpr z
      rw [if_pos (by omega)] at hq
      exact hq
  | succ r ih =>
    intro i h' hi t
    have tt := t
    obtain ⟨t1, t2, t3⟩ := t
    have hwh := hw.eq t1.1
    have hin : i < n := by omega
    obtain ⟨f1, f2, f3⟩ := hf.1 i hin
    have ede := dpu_dep (f := f) (n := n) (fun i hi => (hf.1 i hi).1) i (by omega)
    obtain ⟨-, g2, g3, g4⟩ := hu.1 i hin
    have e16 : (1600 : Int32) + nI (o + i) = nI (1600 + (o + i)) := nI_add 1600 (o + i)
    have d9 : dpu (fun k => cu (f k)) i ≤ 64 := by
      cases i with
      | zero => exact Nat.zero_le _
      | succ i => exact (hu.1 i (by omega)).2.2.2
    refine wX12_told_14 hwh.1 hwh.2.1 hwh.2.2.1 ?_
    rw [e3, c3, (t1.1.1 128 (by decide)).1, h3, e16, nI_clamp (show 1600 + (o + i) < 2 ^ 31 by omega), (t1.1.1 129 (by decide)).1, hr i hin, nI_1, Nat.add_assoc o i 1]
    refine ⟨vp_in_nI (by omega) (by decide), bN (nI_ge (by omega) (by omega)) ⟨vp_in_nI (by omega) (by decide), ?_⟩⟩
    by_cases hu1 : 1000 ≤ f i
    · have f9 : f i ≤ 10999 := by rcases f1 with f1 | f1 <;> omega
      have ec : cu (f i) = f i := if_pos hu1
      have ev : (nI (f i) - 1000).toInt64 = lI (if cu (f i) < 27 then V (cu (f i)) else (cu (f i) - 1000 : Nat)) := by
        rw [ec, if_neg (by omega), show nI (f i) - 1000 = nI (f i - 1000) from pk_sub (a := f i) (b := 1000) hu1, iI_nat (by omega), iI_l (by omega) (by omega)]
      refine bN (nI_nlt (b := 1000) hu1 (by omega)) ?_
      rw [ev]
      exact m_puts hwh (by omega) t2 ⟨rfl, rfl, ih (i + 1) _ (by omega) (tt.push (show psh (cu (f i)) by rw [ec]; exact Or.inr hu1))⟩
    · have f16 : 1 ≤ f i ∧ f i ≤ 16 := by rcases f1 with f1 | f1 <;> omega
      have ec : cu (f i) = twd (f i) := if_neg hu1
      refine bY (nI_lt (b := 1000) (by omega) (by decide)) (c_isInI 7 16 hwh (fun z1 z2 => ⟨_, rfl, rfl, bN (by decide) ?_⟩) (fun z => ⟨_, rfl, rfl, bY rfl ?_⟩))
      · have z1 := (nI_leI (a := 7) (by decide) (by omega)).mp z1
        have pt : psh (cu (f i)) := (cu_ok f1).2.2.1 z1
        have p27 : cu (f i) < 27 := by
          have t47 : ∀ t, t < 17 → twd t ≤ 47 := by decide
          have t48 := t47 (f i) (by omega)
          rcases pt with pt | pt
          · exact pt
          · rw [ec] at pt
            omega
        obtain ⟨v1, v2⟩ := hV i hin z1 f16.2
        unfold mil at v1
        have ev : (h'.1 132 (nI (f i) - 7).toNatClampNeg).toInt64 = lI (if cu (f i) < 27 then V (cu (f i)) else (cu (f i) - 1000 : Nat)) := by
          rw [show nI (f i) - 7 = nI (f i - 7) from pk_sub (a := f i) (b := 7) z1, nI_clamp (by omega), (t1.1.1 132 (by decide)).1, v2, if_pos p27, ec, iI_l (by omega) (by omega)]
        refine ⟨by rw [show nI (f i) - 7 = nI (f i - 7) from pk_sub (a := f i) (b := 7) z1]; exact vp_in_nI (by omega) (by decide), ?_⟩
        rw [ev]
        exact m_puts hwh (by omega) t2 ⟨rfl, rfl, ih (i + 1) _ (by omega) (tt.push pt)⟩
      · have f7 : f i < 7 := by
          refine Decidable.byContradiction (fun q => z ⟨?_, ?_⟩)
          · exact nI_le (a := 7) (by omega) (by omega)
          · exact nI_le (b := 16) (by omega) (by decide)
        have np : ¬ psh (cu (f i)) := (cu_ok f1).2.1 f7
        have nu : ¬ una (cu (f i)) := (cu_ok f1).2.2.2
        have g3 := g3 np nu
        obtain ⟨k, hk⟩ : ∃ k, dpu (fun k => cu (f k)) i = k + 2 := ⟨dpu (fun k => cu (f k)) i - 2, by omega⟩
        have ed : dpu (fun k => cu (f k)) (i + 1) = k + 1 := by
          show (if psh (cu (f i)) then _ else _) = _
          rw [if_neg np, if_neg nu, hk]
          rfl
        have es : ∀ j, evS V (fun _ => 0) (fun k => cu (f k)) (i + 1) j = if j = k then jn (cu (f i)) (evS V (fun _ => 0) (fun k => cu (f k)) i k) (evS V (fun _ => 0) (fun k => cu (f k)) i (k + 1)) else evS V (fun _ => 0) (fun k => cu (f k)) i j := fun j => by
          show (if psh (cu (f i)) then _ else _) = _
          rw [if_neg np, if_neg nu, hk, Nat.add_sub_cancel]
          rfl
        refine m_joins hwh f16.1 f7 (by omega) (by rw [t2, hk]) (hm i (by omega) k (by omega)) (hm i (by omega) (k + 1) (by omega)) (t3 k (by omega)) (t3 (k + 1) (by omega)) ⟨rfl, rfl, ih (i + 1) _ (by omega) ⟨(t1.set k).put _ _ _, by rw [ed, sI_s], fun j hj => ?_⟩⟩
        rw [ed] at hj
        rw [es]
        show (sL _ 131 _ _).2.1 131 j = _
        by_cases e9 : j = k
        · rw [e9, if_pos rfl, sL_s, ec]
        · rw [if_neg e9, sL_nb e9]
          exact t3 j (by omega)
end MD
