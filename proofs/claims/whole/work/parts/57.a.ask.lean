section UW
variable {H : Nat} {f : Nat → Nat}
theorem dpu_n (i : Nat) : dpu f (i + 1) = ndp (dpu f i) (f i) := rfl
theorem uwl : ∀ (e : List Nat) (m k : Nat), (∀ i, i < e.length → f (k + i) = e.getD i 0) → dpu f k = m → okl H m e → (∀ i, i < e.length → uok (f (k + i)) ∧ (una (f (k + i)) → 1 ≤ dpu f (k + i)) ∧ (¬ psh (f (k + i)) → ¬ una (f (k + i)) → 2 ≤ dpu f (k + i)) ∧ dpu f (k + i + 1) ≤ H) ∧ dpu f (k + e.length) = dpl m e
  | [], m, k, _, hm, _ => ⟨fun i hi => absurd hi (Nat.not_lt_zero _), hm⟩
  | u :: e, m, k, hf, hm, ⟨h1, h2, h3, h4, h5⟩ => by
    have f0 : f k = u := by have := hf 0 (Nat.zero_lt_succ _); exact this
    have d1 : dpu f (k + 1) = ndp m u := by rw [dpu_n, hm, f0]
    obtain ⟨r1, r2⟩ := uwl e (ndp m u) (k + 1) (fun i hi => by
      have := hf (i + 1) (Nat.succ_lt_succ hi)
      rw [show k + 1 + i = k + (i + 1) by omega]
      exact this) d1 h5
    refine ⟨fun i hi => ?_, ?_⟩
    · cases i with
      | zero =>
        show uok (f k) ∧ (una (f k) → 1 ≤ dpu f k) ∧ (¬ psh (f k) → ¬ una (f k) → 2 ≤ dpu f k) ∧ dpu f (k + 1) ≤ H
        rw [f0, hm, d1]
        exact ⟨h1, h2, h3, h4⟩
      | succ i =>
        have := r1 i (Nat.lt_of_succ_lt_succ hi)
        rw [show k + 1 + i = k + (i + 1) by omega] at this
        exact this
    · show dpu f (k + (e.length + 1)) = dpl (ndp m u) e
      rw [show k + (e.length + 1) = k + 1 + e.length by omega]
      exact r2
theorem uwf_e {e : List Nat} {B : Nat} (hB : B ≤ 64) (hf : ∀ i, i < e.length → f i = e.getD i 0) (h : WE B e) : uwf f e.length := by
  obtain ⟨r1, r2⟩ := uwl (H := 0 + B) (f := f) e 0 0 (fun i hi => by rw [Nat.zero_add]; exact hf i hi) rfl (h 0).2
  refine ⟨fun i hi => ?_, fun _ => ?_⟩
  · have := r1 i hi
    rw [Nat.zero_add] at this
    exact ⟨this.1, this.2.1, this.2.2.1, by have := this.2.2.2; omega⟩
  · rw [Nat.zero_add] at r2
    rw [r2, (h 0).1]
/-! what is of the type of tests is 0 or 1 -/
def b01 (x : Int) : Prop := x = 0 ∨ x = 1
def tyP : List Bool → (Nat → Int) → Prop
  | [], _ => True
  | b :: r, g => (b = true → b01 (g r.length)) ∧ tyP r g
theorem tyP_cg {g g' : Nat → Int} : ∀ τ : List Bool, (∀ j, j < τ.length → g' j = g j) → tyP τ g → tyP τ g'
  | [], _, _ => trivial
  | b :: r, h, ⟨h1, h2⟩ => ⟨fun z => by rw [h r.length (Nat.lt_succ_self _)]; exact h1 z, tyP_cg r (fun j hj => h j (Nat.lt_succ_of_lt hj)) h2⟩
/-- where and, or, not are reckoned, the values are 0 or 1 -/
def okB (V : Nat → Int) (C : Int → Int) (f : Nat → Nat) (i : Nat) : Prop := (f i = 30 → b01 (evS V C f i (dpu f i - 1))) ∧ ((f i = 28 ∨ f i = 29) → b01 (evS V C f i (dpu f i - 1)) ∧ b01 (evS V C f i (dpu f i - 2)))
theorem tyl {V : Nat → Int} {C : Int → Int} : ∀ (e : List Nat) (k : Nat) (τ σ : List Bool), (∀ i, i < e.length → f (k + i) = cv (e.getD i 0)) → τ.length = dpu f k → tyP τ (evS V C f k) → tyr τ e = some σ → (∀ u, u ∈ e → aq u) → (∀ i, i < e.length → okB V C f (k + i)) ∧ tyP σ (evS V C f (k + e.length)) ∧ σ.length = dpu f (k + e.length)
  | [], k, τ, σ, _, hl, hp, hr, _ => by
    cases hr
    exact ⟨fun i hi => absurd hi (Nat.not_lt_zero _), hp, hl⟩
  | u :: e, k, τ, σ, hf, hl, hp, hr, ha => by
    have f0 : f k = cv u := by have := hf 0 (Nat.zero_lt_succ _); exact this
    have au := ha u List.mem_cons_self
    have st : ∃ τ1, ty1 τ u = some τ1 ∧ tyr τ1 e = some σ := by
      have hr : (match ty1 τ u with
        | some τ' => tyr τ' e
        | none => none) = some σ := hr
      cases hq : ty1 τ u with
      | none => rw [hq] at hr; cases hr
      | some τ1 => rw [hq] at hr; exact ⟨τ1, rfl, hr⟩
    obtain ⟨τ1, s1, s2⟩ := st
    have key : okB V C f k ∧ τ1.length = dpu f (k + 1) ∧ tyP τ1 (evS V C f (k + 1)) := by
      unfold ty1 at s1
      by_cases z31 : u = 31
      · rw [if_pos z31] at s1
        cases s1
        have e1 : f k = 1001 := by rw [f0, z31]; rfl
        have ps : psh (f k) := Or.inr (by omega)
        have ed : dpu f (k + 1) = dpu f k + 1 := by rw [dpu_n]; exact if_pos ps
        have ev : ∀ j, evS V C f (k + 1) j = if j = dpu f k then 1 else evS V C f k j := fun j => by
          show (if psh (f k) then (if j = dpu f k then (if f k < 27 then V (f k) else (f k - 1000 : Nat)) else evS V C f k j) else _) = _
          rw [if_pos ps, if_neg (show ¬ f k < 27 by omega), e1]; rfl
        refine ⟨⟨fun z => by omega, fun z => by omega⟩, by show τ.length + 1 = _; omega, fun _ => ?_, tyP_cg τ (fun j hj => ?_) hp⟩
        · rw [ev, if_pos hl]; exact Or.inr rfl
        · rw [ev, if_neg (by omega)]
      rw [if_neg z31] at s1
      have cu0 : f k = u := by rw [f0]; exact if_neg z31
      by_cases ps : psh u
      · rw [if_pos ps] at s1
        cases s1
        have ps' : psh (f k) := by rw [cu0]; exact ps
        have ed : dpu f (k + 1) = dpu f k + 1 := by rw [dpu_n]; exact if_pos ps'
        refine ⟨⟨fun z => by unfold psh at ps'; omega, fun z => by unfold psh at ps'; omega⟩, by show τ.length + 1 = _; omega, fun z => (by cases z), tyP_cg τ (fun j hj => ?_) hp⟩
        show (if psh (f k) then (if j = dpu f k then _ else evS V C f k j) else _) = _
        rw [if_pos ps', if_neg (by omega)]
      rw [if_neg ps] at s1
      have ps' : ¬ psh (f k) := by rw [cu0]; exact ps
      by_cases z27 : u = 27
      · rw [if_pos z27] at s1
        cases τ with
        | nil => cases s1
        | cons b r =>
          cases s1
          have hun : una (f k) := by rw [cu0]; exact Or.inl z27
          have ed : dpu f (k + 1) = dpu f k := by rw [dpu_n]; unfold ndp; rw [if_neg ps', if_pos hun]
          have hl : r.length + 1 = dpu f k := hl
          refine ⟨⟨fun z => by omega, fun z => by omega⟩, by show r.length + 1 = _; omega, fun z => (by cases z), tyP_cg r (fun j hj => ?_) hp.2⟩
          show (if psh (f k) then _ else if una (f k) then (if j = dpu f k - 1 then _ else evS V C f k j) else _) = _
          rw [if_neg ps', if_pos hun, if_neg (by omega)]
      rw [if_neg z27] at s1
      by_cases z30 : u = 30
      · rw [if_pos z30] at s1
        cases τ with
        | nil => cases s1
        | cons b r =>
          cases b with
          | false => cases s1
          | true =>
            cases s1
            have hun : una (f k) := by rw [cu0]; exact Or.inr z30
            have ed : dpu f (k + 1) = dpu f k := by rw [dpu_n]; unfold ndp; rw [if_neg ps', if_pos hun]
            have hl : r.length + 1 = dpu f k := hl
            have top : b01 (evS V C f k (dpu f k - 1)) := by rw [show dpu f k - 1 = r.length by omega]; exact hp.1 rfl
            have ev : ∀ j, evS V C f (k + 1) j = if j = dpu f k - 1 then un C (f k) (evS V C f k (dpu f k - 1)) else evS V C f k j := fun j => by
              show (if psh (f k) then _ else if una (f k) then (if j = dpu f k - 1 then _ else evS V C f k j) else _) = _
              rw [if_neg ps', if_pos hun]
            refine ⟨⟨fun _ => top, fun z => by omega⟩, by show r.length + 1 = _; omega, fun _ => ?_, tyP_cg r (fun j hj => by rw [ev, if_neg (by omega)]) hp.2⟩
            rw [ev, if_pos (by omega)]
            unfold un
            rw [if_neg (by omega)]
            split
            · exact Or.inr rfl
            · exact Or.inl rfl
      rw [if_neg z30] at s1
      have hun : ¬ una (f k) := by rw [cu0]; unfold una; omega
      have ev : ∀ j, evS V C f (k + 1) j = if j = dpu f k - 2 then jn (f k) (evS V C f k (dpu f k - 2)) (evS V C f k (dpu f k - 1)) else evS V C f k j := fun j => by
        show (if psh (f k) then _ else if una (f k) then _ else (if j = dpu f k - 2 then _ else evS V C f k j)) = _
        rw [if_neg ps', if_neg hun]
      have ed : dpu f (k + 1) = dpu f k - 1 := by rw [dpu_n]; unfold ndp; rw [if_neg ps', if_neg hun]
      by_cases z28 : u = 28 ∨ u = 29
      · rw [if_pos z28] at s1
        cases τ with
        | nil => cases s1
        | cons b r =>
          cases b with
          | false => cases s1
          | true =>
            cases r with
            | nil => cases s1
            | cons b2 r =>
              cases b2 with
              | false => cases s1
              | true =>
                cases s1
                have hl : r.length + 2 = dpu f k := hl
                have t1 : b01 (evS V C f k (dpu f k - 1)) := by rw [show dpu f k - 1 = r.length + 1 by omega]; exact hp.1 rfl
                have t2 : b01 (evS V C f k (dpu f k - 2)) := by rw [show dpu f k - 2 = r.length by omega]; exact hp.2.1 rfl
                refine ⟨⟨fun z => by omega, fun _ => ⟨t1, t2⟩⟩, by show r.length + 1 = _; omega, fun _ => ?_, tyP_cg r (fun j hj => by rw [ev, if_neg (by omega)]) hp.2.2⟩
                rw [ev, if_pos (by omega), cu0]
                generalize evS V C f k (dpu f k - 1) = y at t1
                generalize evS V C f k (dpu f k - 2) = x at t2
                rcases z28 with z | z <;> subst z <;> rcases t1 with t1 | t1 <;> rcases t2 with t2 | t2 <;> subst t1 <;> subst t2 <;> first | exact Or.inl rfl | exact Or.inr rfl
      rw [if_neg z28] at s1
      cases τ with
      | nil => cases s1
      | cons b r =>
        cases r with
        | nil => cases s1
        | cons b2 r =>
          cases s1
          have hl : r.length + 2 = dpu f k := hl
          refine ⟨⟨fun z => by omega, fun z => by omega⟩, by show r.length + 1 = _; omega, fun z => ?_, tyP_cg r (fun j hj => by rw [ev, if_neg (by omega)]) hp.2.2⟩
          have z := of_decide_eq_true z
          rw [ev, if_pos (by omega), cu0]
          rcases z with z | z | z <;> subst z
          · show b01 (if _ < _ then 1 else 0)
            split
            · exact Or.inr rfl
            · exact Or.inl rfl
          · show b01 (if _ = _ then 1 else 0)
            split
            · exact Or.inr rfl
            · exact Or.inl rfl
          · show b01 (if _ < _ then 1 else 0)
            split
            · exact Or.inr rfl
            · exact Or.inl rfl
    obtain ⟨k1, k2, k3⟩ := key
    obtain ⟨r1, r2, r3⟩ := tyl e (k + 1) τ1 σ (fun i hi => by
      have := hf (i + 1) (Nat.succ_lt_succ hi)
      rw [show k + 1 + i = k + (i + 1) by omega]
      exact this) k2 k3 s2 (fun y hy => ha y (List.mem_cons_of_mem _ hy))
    refine ⟨fun i hi => ?_, ?_, ?_⟩
    · cases i with
      | zero => exact k1
      | succ i =>
        have := r1 i (Nat.lt_of_succ_lt_succ hi)
        rw [show k + 1 + i = k + (i + 1) by omega] at this
        exact this
    · show tyP σ (evS V C f (k + (e.length + 1)))
      rw [show k + (e.length + 1) = k + 1 + e.length by omega]; exact r2
    · show σ.length = dpu f (k + (e.length + 1))
      rw [show k + (e.length + 1) = k + 1 + e.length by omega]; exact r3
end UW
section QD
variable {l : Launch} {G : gG} {d : Nat} {Q : Option Value → gH → Prop} {h h0 : gH} {lk sp : Nat} {cd : Option Nat}
theorem m_qClip {y : Int} (hw : gWf h lk sp cd) (h1 : -1000000000000000 ≤ y) (h2 : y ≤ 1000000000000000) (hq : Q (some (.long (lI (clp y)))) h) : gC l G d MX12_qClip [.long (lI y)] h Q := by
  refine eX12_qClip hw ?_
  rw [lg_cmp_le, lg_cmp_ge, l_mil', l_mil, lI_le (by omega) (by omega) (by omega) (by omega), lI_le (by omega) (by omega) (by omega) (by omega)]
  unfold clp at hq
  refine ⟨fun z => ⟨fun z2 => ?_, fun z2 => ?_⟩, fun z => ?_⟩
  · by_cases e : y < 1000000
    · rw [if_pos e, if_neg (by omega)] at hq; exact hq
    · rw [if_neg e] at hq; rw [show y = 1000000 by omega]; exact hq
  · rw [if_pos (by omega), if_pos (by omega)] at hq; exact hq
  · rw [if_neg (by omega)] at hq; exact hq
theorem m_qFloor {a b : Int} (hw : gWf h lk sp cd) (ha : mil a) (hb : mil b) (hq : Q (some (.long (lI (fdi a b)))) h) : gC l G d MX12_qFloor [.long (lI a), .long (lI b)] h Q := by
  have t1 := tdm b ha
  have t2 := tdv_m b ha
  have ed := lI_div ha hb
  unfold mil at ha hb t2
  have e0 : (0 : Int64) = lI 0 := by decide
  have e1 : (1 : Int64) = lI 1 := by decide
  refine eX12_qFloor hw ?_
  have z0 : lI b = 0 ↔ b = 0 := by rw [e0, lI_eq (by omega) (by omega) (by omega) (by omega)]
  have zr : lI (a - a.tdiv b * b) = 0 ↔ a.tdiv b * b = a := by rw [e0, lI_eq (by omega) (by omega) (by omega) (by omega)]; omega
  have za : 0 ≤ lI a ↔ 0 ≤ a := by rw [e0, lI_le (by omega) (by omega) (by omega) (by omega)]
  have zb : 0 ≤ lI b ↔ 0 ≤ b := by rw [e0, lI_le (by omega) (by omega) (by omega) (by omega)]
  simp only [lg_cmp_eq, lg_cmp_ge]
  rw [ed, lI_mul, lI_sub, zr, za, zb, z0]
  unfold fdi at hq
  refine ⟨fun q => ⟨q, q, fun r => ?_, fun r => ?_⟩, fun q => ?_⟩
  · rw [if_neg q, if_pos r] at hq; exact hq
  · rw [if_neg q, if_neg r] at hq
    refine ⟨fun x => ⟨fun y => ?_, fun y => ?_⟩, fun x => ⟨fun y => ?_, fun y => ?_⟩⟩
    · rw [if_pos (by omega)] at hq; exact hq
    · rw [if_neg (by omega)] at hq; rw [e1, lI_sub]; exact hq
    · rw [if_neg (by omega)] at hq; rw [e1, lI_sub]; exact hq
    · rw [if_pos (by omega)] at hq; exact hq
  · rw [if_pos q] at hq; exact hq
theorem m_qPuts {v : Int64} {n : Nat} (hw : gWf h lk sp cd) (hn : n < 1700) (h3 : h.1 82 112 = nI n) (hq : Q none (sI (sL h 166 n v) 82 112 (nI (n + 1)))) : gC l G d MX12_qPuts [.ref 82, .long v] h Q := by
  refine eX12_qPuts hw ?_
  rw [h3, nI_clamp (by omega), nI_1]
  exact ⟨vp_in_nI hn (by decide), hq⟩
theorem m_qJoins {u n : Nat} {a b : Int} (hw : gWf h lk sp cd) (hu : u ∈ [28, 29, 32, 33, 42, 43, 45, 47, 60, 61, 62]) (hB : u = 28 ∨ u = 29 → b01 b ∧ b01 a) (hn : n < 1600) (h3 : h.1 82 112 = nI (n + 2)) (ha : mil a) (hb : mil b) (e1 : h.2.1 166 n = lI a) (e2 : h.2.1 166 (n + 1) = lI b) (hq : Q none (sI (sL (sI h 82 112 (nI n)) 166 n (lI (jn u a b))) 82 112 (nI (n + 1)))) : gC l G (d + 1) MX12_qJoins [.ref 82, .int (nI (qtd u))] h Q := by
  have n1 : nI (n + 2) - 1 = nI (n + 1) := nI_pred (n + 1)
  have n2 : nI (n + 2) - 2 = nI n := pk_sub (a := n + 2) (b := 2) (by omega)
  refine eX12_qJoins hw ?_
  rw [h3, n1, n2, nI_clamp (show n + 1 < 2 ^ 31 by omega), nI_clamp (show n < 2 ^ 31 by omega), e1, e2, lI_add, lI_sub, lI_mul]
  have ma := ha
  have mb := hb
  unfold mil at ha hb
  have hwk := hw.eq (gEq.sI h 82 112 (nI n))
  have pt : ∀ v : Int64, v = lI (jn u a b) → gC l G d MX12_qPuts [.ref 82, .long v] (sI h 82 112 (nI n)) (rV fun h2 => h2.2.2 = (sI h 82 112 (nI n)).2.2 ∧ Q none h2) := fun v hv => m_qPuts hwk (by omega) (sI_s _ _ _ _) ⟨rfl, rfl, by rw [hv]; exact hq⟩
  have hab : -1000000000000 ≤ a * b ∧ a * b ≤ 1000000000000 := by
    have h1 : (a * b).natAbs ≤ 1000000 * 1000000 := by rw [Int.natAbs_mul]; exact Nat.mul_le_mul (by omega) (by omega)
    omega
  have hu : u = 28 ∨ u = 29 ∨ u = 32 ∨ u = 33 ∨ u = 42 ∨ u = 43 ∨ u = 45 ∨ u = 47 ∨ u = 60 ∨ u = 61 ∨ u = 62 := by simpa using hu
  have tb : 1 ≤ qtd u ∧ qtd u ≤ 11 := by rcases hu with z | z | z | z | z | z | z | z | z | z | z <;> subst z <;> decide
  have kt : ∀ n : Nat, n < 100 → nI (qtd u) = nI n → qtd u = n := fun n hn q => (nI_eq (by omega) (by omega)).mp q
  have o0 : (0 : Int64) = lI 0 := by decide
  have o1 : (1 : Int64) = lI 1 := by decide
  have fu : ∀ c, qtd u = c → (c = 1 → u = 43) ∧ (c = 2 → u = 45) ∧ (c = 3 → u = 42) ∧ (c = 4 → u = 47) ∧ (c = 5 → u = 32) ∧ (c = 6 → u = 33) ∧ (c = 7 → u = 60) ∧ (c = 8 → u = 62) ∧ (c = 9 → u = 61) ∧ (c = 10 → u = 29) ∧ (c = 11 → u = 28) := fun c hc => by
    subst hc
    rcases hu with z | z | z | z | z | z | z | z | z | z | z <;> subst z <;> decide
  refine ⟨vp_in_nI (by omega) (by decide), vp_in_nI (by omega) (by decide), fun q => ?_, fun q => ?_, fun q => ?_, fun q => ?_, fun q => ?_, fun q => ?_, fun q => ?_, fun q => ?_, fun q => ?_, fun q => ?_, fun q1 q2 q3 q4 q5 q6 q7 q8 q9 q10 => ?_⟩
  · have := (fu 1 (kt 1 (by decide) q)).1 rfl; subst this
    exact m_qClip hwk (by omega) (by omega) ⟨_, rfl, rfl, pt _ rfl⟩
  · have := (fu 2 (kt 2 (by decide) q)).2.1 rfl; subst this
    exact m_qClip hwk (by omega) (by omega) ⟨_, rfl, rfl, pt _ rfl⟩
  · have := (fu 3 (kt 3 (by decide) q)).2.2.1 rfl; subst this
    exact m_qClip hwk (by omega) (by omega) ⟨_, rfl, rfl, pt _ rfl⟩
  · have := (fu 4 (kt 4 (by decide) q)).2.2.2.1 rfl; subst this
    exact m_qFloor hwk ma mb ⟨_, rfl, rfl, pt _ rfl⟩
  · have := (fu 5 (kt 5 (by decide) q)).2.2.2.2.1 rfl; subst this
    rw [lg_cmp_ge, lI_le (by omega) (by omega) (by omega) (by omega)]
    refine ⟨fun z => pt _ ?_, fun z => pt _ ?_⟩
    · show lI b = lI (if b < a then b else a)
      by_cases e : b < a
      · rw [if_pos e]
      · rw [if_neg e, show a = b by omega]
    · show lI a = lI (if b < a then b else a)
      rw [if_neg (by omega)]
  · have := (fu 6 (kt 6 (by decide) q)).2.2.2.2.2.1 rfl; subst this
    rw [lg_cmp_le, lI_le (by omega) (by omega) (by omega) (by omega)]
    refine ⟨fun z => pt _ ?_, fun z => pt _ ?_⟩
    · show lI b = lI (if a < b then b else a)
      by_cases e : a < b
      · rw [if_pos e]
      · rw [if_neg e, show a = b by omega]
    · show lI a = lI (if a < b then b else a)
      rw [if_neg (by omega)]
  · have := (fu 7 (kt 7 (by decide) q)).2.2.2.2.2.2.1 rfl; subst this
    rw [lg_cmp_ge, lI_le (by omega) (by omega) (by omega) (by omega)]
    refine ⟨fun z => pt _ ?_, fun z => pt _ ?_⟩
    · show (0 : Int64) = lI (if a < b then 1 else 0)
      rw [if_neg (by omega)]; exact o0
    · show (1 : Int64) = lI (if a < b then 1 else 0)
      rw [if_pos (by omega)]; exact o1
  · have := (fu 8 (kt 8 (by decide) q)).2.2.2.2.2.2.2.1 rfl; subst this
    rw [lg_cmp_le, lI_le (by omega) (by omega) (by omega) (by omega)]
    refine ⟨fun z => pt _ ?_, fun z => pt _ ?_⟩
    · show (0 : Int64) = lI (if b < a then 1 else 0)
      rw [if_neg (by omega)]; exact o0
    · show (1 : Int64) = lI (if b < a then 1 else 0)
      rw [if_pos (by omega)]; exact o1
  · have := (fu 9 (kt 9 (by decide) q)).2.2.2.2.2.2.2.2.1 rfl; subst this
    rw [lg_cmp_eq, lI_eq (by omega) (by omega) (by omega) (by omega)]
    refine ⟨fun z => pt _ ?_, fun z => pt _ ?_⟩
    · show (0 : Int64) = lI (if a = b then 1 else 0)
      rw [if_neg z]; exact o0
    · show (1 : Int64) = lI (if a = b then 1 else 0)
      rw [if_pos z]; exact o1
  · have := (fu 10 (kt 10 (by decide) q)).2.2.2.2.2.2.2.2.2.1 rfl; subst this
    have hB := hB (Or.inr rfl)
    refine pt _ ?_
    show lI (a * b) = lI (if b < a then b else a)
    rcases hB with ⟨x | x, y | y⟩ <;> subst x <;> subst y <;> rfl
  · have u11 : qtd u = 11 := by
      have x1 : qtd u ≠ 1 := fun e => q1 (by rw [e]; rfl)
      have x2 : qtd u ≠ 2 := fun e => q2 (by rw [e]; rfl)
      have x3 : qtd u ≠ 3 := fun e => q3 (by rw [e]; rfl)
      have x4 : qtd u ≠ 4 := fun e => q4 (by rw [e]; rfl)
      have x5 : qtd u ≠ 5 := fun e => q5 (by rw [e]; rfl)
      have x6 : qtd u ≠ 6 := fun e => q6 (by rw [e]; rfl)
      have x7 : qtd u ≠ 7 := fun e => q7 (by rw [e]; rfl)
      have x8 : qtd u ≠ 8 := fun e => q8 (by rw [e]; rfl)
      have x9 : qtd u ≠ 9 := fun e => q9 (by rw [e]; rfl)
      have x10 : qtd u ≠ 10 := fun e => q10 (by rw [e]; rfl)
      omega
    have := (fu 11 u11).2.2.2.2.2.2.2.2.2.2 rfl; subst this
    have hB := hB (Or.inl rfl)
    rw [lg_cmp_le, o0, lI_le (by omega) (by omega) (by omega) (by omega)]
    refine ⟨fun z => pt _ ?_, fun z => pt _ ?_⟩
    · show lI 0 = lI (if a < b then b else a)
      rcases hB with ⟨x | x, y | y⟩ <;> subst x <;> subst y <;> first | rfl | omega
    · show (1 : Int64) = lI (if a < b then b else a)
      rcases hB with ⟨x | x, y | y⟩ <;> subst x <;> subst y <;> first | exact o1 | omega
end QD
