/-! whom first -/
def ldc (A F : qT) (m b c bo : Nat) : Nat → Nat
  | 0 => 1
  | i + 1 => ldc A F m b c bo i + if i ≠ b ∧ m / 2 ^ i % 2 = 1 ∧ fer A F i c bo ≤ ft F i then 1 else 0
def ldr (A F : qT) (m c : Nat) : Nat → Nat × Nat
  | 0 => (0, 0)
  | b + 1 => if m / 2 ^ b % 2 = 1 ∧ fer A F b c 0 ≤ ft F b ∧ (ldr A F m c b).2 < ldc A F m b c (lrn A F b c 0 + 1) (qB A) then (b + 1, ldc A F m b c (lrn A F b c 0 + 1) (qB A)) else ldr A F m c b
section LD
variable {l : Launch} {G : gG} {d : Nat} {Q : Option Value → gH → Prop} {h h0 : gH} {lk sp : Nat} {cd : Option Nat} {A F : qT} {T n b c m bo : Nat}
theorem ldc_p (A F : qT) (m b c bo : Nat) : ∀ i, 1 ≤ ldc A F m b c bo i ∧ ldc A F m b c bo i ≤ i + 1
  | 0 => ⟨Nat.le_refl _, Nat.le_refl _⟩
  | i + 1 => by
    have := ldc_p A F m b c bo i
    unfold ldc
    split <;> omega
theorem ldc_e (hm : m < 2 ^ qB A) : ∀ r, ldc A F m b c bo (qB A + r) = ldc A F m b c bo (qB A)
  | 0 => rfl
  | r + 1 => by
    have ih := ldc_e hm r
    have e : ldc A F m b c bo (qB A + r + 1) = ldc A F m b c bo (qB A + r) + if qB A + r ≠ b ∧ m / 2 ^ (qB A + r) % 2 = 1 ∧ fer A F (qB A + r) c bo ≤ ft F (qB A + r) then 1 else 0 := rfl
    rw [show qB A + (r + 1) = qB A + r + 1 from rfl, e, if_neg (fun q => absurd (bin_lt hm q.2.1) (by omega)), ih, Nat.add_zero]
theorem ldr_p (hB : qB A ≤ 6) : ∀ b, ((ldr A F m c b).1 = 0 ↔ (ldr A F m c b).2 = 0) ∧ (ldr A F m c b).1 ≤ b ∧ (ldr A F m c b).2 ≤ 7
  | 0 => ⟨Iff.rfl, Nat.le_refl _, Nat.zero_le _⟩
  | b + 1 => by
    obtain ⟨h1, h2, h3⟩ := ldr_p hB b
    have hp := ldc_p A F m b c (lrn A F b c 0 + 1) (qB A)
    unfold ldr
    split
    · refine ⟨⟨fun q => by simp at q, fun q => ?_⟩, Nat.le_refl _, ?_⟩
      · have : ldc A F m b c (lrn A F b c 0 + 1) (qB A) = 0 := q
        omega
      · show ldc A F m b c (lrn A F b c 0 + 1) (qB A) ≤ 7
        omega
    · exact ⟨h1, by omega, h3⟩
theorem c_countLed (hw : gWf h lk sp cd) (k : KC A F T lk h) (hb : b < qB A) (hm : m < 2 ^ qB A) (hc : c < qN A) (hy : ∀ h', gEq [45, 46, 48] h h' → fer A F b c 0 ≤ ft F b → Q (some (.int (nI (ldc A F m b c (lrn A F b c 0 + 1) (qB A))))) h') (hno : ∀ h', gEq [45, 46, 48] h h' → ¬ fer A F b c 0 ≤ ft F b → Q (some (.int 0)) h') : gC l G (d + 5) MX1_countLed [.ref 53, .int (nI b), .int (nI m), .int (nI c)] h Q := by
  have h6 := k.g.B6
  have hp : 2 ^ qB A ≤ 2 ^ 6 := Nat.pow_le_pow_right (by decide) h6
  have fl := fun b bo => fer_le (A := A) (F := F) (b := b) (c := c) (bo := bo) k.g
  have tl := fun b hb => (k.f.2.2.2.1 b hb).2.2.1
  have lr := lrn_le (c := c) (bo := 0) k.f hb
  refine eX1_countLed hw (fun p e s m' args below meth cc => c_fearOf (bo := 0) hw k hb hc (by decide) (fun h1 e1 => ⟨_, rfl, e1.2, ?_⟩))
  have hw1 := hw.eq e1
  have k1 : KC A F T lk h1 := k.eq hw e1 (fun x hx => by simp at hx; omega)
  have f0 := fl b 0
  have t0 := tl b hb
  refine c_trustOf hw1 k1 hb ⟨_, rfl, rfl, ?_⟩
  rw [nI_leI (by omega) (by omega)]
  refine ⟨fun z => c_trustAfter (bo := 0) hw1 k1 hb hc (by decide) (fun h2 e2 => ⟨_, rfl, e2.2, ?_⟩), fun z => hno h1 e1 z⟩
  have e3 : gEq [45, 46, 48] h h2 := (e1.tr e2).mono (fun x hx => by simp at hx ⊢; omega)
  generalize hB : lrn A F b c 0 + 1 = B9 at hy
  rw [show nI (lrn A F b c 0) = nI B9 - 1 by rw [← hB, i_s1]]
  have hB9 : B9 ≤ 100 := by omega
  have ld6 : ldc A F m b c B9 6 = ldc A F m b c B9 (qB A) := by
    have := ldc_e (A := A) (F := F) (b := b) (c := c) (bo := B9) hm (6 - qB A)
    rw [show qB A + (6 - qB A) = 6 by omega] at this
    exact this
  suffices H : ∀ r i h', i + r = 6 → gEq [45, 46, 48] h h' → gg p l e s m' args below meth cc G (d + 4 + 1) MX1_countLed Q 50 [some (.ref 53), some (.int (nI b)), some (.int (nI m)), some (.int (nI c)), some (.int (nI (fer A F b c 0))), some (.int (nI B9 - 1)), some (.int (nI (ldc A F m b c B9 i))), some (.int (nI i)), none] [] h' from H 6 0 h2 (by omega) e3
  intro r
  induction r with
  | zero =>
    intro i h' hi q1
    have : i = 6 := by omega
    subst this
    have hwh := hw.eq q1
    refine wX1_countLed_50 hwh.1 hwh.2.1 hwh.2.2.1 (bY (Int32.le_refl _) ?_)
    rw [ld6]
    exact hy h' q1 z
  | succ r ih =>
    intro i h' hi q1
    have hwh := hw.eq q1
    have kh : KC A F T lk h' := k.eq hw q1 (fun x hx => by simp at hx; omega)
    have hl := ldc_p A F m b c B9 i
    have es : ldc A F m b c B9 (i + 1) = ldc A F m b c B9 i + if i ≠ b ∧ m / 2 ^ i % 2 = 1 ∧ fer A F i c B9 ≤ ft F i then 1 else 0 := rfl
    refine wX1_countLed_50 hwh.1 hwh.2.1 hwh.2.2.1 (bN (nI_ge (b := 6) (by omega) (by decide)) ?_)
    rw [bin_c (by omega) (by omega), nI_eq (by omega) (by omega), nI_1, nI_1]
    have stay : ¬ (i ≠ b ∧ m / 2 ^ i % 2 = 1 ∧ fer A F i c B9 ≤ ft F i) → ∀ h', gEq [45, 46, 48] h h' → gg p l e s m' args below meth cc G (d + 4 + 1) MX1_countLed Q 50 [some (.ref 53), some (.int (nI b)), some (.int (nI m)), some (.int (nI c)), some (.int (nI (fer A F b c 0))), some (.int (nI B9 - 1)), some (.int (nI (ldc A F m b c B9 i))), some (.int (nI (i + 1))), none] [] h' := fun q h' e' => by
      have := ih (i + 1) h' (by omega) e'
      rw [es, if_neg q] at this
      exact this
    refine ⟨fun q => stay (fun q2 => q2.1 q) h' q1, fun q => ⟨fun q2 => stay (fun q3 => q2 q3.2.1) h' q1, fun q2 => ?_⟩⟩
    have hib := bin_lt hm q2
    have fi := fl i B9
    have tli := tl i hib
    refine c_fearOf hwh kh hib hc hB9 (fun h3 e3 => ⟨_, rfl, e3.2, ?_⟩)
    have e4 : gEq [45, 46, 48] h h3 := (q1.tr e3).mono (fun x hx => by simp at hx ⊢; omega)
    have k3 : KC A F T lk h3 := k.eq hw e4 (fun x hx => by simp at hx; omega)
    refine c_trustOf (hw.eq e4) k3 hib ⟨_, rfl, rfl, ?_⟩
    rw [nI_ltI (by omega) (by omega)]
    refine ⟨fun q3 => stay (fun q4 => by have := q4.2.2; omega) h3 e4, fun q3 => ?_⟩
    have := ih (i + 1) h3 (by omega) e4
    rw [es, if_pos ⟨q, q2, by omega⟩] at this
    exact this
theorem c_findLeader (hw : gWf h lk sp cd) (k : KC A F T lk h) (hm : m < 2 ^ qB A) (hc : c < qN A) (hq : ∀ h', gEq [45, 46, 48, 53] h h' → h'.1 53 3 = nI (ldr A F m c (qB A)).2 → Q (some (.int (nI (ldr A F m c (qB A)).1 - 1))) h') : gC l G (d + 6) MX1_findLeader [.ref 53, .int (nI m), .int (nI c)] h Q := by
  have h6 := k.g.B6
  have hp : 2 ^ qB A ≤ 2 ^ 6 := Nat.pow_le_pow_right (by decide) h6
  have lp := ldr_p (A := A) (F := F) (m := m) (c := c) h6
  have le : ∀ r, ldr A F m c (qB A + r) = ldr A F m c (qB A) := fun r => by
    induction r with
    | zero => rfl
    | succ r ih =>
      have e : ldr A F m c (qB A + r + 1) = if m / 2 ^ (qB A + r) % 2 = 1 ∧ fer A F (qB A + r) c 0 ≤ ft F (qB A + r) ∧ (ldr A F m c (qB A + r)).2 < ldc A F m (qB A + r) c (lrn A F (qB A + r) c 0 + 1) (qB A) then (qB A + r + 1, ldc A F m (qB A + r) c (lrn A F (qB A + r) c 0 + 1) (qB A)) else ldr A F m c (qB A + r) := rfl
      rw [show qB A + (r + 1) = qB A + r + 1 from rfl, e, if_neg (fun q => absurd (bin_lt hm q.1) (by omega)), ih]
  have l6 := le (6 - qB A)
  rw [show qB A + (6 - qB A) = 6 by omega] at l6
  refine eX1_findLeader hw (fun p e s m' args below meth cc => ?_)
  suffices H : ∀ r i h', i + r = 6 → gEq [45, 46, 48, 53] h h' → h'.1 53 3 = nI (ldr A F m c i).2 → gg p l e s m' args below meth cc G (d + 5 + 1) MX1_findLeader Q 10 [some (.ref 53), some (.int (nI m)), some (.int (nI c)), some (.int (nI (ldr A F m c i).1 - 1)), some (.int (nI i)), none] [] h' from H 6 0 _ (by omega) (gE1 (by decide) (gEq.rf _ _)) (sI_s _ _ _ _)
  intro r
  induction r with
  | zero =>
    intro i h' hi q1 q2
    have : i = 6 := by omega
    subst this
    have hwh := hw.eq q1
    refine wX1_findLeader_10 hwh.1 hwh.2.1 hwh.2.2.1 (bY (Int32.le_refl _) ?_)
    rw [l6] at q2 ⊢
    exact hq h' q1 q2
  | succ r ih =>
    intro i h' hi q1 q2
    have hwh := hw.eq q1
    have kh : KC A F T lk h' := k.eq hw q1 (fun x hx => by simp at hx; omega)
    obtain ⟨n1, n2, n3⟩ := lp i
    have es : ldr A F m c (i + 1) = if m / 2 ^ i % 2 = 1 ∧ fer A F i c 0 ≤ ft F i ∧ (ldr A F m c i).2 < ldc A F m i c (lrn A F i c 0 + 1) (qB A) then (i + 1, ldc A F m i c (lrn A F i c 0 + 1) (qB A)) else ldr A F m c i := rfl
    have hl := ldc_p A F m i c (lrn A F i c 0 + 1) (qB A)
    have stay : ¬ (m / 2 ^ i % 2 = 1 ∧ fer A F i c 0 ≤ ft F i ∧ (ldr A F m c i).2 < ldc A F m i c (lrn A F i c 0 + 1) (qB A)) → ∀ h', gEq [45, 46, 48, 53] h h' → h'.1 53 3 = nI (ldr A F m c i).2 → gg p l e s m' args below meth cc G (d + 5 + 1) MX1_findLeader Q 10 [some (.ref 53), some (.int (nI m)), some (.int (nI c)), some (.int (nI (ldr A F m c i).1 - 1)), some (.int (nI (i + 1))), none] [] h' := fun q h' e' v' => by
      have := ih (i + 1) h' (by omega) e' (by rw [es, if_neg q]; exact v')
      rw [es, if_neg q] at this
      exact this
    refine wX1_findLeader_10 hwh.1 hwh.2.1 hwh.2.2.1 (bN (nI_ge (b := 6) (by omega) (by decide)) ?_)
    rw [bin_c (by omega) (by omega), nI_1, q2]
    refine ⟨fun z => bY (nI_le (a := 0) (by omega) (by omega)) (stay (fun q => z q.1) h' q1 q2), fun z => ?_⟩
    have hib := bin_lt hm z
    refine c_countLed hwh kh hib hm hc (fun h2 e2 z2 => ⟨_, rfl, e2.2, ?_⟩) (fun h2 e2 z2 => ⟨_, rfl, e2.2, ?_⟩)
    · have e3 : gEq [45, 46, 48, 53] h h2 := (q1.tr e2).mono (fun x hx => by simp at hx ⊢; omega)
      have v3 : h2.1 53 3 = nI (ldr A F m c i).2 := by rw [(e2.1 53 (by decide)).1]; exact q2
      rw [v3, nI_leI (by omega) (by omega)]
      refine ⟨fun z3 => stay (fun q => by have := q.2.2; omega) h2 e3 v3, fun z3 => ?_⟩
      have := ih (i + 1) (sI h2 53 3 (nI (ldc A F m i c (lrn A F i c 0 + 1) (qB A)))) (by omega) (gE1 (by decide) e3) (by rw [es, if_pos ⟨z, z2, by omega⟩]; exact sI_s _ _ _ _)
      rw [es, if_pos ⟨z, z2, by omega⟩] at this
      rw [show nI (i + 1, ldc A F m i c (lrn A F i c 0 + 1) (qB A)).1 - 1 = nI i from i_s1 i] at this
      exact this
    · have e3 : gEq [45, 46, 48, 53] h h2 := (q1.tr e2).mono (fun x hx => by simp at hx ⊢; omega)
      have v3 : h2.1 53 3 = nI (ldr A F m c i).2 := by rw [(e2.1 53 (by decide)).1]; exact q2
      rw [v3]
      exact bY (nI_le (a := 0) (by omega) (by omega)) (stay (fun q => z2 q.2.1) h2 e3 v3)
theorem MF.tr' {h1 h2 : gH} (a : MF h h1) (b : MF h1 h2) : MF h h2 := a.tr b
theorem m_behindIt (hw : gWf h lk sp cd) (k : KM A F h) (hb : b < qB A) (hm : m < 2 ^ qB A) (hc : qW A c) (hg : fer A F b c 0 ≤ ft F b) (hq : ∀ h', MF h h' → Q (some (.int (nI (ldc A F m b c (lrn A F b c 0 + 1) (qB A))))) h') : gC l G (d + 7) MX12_behindIt [.ref 82, .int (nI m), .int (nI b), .int (nI c)] h Q := by
  have h6 := k.g.B6
  have hp : 2 ^ qB A ≤ 2 ^ 6 := Nat.pow_le_pow_right (by decide) h6
  have lr := lrn_le (c := c) (bo := 0) k.f hb
  refine eX12_behindIt hw (fun p e s m' args below meth cc => m_learnt (bo := 0) hw k hb hc (by decide) ⟨fun q => absurd q (by decide), fun q => absurd hg q⟩ (fun h1 e1 => ⟨_, rfl, e1.1.2, ?_⟩))
  generalize hB : lrn A F b c 0 + 1 = B9 at hq
  rw [show nI (lrn A F b c 0) = nI B9 - 1 by rw [← hB, i_s1]]
  have hB9 : B9 ≤ 100 := by omega
  suffices H : ∀ r i h', i + r = qB A → MF h h' → gg p l e s m' args below meth cc G (d + 6 + 1) MX12_behindIt Q 16 [some (.ref 82), some (.int (nI m)), some (.int (nI b)), some (.int (nI c)), some (.int (nI B9 - 1)), some (.int (nI (ldc A F m b c B9 i))), some (.int (nI i))] [] h' from H (qB A) 0 h1 (by omega) e1
  intro r
  induction r with
  | zero =>
    intro i h' hi q1
    have : i = qB A := by omega
    subst this
    have hwh := hw.eq q1.1
    exact wX12_behindIt_16 hwh.1 hwh.2.1 hwh.2.2.1 (m_boatMany hwh (k.mf q1).l ⟨_, rfl, rfl, bY (Int32.le_refl _) (hq h' q1)⟩)
  | succ r ih =>
    intro i h' hi q1
    have hwh := hw.eq q1.1
    have kh := k.mf q1
    have hl := ldc_p A F m b c B9 i
    have es : ldc A F m b c B9 (i + 1) = ldc A F m b c B9 i + if i ≠ b ∧ m / 2 ^ i % 2 = 1 ∧ fer A F i c B9 ≤ ft F i then 1 else 0 := rfl
    have stay : ¬ (i ≠ b ∧ m / 2 ^ i % 2 = 1 ∧ fer A F i c B9 ≤ ft F i) → ∀ h', MF h h' → gg p l e s m' args below meth cc G (d + 6 + 1) MX12_behindIt Q 16 [some (.ref 82), some (.int (nI m)), some (.int (nI b)), some (.int (nI c)), some (.int (nI B9 - 1)), some (.int (nI (ldc A F m b c B9 i))), some (.int (nI (i + 1)))] [] h' := fun q h' e' => by
      have := ih (i + 1) h' (by omega) e'
      rw [es, if_neg q] at this
      exact this
    refine wX12_behindIt_16 hwh.1 hwh.2.1 hwh.2.2.1 (m_boatMany hwh kh.l ⟨_, rfl, rfl, bN (nI_ge (by omega) (by omega)) ?_⟩)
    rw [bin_c (by omega) (by omega), nI_eq (by omega) (by omega), nI_1, nI_1]
    refine ⟨fun q => stay (fun q2 => q2.1 q) h' q1, fun q => ⟨fun q2 => stay (fun q3 => q2 q3.2.1) h' q1, fun q2 => m_wouldGo hwh kh (by omega) hc hB9 (fun h2 e2 z => ⟨_, rfl, e2.1.2, bN (by decide) ?_⟩) (fun h2 e2 z => ⟨_, rfl, e2.1.2, bY rfl (stay (fun q4 => z q4.2.2) h2 (q1.tr e2))⟩)⟩⟩
    have := ih (i + 1) h2 (by omega) (q1.tr e2)
    rw [es, if_pos ⟨q, q2, z⟩] at this
    exact this
theorem m_leadL {p : Program} {e : Env} {s : State} {m' : MethodId} {args : Array Value} {below : List Frame} {meth : Method} {cc : Code} {a : Int32} (hw : gWf h0 lk sp cd) (k : KM A F h0) (hm : m < 2 ^ qB A) (hc : qW A c)
    (hq0 : ∀ h', MF h0 h' → a = 0 → Q (some (.int (nI (ldr A F m c (qB A)).1 - 1))) h') (hq1 : ∀ h', MF h0 h' → ¬ a = 0 → Q (some (.int (if (ldr A F m c (qB A)).1 = 0 then -1 else nI (ldr A F m c (qB A)).2))) h') :
    ∀ r i h, i + r = qB A → MF h0 h → gg p l e s m' args below meth cc G (d + 7 + 1) MX12_lead Q 30 [some (.ref 82), some (.int (nI m)), some (.int (nI c)), some (.int a), some (.int (nI (ldr A F m c i).1 - 1)), some (.int (if (ldr A F m c i).1 = 0 then -1 else nI (ldr A F m c i).2)), some (.int (nI i)), none] [] h := by
  have h6 := k.g.B6
  have hp : 2 ^ qB A ≤ 2 ^ 6 := Nat.pow_le_pow_right (by decide) h6
  have lp := ldr_p (A := A) (F := F) (m := m) (c := c) h6
  intro r
  induction r with
  | zero =>
    intro i h hi q1
    have : i = qB A := by omega
    subst this
    have hwh := hw.eq q1.1
    exact wX12_lead_30 hwh.1 hwh.2.1 hwh.2.2.1 (m_boatMany hwh (k.mf q1).l ⟨_, rfl, rfl, bY (Int32.le_refl _) ⟨fun z => hq1 h q1 z, fun z => hq0 h q1 z⟩⟩)
  | succ r ih =>
    intro i h hi q1
    have hwh := hw.eq q1.1
    have kh := k.mf q1
    obtain ⟨n1, n2, n3⟩ := lp i
    have es : ldr A F m c (i + 1) = if m / 2 ^ i % 2 = 1 ∧ fer A F i c 0 ≤ ft F i ∧ (ldr A F m c i).2 < ldc A F m i c (lrn A F i c 0 + 1) (qB A) then (i + 1, ldc A F m i c (lrn A F i c 0 + 1) (qB A)) else ldr A F m c i := rfl
    have hl := ldc_p A F m i c (lrn A F i c 0 + 1) (qB A)
    have stay : ¬ (m / 2 ^ i % 2 = 1 ∧ fer A F i c 0 ≤ ft F i ∧ (ldr A F m c i).2 < ldc A F m i c (lrn A F i c 0 + 1) (qB A)) → ∀ h, MF h0 h → gg p l e s m' args below meth cc G (d + 7 + 1) MX12_lead Q 30 [some (.ref 82), some (.int (nI m)), some (.int (nI c)), some (.int a), some (.int (nI (ldr A F m c i).1 - 1)), some (.int (if (ldr A F m c i).1 = 0 then -1 else nI (ldr A F m c i).2)), some (.int (nI (i + 1))), none] [] h := fun q h' e' => by
      have := ih (i + 1) h' (by omega) e'
      rw [es, if_neg q] at this
      exact this
    refine wX12_lead_30 hwh.1 hwh.2.1 hwh.2.2.1 (m_boatMany hwh kh.l ⟨_, rfl, rfl, bN (nI_ge (by omega) (by omega)) ?_⟩)
    rw [bin_z (by omega) (by omega), nI_1]
    refine ⟨fun z => stay (fun q => z q.1) h q1, fun z => ?_⟩
    have z : bin m i := Classical.byContradiction z
    refine m_wouldGo (bo := 0) hwh kh (by omega) hc (by decide) (fun h2 e2 z2 => ⟨_, rfl, e2.1.2, bN' (by decide) ?_⟩) (fun h2 e2 z2 => ⟨_, rfl, e2.1.2, bY' rfl (stay (fun q => z2 q.2.1) h2 (q1.tr e2))⟩)
    have q2 := q1.tr e2
    refine m_behindIt (hw.eq q2.1) (k.mf q2) (by omega) hm hc z2 (fun h3 e3 => ⟨_, rfl, e3.1.2, ?_⟩)
    have q3 := q2.tr e3
    have el : (if (ldr A F m c i).1 = 0 then -1 else nI (ldr A F m c i).2) < nI (ldc A F m i c (lrn A F i c 0 + 1) (qB A)) ↔ (ldr A F m c i).2 < ldc A F m i c (lrn A F i c 0 + 1) (qB A) := by
      by_cases y : (ldr A F m c i).1 = 0
      · rw [if_pos y]
        refine ⟨fun _ => by rw [n1.mp y]; omega, fun _ => ?_⟩
        rw [Int32.lt_iff_toInt_lt, nI_toInt (by omega), show (-1 : Int32).toInt = -1 by decide]
        omega
      · rw [if_neg y, nI_ltI (by omega) (by omega)]
    rw [el]
    refine ⟨fun y => ?_, fun y => stay (fun q => y q.2.2) h3 q3⟩
    have := ih (i + 1) h3 (by omega) q3
    rw [es, if_pos ⟨z, z2, y⟩, if_neg (by simp), show nI (i + 1, ldc A F m i c (lrn A F i c 0 + 1) (qB A)).1 - 1 = nI i from i_s1 i] at this
    exact this
theorem st_lead : gStepI l G (gInv Rst) MX11_lead MX12_lead 3 := by
  intro n9 h av hn9 hl hi
  obtain ⟨a, b, c, rfl⟩ := three_of hl
  obtain ⟨lk, sp, cd, A, F, T, hw, k, m, -, -⟩ := hi.2.2.2.2.2.2.k hn9
  have hm := gInv.mono Rst_cg n9 h hi
  have h6 := k.g.B6
  have h48 := k.g.N48
  have hp : 2 ^ qB A ≤ 2 ^ 6 := Nat.pow_le_pow_right (by decide) h6
  refine eX11_lead (d := 899) hw (c_canTry hw k (fun M x ea eb q => ⟨_, rfl, rfl, bN' (by decide) ?_⟩) (fun no => ⟨_, rfl, rfl, bY' rfl ⟨_, rfl, ?_⟩⟩))
  · subst ea eb
    have hM := q.2.1
    have hq := q
    obtain ⟨-, -, f, -, -, hx⟩ := q
    have lp := ldr_p (A := A) (F := F) (m := M) (c := x) h6 (qB A)
    refine c_findLeader hw k hM hx.1.1 (fun h1 e1 v1 => ⟨_, rfl, e1.2, ?_⟩)
    have hw1 := hw.eq e1
    have m1 : KM A F h1 := m.eq e1 (fun x hx => by simp at hx; omega) (by rw [(e1.1 82 (by decide)).1])
    have fin : ∀ h2, MF h1 h2 → gInv Rst (n9 + 1) h2 := fun h2 e2 => by
      refine inv_read hi (e1.tr e2.1) (by decide) (fun j hj => ?_) ?_ ?_ ?_
      · rw [e2.2.1 j (fun z => by subst z; revert hj; decide), (e1.1 82 (by decide)).1]
      · rw [e2.2.2, (e1.1 82 (by decide)).2]
      · rw [(e2.1.1 58 (by decide)).1, (e1.1 58 (by decide)).1]
      · rw [(e2.1.1 58 (by decide)).1, (e1.1 58 (by decide)).1]
    have mdl : ∀ v : Int32, (c = 0 → v = nI (ldr A F M x (qB A)).1 - 1) → (c = 1 → v = if (ldr A F M x (qB A)).1 = 0 then -1 else nI (ldr A F M x (qB A)).2) → (¬ c = 0 → ¬ c = 1 → v = -1) → gC l G 900 MX12_lead [.ref 82, .int (nI M), .int (nI x), .int c] h1 (fun r h' => ∃ v'', r = some (.int v'') ∧ v = v'' ∧ gInv Rst (n9 + 1) h') := fun v q0 q1 q3 => by
      refine eX12_lead (d := 899) hw1 (fun p e s m' args below meth cc => m_canFile hw1 m1 (fun _ _ _ _ _ => ⟨_, rfl, rfl, bN (by decide) (c_isInI 0 1 hw1 (fun z1 z2 => ⟨_, rfl, rfl, bN' (by decide) ?_⟩) (fun z => ⟨_, rfl, rfl, bY' rfl ⟨_, rfl, ?_, fin h1 MF.rf⟩⟩))⟩) (fun no => absurd rfl (no M x hq rfl)))
      · have a2 : ¬ c = 0 → c = 1 := fun z3 => by
          obtain ⟨j, hj, rfl⟩ := nI_of2 (x := c) (M := 1) (n := 1) (by decide) (Int32.not_lt.mpr z1) z2
          have : j = 0 ∨ j = 1 := by omega
          rcases this with e | e <;> subst e
          · exact absurd rfl z3
          · rfl
        exact m_leadL (l := l) (G := G) (d := 892) (p := p) (e := e) (s := s) (m' := m') (args := args) (below := below) (meth := meth) (cc := cc) (a := c) (F := F) (Q := fun r h' => ∃ v'', r = some (.int v'') ∧ v = v'' ∧ gInv Rst (n9 + 1) h') hw1 m1 hM hx.1 (fun h2 e2 z => ⟨_, rfl, q0 z, fin h2 e2⟩) (fun h2 e2 z => ⟨_, rfl, q1 (a2 z), fin h2 e2⟩) (qB A) 0 h1 (by omega) MF.rf
      · refine q3 (fun e => z ?_) (fun e => z ?_) <;> subst e <;> decide
    have z0 : nI (ldr A F M x (qB A)).1 - 1 = -1 ↔ (ldr A F M x (qB A)).1 = 0 := by rw [← i_m1, i_eq1 (by omega) (by decide)]
    rw [z0, v1]
    refine ⟨fun z => ⟨fun y => ⟨_, rfl, mdl _ (fun _ => rfl) (fun q => ?_) (fun q => absurd y q)⟩, fun y => ⟨_, rfl, mdl _ (fun q => ?_) (fun _ => (if_neg z).symm) (fun _ q => absurd y q)⟩, fun y1 y2 => ⟨_, rfl, mdl _ (fun q => absurd q y1) (fun q => absurd q y2) (fun _ _ => rfl)⟩⟩, fun z => ⟨_, rfl, mdl _ (fun _ => by rw [z]; decide) (fun _ => by rw [if_pos z]) (fun _ _ => rfl)⟩⟩
    · rw [y] at q; exact absurd q (by decide)
    · rw [y] at q; exact absurd q (by decide)
  · exact eX12_lead (d := 899) hw (fun p e s m' args below meth cc => m_canFile hw m (fun M x ea eb q => absurd eb (no M x q ea)) (fun _ => ⟨_, rfl, rfl, bY rfl ⟨_, rfl, rfl, hm⟩⟩))
end LD
