section MT3
variable {l : Launch} {G : gG} {d : Nat} {Q : Option Value → gH → Prop} {h h0 : gH} {lk sp : Nat} {cd : Option Nat} {A F : qT} {T n b b0 c w x : Nat} {K R : Nat → Nat}
theorem c_handHeldBy (hw : gWf h lk sp cd) (g : qG A) (k : LC A lk h) (s0 : MCs K R h) (hK : ∀ h, h < qH A → K h ≤ qB A) (hb : b < 6) (hq : Q (some (.int (nI (hhb K b (qH A)) - 1))) h) : gC l G d MX1_handHeldBy [.ref 53, .int (nI b)] h Q := by
  have h6 := g.H6
  have b6 := g.B6
  refine eX1_handHeldBy hw (fun p e s m args below meth cc => ?_)
  suffices H : ∀ r i, i + r = qH A → hhb K b i = 0 → gg p l e s m args below meth cc G d MX1_handHeldBy Q 2 [some (.ref 53), some (.int (nI b)), some (.int (nI i))] [] h from H (qH A) 0 (by omega) rfl
  intro r
  induction r with
  | zero =>
    intro i hi h0
    have : i = qH A := by omega
    subst this
    rw [h0] at hq
    exact wX1_handHeldBy_2 hw.1 hw.2.1 hw.2.2.1 (bY (by rw [k.H]; exact Int32.le_refl _) hq)
  | succ r ih =>
    intro i hi h0
    have hk := hK i (by omega)
    refine wX1_handHeldBy_2 hw.1 hw.2.1 hw.2.2.1 (bN (by rw [k.H]; exact nI_ge (by omega) (by omega)) (bN (nI_ge (b := 6) (by omega) (by decide)) ⟨vp_in_nI (by omega) (by decide), ?_⟩))
    rw [nI_clamp (by omega), s0.1 i (by omega), i_eqs (by omega) (by omega), nI_1]
    refine ⟨fun q => ih (i + 1) (by omega) (hhb_n h0 q), fun q => ?_⟩
    rw [hhb_f h0 q (show i < qH A by omega), i_s1] at hq
    exact hq
theorem c_findAsking (hw : gWf h lk sp cd) (g : qG A) (k : LC A lk h) (s0 : MCs K R h) (hK : ∀ h, h < qH A → K h ≤ qB A) (hR : ∀ b, b < qB A → R b < 2 ^ qH A) (hq1 : ∀ b, b < qB A → R b ≠ 2 ^ qH A - 1 → (∀ h, h < qH A → K h ≠ b + 1) → Q (some (.int (nI b))) h) (hq0 : (∀ b, b < qB A → R b = 2 ^ qH A - 1 ∨ ∃ h, h < qH A ∧ K h = b + 1) → Q (some (.int (-1))) h) : gC l G (d + 1) MX1_findAsking [.ref 53] h Q := by
  have h6 := g.H6
  have b6 := g.B6
  have p64 : 2 ^ qH A ≤ 2 ^ 6 := Nat.pow_le_pow_right (by decide) h6
  have p1 : 1 ≤ 2 ^ qH A := Nat.one_le_two_pow
  refine eX1_findAsking hw (fun p e s m args below meth cc => ?_)
  rw [k.H, lit 6, i_min (by omega) (by decide), Nat.min_eq_left h6, shl1 _ (by omega), show nI (2 ^ qH A) - 1 = nI (2 ^ qH A - 1) from pk_sub (b := 1) p1]
  suffices H : ∀ r i, i + r = qB A → (∀ b, b < i → R b = 2 ^ qH A - 1 ∨ ∃ h, h < qH A ∧ K h = b + 1) → gg p l e s m args below meth cc G (d + 1) MX1_findAsking Q 22 [some (.ref 53), some (.int (nI (2 ^ qH A - 1))), some (.int (nI i))] [] h from H (qB A) 0 (by omega) (fun b hb => absurd hb (Nat.not_lt_zero _))
  intro r
  induction r with
  | zero =>
    intro i hi h0
    exact wX1_findAsking_22 hw.1 hw.2.1 hw.2.2.1 (bY (by rw [k.B]; exact nI_le (by omega) (by omega)) (hq0 (fun b hb => h0 b (by omega))))
  | succ r ih =>
    intro i hi h0
    have hr := hR i (by omega)
    have nx : (R i = 2 ^ qH A - 1 ∨ ∃ h, h < qH A ∧ K h = i + 1) → gg p l e s m args below meth cc G (d + 1) MX1_findAsking Q 22 [some (.ref 53), some (.int (nI (2 ^ qH A - 1))), some (.int (nI (i + 1)))] [] h := fun q => ih (i + 1) (by omega) (fun b hb => by
      by_cases e : b = i
      · subst e; exact q
      · exact h0 b (by omega))
    refine wX1_findAsking_22 hw.1 hw.2.1 hw.2.2.1 (bN (by rw [k.B]; exact nI_ge (by omega) (by omega)) (bN (nI_ge (b := 6) (by omega) (by decide)) ⟨vp_in_nI (by omega) (by decide), ?_⟩))
    rw [nI_clamp (by omega), s0.2 i (by omega), nI_eq (by omega) (by omega), nI_1]
    refine ⟨fun q => nx (Or.inl q), fun q => c_handHeldBy hw g k s0 hK (by omega) ⟨_, rfl, rfl, ?_⟩⟩
    have hl : hhb K i (qH A) ≤ 6 := by
      cases z : hhb K i (qH A) with
      | zero => omega
      | succ y => have := (hhb_s _ z).1; omega
    rw [← i_m1, i_eq1 (by omega) (by decide)]
    refine ⟨fun q2 => nx (Or.inr ?_), fun q2 => hq1 i (by omega) q (hhb_0 _ q2)⟩
    obtain ⟨y, hy⟩ : ∃ y, hhb K i (qH A) = y + 1 := ⟨hhb K i (qH A) - 1, by omega⟩
    exact ⟨y, hhb_s _ hy⟩
theorem c_bestUnasked (hw : gWf h lk sp cd) (g : qG A) (k : LC A lk h) (s0 : MCs K R h) (hb : b < qB A) (hR : R b < 64) (hq : Q (some (.int (nI (bst A b (R b) (qH A)) - 1))) h) : gC l G (d + 2) MX1_bestUnasked [.ref 53, .int (nI b)] h Q := by
  have h6 := g.H6
  have b6 := g.B6
  refine eX1_bestUnasked hw (fun p e s m args below meth cc => c_isBoat_y hw g k hb ⟨_, rfl, rfl, bN' (by decide) ?_⟩)
  suffices H : ∀ r i, i + r = qH A → gg p l e s m args below meth cc G (d + 1 + 1) MX1_bestUnasked Q 20 [some (.ref 53), some (.int (nI b)), some (.int (nI (bst A b (R b) i) - 1)), some (.int (nI i)), none] [] h from H (qH A) 0 (by omega)
  intro r
  induction r with
  | zero =>
    intro i hi
    have : i = qH A := by omega
    subst this
    exact wX1_bestUnasked_20 hw.1 hw.2.1 hw.2.2.1 (bY (by rw [k.H]; exact Int32.le_refl _) hq)
  | succ r ih =>
    intro i hi
    have i1 := ih (i + 1) (by omega)
    have hl := bst_lt (A := A) (b := b) (X := R b) i
    have es : bst A b (R b) (i + 1) = if R b / 2 ^ i % 2 = 1 then bst A b (R b) i else if bst A b (R b) i = 0 then i + 1 else if qlk A b i ≤ qlk A b (bst A b (R b) i - 1) then bst A b (R b) i else i + 1 := rfl
    refine wX1_bestUnasked_20 hw.1 hw.2.1 hw.2.2.1 (bN (by rw [k.H]; exact nI_ge (by omega) (by omega)) (bN (nI_ge (b := 6) (by omega) (by decide)) ⟨vp_in_nI (by omega) (by decide), ?_⟩))
    rw [nI_clamp (by omega), s0.2 b (by omega), bin_z (by omega) (by omega), nI_1]
    refine ⟨fun q => ?_, fun q => ?_⟩
    · rw [es, if_pos (show R b / 2 ^ i % 2 = 1 from Classical.byContradiction q)] at i1
      exact i1
    · rw [es, if_neg (show ¬ R b / 2 ^ i % 2 = 1 from q)] at i1
      cases hh : bst A b (R b) i with
      | zero =>
        rw [hh, if_pos rfl, i_s1] at i1
        exact bY rfl i1
      | succ y =>
        rw [hh, if_neg (by omega), Nat.add_sub_cancel] at i1
        rw [i_s1]
        have l1 := g.lk b i hb (by omega)
        have l2 := g.lk b y hb (by omega)
        refine bN (i_nm1 (by omega)) (c_likingOf hw g k hb (by omega) ⟨_, rfl, rfl, c_likingOf hw g k hb (by omega) ⟨_, rfl, rfl, ?_⟩⟩)
        rw [nI_leI (by omega) (by omega)]
        refine ⟨fun q2 => ?_, fun q2 => ?_⟩
        · rw [if_pos q2, i_s1] at i1; exact i1
        · rw [if_neg q2, i_s1] at i1; exact i1
theorem c_isRather (hw : gWf h lk sp cd) (k : KC A F T lk h) (hb : b < qB A) (hb0 : b0 < qB A) (hy : pfh F b b0 → Q (some (.int 1)) h) (hn : ¬ pfh F b b0 → Q (some (.int 0)) h) : gC l G (d + 2) MX1_isRather [.ref 53, .int (nI b), .int (nI b0)] h Q := by
  have b6 := k.g.B6
  obtain ⟨-, -, t1, -, -⟩ := k.f.2.2.2.1 b hb
  obtain ⟨-, -, t2, -, -⟩ := k.f.2.2.2.1 b0 hb0
  refine eX1_isRather hw (c_trustOf hw k hb ⟨_, rfl, rfl, c_trustOf hw k hb0 ⟨_, rfl, rfl, ?_⟩⟩)
  have e1 : 0 < nI (ft F b) - nI (ft F b0) ↔ ft F b0 < ft F b := by
    rw [Int32.lt_iff_toInt_lt, pk_sub_toInt (by omega) (by omega), show (0 : Int32).toInt = 0 by decide]
    omega
  have e2 : nI (ft F b) - nI (ft F b0) = 0 ↔ ft F b = ft F b0 := by
    rw [← Int32.toInt_inj, pk_sub_toInt (by omega) (by omega), show (0 : Int32).toInt = 0 by decide]
    omega
  rw [e1, e2, nI_leI (by omega) (by omega)]
  unfold pfh at hy hn
  exact ⟨fun q => hy (Or.inl q), fun q => ⟨fun q2 => hn (by omega), fun q2 => ⟨fun q3 => hn (by omega), fun q3 => hy (by omega)⟩⟩⟩
theorem c_askOne (hw : gWf h lk sp cd) (k : KC A F T lk h) (s0 : MCs K R h) (hb : b < qB A) (hR : R b < 64) (hK : ∀ h, h < qH A → K h ≤ qB A) (hx : bst A b (R b) (qH A) = x + 1) (hq : ∀ h' K', gEq [56, 57] h h' → MCs K' (upn R b (bset (R b) x)) h' → askd F K b x K' → Q none h') : gC l G (d + 3) MX1_askOne [.ref 53, .int (nI b)] h Q := by
  have g := k.g
  have h6 := g.H6
  have b6 := g.B6
  have x1 := (bst_s _ hx).1
  have hk := hK x x1
  refine eX1_askOne hw (c_bestUnasked hw g k.l s0 hb hR ⟨_, rfl, rfl, c_isBoat_y hw g k.l hb ⟨_, rfl, rfl, bN (by decide) ?_⟩⟩)
  rw [hx, i_s1]
  refine c_isHand_y hw g k.l x1 ⟨_, rfl, rfl, bN' (by decide) ⟨vp_in_nI (by omega) (by decide), vp_in_nI (by omega) (by decide), vp_in_nI (by omega) (by decide), ?_⟩⟩
  rw [nI_clamp (show x < 2 ^ 31 by omega), nI_clamp (show b < 2 ^ 31 by omega), s0.1 x (by omega), s0.2 b (by omega), (bit_set (R b) (by omega) x (by omega)).1]
  have sR : ∀ b', b' < 6 → (sI h 57 b (nI (bset (R b) x))).1 57 b' = nI (upn R b (bset (R b) x) b') := fun b' hb' => by
    by_cases e : b' = b
    · subst e; rw [sI_s, upn_s]
    · rw [sI_nb e, upn_n e]; exact s0.2 b' hb'
  have s1 : MCs K (upn R b (bset (R b) x)) (sI h 57 b (nI (bset (R b) x))) := ⟨fun j hj => by rw [sI_ne (by decide)]; exact s0.1 j hj, sR⟩
  have s2 : ∀ h', gEq [56, 57] h h' → MCs K (upn R b (bset (R b) x)) h' → MCs (upn K x (b + 1)) (upn R b (bset (R b) x)) (sI h' 56 x (nI b)) := fun h' e s => ⟨fun j hj => by
    by_cases e : j = x
    · subst e; rw [sI_s, upn_s, i_s1]
    · rw [sI_nb e, upn_n e]; exact s.1 j hj, fun b' hb' => by rw [sI_ne (by decide)]; exact s.2 b' hb'⟩
  have e1 : gEq [56, 57] h (sI h 57 b (nI (bset (R b) x))) := gE1 (by decide) (gEq.rf _ _)
  rw [← i_m1, i_eq1 (by omega) (by decide)]
  refine ⟨fun z => ⟨vp_in_nI (by omega) (by decide), hq _ _ (gE1 (by decide) e1) (s2 _ e1 s1) (Or.inl ⟨z, rfl⟩)⟩, fun z => ?_⟩
  obtain ⟨b0, hb0⟩ : ∃ b0, K x = b0 + 1 := ⟨K x - 1, by omega⟩
  rw [hb0, i_s1]
  have k1 : KC A F T lk (sI h 57 b (nI (bset (R b) x))) := k.eq hw e1 (fun x hx => by simp at hx; omega)
  exact c_isRather (hw.eq e1) k1 hb (by omega) (fun w => ⟨_, rfl, rfl, bN (by decide) ⟨vp_in_nI (by omega) (by decide), hq _ _ (gE1 (by decide) e1) (s2 _ e1 s1) (Or.inr ⟨b0, hb0, Or.inl ⟨w, rfl⟩⟩)⟩⟩) (fun w => ⟨_, rfl, rfl, bY rfl (hq _ _ e1 s1 (Or.inr ⟨b0, hb0, Or.inr ⟨w, rfl⟩⟩))⟩)
theorem c_matchedHand (hw : gWf h lk sp cd) (k : KC A F T lk h) (hb : b < qB A) (hq : ∀ h' K rj, gEq [56, 57] h h' → DA A F K rj → dFin A K rj → Q (some (.int (nI (hhb K b (qH A)) - 1))) h') : gC l G (d + 4) MX1_matchedHand [.ref 53, .int (nI b)] h Q := by
  have g := k.g
  have h6 := g.H6
  have b6 := g.B6
  have p64 : 2 ^ qH A ≤ 2 ^ 6 := Nat.pow_le_pow_right (by decide) h6
  have p1 : 1 ≤ 2 ^ qH A := Nat.one_le_two_pow
  refine eX1_matchedHand hw (fun p e s m args below meth cc => c_fill hw (n1 := 6) rfl (by decide) (fun h1 e1 v1 => ⟨rfl, e1.2, c_fill (hw.eq e1) (n1 := 6) rfl (by decide) (fun h2 e2 v2 => ⟨rfl, e2.2, ?_⟩)⟩))
  have fin : ∀ K R h', gEq [56, 57] h h' → MCs K R h' → CJ A F K R → (∀ b, b < qB A → R b = 2 ^ qH A - 1 ∨ ∃ h, h < qH A ∧ K h = b + 1) → gC l G (d + 3) MX1_handHeldBy [.ref 53, .int (nI b)] h' (rI fun v4 h4 => h4.2.2 = (h').2.2 ∧ Q (some (.int v4)) h4) := fun K R h' e' s' j' f' => by
    have k' : KC A F T lk h' := k.eq hw e' (fun x hx => by simp at hx; omega)
    refine c_handHeldBy (hw.eq e') g k'.l s' j'.1.1 (by omega) ⟨_, rfl, rfl, hq h' K _ e' j'.1 (fun b hb => ?_)⟩
    by_cases q : ∃ h, h < qH A ∧ K h = b + 1
    · exact Or.inl q
    · refine Or.inr (fun h hh => ⟨?_, fun z => q ⟨h, hh, z⟩⟩)
      rw [(f' b hb).resolve_right q]
      exact ball _ (by omega) h hh
  suffices H : ∀ r i K R h', i + r = 36 → gEq [56, 57] h h' → MCs K R h' → CJ A F K R → mU A R ≤ r → gg p l e s m args below meth cc G (d + 3 + 1) MX1_matchedHand Q 18 [some (.ref 53), some (.int (nI b)), some (.int (nI i)), none] [] h' from
    H 36 0 (fun _ => 0) (fun _ => 0) h2 (by omega) ((e1.tr e2).mono (fun x hx => by simp at hx ⊢; omega)) ⟨fun j hj => by rw [(e2.1 56 (by decide)).1, v1 j hj]; show (-1 : Int32) = nI 0 - 1; decide, fun b hb => v2 b hb⟩ ⟨DA.zero (fun b h _ _ q => by have := q.1; unfold bin at this; simp at this) (fun _ _ => rfl), fun h b _ q => absurd q (by show ¬ 0 = b + 1; omega), fun _ _ => by show 0 < 2 ^ qH A; omega⟩ (by
      have := smn_le (L := fun _ => unb 0 (qH A)) (c := qH A) (fun _ => unb_le _) (qB A)
      have h2 : qB A * qH A ≤ 6 * 6 := Nat.mul_le_mul b6 h6
      show smn (fun _ => unb 0 (qH A)) (qB A) ≤ 36
      omega)
  intro r
  induction r with
  | zero =>
    intro i K R h' hi e' s' j' u'
    have : i = 36 := by omega
    subst this
    have hwh := hw.eq e'
    refine wX1_matchedHand_18 hwh.1 hwh.2.1 hwh.2.2.1 (bY (Int32.le_refl _) (fin K R h' e' s' j' (fun b hb => Or.inl ?_)))
    have hR := j'.2.2 b hb
    exact bfull _ (by omega) _ (by omega) hR (fun h hh => unb_0 _ (smn_0 (L := fun b => unb (R b) (qH A)) _ (Nat.le_zero.mp u') b hb) h hh)
  | succ r ih =>
    intro i K R h' hi e' s' j' u'
    have hwh := hw.eq e'
    have k' : KC A F T lk h' := k.eq hw e' (fun x hx => by simp at hx; omega)
    refine wX1_matchedHand_18 hwh.1 hwh.2.1 hwh.2.2.1 (bN (nI_ge (b := 36) (by omega) (by decide)) (c_findAsking hwh g k'.l s' j'.1.1 j'.2.2 (fun b1 hb1 ne fr => ⟨_, rfl, rfl, bN' (i_nm1 (by omega)) ?_⟩) (fun f' => ⟨_, rfl, rfl, bY' rfl (fin K R h' e' s' j' f')⟩)))
    have hR := j'.2.2 b1 hb1
    cases hx : bst A b1 (R b1) (qH A) with
    | zero => exact absurd (bfull _ (by omega) _ (by omega) hR (bst_0 _ hx)) ne
    | succ x =>
      obtain ⟨x1, x2, -⟩ := bst_s _ hx
      refine c_askOne hwh k' s' hb1 (by omega) j'.1.1 hx (fun h3 K3 e3 s3 a3 => ⟨rfl, e3.2, ?_⟩)
      have := mU_up g hb1 (by omega) x1 x2
      rw [nI_1]
      exact ih (i + 1) K3 _ h3 (by omega) ((e'.tr e3).mono (fun x hx => by simp at hx ⊢; omega)) s3 (j'.step g hb1 fr hx a3) (by omega)
/-! the model -/
theorem LM.eqk (k : LM A h) {h' : gH} (e : gEq [139, 140] h h') : LM A h' := k.cg (fun x hx => e.1 x (fun q => by simp at q; rcases q with q | q <;> subst q <;> revert hx <;> decide)) (by rw [(e.1 82 (by decide)).1])
theorem KM.eqk (k : KM A F h) {h' : gH} (e : gEq [139, 140] h h') : KM A F h' := k.eq e (fun x hx => by simp at hx; omega) (by rw [(e.1 82 (by decide)).1])
theorem m_isFree (hw : gWf h lk sp cd) (g : qG A) (k : LM A h) (s0 : MMs K R h) (hK : ∀ h, h < qH A → K h ≤ qB A) (hb : b < 6) (hy : (∀ h, h < qH A → K h ≠ b + 1) → Q (some (.int 1)) h) (hn : (∃ h, h < qH A ∧ K h = b + 1) → Q (some (.int 0)) h) : gC l G (d + 1) MX12_isFree [.ref 82, .int (nI b)] h Q := by
  have h6 := g.H6
  have b6 := g.B6
  refine eX12_isFree hw (fun p e s m args below meth cc => ?_)
  suffices H : ∀ r i, i + r = qH A → (∀ h, h < i → K h ≠ b + 1) → gg p l e s m args below meth cc G (d + 1) MX12_isFree Q 2 [some (.ref 82), some (.int (nI b)), some (.int (nI i))] [] h from H (qH A) 0 (by omega) (fun h hh => absurd hh (Nat.not_lt_zero _))
  intro r
  induction r with
  | zero =>
    intro i hi h0
    exact wX12_isFree_2 hw.1 hw.2.1 hw.2.2.1 (m_handMany hw k ⟨_, rfl, rfl, bY (nI_le (by omega) (by omega)) (hy (fun h hh => h0 h (by omega)))⟩)
  | succ r ih =>
    intro i hi h0
    have hk := hK i (by omega)
    refine wX12_isFree_2 hw.1 hw.2.1 hw.2.2.1 (m_handMany hw k ⟨_, rfl, rfl, bN (nI_ge (by omega) (by omega)) ⟨vp_in_nI (by omega) (by decide), ?_⟩⟩)
    rw [nI_clamp (by omega), s0.1 i (by omega), i_eqs (by omega) (by omega), nI_1]
    refine ⟨fun q => ih (i + 1) (by omega) (fun h hh => ?_), fun q => hn ⟨i, by omega, q⟩⟩
    by_cases e : h = i
    · subst e; exact q
    · exact h0 h (by omega)
theorem m_liesBest (hw : gWf h lk sp cd) (g : qG A) (k : LM A h) (s0 : MMs K R h) (hb : b < qB A) (hR : R b < 64) (hq : Q (some (.int (nI (bst A b (R b) (qH A)) - 1))) h) : gC l G (d + 1) MX12_liesBest [.ref 82, .int (nI b)] h Q := by
  have h6 := g.H6
  have b6 := g.B6
  refine eX12_liesBest hw (fun p e s m args below meth cc => ?_)
  suffices H : ∀ r i, i + r = qH A → gg p l e s m args below meth cc G (d + 1) MX12_liesBest Q 4 [some (.ref 82), some (.int (nI b)), some (.int (nI (bst A b (R b) i) - 1)), some (.int (nI i))] [] h from H (qH A) 0 (by omega)
  intro r
  induction r with
  | zero =>
    intro i hi
    have : i = qH A := by omega
    subst this
    exact wX12_liesBest_4 hw.1 hw.2.1 hw.2.2.1 (m_handMany hw k ⟨_, rfl, rfl, bY (Int32.le_refl _) hq⟩)
  | succ r ih =>
    intro i hi
    have i1 := ih (i + 1) (by omega)
    have hl := bst_lt (A := A) (b := b) (X := R b) i
    have es : bst A b (R b) (i + 1) = if R b / 2 ^ i % 2 = 1 then bst A b (R b) i else if bst A b (R b) i = 0 then i + 1 else if qlk A b i ≤ qlk A b (bst A b (R b) i - 1) then bst A b (R b) i else i + 1 := rfl
    refine wX12_liesBest_4 hw.1 hw.2.1 hw.2.2.1 (m_handMany hw k ⟨_, rfl, rfl, bN (nI_ge (by omega) (by omega)) ⟨vp_in_nI (by omega) (by decide), ?_⟩⟩)
    rw [nI_clamp (by omega), s0.2 b (by omega), bin_z (by omega) (by omega), nI_1]
    refine ⟨fun q => ?_, fun q => ?_⟩
    · rw [es, if_pos (show R b / 2 ^ i % 2 = 1 from Classical.byContradiction q)] at i1
      exact i1
    · rw [es, if_neg (show ¬ R b / 2 ^ i % 2 = 1 from q)] at i1
      cases hh : bst A b (R b) i with
      | zero =>
        rw [hh, if_pos rfl, i_s1] at i1
        exact bY rfl i1
      | succ y =>
        rw [hh, if_neg (by omega), Nat.add_sub_cancel] at i1
        rw [i_s1]
        have l1 := g.lk b i hb (by omega)
        have l2 := g.lk b y hb (by omega)
        refine bN (i_nm1 (by omega)) (m_liked hw g k hb (by omega) ⟨_, rfl, rfl, m_liked hw g k hb (by omega) ⟨_, rfl, rfl, ?_⟩⟩)
        rw [nI_leI (by omega) (by omega)]
        refine ⟨fun q2 => ?_, fun q2 => ?_⟩
        · rw [if_pos q2, i_s1] at i1; exact i1
        · rw [if_neg q2, i_s1] at i1; exact i1
theorem m_asksOne (hw : gWf h lk sp cd) (k : KM A F h) (s0 : MMs K R h) (hb : b < qB A) (hR : ∀ b, b < qB A → R b < 64) (hK : ∀ h, h < qH A → K h ≤ qB A) (hq0 : bst A b (R b) (qH A) = 0 → Q (some (.int 0)) h) (hq : ∀ x h' K' R', bst A b (R b) (qH A) = x + 1 → gEq [139, 140] h h' → MMs K' R' h' → askm F K R b x K' R' → Q (some (.int 1)) h') : gC l G (d + 2) MX12_asksOne [.ref 82, .int (nI b)] h Q := by
  have g := k.g
  have h6 := g.H6
  have b6 := g.B6
  have hRb := hR b hb
  refine eX12_asksOne hw (m_liesBest hw g k.l s0 hb hRb ⟨_, rfl, rfl, ?_⟩)
  cases hx : bst A b (R b) (qH A) with
  | zero => exact bY' i_m1 (hq0 hx)
  | succ x =>
    obtain ⟨x1, x2, -⟩ := bst_s _ hx
    have hk := hK x x1
    have vx : vp_in (nI x) 6 := vp_in_nI (by omega) (by decide)
    have vb : vp_in (nI b) 6 := vp_in_nI (by omega) (by decide)
    rw [i_s1, nI_clamp (show x < 2 ^ 31 by omega), s0.1 x (by omega)]
    have sK : ∀ h', gEq [139, 140] h h' → h'.1 139 = h.1 139 → ∀ v, v = nI b → ∀ j, j < 6 → (sI h' 139 x v).1 139 j = nI (upn K x (b + 1) j) - 1 := fun h' e e9 v ev j hj => by
      by_cases e : j = x
      · subst e; rw [sI_s, upn_s, i_s1, ev]
      · rw [sI_nb e, upn_n e, e9]; exact s0.1 j hj
    refine bN' (i_nm1 (by omega)) ⟨vx, ?_⟩
    rw [← i_m1, i_eq1 (by omega) (by decide)]
    refine ⟨fun z => ⟨vx, fun _ => hq x _ _ _ hx (gE1 (by decide) (gEq.rf _ _)) ⟨sK h (gEq.rf _ _) rfl _ rfl, fun b' hb' => by rw [sI_ne (by decide)]; exact s0.2 b' hb'⟩ (Or.inl ⟨z, rfl, rfl⟩), fun z2 => absurd z z2⟩, fun z => ?_⟩
    obtain ⟨b0, hb0⟩ : ∃ b0, K x = b0 + 1 := ⟨K x - 1, by omega⟩
    have b0B : b0 < qB A := by omega
    have hR0 := hR b0 b0B
    have v0 : vp_in (nI b0) 6 := vp_in_nI (by omega) (by decide)
    obtain ⟨-, -, t1, -, -⟩ := k.f.2.2.2.1 b hb
    obtain ⟨-, -, t2, -, -⟩ := k.f.2.2.2.1 b0 b0B
    rw [hb0, i_s1, nI_clamp (show b0 < 2 ^ 31 by omega), nI_clamp (show b < 2 ^ 31 by omega)]
    have win : pfh F b b0 → Q (some (.int 1)) (sI (sI h 139 x (nI b)) 140 b0 (h.1 140 b0 ||| 1 <<< (nI x &&& 31))) := fun w => by
      rw [s0.2 b0 (by omega), (bit_set (R b0) (by omega) x (by omega)).1]
      refine hq x _ _ _ hx (gE1 (by decide) (gE1 (by decide) (gEq.rf _ _))) ⟨fun j hj => by rw [sI_ne (by decide)]; exact sK h (gEq.rf _ _) rfl _ rfl j hj, fun b' hb' => ?_⟩ (Or.inr ⟨b0, hb0, Or.inl ⟨w, rfl, rfl⟩⟩)
      by_cases e : b' = b0
      · subst e; rw [sI_s, upn_s]
      · rw [sI_nb e, upn_n e, sI_ne (by decide)]; exact s0.2 b' hb'
    have lose : ¬ pfh F b b0 → Q (some (.int 1)) (sI h 140 b (h.1 140 b ||| 1 <<< (nI x &&& 31))) := fun w => by
      rw [s0.2 b (by omega), (bit_set (R b) (by omega) x (by omega)).1]
      refine hq x _ _ _ hx (gE1 (by decide) (gEq.rf _ _)) ⟨fun j hj => by rw [sI_ne (by decide)]; exact s0.1 j hj, fun b' hb' => ?_⟩ (Or.inr ⟨b0, hb0, Or.inr ⟨w, rfl, rfl⟩⟩)
      by_cases e : b' = b
      · subst e; rw [sI_s, upn_s]
      · rw [sI_nb e, upn_n e]; exact s0.2 b' hb'
    have n0 : ¬ nI b0 = nI 0 - 1 := fun q => i_nm1 (a := b0) (by omega) (q.trans i_m1)
    have nb : ¬ nI b = nI 0 - 1 := fun q => i_nm1 (a := b) (by omega) (q.trans i_m1)
    unfold pfh at win lose
    refine m_trustOf hw k hb ⟨_, rfl, rfl, m_trustOf hw k b0B ⟨_, rfl, rfl, ?_⟩⟩
    rw [nI_ltI (by omega) (by omega)]
    refine ⟨fun q => ⟨vx, bN (by omega) ⟨v0, v0, win (by omega)⟩⟩, fun q => m_trustOf hw k hb ⟨_, rfl, rfl, m_trustOf hw k b0B ⟨_, rfl, rfl, ?_⟩⟩⟩
    rw [nI_eq (by omega) (by omega), nI_leI (by omega) (by omega)]
    exact ⟨fun q2 => bN nb ⟨vb, vb, lose (by omega)⟩, fun q2 => ⟨fun q3 => bN nb ⟨vb, vb, lose (by omega)⟩, fun q3 => ⟨vx, bN (by omega) ⟨v0, v0, win (by omega)⟩⟩⟩⟩
theorem m_match (hw : gWf h lk sp cd) (k : KM A F h) (hb : b < qB A) (hq : ∀ h' K rj, gEq [139, 140] h h' → DA A F K rj → dFin A K rj → Q (some (.int (nI (hhb K b (qH A)) - 1))) h') : gC l G (d + 3) MX12_match [.ref 82, .int (nI b)] h Q := by
  have g := k.g
  have h6 := g.H6
  have b6 := g.B6
  refine eX12_match hw (fun p e s m args below meth cc => m_isBoat_y hw g k.l hb ⟨_, rfl, rfl, bN' (by decide) ?_⟩)
  have H85 : ∀ K R h' (v : Int32), gEq [139, 140] h h' → MMs K R h' → DA A F K (fun b h => bin (R b) h) → dFin A K (fun b h => bin (R b) h) → ∀ r i, i + r = qH A → hhb K b i = 0 → gg p l e s m args below meth cc G (d + 2 + 1) MX12_match Q 85 [some (.ref 82), some (.int (nI b)), some (.int v), some (.int (nI i))] [] h' := by
    intro K R h' v e' s' d' f' r
    have hwh := hw.eq e'
    have hq := hq h' K _ e' d' f'
    induction r with
    | zero =>
      intro i hi h0
      have : i = qH A := by omega
      subst this
      rw [h0] at hq
      exact wX12_match_85 hwh.1 hwh.2.1 hwh.2.2.1 (m_handMany hwh (k.l.eqk e') ⟨_, rfl, rfl, bY (Int32.le_refl _) hq⟩)
    | succ r ih =>
      intro i hi h0
      have hk := d'.1 i (by omega)
      refine wX12_match_85 hwh.1 hwh.2.1 hwh.2.2.1 (m_handMany hwh (k.l.eqk e') ⟨_, rfl, rfl, bN (nI_ge (by omega) (by omega)) ⟨vp_in_nI (by omega) (by decide), ?_⟩⟩)
      rw [nI_clamp (by omega), s'.1 i (by omega), i_eqs (by omega) (by omega), nI_1]
      refine ⟨fun q => ih (i + 1) (by omega) (hhb_n h0 q), fun q => ?_⟩
      rw [hhb_f h0 q (show i < qH A by omega), i_s1] at hq
      exact hq
  have H40 : ∀ M K R fl h', gEq [139, 140] h h' → MMs K R h' → MJ A F K R → (fl = 0 → dFin A K (fun b h => bin (R b) h)) → (¬ fl = 0 → mU A R + mE A K < M) → gg p l e s m args below meth cc G (d + 2 + 1) MX12_match Q 40 [some (.ref 82), some (.int (nI b)), some (.int fl), none] [] h' := by
    intro M
    induction M with
    | zero =>
      intro K R fl h' e' s' j' f0 f1
      have hwh := hw.eq e'
      exact wX12_match_40 hwh.1 hwh.2.1 hwh.2.2.1 ⟨fun q => H85 K R h' fl e' s' j'.1 (f0 q) (qH A) 0 (by omega) rfl, fun q => absurd (f1 q) (Nat.not_lt_zero _)⟩
    | succ M ih =>
      intro K R fl h' e' s' j' f0 f1
      have hwh := hw.eq e'
      refine wX12_match_40 hwh.1 hwh.2.1 hwh.2.2.1 ⟨fun q => H85 K R h' fl e' s' j'.1 (f0 q) (qH A) 0 (by omega) rfl, fun q => ?_⟩
      have f1 := f1 q
      suffices H : ∀ r i K R fl h', i + r = qB A → gEq [139, 140] h h' → MMs K R h' → MJ A F K R → mU A R + mE A K < M + 1 → (¬ fl = 0 → mU A R + mE A K < M) → (fl = 0 → ∀ b, b < i → (∃ h, h < qH A ∧ K h = b + 1) ∨ ∀ h, h < qH A → bin (R b) h) → gg p l e s m args below meth cc G (d + 2 + 1) MX12_match Q 48 [some (.ref 82), some (.int (nI b)), some (.int fl), some (.int (nI i))] [] h' from
        H (qB A) 0 K R 0 h' (by omega) e' s' j' f1 (fun z => absurd rfl z) (fun _ b hb => absurd hb (Nat.not_lt_zero _))
      clear hwh e' s' j' f0 f1 q
      intro r
      induction r with
      | zero =>
        intro i K R fl h' hi e' s' j' u1 u2 f0
        have hwh := hw.eq e'
        exact wX12_match_48 hwh.1 hwh.2.1 hwh.2.2.1 (m_boatMany hwh (k.l.eqk e') ⟨_, rfl, rfl, bY (nI_le (by omega) (by omega)) (ih K R fl h' e' s' j' (fun z b hb => f0 z b (by omega)) u2)⟩)
      | succ r ihb =>
        intro i K R fl h' hi e' s' j' u1 u2 f0
        have hwh := hw.eq e'
        have hiB : i < qB A := by omega
        have stay : ((∃ h, h < qH A ∧ K h = i + 1) ∨ ∀ h, h < qH A → bin (R i) h) → gg p l e s m args below meth cc G (d + 2 + 1) MX12_match Q 48 [some (.ref 82), some (.int (nI b)), some (.int fl), some (.int (nI i + 1))] [] h' := fun q => by
          rw [nI_1]
          refine ihb (i + 1) K R fl h' (by omega) e' s' j' u1 u2 (fun z b hb => ?_)
          by_cases e : b = i
          · subst e; exact q
          · exact f0 z b (by omega)
        refine wX12_match_48 hwh.1 hwh.2.1 hwh.2.2.1 (m_boatMany hwh (k.l.eqk e') ⟨_, rfl, rfl, bN (nI_ge (by omega) (by omega)) (m_isFree hwh g (k.l.eqk e') s' j'.1.1 (by omega) (fun fr => ⟨_, rfl, rfl, bN (by decide) (m_asksOne hwh (k.eqk e') s' hiB j'.2 j'.1.1 (fun z => ⟨_, rfl, rfl, bY rfl (stay (Or.inr (bst_0 _ z)))⟩) (fun x h3 K3 R3 hx e3 s3 a3 => ⟨_, rfl, e3.2, bN (by decide) ?_⟩))⟩) (fun ex => ⟨_, rfl, rfl, bY rfl (stay (Or.inl ex))⟩))⟩)
        obtain ⟨j3, m3⟩ := j'.step g hiB fr hx a3
        rw [nI_1]
        exact ihb (i + 1) K3 R3 1 h3 (by omega) ((e'.tr e3).mono (fun x hx => by simp at hx ⊢; omega)) s3 j3 (by omega) (fun _ => by omega) (fun z => absurd z (by decide))
  suffices H : ∀ r i h', i + r = 6 → gEq [139, 140] h h' → (∀ j, j < i → h'.1 139 j = nI 0 - 1 ∧ h'.1 140 j = nI 0) → gg p l e s m args below meth cc G (d + 2 + 1) MX12_match Q 12 [some (.ref 82), some (.int (nI b)), some (.int (nI i)), none] [] h' from H 6 0 h (by omega) (gEq.rf _ _) (fun j hj => absurd hj (Nat.not_lt_zero _))
  intro r
  induction r with
  | zero =>
    intro i h' hi e' v'
    have : i = 6 := by omega
    subst this
    have hwh := hw.eq e'
    exact wX12_match_12 hwh.1 hwh.2.1 hwh.2.2.1 (bY (Int32.le_refl _) (H40 (mU A (fun _ => 0) + mE A (fun _ => 0) + 1) (fun _ => 0) (fun _ => 0) 1 h' e' ⟨fun j hj => (v' j hj).1, fun j hj => (v' j hj).2⟩ ⟨DA.zero (fun b h _ _ q => by unfold bin at q; simp at q) (fun _ _ => rfl), fun _ _ => by show 0 < 64; omega⟩ (fun z => absurd z (by decide)) (fun _ => by omega)))
  | succ r ih =>
    intro i h' hi e' v'
    have hwh := hw.eq e'
    refine wX12_match_12 hwh.1 hwh.2.1 hwh.2.2.1 (bN (nI_ge (b := 6) (by omega) (by decide)) ⟨vp_in_nI (by omega) (by decide), vp_in_nI (by omega) (by decide), ?_⟩)
    rw [nI_clamp (by omega), nI_1]
    refine ih (i + 1) _ (by omega) (gE1 (by decide) (gE1 (by decide) e')) (fun j hj => ?_)
    by_cases e : j = i
    · subst e; exact ⟨by rw [sI_ne (by decide), sI_s]; decide, by rw [sI_s]; rfl⟩
    · rw [sI_ne (by decide), sI_nb e, sI_nb e, sI_ne (by decide)]; exact v' j (by omega)
theorem st_match : gStepI l G (gInv Rst) MX11_match MX12_match 1 := by
  intro n9 h av hn9 hl hi
  obtain ⟨a, rfl⟩ := one_of hl
  obtain ⟨lk, sp, cd, A, F, T, hw, k, m, -, -⟩ := hi.2.2.2.2.2.2.k hn9
  have hm := gInv.mono Rst_cg n9 h hi
  have h6 := k.g.B6
  rcases ixd a (qB A) (by omega) with ⟨j, hj, rfl⟩ | hb
  · refine eX11_match (d := 899) hw (c_isBoat_y hw k.g k.l hj ⟨_, rfl, rfl, bN' (by decide) (c_matchedHand hw k hj (fun h1 K rj e1 d1 f1 => ⟨_, rfl, e1.2, _, rfl, ?_⟩))⟩)
    have hw1 := hw.eq e1
    have m1 : KM A F h1 := m.eq e1 (fun x hx => by simp at hx; omega) (by rw [(e1.1 82 (by decide)).1])
    refine m_match (d := 897) hw1 m1 hj (fun h2 K2 rj2 e2 d2 f2 => ⟨_, rfl, by rw [d1.same f1 d2 f2 hj], ?_⟩)
    refine inv_read hi (e1.tr e2) (by decide) (fun j hj => ?_) ?_ ?_ ?_
    · rw [(e2.1 82 (by decide)).1, (e1.1 82 (by decide)).1]
    · rw [(e2.1 82 (by decide)).2, (e1.1 82 (by decide)).2]
    · rw [(e2.1 58 (by decide)).1, (e1.1 58 (by decide)).1]
    · rw [(e2.1 58 (by decide)).1, (e1.1 58 (by decide)).1]
  · refine eX11_match (d := 899) hw (c_isBoat_n hw k.g k.l hb ⟨_, rfl, rfl, bY' rfl ⟨_, rfl, ?_⟩⟩)
    exact eX12_match (d := 899) hw (fun p e s m' args below meth cc => m_isBoat_n hw m.g m.l hb ⟨_, rfl, rfl, bY' rfl ⟨_, rfl, rfl, hm⟩⟩)
end MT3
