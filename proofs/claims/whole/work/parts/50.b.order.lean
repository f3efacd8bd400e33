/-- how many bits an int has -/
def bcI (a1 : Int32) : Int32 := ((((((((a1 - (((a1 : Int32).toUInt32 >>> ((1 : Int32).toUInt32 &&& Int32.toUInt32 31)).toInt32 &&& 1431655765)) &&& 858993459) + ((((a1 - (((a1 : Int32).toUInt32 >>> ((1 : Int32).toUInt32 &&& Int32.toUInt32 31)).toInt32 &&& 1431655765)) : Int32).toUInt32 >>> ((2 : Int32).toUInt32 &&& Int32.toUInt32 31)).toInt32 &&& 858993459)) + (((((a1 - (((a1 : Int32).toUInt32 >>> ((1 : Int32).toUInt32 &&& Int32.toUInt32 31)).toInt32 &&& 1431655765)) &&& 858993459) + ((((a1 - (((a1 : Int32).toUInt32 >>> ((1 : Int32).toUInt32 &&& Int32.toUInt32 31)).toInt32 &&& 1431655765)) : Int32).toUInt32 >>> ((2 : Int32).toUInt32 &&& Int32.toUInt32 31)).toInt32 &&& 858993459)) : Int32).toUInt32 >>> ((4 : Int32).toUInt32 &&& Int32.toUInt32 31)).toInt32) &&& 252645135) + (((((((a1 - (((a1 : Int32).toUInt32 >>> ((1 : Int32).toUInt32 &&& Int32.toUInt32 31)).toInt32 &&& 1431655765)) &&& 858993459) + ((((a1 - (((a1 : Int32).toUInt32 >>> ((1 : Int32).toUInt32 &&& Int32.toUInt32 31)).toInt32 &&& 1431655765)) : Int32).toUInt32 >>> ((2 : Int32).toUInt32 &&& Int32.toUInt32 31)).toInt32 &&& 858993459)) + (((((a1 - (((a1 : Int32).toUInt32 >>> ((1 : Int32).toUInt32 &&& Int32.toUInt32 31)).toInt32 &&& 1431655765)) &&& 858993459) + ((((a1 - (((a1 : Int32).toUInt32 >>> ((1 : Int32).toUInt32 &&& Int32.toUInt32 31)).toInt32 &&& 1431655765)) : Int32).toUInt32 >>> ((2 : Int32).toUInt32 &&& Int32.toUInt32 31)).toInt32 &&& 858993459)) : Int32).toUInt32 >>> ((4 : Int32).toUInt32 &&& Int32.toUInt32 31)).toInt32) &&& 252645135) : Int32).toUInt32 >>> ((8 : Int32).toUInt32 &&& Int32.toUInt32 31)).toInt32) + ((((((((a1 - (((a1 : Int32).toUInt32 >>> ((1 : Int32).toUInt32 &&& Int32.toUInt32 31)).toInt32 &&& 1431655765)) &&& 858993459) + ((((a1 - (((a1 : Int32).toUInt32 >>> ((1 : Int32).toUInt32 &&& Int32.toUInt32 31)).toInt32 &&& 1431655765)) : Int32).toUInt32 >>> ((2 : Int32).toUInt32 &&& Int32.toUInt32 31)).toInt32 &&& 858993459)) + (((((a1 - (((a1 : Int32).toUInt32 >>> ((1 : Int32).toUInt32 &&& Int32.toUInt32 31)).toInt32 &&& 1431655765)) &&& 858993459) + ((((a1 - (((a1 : Int32).toUInt32 >>> ((1 : Int32).toUInt32 &&& Int32.toUInt32 31)).toInt32 &&& 1431655765)) : Int32).toUInt32 >>> ((2 : Int32).toUInt32 &&& Int32.toUInt32 31)).toInt32 &&& 858993459)) : Int32).toUInt32 >>> ((4 : Int32).toUInt32 &&& Int32.toUInt32 31)).toInt32) &&& 252645135) + (((((((a1 - (((a1 : Int32).toUInt32 >>> ((1 : Int32).toUInt32 &&& Int32.toUInt32 31)).toInt32 &&& 1431655765)) &&& 858993459) + ((((a1 - (((a1 : Int32).toUInt32 >>> ((1 : Int32).toUInt32 &&& Int32.toUInt32 31)).toInt32 &&& 1431655765)) : Int32).toUInt32 >>> ((2 : Int32).toUInt32 &&& Int32.toUInt32 31)).toInt32 &&& 858993459)) + (((((a1 - (((a1 : Int32).toUInt32 >>> ((1 : Int32).toUInt32 &&& Int32.toUInt32 31)).toInt32 &&& 1431655765)) &&& 858993459) + ((((a1 - (((a1 : Int32).toUInt32 >>> ((1 : Int32).toUInt32 &&& Int32.toUInt32 31)).toInt32 &&& 1431655765)) : Int32).toUInt32 >>> ((2 : Int32).toUInt32 &&& Int32.toUInt32 31)).toInt32 &&& 858993459)) : Int32).toUInt32 >>> ((4 : Int32).toUInt32 &&& Int32.toUInt32 31)).toInt32) &&& 252645135) : Int32).toUInt32 >>> ((8 : Int32).toUInt32 &&& Int32.toUInt32 31)).toInt32) : Int32).toUInt32 >>> ((16 : Int32).toUInt32 &&& Int32.toUInt32 31)).toInt32) &&& 63)
theorem bcI_p : ∀ m, m < 64 → bcI (nI m) = nI (pcn m) := by decide +kernel
section OR2
variable {l : Launch} {G : gG} {d : Nat} {Q : Option Value → gH → Prop} {h h0 : gH} {lk sp : Nat} {cd : Option Nat} {A F F' : qT} {T n b c M bo go g p : Nat}
theorem c_bitCount {m : Nat} (hw : gWf h lk sp cd) (hm : m < 64) (hq : Q (some (.int (nI (pcn m)))) h) : gC l G d MJ6_bitCount_0f7a4 [.int (nI m)] h Q := by
  refine eJ6_bitCount_0f7a4 hw ?_
  show Q (some (.int (bcI (nI m)))) h
  rw [bcI_p m hm]
  exact hq
/-- the class tries all rows that begin so -/
theorem c_placeOne (hc : c < qN A) (hM : M < 2 ^ qB A) : ∀ k {at_ X P g p : Nat} {h : gH} {Q : Option Value → gH → Prop}, gWf h lk sp cd → KC A F T lk h → at_ + k = pcn M → rst6 M at_ P X → pcn X = k → (∀ i, i < at_ → bin M (dg at_ P i)) → h.1 53 4 = nI g - 1 → g ≤ 7 → (g ≠ 0 → ∀ i, i < pcn M → h.1 55 i = nI (dg (pcn M) p i)) → (∀ i, i < at_ → h.1 54 i = nI (dg at_ P i)) → Bst A F M (pcn M) c (P * 6 ^ k) g p →
    (∀ h' g' p', gEq [45, 46, 48, 53, 54, 55] h h' → h'.1 53 4 = nI g' - 1 → g' ≤ 7 → g' ≠ 0 → (∀ i, i < pcn M → h'.1 55 i = nI (dg (pcn M) p' i)) → (∀ i, i < at_ → h'.1 54 i = nI (dg at_ P i)) → Bst A F M (pcn M) c ((P + 1) * 6 ^ k) g' p' → Q none h') →
    gC l G (d + k + 5) MX1_placeOne [.ref 53, .int (nI X), .int (nI c), .int (nI at_), .int (nI (smr A F c (dg at_ P) at_).2), .int (nI (smr A F c (dg at_ P) at_).1 - 1)] h Q := by
  intro k
  induction k with
  | zero =>
    intro at_ X P g p h Q hw K hn hR hX hd v53 g7 v55 v54 B hq
    have h6 := K.g.B6
    have p64 : 2 ^ qB A ≤ 2 ^ 6 := Nat.pow_le_pow_right (by decide) h6
    have p6 := pcn_6 M (by omega)
    have X0 : X = 0 := (pcn_0 X hR.1).mp hX
    subst X0
    have hn : at_ = pcn M := hn
    have s6 := smr_0 (A := A) (F := F) (c := c) (r := dg at_ P) at_
    rw [Nat.pow_zero, Nat.mul_one] at B
    rw [Nat.pow_zero, Nat.mul_one] at hq
    have hv : vld M (pcn M) P := fun j hj => by
      rw [← hn]
      constructor
      · intro q
        apply Classical.byContradiction
        intro q2
        have : bin 0 j := (hR.2 j hj).mpr ⟨q, fun i hi e => q2 ⟨i, hi, e⟩⟩
        unfold bin at this
        simp at this
      · rintro ⟨i, i1, i2⟩
        rw [← i2]
        exact hd i i1
    have oc : ocn A F c (pcn M) P = (smr A F c (dg at_ P) at_).2 := by unfold ocn; rw [← hn]
    refine eX1_placeOne hw (fun p9 e9 s9 m9 args9 below9 meth9 cc9 => c_bitCount (m := 0) hw (by decide) ⟨_, rfl, rfl, ?_⟩)
    rw [v53, show nI (pcn 0) = nI 0 from rfl, nI_add, Nat.add_zero]
    have lt : nI g - 1 < nI (smr A F c (dg at_ P) at_).2 ↔ g ≤ (smr A F c (dg at_ P) at_).2 := by
      rw [Int32.lt_iff_toInt_lt, nI_toInt (by omega), show (1 : Int32) = nI 1 from rfl, pk_sub_toInt (by omega) (by omega)]
      omega
    rw [lt]
    refine ⟨fun z => ⟨fun y => absurd rfl y, fun _ => ?_⟩, fun z => ?_⟩
    · have B2 := B.take hv (by rw [oc]; exact z)
      rw [oc] at B2
      refine hq _ _ P ((gE1 (L := [45, 46, 48, 53, 54, 55]) (by decide) (gEq.rf _ h)).tr (L' := [55]) ⟨fun a ha => ⟨(sA_o _ _ _ a (by simpa using ha)).1, (sA_o _ _ _ a (by simpa using ha)).2.1⟩, rfl⟩ |>.mono (fun x hx => by simp at hx ⊢; omega)) ?_ (by omega) (by omega) (fun i hi => ?_) (fun i hi => ?_) B2
      · rw [(sA_o _ 55 _ 53 (by decide)).1, sI_s, i_s1]
      · rw [sA_s, pk_cpy_in (Nat.zero_le _) (by omega), sI_ne (by decide), show 0 + (i - 0) = i by omega, v54 i (by omega), hn]
      · rw [(sA_o _ 55 _ 54 (by decide)).1, sI_ne (by decide)]
        exact v54 i hi
    · refine hq h g p (gEq.rf _ _) v53 g7 (by omega) (v55 (by omega)) v54 (B.skip (by omega) (fun q q1 q2 _ => ?_))
      have : q = P := by omega
      subst this
      rw [oc]
      omega
  | succ k ih =>
    intro at_ X P g p h Q hw K hn hR hX hd v53 g7 v55 v54 B hq
    have h6 := K.g.B6
    have p64 : 2 ^ qB A ≤ 2 ^ 6 := Nat.pow_le_pow_right (by decide) h6
    have p6 := pcn_6 M (by omega)
    have X64 := hR.1
    have dB : ∀ i, i < at_ → dg at_ P i < qB A := fun i hi => bin_lt hM (hd i hi)
    have s6 := smr_0 (A := A) (F := F) (c := c) (r := dg at_ P) at_
    have sb := smr_bo (c := c) K.f (r := dg at_ P) at_ dB
    have X0 : X ≠ 0 := fun z => by have := (pcn_0 X hR.1).mpr z; omega
    refine eX1_placeOne hw (fun p9 e9 s9 m9 args9 below9 meth9 cc9 => c_bitCount hw hR.1 ⟨_, rfl, rfl, ?_⟩)
    rw [v53, hX, nI_add]
    have lt : nI g - 1 < nI ((smr A F c (dg at_ P) at_).2 + (k + 1)) ↔ g ≤ (smr A F c (dg at_ P) at_).2 + (k + 1) := by
      rw [Int32.lt_iff_toInt_lt, nI_toInt (by omega), show (1 : Int32) = nI 1 from rfl, pk_sub_toInt (by omega) (by omega)]
      omega
    rw [lt]
    refine ⟨fun z => bN' (show nI X ≠ 0 from fun q => X0 ((nI_eq (b := 0) (by omega) (by decide)).mp q)) ?_, fun z => ?_⟩
    · suffices H : ∀ r dd g p h', dd + r = 6 → gEq [45, 46, 48, 53, 54, 55] h h' → h'.1 53 4 = nI g - 1 → g ≤ 7 → (g ≠ 0 → ∀ i, i < pcn M → h'.1 55 i = nI (dg (pcn M) p i)) → (∀ i, i < at_ → h'.1 54 i = nI (dg at_ P i)) → Bst A F M (pcn M) c ((6 * P + dd) * 6 ^ k) g p → ((∃ d', d' < dd ∧ bin X d') → g ≠ 0) → gg p9 l e9 s9 m9 args9 below9 meth9 cc9 G (d + (k + 1) + 4 + 1) MX1_placeOne Q 44 [some (.ref 53), some (.int (nI X)), some (.int (nI c)), some (.int (nI at_)), some (.int (nI (smr A F c (dg at_ P) at_).2)), some (.int (nI (smr A F c (dg at_ P) at_).1 - 1)), some (.int (nI dd)), none, none] [] h' from
        H 6 0 g p h (by omega) (gEq.rf _ _) v53 g7 v55 v54 (by
          rw [Nat.add_zero]
          rw [show P * 6 ^ (k + 1) = 6 * P * 6 ^ k by rw [Nat.pow_succ, Nat.mul_comm 6 P, Nat.mul_assoc, Nat.mul_comm 6]] at B
          exact B) (fun ⟨d', hd', _⟩ => absurd hd' (Nat.not_lt_zero _))
      intro r
      induction r with
      | zero =>
        intro dd g p h' hr e1 u53 u7 u55 u54 B1 nz
        have : dd = 6 := by omega
        subst this
        have hwh := hw.eq e1
        obtain ⟨b9, b1, b2, -⟩ := bin_fst (B := 6) (Nat.le_refl _) X64 (by omega)
        have g0 := nz ⟨b9, b1, b2⟩
        refine wX1_placeOne_44 hwh.1 hwh.2.1 hwh.2.2.1 (bY (Int32.le_refl _) (hq h' g p e1 u53 u7 g0 (u55 g0) u54 ?_))
        rw [show (P + 1) * 6 ^ (k + 1) = (6 * P + 6) * 6 ^ k by rw [Nat.pow_succ, show 6 * P + 6 = (P + 1) * 6 by omega, Nat.mul_assoc, Nat.mul_comm 6]]
        exact B1
      | succ r ih2 =>
        intro dd g p h' hr e1 u53 u7 u55 u54 B1 nz
        have hwh := hw.eq e1
        have d6 : dd < 6 := by omega
        refine wX1_placeOne_44 hwh.1 hwh.2.1 hwh.2.2.1 (bN (nI_ge (b := 6) (by omega) (by decide)) (bN (nI_pos (by omega)) (bN (nI_ge (b := 6) (by omega) (by decide)) ?_)))
        rw [bin_z (by omega) (by omega), nI_1]
        refine ⟨fun q => ?_, fun q => ?_⟩
        · have q : bin X dd := Classical.byContradiction q
          obtain ⟨qM, qd⟩ := (hR.2 dd d6).mp q
          have dB' := bin_lt hM qM
          obtain ⟨cl1, cl2⟩ := pcn_clr X hR.1 dd d6 q
          have es : smr A F c (dg (at_ + 1) (6 * P + dd)) (at_ + 1) = if fer A F dd c (smr A F c (dg at_ P) at_).1 ≤ ft F dd then (lrn A F dd c (smr A F c (dg at_ P) at_).1 + 1, (smr A F c (dg at_ P) at_).2 + 1) else smr A F c (dg at_ P) at_ := by
            have a1 : smr A F c (dg (at_ + 1) (6 * P + dd)) at_ = smr A F c (dg at_ P) at_ := smr_cg at_ (fun j hj => dg_fst hj d6)
            have a2 : smr A F c (dg (at_ + 1) (6 * P + dd)) (at_ + 1) = if fer A F (dg (at_ + 1) (6 * P + dd) at_) c (smr A F c (dg (at_ + 1) (6 * P + dd)) at_).1 ≤ ft F (dg (at_ + 1) (6 * P + dd) at_) then (lrn A F (dg (at_ + 1) (6 * P + dd) at_) c (smr A F c (dg (at_ + 1) (6 * P + dd)) at_).1 + 1, (smr A F c (dg (at_ + 1) (6 * P + dd)) at_).2 + 1) else smr A F c (dg (at_ + 1) (6 * P + dd)) at_ := rfl
            rw [a2, a1, dg_last d6]
          have hR' : rst6 M (at_ + 1) (6 * P + dd) (X - 2 ^ dd) := ⟨Nat.lt_of_le_of_lt (Nat.sub_le _ _) hR.1, fun j hj => by
            rw [bin_clr hR.1 d6 q hj, hR.2 j hj]
            constructor
            · rintro ⟨⟨y1, y2⟩, y3⟩
              refine ⟨y1, fun i hi => ?_⟩
              by_cases ei : i = at_
              · subst ei; rw [dg_last d6]; exact fun y => y3 y.symm
              · rw [dg_fst (by omega) d6]; exact y2 i (by omega)
            · rintro ⟨y1, y2⟩
              refine ⟨⟨y1, fun i hi => ?_⟩, fun y => ?_⟩
              · have := y2 i (by omega)
                rw [dg_fst hi d6] at this
                exact this
              · have := y2 at_ (by omega)
                rw [dg_last d6] at this
                exact this y.symm⟩
          have hd' : ∀ i, i < at_ + 1 → bin M (dg (at_ + 1) (6 * P + dd) i) := fun i hi => by
            by_cases ei : i = at_
            · subst ei; rw [dg_last d6]; exact qM
            · rw [dg_fst (by omega) d6]; exact hd i (by omega)
          have e2 : gEq [45, 46, 48, 53, 54, 55] h (sI h' 54 at_ (nI dd)) := gE1 (by decide) e1
          have k2 : KC A F T lk (sI h' 54 at_ (nI dd)) := K.eq hw e2 (fun x hx => by simp at hx; omega)
          rw [nI_clamp (by omega), cl1, nI_1, nI_1]
          refine ⟨vp_in_nI (by omega) (by decide), c_fearOf (hw.eq e2) k2 dB' hc sb (fun h3 e3 => ⟨_, rfl, e3.2, ?_⟩)⟩
          have e4 : gEq [45, 46, 48, 53, 54, 55] h h3 := (e2.tr e3).mono (fun x hx => by simp at hx ⊢; omega)
          have k3 : KC A F T lk h3 := K.eq hw e4 (fun x hx => by simp at hx; omega)
          obtain ⟨-, -, t9, -, -⟩ := K.f.2.2.2.1 dd dB'
          have f9 := fer_le (A := A) (F := F) (b := dd) (c := c) (bo := (smr A F c (dg at_ P) at_).1) K.g
          have recu : ∀ h4 (s : Nat × Nat), smr A F c (dg (at_ + 1) (6 * P + dd)) (at_ + 1) = s → gEq [45, 46, 48] (sI h' 54 at_ (nI dd)) h4 → gEq [45, 46, 48, 53, 54, 55] h h4 → gC l G (d + (k + 1) + 4) MX1_placeOne [.ref 53, .int (nI (X - 2 ^ dd)), .int (nI c), .int (nI (at_ + 1)), .int (nI s.2), .int (nI s.1 - 1)] h4 (rV fun h5 => h5.2.2 = h4.2.2 ∧ gg p9 l e9 s9 m9 args9 below9 meth9 cc9 G (d + (k + 1) + 4 + 1) MX1_placeOne Q 44 [some (.ref 53), some (.int (nI X)), some (.int (nI c)), some (.int (nI at_)), some (.int (nI (smr A F c (dg at_ P) at_).2)), some (.int (nI (smr A F c (dg at_ P) at_).1 - 1)), some (.int (nI (dd + 1))), none, none] [] h5) := fun h4 s hs e5 e6 => by
            have k4 : KC A F T lk h4 := K.eq hw e6 (fun x hx => by simp at hx; omega)
            subst hs
            refine ih (at_ := at_ + 1) (X := X - 2 ^ dd) (P := 6 * P + dd) (g := g) (p := p) (hw.eq e6) k4 (by omega) hR' (by omega) hd' ?_ u7 (fun g0 i hi => ?_) (fun i hi => ?_) B1 (fun h5 g5 p5 x1 x2 x3 x4 x5 x6 x7 => ⟨rfl, x1.2, ?_⟩)
            · rw [(e5.1 53 (by decide)).1, sI_ne (by decide)]; exact u53
            · rw [(e5.1 55 (by decide)).1, sI_ne (by decide)]; exact u55 g0 i hi
            · rw [(e5.1 54 (by decide)).1]
              by_cases ei : i = at_
              · subst ei; rw [sI_s, dg_last d6]
              · rw [sI_nb ei, dg_fst (by omega) d6]; exact u54 i (by omega)
            · refine ih2 (dd + 1) g5 p5 h5 (by omega) ((e6.tr x1).mono (fun x hx => by simp at hx ⊢; omega)) x2 x3 (fun _ => x5) (fun i hi => ?_) (by rw [← Nat.add_assoc]; exact x7) (fun _ => x4)
              rw [x6 i (by omega), dg_fst hi d6]
          refine c_trustOf (hw.eq e4) k3 dB' ⟨_, rfl, rfl, ?_⟩
          rw [nI_ltI (by omega) (by omega)]
          refine ⟨fun z => ?_, fun z => ?_⟩
          · rw [if_neg (by omega)] at es
            exact recu h3 _ es e3 e4
          · rw [if_pos (by omega)] at es
            refine c_trustAfter (hw.eq e4) k3 dB' hc sb (fun h4 e5 => ⟨_, rfl, e5.2, ?_⟩)
            have := recu h4 _ es ((e3.tr e5).mono (fun x hx => by simp at hx ⊢; omega)) ((e4.tr e5).mono (fun x hx => by simp at hx ⊢; omega))
            rw [show nI (lrn A F dd c (smr A F c (dg at_ P) at_).1 + 1, (smr A F c (dg at_ P) at_).2 + 1).1 - 1 = nI (lrn A F dd c (smr A F c (dg at_ P) at_).1) from i_s1 _] at this
            exact this
        · rw [nI_1]
          refine ih2 (dd + 1) g p h' (by omega) e1 u53 u7 u55 u54 (B1.skip ?_ (fun v v1 v2 v3 => ?_)) (fun ⟨d', y1, y2⟩ => ?_)
          · exact Nat.mul_le_mul_right _ (by omega)
          · rw [← hn] at v3
            exact absurd v3 (rst_no hn hR d6 q v1 v2)
          · by_cases ed : d' = dd
            · subst ed; exact absurd y2 q
            · exact nz ⟨d', by omega, y2⟩
    · refine hq h g p (gEq.rf _ _) v53 g7 (by omega) (v55 (by omega)) v54 (B.skip (Nat.mul_le_mul_right _ (by omega)) (fun q q1 q2 _ => ?_))
      have := ocn_le (A := A) (F := F) (c := c) (at_ := at_) q1 q2
      rw [hn] at this
      omega
end OR2
