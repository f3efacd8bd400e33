/-- dread of a boat of a cell, behind one that trusts so much (told by it and 1; 0 if alone) -/
def fer (A F : qT) (b c bo : Nat) : Nat := if qsl A 0 = 0 then 10 * qdp A c else clt (evS (fun u => (vals A F b c bo 0 u : Nat)) (fun _ => 0) (fun k => cu (qst A 0 k)) (qsl A 0) 0)
def lrp (A F : qT) (b c bo : Nat) : Nat := if fer A F b c bo ≤ ft F b then 1 else 2
/-- how it trusts behind a try -/
def lrn (A F : qT) (b c bo : Nat) : Nat := if qsl A (lrp A F b c bo) = 0 then ft F b else clt (evS (fun u => (vals A F b c bo (fer A F b c bo) u : Nat)) (fun _ => 0) (fun k => cu (qst A (lrp A F b c bo) k)) (qsl A (lrp A F b c bo)) 0)
theorem lrp_c (A F : qT) (b c bo : Nat) : lrp A F b c bo = 1 ∨ lrp A F b c bo = 2 := by unfold lrp; split; exact Or.inl rfl; exact Or.inr rfl
section DR
variable {l : Launch} {G : gG} {d : Nat} {Q : Option Value → gH → Prop} {h h0 : gH} {lk sp : Nat} {cd : Option Nat} {A F : qT} {T b c bo fe : Nat}
theorem fer_le (g : qG A) : fer A F b c bo ≤ 99 := by
  have := qdp_le (c := c) g
  unfold fer
  split
  · omega
  · exact clt_le _
theorem lrn_le (hf : fG A F) (hb : b < qB A) : lrn A F b c bo ≤ 99 := by
  unfold lrn
  split
  · exact (hf.2.2.2.1 b hb).2.2.1
  · exact clt_le _
theorem cc_lk (hw : gWf h lk sp cd) : lk + 11 = 41 ∨ lk + 11 = 61 ∨ lk + 11 = 78 := by rcases hw.2.1 with e | e <;> omega
theorem c_isToldY {p n o : Nat} (hw : gWf h lk sp cd) (hp : p < 3) (h2 : h.1 (lk + 13) p = nI o) (h3 : h.1 (lk + 14) p = nI (o + n)) (hb : o + n ≤ 1600) (hy : 0 < n → Q (some (.int 1)) h) (hn : n = 0 → Q (some (.int 0)) h) : gC l G d MX0_isTold [.ref (lk + 11), .int (nI p)] h Q := by
  refine eX0_isTold hw (cc_lk hw) (bN (nI_pos (by omega)) (bN (nI_ge (b := 3) hp (by decide)) ⟨vp_in_nI hp (by decide), vp_in_nI hp (by decide), ?_⟩))
  rw [nI_clamp (by omega)]
  show (h.1 (lk + 14) p ≤ h.1 (lk + 13) p → _) ∧ (¬ h.1 (lk + 14) p ≤ h.1 (lk + 13) p → _)
  rw [h2, h3, nI_leI (by omega) (by omega)]
  exact ⟨fun z => hn (by omega), fun z => hy (by omega)⟩
theorem tok_w {t : Nat} (ht : tok t) (h27 : cu t < 27) : 7 ≤ t ∧ t ≤ 16 ∧ cu t = twd t ∧ (t ≠ 15 → t ≠ 16 → twd t ∈ [16, 17, 18, 19, 20, 6, 21, 22]) := by
  have h7 : 7 ≤ t := Decidable.byContradiction (fun q => (cu_ok ht).2.1 (by omega) (Or.inl h27))
  have h16 : t ≤ 16 := by
    rcases ht with ht | ht
    · exact ht.2
    · unfold cu at h27
      rw [if_pos ht.1] at h27
      omega
  refine ⟨h7, h16, if_neg (by omega), fun n1 n2 => ?_⟩
  have : ∀ t, t < 15 → 7 ≤ t → twd t ∈ [16, 17, 18, 19, 20, 6, 21, 22] := by decide
  exact this t (by omega) h7
theorem c_inTrustI {x : Int} (hw : gWf h lk sp cd) (hx : mil x) (hq : Q (some (.int (nI (clt x)))) h) : gC l G (d + 1) MX11_inTrust [.int (iI x)] h Q := by
  refine eX11_inTrust hw ?_
  rw [clt_c hx]
  exact hq
/-- a sum of the lake, reckoned with these values -/
theorem c_sum {p : Nat} (hw : gWf h lk sp cd) (g : qG A) (k : LC A lk h) (hf : fG A F) (hb : b < qB A) (hbo : bo ≤ 100) (hfe : fe ≤ 99) (hp : p < 3) (hn : qsl A p ≠ 0) (hV : ∀ u, u ∈ [16, 17, 18, 19, 20, 6, 21, 22] ∨ (p ≠ 0 ∧ (u = 3 ∨ u = 23)) → h.1 46 u = nI (vals A F b c bo fe u)) (hq : ∀ h', gEq [45, 48] h h' → Q (some (.int (iI (evS (fun u => (vals A F b c bo fe u : Nat)) (fun _ => 0) (fun k => cu (qst A p k)) (qsl A p) 0)))) h') : gC l G (d + 3) MX6_reckon [.ref 45, .ref (lk + 11), .int (nI p)] h Q := by
  obtain ⟨o, o1, o2, o3, o4⟩ := k.sm p hp
  obtain ⟨s1, s2, s3⟩ := g.sm p hp
  refine c_reckon hw (cc_lk hw) hp o2 o3 (by omega) o1 (fun i hi => ?_) (uwf_of s2) (fun i hi q => ⟨vals_m g hf hb hbo hfe _, ?_⟩) (fun i hi q => absurd (Or.inl q) (cu_ok (s2.1 i hi).1).2.2.2) hq
  · rw [← tcc_cu]
    exact o4 i hi
  · obtain ⟨t1, t2, t3, t4⟩ := tok_w (s2.1 i hi).1 q
    have vl := vals_le (c := c) g hf hb hbo hfe (cu (qst A p i))
    rw [← iI_nat (by omega)]
    refine hV _ ?_
    rw [t3]
    by_cases z : p = 0
    · exact Or.inl (t4 (s3 z i hi).1 (s3 z i hi).2)
    · by_cases z1 : qst A p i = 15
      · exact Or.inr ⟨z, Or.inl (by rw [z1]; rfl)⟩
      · by_cases z2 : qst A p i = 16
        · exact Or.inr ⟨z, Or.inr (by rw [z2]; rfl)⟩
        · exact Or.inl (t4 z1 z2)
theorem evm {p : Nat} (g : qG A) (hf : fG A F) (hb : b < qB A) (hbo : bo ≤ 100) (hfe : fe ≤ 99) (hp : p < 3) (hn : qsl A p ≠ 0) : mil (evS (fun u => (vals A F b c bo fe u : Nat)) (fun _ => 0) (fun k => cu (qst A p k)) (qsl A p) 0) := by
  have hu := uwf_of (g.sm p hp).2.1
  refine evS_m hu (fun i hi _ => vals_m g hf hb hbo hfe _) (fun i hi q x => ⟨by decide, by decide⟩) _ (Nat.le_refl _) 0 ?_
  rw [hu.2 (by omega)]
  decide
theorem c_fearOf (hw : gWf h lk sp cd) (k : KC A F T lk h) (hb : b < qB A) (hc : c < qN A) (hbo : bo ≤ 100) (hq : ∀ h', gEq [45, 46, 48] h h' → Q (some (.int (nI (fer A F b c bo)))) h') : gC l G (d + 4) MX9_fearOf [.ref 29, .int (nI b), .int (nI c), .int (nI bo - 1)] h Q := by
  obtain ⟨o, o1, o2, o3, o4⟩ := k.l.sm 0 (by decide)
  refine eX9_fearOf hw (c_isToldY hw (by decide) o2 o3 o1 (fun hn => ⟨_, rfl, rfl, bN' (by decide) (c_look hw k hb hc hbo (fun h1 e1 v1 => ⟨rfl, e1.2, ?_⟩))⟩) (fun hn => ⟨_, rfl, rfl, bY' rfl (c_depthOf hw k.g k.l hc ⟨_, rfl, rfl, ?_⟩)⟩))
  · have k1 : KC A F T lk h1 := k.eq hw e1 (fun x hx => by simp at hx; omega)
    refine c_sum (p := 0) (fe := 0) (c := c) (hw.eq e1) k.g k1.l k.f hb hbo (by decide) (by decide) (by omega) (fun u hu => ?_) (fun h2 e2 => ⟨_, rfl, e2.2, c_inTrustI ((hw.eq e1).eq e2) (evm k.g k.f hb hbo (by decide) (by decide) (by omega)) ⟨_, rfl, rfl, ?_⟩⟩)
    · rcases hu with hu | hu
      · exact v1 0 u hu
      · exact absurd rfl hu.1
    · have hq := hq h2 ((e1.tr e2).mono (fun x hx => by simp at hx ⊢; omega))
      unfold fer at hq
      rw [if_neg (by omega)] at hq
      exact hq
  · have hq := hq h ((gEq.rf _ _))
    unfold fer at hq
    rw [if_pos hn] at hq
    rw [lit 10, pk_mul]
    exact hq
theorem c_trustAfter (hw : gWf h lk sp cd) (k : KC A F T lk h) (hb : b < qB A) (hc : c < qN A) (hbo : bo ≤ 100) (hq : ∀ h', gEq [45, 46, 48] h h' → Q (some (.int (nI (lrn A F b c bo)))) h') : gC l G (d + 4) MX9_trustAfter [.ref 29, .int (nI b), .int (nI c), .int (nI bo - 1), .int (nI (fer A F b c bo))] h Q := by
  have fl := fer_le (A := A) (F := F) (b := b) (c := c) (bo := bo) k.g
  have tl := (k.f.2.2.2.1 b hb).2.2.1
  have main : ∀ p, p = lrp A F b c bo → gC l G (d + 3) MX0_isTold [.ref (lk + 11), .int (nI p)] h (rI fun v2 h2 => h2.2.2 = (h).2.2 ∧ ((¬ v2 = 0 → gC l G (d + 3) MX9_look [.ref 29, .int (nI b), .int (nI c), .int (nI bo - 1)] h2 (rV fun h3 => h3.2.2 = (h2).2.2 ∧ gC l G (d + 3) MX6_reckon [.ref 45, .ref (lk + 11), .int (nI p)] (sI (sI h3 46 3 (nI (ft F b))) 46 23 (nI (fer A F b c bo))) (rI fun v4 h4 => h4.2.2 = ((sI (sI h3 46 3 (nI (ft F b))) 46 23 (nI (fer A F b c bo)))).2.2 ∧ gC l G (d + 3) MX11_inTrust [.int v4] h4 (rI fun v5 h5 => h5.2.2 = (h4).2.2 ∧ Q (some (.int v5)) h5)))) ∧ (v2 = 0 → Q (some (.int (nI (ft F b)))) h2))) := fun p hp => by
    have hpc := lrp_c A F b c bo
    rw [← hp] at hpc
    have hp3 : p < 3 := by omega
    obtain ⟨o, o1, o2, o3, o4⟩ := k.l.sm p hp3
    refine c_isToldY hw hp3 o2 o3 o1 (fun hn => ⟨_, rfl, rfl, bN' (by decide) (c_look hw k hb hc hbo (fun h1 e1 v1 => ⟨rfl, e1.2, ?_⟩))⟩) (fun hn => ⟨_, rfl, rfl, bY' rfl ?_⟩)
    · have e1' : gEq [46] h (sI (sI h1 46 3 (nI (ft F b))) 46 23 (nI (fer A F b c bo))) := gE1 (List.mem_singleton.mpr rfl) (gE1 (List.mem_singleton.mpr rfl) e1)
      have k1 : KC A F T lk (sI (sI h1 46 3 (nI (ft F b))) 46 23 (nI (fer A F b c bo))) := k.eq hw e1' (fun x hx => by simp at hx; omega)
      refine c_sum (fe := fer A F b c bo) (c := c) (hw.eq e1') k.g k1.l k.f hb hbo fl hp3 (by omega) (fun u hu => ?_) (fun h2 e2 => ⟨_, rfl, e2.2, c_inTrustI ((hw.eq e1').eq e2) (evm k.g k.f hb hbo fl hp3 (by omega)) ⟨_, rfl, rfl, ?_⟩⟩)
      · rcases hu with hu | ⟨hu0, hu | hu⟩
        · have u3 : u ≠ 3 := fun e => by subst e; revert hu; decide
          have u23 : u ≠ 23 := fun e => by subst e; revert hu; decide
          rw [sI_nb u23, sI_nb u3]
          exact v1 _ u hu
        · subst hu
          rw [sI_nb (by decide), sI_s]
          rfl
        · subst hu
          rw [sI_s]
          rfl
      · have hq := hq h2 ((e1'.tr e2).mono (fun x hx => by simp at hx ⊢; omega))
        unfold lrn at hq
        rw [← hp, if_neg (by omega)] at hq
        exact hq
    · have hq := hq h ((gEq.rf _ _))
      unfold lrn at hq
      rw [← hp, if_pos hn] at hq
      exact hq
  refine eX9_trustAfter hw (c_trustOf hw k hb ⟨_, rfl, rfl, fun z => ?_, fun z => ?_⟩)
  · rw [nI_ltI (by omega) (by omega)] at z
    exact main 2 (by unfold lrp; rw [if_neg (by omega)])
  · rw [nI_ltI (by omega) (by omega)] at z
    exact main 1 (by unfold lrp; rw [if_pos (by omega)])
/-- what the model's dread leaves alone -/
def MF (h0 h : gH) : Prop := gEq [82, 131, 132] h0 h ∧ (∀ j, j ≠ 66 → h.1 82 j = h0.1 82 j) ∧ h.2.1 82 = h0.2.1 82
theorem MF.rf : MF h h := ⟨gEq.rf _ _, fun _ _ => rfl, rfl⟩
theorem MF.tr {h1 h2 : gH} (a : MF h h1) (b : MF h1 h2) : MF h h2 := ⟨(a.1.tr b.1).mono (fun x hx => by simp at hx ⊢; omega), fun j hj => (b.2.1 j hj).trans (a.2.1 j hj), b.2.2.trans a.2.2⟩
theorem MF.of {h1 : gH} (e : gEq [132] h h1) : MF h h1 := ⟨e.mono (fun x hx => by simp at hx ⊢; omega), fun j hj => by rw [(e.1 82 (by decide)).1], (e.1 82 (by decide)).2⟩
theorem MF.me {h1 : gH} (e : ME h h1) : MF h h1 := ⟨e.1.mono (fun x hx => by simp at hx ⊢; omega), e.2.1, e.2.2⟩
theorem KM.mf {h1 : gH} (k : KM A F h) (e : MF h h1) : KM A F h1 := k.eq e.1 (fun x hx => by simp at hx; omega) (e.2.1 58 (by decide))
/-- a sum of the lake, as the model reckons it -/
theorem m_sum {p : Nat} (hw : gWf h lk sp cd) (g : qG A) (k : LM A h) (hf : fG A F) (hb : b < qB A) (hbo : bo ≤ 100) (hfe : fe ≤ 99) (hp : p < 3) (hn : qsl A p ≠ 0) (hV : ∀ t, 7 ≤ t → t ≤ 15 ∨ (p ≠ 0 ∧ t = 16) → h.1 132 (t - 7) = nI (vals A F b c bo fe (twd t))) (hq : ∀ h', MF h h' → Q (some (.int (nI (clt (evS (fun u => (vals A F b c bo fe u : Nat)) (fun _ => 0) (fun k => cu (qst A p k)) (qsl A p) 0))))) h') : gC l G (d + 2) MX12_told [.ref 82, .int (nI p)] h Q := by
  have sm := k.sm p hp
  rw [if_neg hn] at sm
  obtain ⟨o, o1, o2, o3, o4⟩ := sm
  obtain ⟨s1, s2, s3⟩ := g.sm p hp
  refine m_told hw hp o2 o3 (by omega) o1 o4 s2 (fun i hi q1 q2 => ⟨vals_m g hf hb hbo hfe _, ?_⟩) (fun h' e => hq h' (MF.me e))
  have vl := vals_le (c := c) g hf hb hbo hfe (twd (qst A p i))
  rw [← iI_nat (by omega)]
  refine hV _ q1 ?_
  by_cases z : p = 0
  · have := (s3 z i hi).2
    exact Or.inl (by omega)
  · by_cases z2 : qst A p i = 16
    · exact Or.inr ⟨z, z2⟩
    · exact Or.inl (by omega)
theorem m_dreadOf (hw : gWf h lk sp cd) (k : KM A F h) (hb : b < qB A) (hc : qW A c) (hbo : bo ≤ 100) (hq : ∀ h', MF h h' → Q (some (.int (nI (fer A F b c bo)))) h') : gC l G (d + 5) MX12_dreadOf [.ref 82, .int (nI b), .int (nI c), .int (nI bo - 1)] h Q := by
  have sm := k.l.sm 0 (by decide)
  refine eX12_dreadOf hw ⟨fun z => ?_, fun z => ?_⟩
  · have hn : qsl A 0 ≠ 0 := fun e => by rw [if_pos e] at sm; exact z sm
    refine m_asksOf hw k hb hc hbo (fun h1 e1 v1 => ⟨rfl, e1.2, ?_⟩)
    have f1 := MF.of e1
    have k1 := k.mf f1
    refine m_sum (p := 0) (fe := 0) (c := c) (hw.eq e1) k.g k1.l k.f hb hbo (by decide) (by decide) hn (fun t h7 ht => ?_) (fun h2 e2 => ⟨_, rfl, e2.1.2, ?_⟩)
    · rcases ht with ht | ht
      · exact v1 0 t h7 ht
      · exact absurd rfl ht.1
    · have hq := hq h2 (f1.tr e2)
      unfold fer at hq
      rw [if_neg hn] at hq
      exact hq
  · have hn : qsl A 0 = 0 := Decidable.byContradiction (fun e => by
      rw [if_neg e] at sm
      obtain ⟨o, o1, o2, o3, o4⟩ := sm
      exact i_nm1 (a := o) (by omega) (by rw [← o2]; exact z))
    refine m_depthOf hw k.g k.l hc ⟨_, rfl, rfl, ?_⟩
    have hq := hq h MF.rf
    unfold fer at hq
    rw [if_pos hn] at hq
    rw [lit 10, pk_mul]
    exact hq
theorem m_wouldGo (hw : gWf h lk sp cd) (k : KM A F h) (hb : b < qB A) (hc : qW A c) (hbo : bo ≤ 100) (hy : ∀ h', MF h h' → fer A F b c bo ≤ ft F b → Q (some (.int 1)) h') (hn : ∀ h', MF h h' → ¬ fer A F b c bo ≤ ft F b → Q (some (.int 0)) h') : gC l G (d + 6) MX12_wouldGo [.ref 82, .int (nI b), .int (nI c), .int (nI bo - 1)] h Q := by
  have fl := fer_le (A := A) (F := F) (b := b) (c := c) (bo := bo) k.g
  have tl := (k.f.2.2.2.1 b hb).2.2.1
  refine eX12_wouldGo hw (m_dreadOf hw k hb hc hbo (fun h1 e1 => ⟨_, rfl, e1.1.2, m_trustOf (hw.eq e1.1) (k.mf e1) hb ⟨_, rfl, rfl, fun z => hn h1 e1 ?_, fun z => hy h1 e1 ?_⟩⟩))
  · rw [nI_ltI (by omega) (by omega)] at z; omega
  · rw [nI_ltI (by omega) (by omega)] at z; omega
theorem m_learnt {w : Int32} (hw : gWf h lk sp cd) (k : KM A F h) (hb : b < qB A) (hc : qW A c) (hbo : bo ≤ 100) (hwt : w = 0 ↔ ¬ fer A F b c bo ≤ ft F b) (hq : ∀ h', MF h h' → Q (some (.int (nI (lrn A F b c bo)))) h') : gC l G (d + 6) MX12_learnt [.ref 82, .int (nI b), .int (nI c), .int (nI bo - 1), .int w] h Q := by
  have fl := fer_le (A := A) (F := F) (b := b) (c := c) (bo := bo) k.g
  have main : ∀ p, p = lrp A F b c bo → ((¬ (h.1 127 (3 + p)) = (-1) → gC l G (d + 5) MX12_dreadOf [.ref 82, .int (nI b), .int (nI c), .int (nI bo - 1)] h (rI fun v1 h1 => h1.2.2 = (h).2.2 ∧ gC l G (d + 5) MX12_asksOf [.ref 82, .int (nI b), .int (nI c), .int (nI bo - 1)] h1 (rV fun h2 => h2.2.2 = (h1).2.2 ∧ gC l G (d + 5) MX12_told [.ref 82, .int (nI p)] (sI h2 132 9 v1) (rI fun v3 h3 => h3.2.2 = ((sI h2 132 9 v1)).2.2 ∧ Q (some (.int v3)) h3)))) ∧ ((h.1 127 (3 + p)) = (-1) → gC l G (d + 5) MX12_trustOf [.ref 82, .int (nI b)] h (rI fun v4 h4 => h4.2.2 = (h).2.2 ∧ Q (some (.int v4)) h4))) := fun p hp => by
    have hpc := lrp_c A F b c bo
    rw [← hp] at hpc
    have hp3 : p < 3 := by omega
    have sm := k.l.sm p hp3
    refine ⟨fun z => ?_, fun z => ?_⟩
    · have hn : qsl A p ≠ 0 := fun e => by rw [if_pos e] at sm; exact z sm
      refine m_dreadOf hw k hb hc hbo (fun h1 e1 => ⟨_, rfl, e1.1.2, m_asksOf (hw.eq e1.1) (k.mf e1) hb hc hbo (fun h2 e2 v2 => ⟨rfl, e2.2, ?_⟩)⟩)
      have f2 := e1.tr (MF.of (gE1 (i := 9) (x := nI (fer A F b c bo)) (List.mem_singleton.mpr rfl) e2))
      have k2 := k.mf f2
      refine m_sum (fe := fer A F b c bo) (c := c) (hw.eq f2.1) k.g k2.l k.f hb hbo fl hp3 hn (fun t h7 ht => ?_) (fun h3 e3 => ⟨_, rfl, e3.1.2, ?_⟩)
      · rcases ht with ht | ⟨-, ht⟩
        · rw [sI_nb (by omega)]
          exact v2 _ t h7 ht
        · subst ht
          rw [sI_s]
          rfl
      · have hq := hq h3 (f2.tr e3)
        unfold lrn at hq
        rw [← hp, if_neg hn] at hq
        exact hq
    · have hn : qsl A p = 0 := Decidable.byContradiction (fun e => by
        rw [if_neg e] at sm
        obtain ⟨o, o1, o2, o3, o4⟩ := sm
        exact i_nm1 (a := o) (by omega) (by rw [← o2]; exact z))
      refine m_trustOf hw k hb ⟨_, rfl, rfl, ?_⟩
      have hq := hq h MF.rf
      unfold lrn at hq
      rw [← hp, if_pos hn] at hq
      exact hq
  refine eX12_learnt hw ⟨fun z => ⟨pk_in 5 6 (by decide), ?_⟩, fun z => ⟨pk_in 4 6 (by decide), ?_⟩⟩
  · exact main 2 (by unfold lrp; rw [if_neg (hwt.mp z)])
  · exact main 1 (by unfold lrp; rw [if_pos (Decidable.byContradiction (fun e => z (hwt.mpr e)))])
end DR
/-- a call that leaves all of the relation alone -/
theorem inv_read {n : Nat} {h h' : gH} {L : List Nat} (hi : gInv Rst n h) (e : gEq L h h') (hL : ∀ x, x ∈ L → x ∉ gRc ∧ x ∉ [0, 1, 2, 65, 66, 83, 84, 167]) (es : ∀ j, j ∈ [1, 7, 8, 58, 76, 77, 80, 81, 116] → h'.1 82 j = h.1 82 j) (el : h'.2.1 82 82 = h.2.1 82 82) (e3 : h'.1 58 3 = h.1 58 3) (e4 : h'.1 58 4 = h.1 58 4) : gInv Rst (n + 1) h' := by
  obtain ⟨j1, j2, j3, j4, j5, j6, j7⟩ := hi
  have e1 : ∀ x, x ∈ [0, 1, 2, 65, 66, 83, 84, 167] → h'.1 x = h.1 x ∧ h'.2.1 x = h.2.1 x := fun x hx => e.1 x (fun z => (hL x z).2 hx)
  refine ⟨j1.eq e.2, fun i hi9 => ?_, ⟨?_, ?_⟩, ?_, ?_, ?_, j7.eq e (fun x hx => (hL x hx).1) (fun j hj => es j ?_) e3 e4⟩
  · rw [(e1 66 (by decide)).1, (e1 84 (by decide)).1]
    exact j2 i hi9
  · rw [(e1 1 (by decide)).1, es 7 (by decide)]
    exact j3.1
  · rw [(e1 1 (by decide)).1, es 8 (by decide)]
    exact j3.2
  · unfold I_pic
    rw [(e1 0 (by decide)).1, es 116 (by decide), (e1 65 (by decide)).1, (e1 167 (by decide)).1]
    exact j4
  · unfold I_tap
    rw [(e1 1 (by decide)).1, es 1 (by decide), (e1 83 (by decide)).1, (e1 2 (by decide)).1]
    exact j5
  · unfold I_sed
    rw [(e1 0 (by decide)).2, el]
    exact j6
  · revert hj
    unfold gRs
    simp
    omega
section DS
variable {l : Launch} {G : gG} {d : Nat} {Q : Option Value → gH → Prop} {h : gH} {lk sp : Nat} {cd : Option Nat} {A F : qT} {T : Nat}
theorem wtr (A : qT) (a : Int32) (g : qG A) : (∃ j, qW A j ∧ a = nI j) ∨ (∀ j, qW A j → a ≠ nI j) := by
  rcases Classical.em (∃ j, qW A j ∧ a = nI j) with h | h
  · exact Or.inl h
  · exact Or.inr (fun j hj e => h ⟨j, hj, e⟩)
theorem st_dread : gStepI l G (gInv Rst) MX11_dread MX12_dread 3 := by
  intro n9 h av hn9 hl hi
  obtain ⟨a, b, c, rfl⟩ := three_of hl
  obtain ⟨lk, sp, cd, A, F, T, hw, k, m, -, -⟩ := hi.2.2.2.2.2.2.k hn9
  have h6 := k.g.B6
  have hm := gInv.mono Rst_cg n9 h hi
  rcases ixd a (qB A) (by omega) with ⟨i, hi1, rfl⟩ | ha
  · rcases wtr A b k.g with ⟨j, hj, rfl⟩ | hb
    · have fin : ∀ h1 h2, gEq [45, 46, 48] h h1 → MF h1 h2 → gInv Rst (n9 + 1) h2 := fun h1 h2 e1 e2 => by
        refine inv_read hi (e1.tr e2.1) (by decide) (fun j hj => ?_) ?_ ?_ ?_
        · rw [e2.2.1 j (fun z => by subst z; revert hj; decide), (e1.1 82 (by decide)).1]
        · rw [e2.2.2, (e1.1 82 (by decide)).2]
        · rw [(e2.1.1 58 (by decide)).1, (e1.1 58 (by decide)).1]
        · rw [(e2.1.1 58 (by decide)).1, (e1.1 58 (by decide)).1]
      have mm : ∀ {h1}, gEq [45, 46, 48] h h1 → KM A F h1 := fun e1 => m.eq e1 (fun x hx => by simp at hx; omega) (by rw [(e1.1 82 (by decide)).1])
      have tl : ∀ b, b < qB A → ft F b ≤ 99 := fun b hb => (k.f.2.2.2.1 b hb).2.2.1
      by_cases c1 : c = -1
      · subst c1
        refine eX11_dread (d := 899) hw (c_isBoat_y hw k.g k.l hi1 ⟨_, rfl, rfl, bN (by decide) (c_isWater_y hw k.g k.l hj ⟨_, rfl, rfl, bN (by decide) (bN' (fun z => i_nm1 (a := i) (by omega) z.symm) (bY' rfl ?_))⟩)⟩)
        refine c_fearOf (bo := 0) hw k hi1 hj.1 (by decide) (fun h1 e1 => ⟨_, rfl, e1.2, _, rfl, ?_⟩)
        have hw1 := hw.eq e1
        refine eX12_dread (d := 899) hw1 (m_isBoat_y hw1 k.g (mm e1).l hi1 ⟨_, rfl, rfl, bN (by decide) (m_isWater_y hw1 k.g (mm e1).l hj ⟨_, rfl, rfl, bN (by decide) (bY rfl (bY' rfl ?_))⟩)⟩)
        exact m_dreadOf (bo := 0) hw1 (mm e1) hi1 hj (by decide) (fun h2 e2 => ⟨_, rfl, e2.1.2, _, rfl, rfl, fin h1 h2 e1 e2⟩)
      · rcases ixd c (qB A) (by omega) with ⟨i2, hi2, rfl⟩ | hc
        · by_cases c2 : i2 = i
          · subst c2
            refine eX11_dread (d := 899) hw (c_isBoat_y hw k.g k.l hi1 ⟨_, rfl, rfl, bN (by decide) (c_isWater_y hw k.g k.l hj ⟨_, rfl, rfl, bN (by decide) (bY' rfl ⟨_, rfl, ?_⟩)⟩)⟩)
            exact eX12_dread (d := 899) hw (m_isBoat_y hw k.g m.l hi1 ⟨_, rfl, rfl, bN (by decide) (m_isWater_y hw k.g m.l hj ⟨_, rfl, rfl, bN (by decide) (bN c1 (m_isBoat_y hw k.g m.l hi1 ⟨_, rfl, rfl, bN (by decide) (bY' rfl ⟨_, rfl, rfl, hm⟩)⟩))⟩)⟩)
          · have ne : ¬ nI i2 = nI i := fun z => c2 ((nI_eq (by omega) (by omega)).mp z)
            have t2 := tl i2 hi2
            refine eX11_dread (d := 899) hw (c_isBoat_y hw k.g k.l hi1 ⟨_, rfl, rfl, bN (by decide) (c_isWater_y hw k.g k.l hj ⟨_, rfl, rfl, bN (by decide) (bN' ne (bN' c1 (c_isBoat_y hw k.g k.l hi2 ⟨_, rfl, rfl, bN' (by decide) (c_trustOf hw k hi2 ⟨_, rfl, rfl, ?_⟩)⟩)))⟩)⟩)
            rw [← i_s1 (ft F i2)]
            refine c_fearOf hw k hi1 hj.1 (by omega) (fun h1 e1 => ⟨_, rfl, e1.2, _, rfl, ?_⟩)
            have hw1 := hw.eq e1
            refine eX12_dread (d := 899) hw1 (m_isBoat_y hw1 k.g (mm e1).l hi1 ⟨_, rfl, rfl, bN (by decide) (m_isWater_y hw1 k.g (mm e1).l hj ⟨_, rfl, rfl, bN (by decide) (bN c1 (m_isBoat_y hw1 k.g (mm e1).l hi2 ⟨_, rfl, rfl, bN (by decide) (bN' ne (bN' c1 (m_trustOf hw1 (mm e1) hi2 ⟨_, rfl, rfl, ?_⟩)))⟩))⟩)⟩)
            rw [← i_s1 (ft F i2)]
            exact m_dreadOf hw1 (mm e1) hi1 hj (by omega) (fun h2 e2 => ⟨_, rfl, e2.1.2, _, rfl, rfl, fin h1 h2 e1 e2⟩)
        · refine eX11_dread (d := 899) hw (c_isBoat_y hw k.g k.l hi1 ⟨_, rfl, rfl, bN (by decide) (c_isWater_y hw k.g k.l hj ⟨_, rfl, rfl, bN (by decide) (bN' (hc i hi1) (bN' c1 (c_isBoat_n hw k.g k.l hc ⟨_, rfl, rfl, bY' rfl ⟨_, rfl, ?_⟩⟩)))⟩)⟩)
          exact eX12_dread (d := 899) hw (m_isBoat_y hw k.g m.l hi1 ⟨_, rfl, rfl, bN (by decide) (m_isWater_y hw k.g m.l hj ⟨_, rfl, rfl, bN (by decide) (bN c1 (m_isBoat_n hw k.g m.l hc ⟨_, rfl, rfl, bY rfl ⟨_, rfl, rfl, hm⟩⟩))⟩)⟩)
    · refine eX11_dread (d := 899) hw (c_isBoat_y hw k.g k.l hi1 ⟨_, rfl, rfl, bN (by decide) (c_isWater_n hw k.g k.l hb ⟨_, rfl, rfl, bY rfl ⟨_, rfl, ?_⟩⟩)⟩)
      exact eX12_dread (d := 899) hw (m_isBoat_y hw k.g m.l hi1 ⟨_, rfl, rfl, bN (by decide) (m_isWater_n hw k.g m.l hb ⟨_, rfl, rfl, bY rfl ⟨_, rfl, rfl, hm⟩⟩)⟩)
  · refine eX11_dread (d := 899) hw (c_isBoat_n hw k.g k.l ha ⟨_, rfl, rfl, bY rfl ⟨_, rfl, ?_⟩⟩)
    exact eX12_dread (d := 899) hw (m_isBoat_n hw k.g m.l ha ⟨_, rfl, rfl, bY rfl ⟨_, rfl, rfl, hm⟩⟩)
end DS
