/-! drifting -/
def sdn (s : Nat) : Nat := (1103515245 * s + 12345) % 2147483648
theorem sdn_lt (s : Nat) : sdn s < 2 ^ 31 := Nat.mod_lt _ (by decide)
theorem lN_toInt2 {n : Nat} (h : n < 2 ^ 63) : (lN n).toInt = (n : Int) := Int64.toInt_ofNat_of_lt h
theorem lN_div {a b : Nat} (ha : a < 2 ^ 63) (hb : b < 2 ^ 63) : lN a / lN b = lN (a / b) := by
  have h1 : a / b ≤ a := Nat.div_le_self _ _
  refine Int64.toInt_inj.mp ?_
  rw [Int64.toInt_div, lN_toInt2 ha, lN_toInt2 hb, lN_toInt2 (by omega), ← Int.ofNat_tdiv]
  generalize a / b = q at h1 ⊢
  exact Int.bmod_eq_of_le (by omega) (by omega)
theorem lN_rem {a b : Nat} (ha : a < 2 ^ 63) (hb : b < 2 ^ 63) : lN a - lN a / lN b * lN b = lN (a % b) := by
  have h1 : a / b * b ≤ a := Nat.div_mul_le_self _ _
  rw [lN_div ha hb, lN_mul, lN_sub h1]
  congr 1
  have := Nat.div_add_mod a b
  rw [Nat.mul_comm] at this
  omega
theorem sd_n {s : Nat} (h : s < 2 ^ 31) : ((1103515245 * lN s) + 12345) - ((1103515245 * lN s) + 12345) / 2147483648 * 2147483648 = lN (sdn s) := by
  have e1 : (1103515245 : Int64) = lN 1103515245 := by decide
  have e2 : (12345 : Int64) = lN 12345 := by decide
  have e3 : (2147483648 : Int64) = lN 2147483648 := by decide
  rw [e1, e2, e3, lN_mul, lN_add, lN_rem (by omega) (by decide)]
  rfl
theorem sd_w {t : Nat} (h : t < 2 ^ 31) : ((lN t / 64) - (lN t / 64) / 4 * 4).toInt32 = nI (t / 64 % 4) := by
  have e1 : (64 : Int64) = lN 64 := by decide
  have e2 : (4 : Int64) = lN 4 := by decide
  rw [e1, e2, lN_div (by omega) (by decide), lN_rem (by omega) (by decide), lN_i]
/-- fleet, seed, how many went -/
abbrev qS : Type := qT × Nat × Nat
def dgo (A : qT) (b : Nat) (S : qS) : Nat := stp A (fc S.1 b) (sdn S.2.1 / 64 % 4)
def dwn (A : qT) (b : Nat) (S : qS) : Nat := if dgo A b S ≠ 0 ∧ fer A S.1 b (dgo A b S - 1) 0 ≤ ft S.1 b then 1 else 0
def dstp (A : qT) (b : Nat) (S : qS) : qS := (if dgo A b S = 0 then S.1 else ftr A S.1 b (dgo A b S - 1) 0, sdn S.2.1, S.2.2 + dwn A b S)
def drB (A : qT) : Nat → Nat → qS → qS
  | 0, _, S => S
  | r + 1, b, S => drB A r (b + 1) (dstp A b S)
def dhr (S : qS) : qS := (fupd S.1 0 0 (fH S.1 + 1), S.2)
def drH (A : qT) : Nat → qS → qS
  | 0, S => S
  | n + 1, S => drH A n (dhr (drB A (qB A) 0 S))
section DF
variable {l : Launch} {G : gG} {d : Nat} {Q : Option Value → gH → Prop} {h h0 : gH} {lk sp : Nat} {cd : Option Nat} {A F : qT} {T b : Nat} {S : qS}
theorem fkp_h {c w : Nat} : fH (fkp F b c w) = fH F := fkp_o (by decide) (Or.inr (by decide))
theorem ftr_h {c bo : Nat} : fH (ftr A F b c bo) = fH F := by
  unfold ftr
  split
  · exact fkp_h
  · exact fkp_h
theorem dstp_g (g : qG A) (q : fG A S.1) (hb : b < qB A) : fG A (dstp A b S).1 ∧ fH (dstp A b S).1 = fH S.1 := by
  have hc := (q.2.2.2.1 b hb).1
  show fG A (if dgo A b S = 0 then S.1 else _) ∧ fH (if dgo A b S = 0 then S.1 else _) = _
  by_cases z : dgo A b S = 0
  · rw [if_pos z]; exact ⟨q, rfl⟩
  · rw [if_neg z]
    obtain ⟨x, hx⟩ : ∃ x, dgo A b S = x + 1 := ⟨dgo A b S - 1, by omega⟩
    rw [hx, Nat.add_sub_cancel]
    exact ⟨ftr_g g q hb (stp_w g hc hx), ftr_h⟩
theorem drB_g (g : qG A) : ∀ r b (S : qS), b + r ≤ qB A → fG A S.1 → fG A (drB A r b S).1 ∧ fH (drB A r b S).1 = fH S.1
  | 0, _, _, _, q => ⟨q, rfl⟩
  | r + 1, b, S, hb, q => by
    obtain ⟨h1, h2⟩ := dstp_g g q (show b < qB A by omega)
    obtain ⟨h3, h4⟩ := drB_g g r (b + 1) (dstp A b S) (by omega) h1
    exact ⟨h3, h4.trans h2⟩
theorem drH_g (g : qG A) : ∀ n (S : qS), fH S.1 + n ≤ 999 → fG A S.1 → fG A (drH A n S).1
  | 0, _, _, q => q
  | n + 1, S, hn, q => by
    obtain ⟨h1, h2⟩ := drB_g g (qB A) 0 S (by omega) q
    exact drH_g g n _ (by show fH (drB A (qB A) 0 S).1 + 1 + n ≤ 999; omega) (FG.hour (by omega) h1)
/-- the class, drifting -/
def DC (A : qT) (lk : Nat) (h0 : gH) (S : qS) (T : Nat) (h : gH) : Prop := gEq [0, 7, 45, 46, 48] h0 h ∧ h.1 0 = h0.1 0 ∧ KC A S.1 T lk h ∧ h.2.1 0 13 = lN S.2.1 ∧ S.2.1 < 2 ^ 31 ∧ (∀ j, j ≠ 13 → h.2.1 0 j = h0.2.1 0 j)
theorem c_driftOnce (hw : gWf h0 lk sp cd) (t : DC A lk h0 S T h) (hT : T + 1 ≤ 153600) (hb : b < qB A) (hq : ∀ h' T', DC A lk h0 (dstp A b S) T' h' → T' ≤ T + 1 → Q (some (.int (nI (dwn A b S)))) h') : gC l G (d + 6) MX11_driftOnce [.ref 0, .int (nI b)] h Q := by
  obtain ⟨t1, t2, k, t4, t5, t6⟩ := t
  have hwh := hw.eq t1
  have hs := sdn_lt S.2.1
  have h48 := k.g.N48
  refine eX11_driftOnce hwh ?_
  rw [t4, sd_n t5, sd_w hs]
  have e1 : gEq [0] h (sL h 0 13 (lN (sdn S.2.1))) := gEq.sL _ _ _ _
  have i1 : (sL h 0 13 (lN (sdn S.2.1))).1 0 = h.1 0 := rfl
  have v1 : (sL h 0 13 (lN (sdn S.2.1))).2.1 0 13 = lN (sdn S.2.1) := sL_s _ _ _ _
  have o1 : ∀ j, j ≠ 13 → (sL h 0 13 (lN (sdn S.2.1))).2.1 0 j = h.2.1 0 j := fun j hj => sL_nb hj
  generalize sL h 0 13 (lN (sdn S.2.1)) = h1 at e1 i1 v1 o1 ⊢
  have hw1 := hwh.eq e1
  have k1 : KC A S.1 T lk h1 := k.eq hwh e1 (fun x hx => by simp at hx; omega)
  have hci := (k.f.2.2.2.1 b hb).1
  have g1 : gEq [0, 7, 45, 46, 48] h0 h1 := (t1.tr e1).mono (fun x hx => by simp at hx ⊢; omega)
  refine c_cellOf hw1 k1 hb ⟨_, rfl, rfl, c_stepFrom hw1 k.g k1.l hci (Nat.mod_lt _ (by decide)) ⟨_, rfl, rfl, ?_⟩⟩
  rw [show stp A (fc S.1 b) (sdn S.2.1 / 64 % 4) = dgo A b S from rfl]
  have hd48 : dgo A b S ≤ 48 := by
    have := nbr_lt (w := sdn S.2.1 / 64 % 4) k.g hci
    have := wtn_le (A := A) (y := nbr A (fc S.1 b) (sdn S.2.1 / 64 % 4))
    show wtn A _ ≤ 48
    omega
  have z0 : nI (dgo A b S) - 1 = -1 ↔ dgo A b S = 0 := by rw [← i_m1, i_eq1 (by omega) (by decide)]
  refine ⟨fun z => ?_, fun z => ?_⟩
  · have z := mt z0.mpr z
    obtain ⟨x, hx⟩ : ∃ x, dgo A b S = x + 1 := ⟨dgo A b S - 1, by omega⟩
    rw [hx, i_s1]
    have es : (dstp A b S).1 = ftr A S.1 b x 0 := by show (if dgo A b S = 0 then _ else _) = _; rw [if_neg z, hx]; rfl
    refine c_attempt (bo := 0) hw1 k1 hT hb (stp_w k.g hci hx) (by decide) (fun h2 e2 k2 => ⟨_, rfl, e2.2, ?_⟩)
    have hq := hq h2 (T + 1) ⟨(g1.tr e2).mono (fun x hx => by simp at hx ⊢; omega), by rw [(e2.1 0 (by decide)).1, i1, t2], by rw [es]; exact k2, by rw [(e2.1 0 (by decide)).2]; exact v1, hs, fun j hj => by rw [(e2.1 0 (by decide)).2, o1 j hj, t6 j hj]⟩ (Nat.le_refl _)
    have ew : nI (dwn A b S) = (if fer A S.1 b x 0 ≤ ft S.1 b then 1 else 0) := by
      unfold dwn
      rw [hx, Nat.add_sub_cancel]
      by_cases zz : fer A S.1 b x 0 ≤ ft S.1 b
      · rw [if_pos ⟨by omega, zz⟩, if_pos zz]; rfl
      · rw [if_neg (fun q => zz q.2), if_neg zz]; rfl
    rw [ew] at hq
    exact hq
  · have z := z0.mp z
    have es : (dstp A b S).1 = S.1 := by show (if dgo A b S = 0 then _ else _) = _; rw [if_pos z]
    have hq := hq h1 T ⟨g1, i1.trans t2, by rw [es]; exact k1, v1, hs, fun j hj => by rw [o1 j hj, t6 j hj]⟩ (by omega)
    have ew : nI (dwn A b S) = 0 := by
      unfold dwn
      rw [if_neg (fun q => q.1 z)]; rfl
    rw [ew] at hq
    exact hq
theorem dwn_le : dwn A b S ≤ 1 := by unfold dwn; split <;> omega
theorem c_driftL {p : Program} {e : Env} {s : State} {m : MethodId} {args : Array Value} {below : List Frame} {meth : Method} {c : Code} {n : Nat} (hw : gWf h0 lk sp cd) (hn : n ≤ 50) (R : qS) (hR : fH R.1 ≤ 999) (T0 : Nat) (hT0 : T0 + 300 ≤ 153600) (hq : ∀ h' T', DC A lk h0 R T' h' → T' ≤ T0 + 300 → Q (some (.int (nI R.2.2))) h') :
    ∀ r i (S : qS) T h, i + r = n → drH A r S = R → fH S.1 + r ≤ 999 → T ≤ T0 + 6 * i → DC A lk h0 S T h → gg p l e s m args below meth c G (d + 6 + 1) MX11_drift Q 27 [some (.ref 0), some (.int (nI n)), some (.int (nI S.2.2)), some (.int (nI i)), none] [] h := by
  intro r
  induction r with
  | zero =>
    intro i S T h hi hS hH hT t
    have hi : i = n := by omega
    subst hi
    have hwh := hw.eq t.1
    refine wX11_drift_27 hwh.1 hwh.2.1 hwh.2.2.1 (bY (Int32.le_refl _) ?_)
    have hS : S = R := hS
    subst hS
    exact hq h T t (by omega)
  | succ r ih =>
    intro i S T h hi hS hH hT t
    have hwh := hw.eq t.1
    refine wX11_drift_27 hwh.1 hwh.2.1 hwh.2.2.1 (bN (nI_ge (by omega) (by omega)) ?_)
    have hS : drH A r (dhr (drB A (qB A) 0 S)) = R := hS
    have H0 := (drB_g t.2.2.1.g (qB A) 0 S (by omega) t.2.2.1.f)
    have h6 := t.2.2.1.g.B6
    generalize hU : drB A (qB A) 0 S = U at hS H0
    suffices H : ∀ r2 b (S2 : qS) T2 h2, b + r2 = qB A → drB A r2 b S2 = U → T2 ≤ T + b → DC A lk h0 S2 T2 h2 → gg p l e s m args below meth c G (d + 6 + 1) MX11_drift Q 35 [some (.ref 0), some (.int (nI n)), some (.int (nI S2.2.2)), some (.int (nI i)), some (.int (nI b))] [] h2 from H (qB A) 0 S T h (by omega) hU (by omega) t
    intro r2
    induction r2 with
    | zero =>
      intro b S2 T2 h2 hb2 hS2 hT2 t2
      have hS2 : S2 = U := hS2
      subst hS2
      have hw2 := hw.eq t2.1
      obtain ⟨q1, q2, q3, q4, q5, q6⟩ := t2
      refine wX11_drift_35 hw2.1 hw2.2.1 hw2.2.2.1 (bY (by rw [q3.l.B]; exact nI_le (by omega) (by omega)) (eX2_passHours hw2 ⟨rfl, rfl, ?_⟩))
      have q7 : h2.1 7 0 + 1 = nI (fH S2.1 + 1) := by rw [q3.x.1, nI_1]
      rw [q7, nI_1]
      have e3 : gEq [7] h2 (sI h2 7 0 (nI (fH S2.1 + 1))) := gEq.sI _ _ _ _
      have f3 : FC (qB A) (fupd S2.1 0 0 (fH S2.1 + 1)) T2 ((sI h2 7 0 (nI (fH S2.1 + 1))).1 7) := FC.hour (fun j hj => sI_nb hj) (sI_s _ _ _ _) q3.x
      generalize sI h2 7 0 (nI (fH S2.1 + 1)) = h3 at e3 f3 ⊢
      refine ih (i + 1) (dhr S2) T2 h3 (by omega) hS (by show fH S2.1 + 1 + r ≤ 999; omega) (by omega) ⟨(q1.tr e3).mono (fun x hx => by simp at hx ⊢; omega), by rw [(e3.1 0 (by decide)).1]; exact q2, ⟨q3.g, q3.l.eq hw2 e3 (fun x hx => by simp at hx; omega), FG.hour (by omega) q3.f, f3, by rw [(e3.1 6 (by decide)).1]; exact q3.b, q3.t⟩, by rw [(e3.1 0 (by decide)).2]; exact q4, q5, fun j hj => by rw [(e3.1 0 (by decide)).2]; exact q6 j hj⟩
    | succ r2 ih2 =>
      intro b S2 T2 h2 hb2 hS2 hT2 t2
      have hw2 := hw.eq t2.1
      refine wX11_drift_35 hw2.1 hw2.2.1 hw2.2.2.1 (bN (by rw [t2.2.2.1.l.B]; exact nI_ge (by omega) (by omega)) (c_driftOnce hw t2 (by omega) (by omega) (fun h3 T3 t3 hT3 => ⟨_, rfl, t3.1.2.trans t2.1.2.symm, ?_⟩)))
      rw [nI_add, nI_1]
      exact ih2 (b + 1) (dstp A b S2) T3 h3 (by omega) hS2 (by omega) t3
/-- the model, drifting -/
def DM (A : qT) (h0 : gH) (S : qS) (h : gH) : Prop := gEq [82, 131, 132, 133] h0 h ∧ (∀ j, j ≠ 66 → h.1 82 j = h0.1 82 j) ∧ KM A S.1 h ∧ h.2.1 82 82 = lN S.2.1 ∧ S.2.1 < 2 ^ 31
theorem DM.mt {h' : gH} {F' : qT} (t : DM A h0 S h) (e : MT h h') (k : KM A F' h') (n : Nat) : DM A h0 (F', S.2.1, n) h' := by
  obtain ⟨t1, t2, t3, t4, t5⟩ := t
  exact ⟨(t1.tr e.1).mono (fun x hx => by simp at hx ⊢; omega), fun j hj => (e.2.1 j hj).trans (t2 j hj), k, by rw [e.2.2]; exact t4, t5⟩
theorem m_driftL {p : Program} {e : Env} {s : State} {m : MethodId} {args : Array Value} {below : List Frame} {meth : Method} {c : Code} {n : Nat} (hw : gWf h0 lk sp cd) (hn : n ≤ 50) (R : qS) (hq : ∀ h', DM A h0 R h' → Q (some (.int (nI R.2.2))) h') :
    ∀ r i (S : qS) h, i + r = n → drH A r S = R → fH S.1 + r ≤ 999 → DM A h0 S h → gg p l e s m args below meth c G (d + 8 + 1) MX12_drift Q 47 [some (.ref 82), some (.int (nI n)), some (.int (nI S.2.2)), some (.int (nI i)), none, none] [] h := by
  intro r
  induction r with
  | zero =>
    intro i S h hi hS hH t
    have hi : i = n := by omega
    subst hi
    have hwh := hw.eq t.1
    refine wX12_drift_47 hwh.1 hwh.2.1 hwh.2.2.1 (bY (Int32.le_refl _) ?_)
    have hS : S = R := hS
    subst hS
    exact hq h t
  | succ r ih =>
    intro i S h hi hS hH t
    have hwh := hw.eq t.1
    refine wX12_drift_47 hwh.1 hwh.2.1 hwh.2.2.1 (bN (nI_ge (by omega) (by omega)) ?_)
    have hS : drH A r (dhr (drB A (qB A) 0 S)) = R := hS
    have H0 := (drB_g t.2.2.1.g (qB A) 0 S (by omega) t.2.2.1.f)
    have h6 := t.2.2.1.g.B6
    generalize hU : drB A (qB A) 0 S = U at hS H0
    suffices H : ∀ r2 b (S2 : qS) h2, b + r2 = qB A → drB A r2 b S2 = U → DM A h0 S2 h2 → gg p l e s m args below meth c G (d + 8 + 1) MX12_drift Q 55 [some (.ref 82), some (.int (nI n)), some (.int (nI S2.2.2)), some (.int (nI i)), some (.int (nI b)), none] [] h2 from H (qB A) 0 S h (by omega) hU t
    intro r2
    induction r2 with
    | zero =>
      intro b S2 h2 hb2 hS2 t2
      have hS2 : S2 = U := hS2
      subst hS2
      have hw2 := hw.eq t2.1
      have k2 := t2.2.2.1
      refine wX12_drift_55 hw2.1 hw2.2.1 hw2.2.2.1 (m_boatMany hw2 k2.l ⟨_, rfl, rfl, bY (nI_le (by omega) (by omega)) ?_⟩)
      have q7 : h2.1 133 0 + 1 = nI (fH S2.1 + 1) := by rw [k2.y.1, nI_1]
      rw [q7, nI_1]
      have e3 : gEq [133] h2 (sI h2 133 0 (nI (fH S2.1 + 1))) := gEq.sI _ _ _ _
      have f3 : FM (qB A) (fupd S2.1 0 0 (fH S2.1 + 1)) ((sI h2 133 0 (nI (fH S2.1 + 1))).1 133) := FM.hour (fun j hj => sI_nb hj) (sI_s _ _ _ _) k2.y
      generalize sI h2 133 0 (nI (fH S2.1 + 1)) = h3 at e3 f3 ⊢
      exact ih (i + 1) (dhr S2) h3 (by omega) hS (by show fH S2.1 + 1 + r ≤ 999; omega) (t2.mt (MT.of e3) ⟨k2.g, k2.l.mt (MT.of e3), FG.hour (by omega) k2.f, f3⟩ _)
    | succ r2 ih2 =>
      intro b S2 h2 hb2 hS2 t2
      have hw2 := hw.eq t2.1
      have k2 := t2.2.2.1
      have hci := (k2.f.2.2.2.1 b (by omega)).1
      have h48 := k2.g.N48
      have hs := sdn_lt S2.2.1
      have hdl := @dwn_le A b S2
      refine wX12_drift_55 hw2.1 hw2.2.1 hw2.2.2.1 (m_boatMany hw2 k2.l ⟨_, rfl, rfl, bN (nI_ge (by omega) (by omega)) (m_cellOf hw2 k2 (by omega) ⟨_, rfl, rfl, eX12_drawOf hw2 ⟨by decide, ?_⟩⟩)⟩)
      have e4 : ((4 : Int32)).toInt64 = 4 := by decide
      rw [e4, t2.2.2.2.1, sd_n t2.2.2.2.2, sd_w hs]
      have e3 : gEq [82] h2 (sL h2 82 82 (lN (sdn S2.2.1))) := gEq.sL _ _ _ _
      have i3 : (sL h2 82 82 (lN (sdn S2.2.1))).1 82 = h2.1 82 := rfl
      have v3 : (sL h2 82 82 (lN (sdn S2.2.1))).2.1 82 82 = lN (sdn S2.2.1) := sL_s _ _ _ _
      generalize sL h2 82 82 (lN (sdn S2.2.1)) = h3 at e3 i3 v3 ⊢
      have k3 : KM A S2.1 h3 := k2.eq e3 (fun x hx => by simp at hx; omega) (by rw [i3])
      have t3 : DM A h0 (S2.1, sdn S2.2.1, S2.2.2) h3 := ⟨(t2.1.tr e3).mono (fun x hx => by simp at hx ⊢; omega), fun j hj => by rw [i3]; exact t2.2.1 j hj, k3, v3, hs⟩
      have hw3 := hw2.eq e3
      refine ⟨_, rfl, e3.2, m_beside hw3 k2.g k3.l hci (Nat.mod_lt _ (by decide)) ⟨_, rfl, rfl, ?_⟩⟩
      have hnl := nbr_lt (w := sdn S2.2.1 / 64 % 4) k2.g hci
      have hgo : dgo A b S2 = wtn A (nbr A (fc S2.1 b) (sdn S2.2.1 / 64 % 4)) := rfl
      generalize nbr A (fc S2.1 b) (sdn S2.2.1 / 64 % 4) = y at hnl hgo ⊢
      have nxt : ∀ S3 : qS, drB A r2 (b + 1) (dstp A b S2) = U → dstp A b S2 = S3 → drB A r2 (b + 1) S3 = U := fun S3 q1 q2 => by rw [← q2]; exact q1
      have stay : dgo A b S2 = 0 → gg p l e s m args below meth c G (d + 8 + 1) MX12_drift Q 55 [some (.ref 82), some (.int (nI n)), some (.int (nI S2.2.2)), some (.int (nI i)), some (.int (nI (b + 1))), none] [] h3 := fun z => by
        have es : dstp A b S2 = (S2.1, sdn S2.2.1, S2.2.2) := by
          unfold dstp dwn
          rw [if_pos z, if_neg (fun q => q.1 z)]
          rfl
        exact ih2 (b + 1) (S2.1, sdn S2.2.1, S2.2.2) h3 (by omega) (nxt _ hS2 es) t3
      rw [nI_1]
      have z0 : nI y - 1 = -1 ↔ y = 0 := by rw [← i_m1, i_eq1 (by omega) (by decide)]
      refine ⟨fun z => stay (by rw [hgo, z0.mp z]; rfl), fun z => ?_⟩
      have z := mt z0.mpr z
      obtain ⟨x, hx⟩ : ∃ x, y = x + 1 := ⟨y - 1, by omega⟩
      subst hx
      rw [i_s1]
      refine m_isLand hw3 k2.g k3.l (by omega) (fun zl => ⟨_, rfl, rfl, bN' (by decide) (stay ?_)⟩) (fun zl => ⟨_, rfl, rfl, bY' rfl ?_⟩)
      · rw [hgo]
        unfold wtn
        rw [if_neg z, Nat.add_sub_cancel, if_pos zl]
      · have hg1 : dgo A b S2 = x + 1 := by rw [hgo]; exact wtn_s.mpr ⟨rfl, zl⟩
        refine m_tries (bo := 0) hw3 k3 (by omega) ⟨by omega, zl⟩ (by decide) (fun h4 e4 k4 => ⟨_, rfl, e4.1.2, ?_⟩)
        have es : (dstp A b S2).1 = ftr A S2.1 b x 0 := by show (if dgo A b S2 = 0 then _ else _) = _; rw [if_neg (by omega), hg1]; rfl
        have t4 : ∀ n, DM A h0 (ftr A S2.1 b x 0, sdn S2.2.1, n) h4 := fun n => t3.mt e4 k4 n
        by_cases zz : fer A S2.1 b x 0 ≤ ft S2.1 b
        · have ed : dstp A b S2 = (ftr A S2.1 b x 0, sdn S2.2.1, S2.2.2 + 1) := by
            unfold dstp dwn
            rw [if_neg (by omega), hg1, Nat.add_sub_cancel, if_pos ⟨by omega, zz⟩]
          rw [if_pos zz]
          exact bN (by decide) (by rw [nI_1]; exact ih2 (b + 1) _ h4 (by omega) (nxt _ hS2 ed) (t4 _))
        · have ed : dstp A b S2 = (ftr A S2.1 b x 0, sdn S2.2.1, S2.2.2) := by
            unfold dstp dwn
            rw [if_neg (by omega), hg1, Nat.add_sub_cancel, if_neg (fun q => zz q.2)]
            rfl
          rw [if_neg zz]
          exact bY rfl (ih2 (b + 1) (ftr A S2.1 b x 0, sdn S2.2.1, S2.2.2) h4 (by omega) (nxt _ hS2 ed) (t4 _))
theorem st_drift : gStepI l G (gInv Rst) MX11_drift MX12_drift 1 := by
  intro n9 h av hn9 hl hi
  obtain ⟨a, rfl⟩ := one_of hl
  obtain ⟨lk, sp, cd, A, F, hw, g1, g2, g3, g4, ⟨T, hT, g5⟩, g6, g7, ⟨w, u, w20, u20, u1, u2, u3, u4, ru⟩, g9⟩ := hi.2.2.2.2.2.2
  have k : KC A F T lk h := ⟨g1, g2, g4, g5, g7, by omega⟩
  have m : KM A F h := ⟨g1, g3, g4, g6⟩
  have h8 := g1.C8
  obtain ⟨sd1, sd, sd2, sd3⟩ := hi.2.2.2.2.2.1
  rcases Classical.em (∃ n, 1 ≤ n ∧ n ≤ 50 ∧ fH F + n ≤ 999 ∧ qC A ≠ 0 ∧ a = nI n) with ⟨n, n1, n2, n3, n4, rfl⟩ | hn
  · have fR := drH_g g1 n (F, sd, 0) n3 g4
    generalize hR : drH A n (F, sd, 0) = R at fR
    refine eX11_drift (d := 899) hw (fun p e s m' args below meth c => c_canPass_y (M := 50) hw k (by decide) n1 n2 n3 n4 ⟨_, rfl, rfl, bN' (by decide) (c_remember hw k w20 u20 u1 u3 (fun h1 a1 => ⟨rfl, a1.1.2, ?_⟩))⟩)
    have hw1 := hw.eq a1.1
    have k1 : KC A F T lk h1 := ⟨g1, g2.eq hw a1.1 (fun x hx => by simp at hx; omega), g4, a1.2.2.2.2.2, by rw [a1.2.2.2.1]; exact g7, by omega⟩
    have e01 := a1.1.1 0 (fun z => by simp at z; omega)
    refine c_driftL hw1 n2 R fR.1 T (by omega) (fun h2 T2 t2 hT2 => ⟨_, rfl, ?_⟩) n 0 (F, sd, 0) T h1 (by omega) hR n3 (by omega) ⟨gEq.rf _ _, rfl, k1, by rw [e01.2]; exact sd3, sd2, fun _ _ => rfl⟩
    have s0 : scr [0, 45, 46, 48] := by unfold scr; decide
    have a2 : AC [0, 45, 46, 48] (qB A) w u R.1 T2 h h2 := (a1.wk (Sc := [0, 45, 46, 48])).upd t2.1 (fun x hx => by simp at hx ⊢; omega) s0 t2.2.2.1.x
    have hw3 := hw.eq a2.1
    have lm2 : LM A h2 := g3.cg (fun x hx => a2.1.1 x (fun z => by simp at hx z; omega)) (by rw [(a2.1.1 82 (fun z => by simp at z; omega)).1])
    have e133 : h2.1 133 = h.1 133 := (a2.1.1 133 (fun z => by simp at z; omega)).1
    have e82 := a2.1.1 82 (fun z => by simp at z; omega)
    have m2 : KM A F h2 := ⟨g1, lm2, g4, by rw [e133]; exact g6⟩
    refine eX12_drift (d := 899) hw3 (fun p e s m' args below meth c => bN (by rw [lm2.il, if_neg n4]; decide) (c_isInI 1 50 hw3 (fun _ _ => ⟨_, rfl, rfl, bN (by decide) (bY ?_ (m_keeps hw3 m2 w20 u20 (by rw [e82.1]; exact u2) (by rw [e82.1]; exact u4) (fun h3 b1 b2 b3 => ⟨rfl, b1.1.2, ?_⟩)))⟩) (fun z => absurd ⟨nI_le (a := 1) n1 (by omega), nI_le (b := 50) n2 (by decide)⟩ z)))
    · rw [m2.y.1, nI_add]
      exact nI_le (b := 999) n3 (by decide)
    · have lm3 : LM A h3 := lm2.cg (fun x hx => b1.1.1 x (fun z => by simp at hx z; omega)) (b1.2.2.2.1 58 (by decide))
      have m3 : KM A F h3 := ⟨g1, lm3, g4, b1.2.2.2.2.2.2⟩
      refine m_driftL (d := 891) (hw3.eq b1.1) n2 R (fun h4 t4 => ⟨_, rfl, rfl, ?_⟩) n 0 (F, sd, 0) h3 (by omega) hR n3 ⟨gEq.rf _ _, fun _ _ => rfl, m3, by rw [b3, e82.2, ← sd1]; exact sd3, sd2⟩
      have b4 : AM [131, 132] (qB A) w u R.1 h2 h4 := (b1.wk (Sm := [131, 132])).upd t4.1 (fun x hx => by simp at hx ⊢; omega) scrB.s (fun j hj => t4.2.1 j (fun z => by subst z; revert hj; decide)) t4.2.2.1.y
      have hr := Rst.act hw g1 g2 g3 g4 hT g5 g6 g7 w20 u20 ru g9 a2 b4 s0 scrB.s fR hT2
      obtain ⟨j1, j2, j3, j4, j5, j6, j7⟩ := hi
      have w9 : (w + 1) % 20 < 20 := Nat.mod_lt _ (by decide)
      have e2 : ∀ x, x ∈ [1, 2, 65, 66, 83, 84, 167] → h4.1 x = h.1 x ∧ h4.2.1 x = h.2.1 x := fun x hx => by
        have x1 := a2.1.1 x (fun z => by simp at hx z; omega)
        have x2 := b4.1.1 x (fun z => by simp at hx z; omega)
        exact ⟨x2.1.trans x1.1, x2.2.trans x1.2⟩
      have c0 := b4.1.1 0 (fun z => by simp at z)
      have i0 : h4.1 0 = h.1 0 := by rw [c0.1, t2.2.1, e01.1]
      have s82 : ∀ j, j ∈ [1, 7, 8, 116] → h4.1 82 j = h.1 82 j := fun j hj => by
        rw [t4.2.1 j (fun z => by subst z; revert hj; decide), b2 j (fun z => by subst z; revert hj; decide) (fun z => by subst z; revert hj; decide), e82.1]
      refine ⟨j1.eq (b4.1.2.trans a2.1.2), fun i hi9 => ?_, ⟨?_, ?_⟩, ?_, ?_, ⟨?_, R.2.1, t2.2.2.2.2.1, ?_⟩, hr⟩
      · rw [(e2 66 (by decide)).1, (e2 84 (by decide)).1]
        exact j2 i hi9
      · rw [(e2 1 (by decide)).1, s82 7 (by decide)]
        exact j3.1
      · rw [(e2 1 (by decide)).1, s82 8 (by decide)]
        exact j3.2
      · unfold I_pic
        rw [i0, s82 116 (by decide), (e2 65 (by decide)).1, (e2 167 (by decide)).1]
        exact j4
      · unfold I_tap
        rw [(e2 1 (by decide)).1, s82 1 (by decide), (e2 83 (by decide)).1, (e2 2 (by decide)).1]
        exact j5
      · rw [c0.2, t2.2.2.2.1, t4.2.2.2.1]
      · rw [c0.2, t2.2.2.2.1]
  · refine eX11_drift (d := 899) hw (fun p e s m' args below meth c => c_canPass_n (M := 50) hw k (by decide) (fun n n1 n2 n3 n4 e => hn ⟨n, n1, n2, n3, n4, e⟩) ⟨_, rfl, rfl, bY' rfl (c_refuse 3 (by decide) hw ⟨_, rfl, rfl, _, rfl, ?_⟩)⟩)
    have hw2 := hw.eq (gEq.sI h 66 3 (h.1 66 3 + 1))
    have mr : gC l G 899 MX12_refuses [.ref 82, .int (nI 3)] (sI h 66 3 (h.1 66 3 + 1)) (rI fun v1 h1 => h1.2.2 = (sI h 66 3 (h.1 66 3 + 1)).2.2 ∧ ∃ v', some (Value.int v1) = some (.int v') ∧ -1 = v' ∧ gInv Rst (n9 + 1) h1) := c_refuses 3 (by decide) hw2 ⟨_, rfl, rfl, _, rfl, rfl, by rw [sI_ne (by decide)]; exact inv_ref Rst_cg 3 hi⟩
    refine eX12_drift (d := 899) hw2 (fun p e s m' args below meth c => ⟨fun _ => mr, fun z1 => c_isInI 1 50 hw2 (fun z2 z3 => ⟨_, rfl, rfl, bN (by decide) ⟨fun z4 => ?_, fun _ => mr⟩⟩) (fun _ => ⟨_, rfl, rfl, bY rfl mr⟩)⟩)
    exfalso
    obtain ⟨j, hj, rfl⟩ := nI_of (x := a) (fun q => absurd z2 (Int32.not_le.mpr (Int32.lt_trans q (by decide))))
    have z2 := (nI_leI (a := 1) (by decide) hj).mp z2
    have z3 := (nI_leI (b := 50) hj (by decide)).mp z3
    rw [sI_ne (by decide), g6.1, nI_add] at z4
    have hf := g4.1
    have z4 := (nI_leI (b := 999) (by omega) (by decide)).mp z4
    refine hn ⟨j, z2, z3, z4, fun e0 => z1 ?_, rfl⟩
    rw [sI_ne (by decide), g3.il, if_pos e0]
end DF
