theorem LC.eq {A : qT} {lk sp : Nat} {cd : Option Nat} {L : List Nat} {h h' : gH} (hw : gWf h lk sp cd) (e : gEq L h h') (hL : ∀ x, x ∈ L → ¬ (30 ≤ x ∧ x ≤ 44) ∧ ¬ (67 ≤ x ∧ x ≤ 81)) (q : LC A lk h) : LC A lk h' :=
  q.cg (fun j hj => (e.1 (lk + j) (fun z => by
    have := hL _ z
    have := hw.2.1
    omega)).1)
theorem KC.eq {A F : qT} {T lk sp : Nat} {cd : Option Nat} {L : List Nat} {h h' : gH} (hw : gWf h lk sp cd) (e : gEq L h h') (hL : ∀ x, x ∈ L → x ≠ 6 ∧ x ≠ 7 ∧ ¬ (30 ≤ x ∧ x ≤ 44) ∧ ¬ (67 ≤ x ∧ x ≤ 81)) (q : KC A F T lk h) : KC A F T lk h' := by
  refine ⟨q.g, q.l.eq hw e (fun x hx => (hL x hx).2.2), q.f, ?_, ?_, q.t⟩
  · rw [(e.1 7 (fun z => (hL 7 z).2.1 rfl)).1]
    exact q.x
  · rw [(e.1 6 (fun z => (hL 6 z).1 rfl)).1]
    exact q.b
theorem KM.eq {A F : qT} {L : List Nat} {h h' : gH} (e : gEq L h h') (hL : ∀ x, x ∈ L → x ≠ 133 ∧ ¬ (119 ≤ x ∧ x ≤ 129)) (e58 : h'.1 82 58 = h.1 82 58) (q : KM A F h) : KM A F h' := by
  refine ⟨q.g, q.l.cg (fun k hk => e.1 k (fun z => ?_)) e58, q.f, ?_⟩
  · have := hL k z
    simp at hk
    omega
  · rw [(e.1 133 (fun z => (hL 133 z).1 rfl)).1]
    exact q.y
theorem Rst.eq {n : Nat} {L : List Nat} {h h' : gH} (e : gEq L h h') (hL : ∀ x, x ∈ L → x ∉ gRc) (es : ∀ j, j ∈ gRs → h'.1 82 j = h.1 82 j) (e3 : h'.1 58 3 = h.1 58 3) (e4 : h'.1 58 4 = h.1 58 4) (q : Rst n h) : Rst (n + 1) h' :=
  Rst_cg n h h' e.2 (fun k hk => e.1 k (fun z => hL k z hk)) es e3 e4 q
/-- the bytes of an image, without the last -/
def ib (F : qT) (i : Nat) : Int32 :=
  if i = 0 then nI (fH F) / 256 else if i = 1 then nI (fH F) - nI (fH F) / 256 * 256 else if i = 2 then nI (fP F) / 65536 else if i = 3 then nI (fP F) / 256 - nI (fP F) / 256 / 256 * 256 else if i = 4 then nI (fP F) - nI (fP F) / 256 * 256
  else if (i - 5) % 4 = 0 then nI (fc F ((i - 5) / 4)) else if (i - 5) % 4 = 1 then nI (ft F ((i - 5) / 4)) else if (i - 5) % 4 = 2 then nI (fb F ((i - 5) / 4)) else nI (fh F ((i - 5) / 4)) - 1 + 1
def sealv (V : Nat → Int32) : Nat → Int32
  | 0 => 241
  | n + 1 => (3 * sealv V n + V n) - (3 * sealv V n + V n) / 251 * 251
def ibs (F : qT) (N i : Nat) : Int32 := if i = N then sealv (ib F) N else ib F i
theorem ib_bt (F : qT) (b : Nat) : ib F (5 + 4 * b) = nI (fc F b) ∧ ib F (5 + 4 * b + 1) = nI (ft F b) ∧ ib F (5 + 4 * b + 2) = nI (fb F b) ∧ ib F (5 + 4 * b + 3) = nI (fh F b) - 1 + 1 := by
  refine ⟨?_, ?_, ?_, ?_⟩ <;> unfold ib
  · rw [if_neg (by omega), if_neg (by omega), if_neg (by omega), if_neg (by omega), if_neg (by omega), if_pos (by omega), show (5 + 4 * b - 5) / 4 = b by omega]
  · rw [if_neg (by omega), if_neg (by omega), if_neg (by omega), if_neg (by omega), if_neg (by omega), if_neg (by omega), if_pos (by omega), show (5 + 4 * b + 1 - 5) / 4 = b by omega]
  · rw [if_neg (by omega), if_neg (by omega), if_neg (by omega), if_neg (by omega), if_neg (by omega), if_neg (by omega), if_neg (by omega), if_pos (by omega), show (5 + 4 * b + 2 - 5) / 4 = b by omega]
  · rw [if_neg (by omega), if_neg (by omega), if_neg (by omega), if_neg (by omega), if_neg (by omega), if_neg (by omega), if_neg (by omega), if_neg (by omega), show (5 + 4 * b + 3 - 5) / 4 = b by omega]
/-- n values of V stand in array a, and n at (o, s); nothing else but these cells has changed -/
def PW (o s a : Nat) (h0 h : gH) (n : Nat) (V : Nat → Int32) : Prop := gEq [o, a] h0 h ∧ h.1 o s = nI n ∧ (∀ j, j ≠ s → h.1 o j = h0.1 o j) ∧ (∀ i, i < n → h.1 a i = V i) ∧ h.2.1 o = h0.2.1 o
theorem PW.next {o s a : Nat} {h0 h : gH} {n : Nat} {V : Nat → Int32} {x : Int32} (hoa : o ≠ a) (t : PW o s a h0 h n V) (hx : x = V n) : PW o s a h0 (sI (sI h a n x) o s (nI n + 1)) (n + 1) V := by
  obtain ⟨t1, t2, t3, t4, t5⟩ := t
  subst hx
  refine ⟨?_, ?_, fun j hj => ?_, fun i hi => ?_, t5⟩
  · have e := (t1.tr (gEq.sI h a n (V n))).tr (gEq.sI (sI h a n (V n)) o s (nI n + 1))
    exact e.mono (fun k' hk' => by simp at hk' ⊢; omega)
  · rw [sI_s]
    exact nI_1 n
  · rw [sI_nb hj, sI_ne hoa]
    exact t3 j hj
  · rw [sI_ne (Ne.symm hoa)]
    by_cases e : i = n
    · subst e
      rw [sI_s]
    · rw [sI_nb e]
      exact t4 i (by omega)
theorem PW.start {o s a : Nat} (h0 : gH) (V : Nat → Int32) : PW o s a h0 (sI h0 o s 0) 0 V := by
  refine ⟨(gEq.sI h0 o s 0).mono (fun k hk => by simp at hk ⊢; omega), by rw [sI_s]; rfl, fun j hj => sI_nb hj, fun i hi => absurd hi (Nat.not_lt_zero _), rfl⟩
theorem sealv_cg {V W : Nat → Int32} : ∀ n, (∀ i, i < n → V i = W i) → sealv V n = sealv W n
  | 0, _ => rfl
  | n + 1, h => by
    unfold sealv
    rw [sealv_cg n (fun i hi => h i (by omega)), h n (by omega)]
section IM
variable {l : Launch} {G : gG} {d : Nat} {Q : Option Value → gH → Prop} {h h0 : gH} {lk sp : Nat} {cd : Option Nat} {A F : qT} {T : Nat} {V : Nat → Int32}
theorem c_draw {n : Nat} {x : Int32} (hw : gWf h lk sp cd) (t : PW 0 12 65 h0 h n V) (hn : n < 30) (hx : x = V n) (hq : ∀ h', PW 0 12 65 h0 h' (n + 1) V → Q none h') : gC l G d MX11_draw [.ref 0, .int x] h Q := by
  subst hx
  refine eX11_draw hw ?_
  rw [t.2.1, nI_clamp (by omega)]
  refine bN (nI_pos (by omega)) (bN (nI_ge (b := 30) hn (by decide)) ⟨vp_in_nI hn (by decide), hq _ (t.next (by decide) rfl)⟩)
theorem m_writes {n : Nat} {x : Int32} (hw : gWf h lk sp cd) (t : PW 82 116 167 h0 h n V) (hn : n < 30) (hx : x = V n) (hq : ∀ h', PW 82 116 167 h0 h' (n + 1) V → Q none h') : gC l G d MX12_writes [.ref 82, .int x] h Q := by
  subst hx
  refine eX12_writes hw ?_
  rw [t.2.1, nI_clamp (by omega)]
  exact ⟨vp_in_nI hn (by decide), hq _ (t.next (by decide) rfl)⟩
theorem c_sealOf {w1 n1 n : Nat} (hw : gWf h lk sp cd) (hs : gSH[w1]? = some (20, n1)) (hn1 : n1 < 2 ^ 31) (hn : n ≤ n1) (hq : Q (some (.int (sealv (h.1 w1) n))) h) : gC l G d MX11_sealOf [.ref w1, .int (nI n)] h Q := by
  refine eX11_sealOf hw hs (fun p e s m args below meth c => ?_)
  suffices H : ∀ r i, i + r = n → gg p l e s m args below meth c G d MX11_sealOf Q 6 [some (.ref w1), some (.int (nI n)), some (.int (sealv (h.1 w1) i)), some (.int (nI i))] [] h from H n 0 (by omega)
  intro r
  induction r with
  | zero =>
    intro i hi
    rw [show i = n by omega]
    exact wX11_sealOf_6 hw.1 hw.2.1 hw.2.2.1 hs (bY (Int32.le_refl _) hq)
  | succ r ih =>
    intro i hi
    have e9 := ih (i + 1) (by omega)
    unfold sealv at e9
    refine wX11_sealOf_6 hw.1 hw.2.1 hw.2.2.1 hs (bN (nI_ge (by omega) (by omega)) (bN (nI_ge (b := n1) (by omega) hn1) ⟨vp_in_nI (by omega) hn1, ?_⟩))
    rw [nI_clamp (by omega), nI_1]
    exact e9
theorem m_checked {w1 n1 n : Nat} (hw : gWf h lk sp cd) (hs : gSH[w1]? = some (20, n1)) (hn1 : n1 < 2 ^ 31) (hn : n ≤ n1) (hq : Q (some (.int (sealv (h.1 w1) n))) h) : gC l G d MX12_checked [.ref w1, .int (nI n)] h Q := by
  refine eX12_checked hw hs (fun p e s m args below meth c => ?_)
  suffices H : ∀ r i, i + r = n → gg p l e s m args below meth c G d MX12_checked Q 6 [some (.ref w1), some (.int (nI n)), some (.int (sealv (h.1 w1) i)), some (.int (nI i))] [] h from H n 0 (by omega)
  intro r
  induction r with
  | zero =>
    intro i hi
    rw [show i = n by omega]
    exact wX12_checked_6 hw.1 hw.2.1 hw.2.2.1 hs (bY (Int32.le_refl _) hq)
  | succ r ih =>
    intro i hi
    have e9 := ih (i + 1) (by omega)
    unfold sealv at e9
    refine wX12_checked_6 hw.1 hw.2.1 hw.2.2.1 hs (bN (nI_ge (by omega) (by omega)) ⟨vp_in_nI (by omega) hn1, ?_⟩)
    rw [nI_clamp (by omega), nI_1]
    exact e9
theorem ibs_lt {N i : Nat} (h : i < N) : ibs F N i = ib F i := if_neg (by omega)
theorem c_image (hw : gWf h lk sp cd) (k : KC A F T lk h) (hq : ∀ h', PW 0 12 65 h h' (5 + 4 * qB A + 1) (ibs F (5 + 4 * qB A)) → Q (some (.int (nI (5 + 4 * qB A + 1)))) h') : gC l G (d + 2) MX11_image [.ref 0] h Q := by
  have h6 := k.g.B6
  generalize hN : 5 + 4 * qB A = N at hq
  have kk : ∀ {h' n}, PW 0 12 65 h h' n (ibs F N) → gWf h' lk sp cd ∧ KC A F T lk h' := fun t => ⟨hw.eq t.1, k.eq hw t.1 (by decide)⟩
  refine eX11_image hw (fun p e s m args below meth c => c_hour hw k ⟨_, rfl, rfl, c_coins hw k ⟨_, rfl, rfl, ?_⟩⟩)
  refine c_draw (hw.eq (gEq.sI h 0 12 0)) (PW.start h (ibs F N)) (by omega) (Eq.trans (show _ = ib F 0 from rfl) (ibs_lt (show 0 < N by omega)).symm) (fun h1 t1 => ⟨rfl, t1.1.2, ?_⟩)
  refine c_draw (kk t1).1 t1 (by omega) (Eq.trans (show _ = ib F 1 from rfl) (ibs_lt (show 1 < N by omega)).symm) (fun h2 t2 => ⟨rfl, t2.1.2.trans t1.1.2.symm, ?_⟩)
  refine c_draw (kk t2).1 t2 (by omega) (Eq.trans (show _ = ib F 2 from rfl) (ibs_lt (show 2 < N by omega)).symm) (fun h3 t3 => ⟨rfl, t3.1.2.trans t2.1.2.symm, ?_⟩)
  refine c_draw (kk t3).1 t3 (by omega) (Eq.trans (show _ = ib F 3 from rfl) (ibs_lt (show 3 < N by omega)).symm) (fun h4 t4 => ⟨rfl, t4.1.2.trans t3.1.2.symm, ?_⟩)
  refine c_draw (kk t4).1 t4 (by omega) (Eq.trans (show _ = ib F 4 from rfl) (ibs_lt (show 4 < N by omega)).symm) (fun h5 t5 => ⟨rfl, t5.1.2.trans t4.1.2.symm, ?_⟩)
  suffices H : ∀ r i h', i + r = qB A → PW 0 12 65 h h' (5 + 4 * i) (ibs F N) → gg p l e s m args below meth c G (d + 1 + 1) MX11_image Q 72 [some (.ref 0), some (.int (nI (fH F))), some (.int (nI (fP F))), some (.int (nI i))] [] h' from H (qB A) 0 h5 (by omega) t5
  intro r
  induction r with
  | zero =>
    intro i h' hi t
    have hi : i = qB A := by omega
    subst hi
    obtain ⟨w, k'⟩ := kk t
    refine wX11_image_72 w.1 w.2.1 w.2.2.1 (bY (by rw [k'.l.B]; exact Int32.le_refl _) ?_)
    rw [t.2.1]
    refine c_sealOf w (n1 := 30) rfl (by decide) (by omega) ⟨_, rfl, rfl, ?_⟩
    rw [hN] at t ⊢
    refine c_draw w t (by omega) ?_ (fun h2 t2 => ⟨rfl, t2.1.2.trans t.1.2.symm, ?_⟩)
    · unfold ibs
      rw [if_pos rfl]
      exact sealv_cg _ (fun i hi => (t.2.2.2.1 i hi).trans (ibs_lt hi))
    · rw [t2.2.1]
      exact hq h2 t2
  | succ r ih =>
    intro i h' hi t
    obtain ⟨w, k'⟩ := kk t
    obtain ⟨i1, i2, i3, i4⟩ := ib_bt F i
    refine wX11_image_72 w.1 w.2.1 w.2.2.1 (bN (by rw [k'.l.B]; exact nI_ge (by omega) (by omega)) ?_)
    refine c_cellOf w k' (by omega) ⟨_, rfl, rfl, c_draw w t (by omega) ((ibs_lt (by omega)).trans i1).symm (fun h1 t1 => ⟨rfl, t1.1.2.trans t.1.2.symm, ?_⟩)⟩
    obtain ⟨w1, k1⟩ := kk t1
    refine c_trustOf w1 k1 (by omega) ⟨_, rfl, rfl, c_draw w1 t1 (by omega) ((ibs_lt (by omega)).trans i2).symm (fun h2 t2 => ⟨rfl, t2.1.2.trans t1.1.2.symm, ?_⟩)⟩
    obtain ⟨w2, k2⟩ := kk t2
    refine c_balksOf w2 k2 (by omega) ⟨_, rfl, rfl, c_draw w2 t2 (by omega) ((ibs_lt (by omega)).trans i3).symm (fun h3 t3 => ⟨rfl, t3.1.2.trans t2.1.2.symm, ?_⟩)⟩
    obtain ⟨w3, k3⟩ := kk t3
    refine c_handOf w3 k3 (by omega) ⟨_, rfl, rfl, c_draw w3 t3 (by omega) ((ibs_lt (by omega)).trans i4).symm (fun h4 t4 => ⟨rfl, t4.1.2.trans t3.1.2.symm, ?_⟩)⟩
    rw [nI_1]
    exact ih (i + 1) h4 (by omega) t4
theorem m_image (hw : gWf h lk sp cd) (k : KM A F h) (hq : ∀ h', PW 82 116 167 h h' (5 + 4 * qB A + 1) (ibs F (5 + 4 * qB A)) → Q (some (.int (nI (5 + 4 * qB A + 1)))) h') : gC l G (d + 1) MX12_image [.ref 82] h Q := by
  have h6 := k.g.B6
  generalize hN : 5 + 4 * qB A = N at hq
  have kk : ∀ {h' n}, PW 82 116 167 h h' n (ibs F N) → gWf h' lk sp cd ∧ KM A F h' := fun t => ⟨hw.eq t.1, k.eq t.1 (by decide) (t.2.2.1 58 (by decide))⟩
  refine eX12_image hw (fun p e s m args below meth c => ?_)
  rw [k.y.1]
  refine m_writes (hw.eq (gEq.sI h 82 116 0)) (PW.start h (ibs F N)) (by omega) (Eq.trans (show _ = ib F 0 from rfl) (ibs_lt (show 0 < N by omega)).symm) (fun h1 t1 => ⟨rfl, t1.1.2, ?_⟩)
  rw [(kk t1).2.y.1]
  refine m_writes (kk t1).1 t1 (by omega) (Eq.trans (show _ = ib F 1 from rfl) (ibs_lt (show 1 < N by omega)).symm) (fun h2 t2 => ⟨rfl, t2.1.2.trans t1.1.2.symm, ?_⟩)
  rw [(kk t2).2.y.2.1]
  refine m_writes (kk t2).1 t2 (by omega) (Eq.trans (show _ = ib F 2 from rfl) (ibs_lt (show 2 < N by omega)).symm) (fun h3 t3 => ⟨rfl, t3.1.2.trans t2.1.2.symm, ?_⟩)
  rw [(kk t3).2.y.2.1]
  refine m_writes (kk t3).1 t3 (by omega) (Eq.trans (show _ = ib F 3 from rfl) (ibs_lt (show 3 < N by omega)).symm) (fun h4 t4 => ⟨rfl, t4.1.2.trans t3.1.2.symm, ?_⟩)
  rw [(kk t4).2.y.2.1]
  refine m_writes (kk t4).1 t4 (by omega) (Eq.trans (show _ = ib F 4 from rfl) (ibs_lt (show 4 < N by omega)).symm) (fun h5 t5 => ⟨rfl, t5.1.2.trans t4.1.2.symm, ?_⟩)
  suffices H : ∀ r i h', i + r = qB A → PW 82 116 167 h h' (5 + 4 * i) (ibs F N) → gg p l e s m args below meth c G (d + 1) MX12_image Q 81 [some (.ref 82), some (.int (nI i))] [] h' from H (qB A) 0 h5 (by omega) t5
  intro r
  induction r with
  | zero =>
    intro i h' hi t
    have hi : i = qB A := by omega
    subst hi
    obtain ⟨w, k'⟩ := kk t
    refine wX12_image_81 w.1 w.2.1 w.2.2.1 (m_boatMany w k'.l ⟨_, rfl, rfl, bY (Int32.le_refl _) ?_⟩)
    rw [t.2.1]
    refine m_checked w (n1 := 30) rfl (by decide) (by omega) ⟨_, rfl, rfl, ?_⟩
    rw [hN] at t ⊢
    refine m_writes w t (by omega) ?_ (fun h2 t2 => ⟨rfl, t2.1.2.trans t.1.2.symm, ?_⟩)
    · unfold ibs
      rw [if_pos rfl]
      exact sealv_cg _ (fun i hi => (t.2.2.2.1 i hi).trans (ibs_lt hi))
    · rw [t2.2.1]
      exact hq h2 t2
  | succ r ih =>
    intro i h' hi t
    obtain ⟨w, k'⟩ := kk t
    obtain ⟨i1, i2, i3, i4⟩ := ib_bt F i
    refine wX12_image_81 w.1 w.2.1 w.2.2.1 (m_boatMany w k'.l ⟨_, rfl, rfl, bN (nI_ge (by omega) (by omega)) ?_⟩)
    refine m_cellOf w k' (by omega) ⟨_, rfl, rfl, m_writes w t (by omega) ((ibs_lt (by omega)).trans i1).symm (fun h1 t1 => ⟨rfl, t1.1.2.trans t.1.2.symm, ?_⟩)⟩
    obtain ⟨w1, k1⟩ := kk t1
    refine m_trustOf w1 k1 (by omega) ⟨_, rfl, rfl, m_writes w1 t1 (by omega) ((ibs_lt (by omega)).trans i2).symm (fun h2 t2 => ⟨rfl, t2.1.2.trans t1.1.2.symm, ?_⟩)⟩
    obtain ⟨w2, k2⟩ := kk t2
    refine m_balksOf w2 k2 (by omega) ⟨_, rfl, rfl, m_writes w2 t2 (by omega) ((ibs_lt (by omega)).trans i3).symm (fun h3 t3 => ⟨rfl, t3.1.2.trans t2.1.2.symm, ?_⟩)⟩
    obtain ⟨w3, k3⟩ := kk t3
    refine m_handOf w3 k3 (by omega) ⟨_, rfl, rfl, m_writes w3 t3 (by omega) ((ibs_lt (by omega)).trans i4).symm (fun h4 t4 => ⟨rfl, t4.1.2.trans t3.1.2.symm, ?_⟩)⟩
    rw [nI_1]
    exact ih (i + 1) h4 (by omega) t4
end IM
section ST7
variable {l : Launch} {G : gG}
theorem st_image : gStepI l G (gInv Rst) MX11_image MX12_image 0 := by
  intro n9 h av hn9 hl hi
  have := nil_of hl
  subst this
  obtain ⟨lk, sp, cd, A, F, T, hw, k, m, -, -⟩ := hi.2.2.2.2.2.2.k hn9
  obtain ⟨j1, j2, j3, j4, j5, j6, j7⟩ := hi
  have h6 := k.g.B6
  refine c_image (d := 898) hw k (fun h1 t1 => ⟨_, rfl, m_image (d := 899) (hw.eq t1.1) (m.eq t1.1 (by decide) (by rw [(t1.1.1 82 (by decide)).1])) (fun h2 t2 => ⟨_, rfl, rfl, ?_⟩)⟩)
  have e : gEq [0, 65, 82, 167] h h2 := (t1.1.tr t2.1).mono (fun x hx => by simp at hx ⊢; omega)
  have e82 : ∀ j, j ≠ 116 → h2.1 82 j = h.1 82 j := fun j hj => by rw [t2.2.2.1 j hj, (t1.1.1 82 (by decide)).1]
  refine ⟨j1.eq e.2, ?_, ?_, ⟨5 + 4 * qB A + 1, by omega, ?_, t2.2.1, fun i hi9 => ?_⟩, ?_, ?_, j7.eq e (by decide) (fun j hj => e82 j (fun z => by subst z; revert hj; decide)) (by rw [(e.1 58 (by decide)).1]) (by rw [(e.1 58 (by decide)).1])⟩
  · intro i hi9
    rw [(e.1 66 (by decide)).1, (e.1 84 (by decide)).1]
    exact j2 i hi9
  · refine ⟨?_, ?_⟩
    · rw [(e.1 1 (by decide)).1, e82 7 (by decide)]
      exact j3.1
    · rw [(e.1 1 (by decide)).1, e82 8 (by decide)]
      exact j3.2
  · rw [(t2.1.1 0 (by decide)).1]
    exact t1.2.1
  · rw [t2.2.2.2.1 i hi9, (t2.1.1 65 (by decide)).1]
    exact t1.2.2.2.1 i hi9
  · obtain ⟨⟨n, a1, a2, a3⟩, a4⟩ := j5
    refine ⟨⟨n, a1, by rw [(e.1 1 (by decide)).1]; exact a2, by rw [e82 1 (by decide)]; exact a3⟩, fun i hi9 => ?_⟩
    rw [(e.1 83 (by decide)).1, (e.1 2 (by decide)).1]
    exact a4 i hi9
  · have e1 : h2.2.1 0 = h.2.1 0 := by rw [(t2.1.1 0 (by decide)).2, t1.2.2.2.2]
    have e2 : h2.2.1 82 = h.2.1 82 := by rw [t2.2.2.2.2, (t1.1.1 82 (by decide)).2]
    unfold I_sed
    rw [e1, e2]
    exact j6
end ST7
