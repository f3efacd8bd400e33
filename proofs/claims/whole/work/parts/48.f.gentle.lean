/-! the gentlest way -/
def GtI (A : qT) (f : Nat → Nat) (a r i0 : Nat) (m : Nat → Nat) : Prop := (∀ i, i < qN A → m i ≤ 1000) ∧ m a = 0 ∧ (∀ i, i < qN A → m i < 1000 → qW A i ∧ ∃ k, rcf A f (m i) k a i) ∧ (∀ i, i < qN A → ∀ t k, k ≤ r → rcf A f t k a i → m i ≤ t) ∧ (∀ i, i < i0 → i < qN A → ∀ t k, k ≤ r + 1 → rcf A f t k a i → m i ≤ t)
def GtF (A : qT) (f : Nat → Nat) (a : Nat) (m : Nat → Nat) : Prop := (∀ i, i < qN A → m i ≤ 1000) ∧ (∀ i, i < qN A → m i < 1000 → qW A i ∧ ∃ k, rcf A f (m i) k a i) ∧ (∀ i, i < qN A → ∀ t k, rcf A f t k a i → m i ≤ t)
def LgI (A : qT) (f : Nat → Nat) (cell : Nat) (L : Nat → Nat) : Prop := (∀ c, c < qN A → L c ≤ 1000000) ∧ L cell = 0 ∧ (∀ c, c < qN A → L c < 1000000 → L c ≤ 99 ∧ ∃ k, rch A f (L c) k c cell)
def LgF (A : qT) (f : Nat → Nat) (cell : Nat) (L : Nat → Nat) : Prop := LgI A f cell L ∧ ∀ c, c < qN A → ∀ n, bsd A c n → L c ≤ max (f n) (L n)
section GT1
variable {A : qT} {f m L : Nat → Nat} {t k a c n r i0 cell w : Nat}
theorem GtI.zero (ha : qW A a) : GtI A f a 0 0 (upn (fun _ => 1000) a 0) := by
  refine ⟨fun i _ => ?_, upn_s, fun i hi q => ?_, fun i hi t k hk q => ?_, fun i hi => absurd hi (Nat.not_lt_zero _)⟩
  · show (if i = a then 0 else 1000) ≤ 1000
    split <;> omega
  · by_cases e : i = a
    · subst e; rw [upn_s]; exact ⟨ha, 0, rfl⟩
    · rw [upn_n e] at q; omega
  · have : k = 0 := by omega
    subst this
    have q : a = i := q
    subst q
    rw [upn_s]
    omega
theorem GtI.next (h : GtI A f a r (qN A) m) : GtI A f a (r + 1) 0 m := ⟨h.1, h.2.1, h.2.2.1, fun i hi t k hk => h.2.2.2.2 i hi hi t k hk, fun i hi => absurd hi (Nat.not_lt_zero _)⟩
theorem GtI.skip (h : GtI A f a r i0 m) (hn : ¬ qW A i0) : GtI A f a r (i0 + 1) m := ⟨h.1, h.2.1, h.2.2.1, h.2.2.2.1, fun i hi hN t k hk q => by
  by_cases e : i = i0
  · subst e
    cases k with
    | zero => exact h.2.2.2.1 i hN t 0 (Nat.zero_le _) q
    | succ k =>
      rcases q with q | ⟨n, n1, n2, n3, n4⟩
      · exact h.2.2.2.1 i hN t k (by omega) q
      · exact absurd n3.1 hn
  · exact h.2.2.2.2 i (by omega) hN t k hk q⟩
theorem GtI.step (g : qG A) (h : GtI A f a r i0 m) (hi : qW A i0) : GtI A f a r (i0 + 1) (upn m i0 (min (m i0) (max (f i0) (sbn A m i0 4)))) := by
  obtain ⟨h1, h2, h3, h4, h5⟩ := h
  have hl := h1 i0 hi.1
  have key : ∀ t k, k ≤ r + 1 → rcf A f t k a i0 → min (m i0) (max (f i0) (sbn A m i0 4)) ≤ t := by
    intro t k hk q
    cases k with
    | zero =>
      have q : a = i0 := q
      rw [← q, h2]
      omega
    | succ k =>
      rcases q with q | ⟨n, n1, n2, n3, n4⟩
      · have := h4 i0 hi.1 t k (by omega) q
        omega
      · have a1 := h4 n n1.1 t k (by omega) n2
        have a2 := sbn_b (m := m) g hi.1 (bsd_sym n1 n3)
        omega
  refine ⟨fun i hN => ?_, ?_, fun i hN q => ?_, fun i hN t k hk q => ?_, fun i hi' hN t k hk q => ?_⟩
  · by_cases e : i = i0
    · subst e; rw [upn_s]; omega
    · rw [upn_n e]; exact h1 i hN
  · by_cases e : a = i0
    · subst e; rw [upn_s, h2]; omega
    · rw [upn_n e]; exact h2
  · by_cases e : i = i0
    · subst e
      rw [upn_s] at q ⊢
      refine ⟨hi, ?_⟩
      by_cases z : m i ≤ max (f i) (sbn A m i 4)
      · rw [Nat.min_eq_left z] at q ⊢
        exact (h3 i hN q).2
      · rw [Nat.min_eq_right (by omega)] at q ⊢
        rcases sbn_ex (m := m) g hN 4 (Nat.le_refl _) with y | ⟨x, x1, x2⟩
        · omega
        · obtain ⟨y1, k, y2⟩ := h3 x x1.1.1 (by omega)
          exact ⟨k + 1, Or.inr ⟨x, x1.1, rcf_t (by omega) y2, bsd_sym hi x1, by omega⟩⟩
    · rw [upn_n e] at q ⊢
      exact h3 i hN q
  · by_cases e : i = i0
    · subst e; rw [upn_s]; exact key t k (by omega) q
    · rw [upn_n e]; exact h4 i hN t k hk q
  · by_cases e : i = i0
    · subst e; rw [upn_s]; exact key t k hk q
    · rw [upn_n e]; exact h5 i (by omega) hN t k hk q
theorem GtI.done (g : qG A) (ha : qW A a) (h : GtI A f a 48 0 m) : GtF A f a m := by
  refine ⟨h.1, h.2.2.1, fun i hi t k q => ?_⟩
  exact h.2.2.2.1 i hi t 47 (by omega) (rcf_47 g ha hi q)
theorem GtI.fix (g : qG A) (h : GtI A f a r i0 m) (hf : ∀ i, qW A i → m i ≤ max (f i) (sbn A m i 4)) : GtF A f a m := by
  refine ⟨h.1, h.2.2.1, fun i hi t k q => ?_⟩
  induction k generalizing i with
  | zero =>
    have q : a = i := q
    rw [← q, h.2.1]
    omega
  | succ k ih =>
    rcases q with q | ⟨n, n1, n2, n3, n4⟩
    · exact ih i hi q
    · have a1 := ih n n1.1 n2
      have a2 := sbn_b (m := m) g hi (bsd_sym n1 n3)
      have a3 := hf i n3.1
      omega
theorem LgF.cm (h : LgF A f cell L) : ∀ k c, c < qN A → rch A f t k c cell → L c ≤ t := by
  intro k
  induction k with
  | zero =>
    intro c hc q
    have q : c = cell := q
    rw [q, h.1.2.1]
    omega
  | succ k ih =>
    intro c hc q
    rcases q with q | ⟨n, n1, n2, n3⟩
    · exact ih c hc q
    · have a1 := ih n n1.1.1 n3
      have a2 := h.2 c hc n n1
      omega
theorem LgI.up (h : LgI A f cell L) (hc : c < qN A) (hn : bsd A c n) (hf : f n ≤ 99) (hl : max (f n) (L n) < L c) : LgI A f cell (upn L c (max (f n) (L n))) := by
  obtain ⟨h1, h2, h3⟩ := h
  have hlc := h1 c hc
  refine ⟨fun x hx => ?_, ?_, fun x hx q => ?_⟩
  · by_cases e : x = c
    · subst e; rw [upn_s]; omega
    · rw [upn_n e]; exact h1 x hx
  · by_cases e : cell = c
    · subst e; omega
    · rw [upn_n e]; exact h2
  · by_cases e : x = c
    · subst e
      rw [upn_s]
      obtain ⟨y1, k, y2⟩ := h3 n hn.1.1 (by omega)
      exact ⟨by omega, k + 1, Or.inr ⟨n, hn, by omega, rch_t (by omega) y2⟩⟩
    · rw [upn_n e] at q ⊢
      exact h3 x hx q
end GT1
section GT2
variable {l : Launch} {G : gG} {d : Nat} {Q : Option Value → gH → Prop} {h h0 : gH} {lk sp : Nat} {cd : Option Nat} {A F : qT} {T n b c w t cell : Nat} {f m L : Nat → Nat}
theorem c_gentlest (hw : gWf h lk sp cd) (k : KC A F T lk h) (hb : b < qB A) (hc : qW A cell) (hF : (fun c => fer A F b c 0) = f)
    (hq1 : ∀ h' X, gEq [45, 46, 48, 50, 51] h h' → X < 1000 → (∃ k, rch A f X k (fc F b) cell) → (∀ t k, rch A f t k (fc F b) cell → X ≤ t) → Q (some (.int (nI X))) h')
    (hq0 : ∀ h', gEq [45, 46, 48, 50, 51] h h' → (∀ t k, rch A f t k (fc F b) cell → 1000 ≤ t) → Q (some (.int (-1))) h') : gC l G (d + 6) MX10_gentlest [.ref 49, .int (nI b), .int (nI cell)] h Q := by
  have h48 := k.g.N48
  have g := k.g
  have hc1 := hc.1
  have fe : ∀ c, fer A F b c 0 = f c := fun c => by rw [← hF]
  have fl9 : ∀ c, f c ≤ 99 := fun c => by rw [← fe]; exact fer_le g
  obtain ⟨c0, c4, t9, -, -⟩ := k.f.2.2.2.1 b hb
  refine eX10_gentlest hw (fun p e s m' args below meth cc => c_readFears hw k hb (fun h1 e1 v1 => ⟨rfl, e1.2, ?_⟩))
  have hw1 := hw.eq e1
  have k1 : KC A F T lk h1 := k.eq hw e1 (fun x hx => by simp at hx; omega)
  have m1 : gEq [45, 46, 48, 50, 51] h h1 := e1.mono (fun x hx => by simp at hx ⊢; omega)
  refine c_cellOf hw1 k1 hb ⟨_, rfl, rfl, c_isCell_y hw1 g k1.l c0 ⟨_, rfl, rfl, bN (by decide) (c_isCell_y hw1 g k1.l hc.1 ⟨_, rfl, rfl, bN' (by decide) (c_fill hw1 (n1 := 48) rfl (by decide) (fun h2 e2 v2 => ⟨rfl, e2.2, vp_in_nI (by omega) (by decide), ?_⟩))⟩)⟩⟩
  rw [nI_clamp (by omega)]
  have e3 : gEq [45, 46, 48, 50, 51] h h2 := (m1.tr e2).mono (fun x hx => by simp at hx ⊢; omega)
  have v3 : ∀ c, c < qN A → h2.1 50 c = nI (cfr A F b c) := fun c hc => by rw [(e2.1 50 (by decide)).1]; exact v1 c hc
  have fin : ∀ h' m, gEq [45, 46, 48, 50, 51] h h' → (∀ i, i < qN A → h'.1 51 i = nI (m i)) → GtF A f (fc F b) m → (vp_in (nI cell) 48 ∧ ((1000 ≤ (h'.1 51 (nI cell).toNatClampNeg) → Q (some (.int (-1))) h') ∧ (¬ 1000 ≤ (h'.1 51 (nI cell).toNatClampNeg) → (vp_in (nI cell) 48 ∧ Q (some (.int (h'.1 51 (nI cell).toNatClampNeg))) h')))) := fun h' m e4 v4 M => by
    have ml := M.1 cell hc.1
    have z1 : 1000 ≤ nI (m cell) ↔ 1000 ≤ m cell := nI_leI (a := 1000) (by decide) (by omega)
    rw [nI_clamp (by omega), v4 cell hc.1, z1]
    refine ⟨vp_in_nI (by omega) (by decide), fun q => hq0 h' e4 (fun t k r => ?_), fun q => ⟨vp_in_nI (by omega) (by decide), hq1 h' _ e4 (by omega) ?_ (fun t k r => M.2.2 cell hc.1 t k (rch_rcf ⟨c0, c4⟩ r))⟩⟩
    · have := M.2.2 cell hc.1 t k (rch_rcf ⟨c0, c4⟩ r)
      omega
    · obtain ⟨-, k, r⟩ := M.2.1 cell hc.1 (by omega)
      exact ⟨k, rcf_rch r⟩
  suffices H : ∀ r i m fl h', i + r = 48 → gEq [45, 46, 48, 50, 51] h h' → (∀ c, c < qN A → h'.1 50 c = nI (cfr A F b c)) → (∀ i, i < qN A → h'.1 51 i = nI (m i)) → GtI A f (fc F b) i 0 m → (fl = 0 → GtF A f (fc F b) m) → gg p l e s m' args below meth cc G (d + 5 + 1) MX10_gentlest Q 70 [some (.ref 49), some (.int (nI b)), some (.int (nI cell)), some (.int (nI (fc F b))), some (.int fl), some (.int (nI i)), none, none] [] h' from
    H 48 0 (upn (fun _ => 1000) (fc F b) 0) 1 _ (by omega) (gE1 (by decide) e3) (fun c hc => by rw [sI_ne (by decide)]; exact v3 c hc) (fun i hi => by
      by_cases e : i = fc F b
      · subst e; rw [sI_s, upn_s]; rfl
      · rw [sI_nb e, upn_n e]; exact v2 i (by omega)) (GtI.zero ⟨c0, c4⟩) (fun q => absurd q (by decide))
  intro r
  induction r with
  | zero =>
    intro i m fl h' hi e4 u4 v4 I4 f4
    have : i = 48 := by omega
    subst this
    have hwh := hw.eq e4
    exact wX10_gentlest_70 hwh.1 hwh.2.1 hwh.2.2.1 (bY (Int32.le_refl _) (fin h' m e4 v4 (I4.done g ⟨c0, c4⟩)))
  | succ r ih =>
    intro i m fl h' hi e4 u4 v4 I4 f4
    have hwh := hw.eq e4
    refine wX10_gentlest_70 hwh.1 hwh.2.1 hwh.2.2.1 (bN (nI_ge (b := 48) (by omega) (by decide)) ⟨fun q => fin h' m e4 v4 (f4 q), fun _ => ?_⟩)
    suffices H : ∀ r' j m fl h', j + r' = qN A → gEq [45, 46, 48, 50, 51] h h' → (∀ c, c < qN A → h'.1 50 c = nI (cfr A F b c)) → (∀ i, i < qN A → h'.1 51 i = nI (m i)) → GtI A f (fc F b) i j m → (fl = 0 → ∀ i, i < j → qW A i → m i ≤ max (f i) (sbn A m i 4)) → gg p l e s m' args below meth cc G (d + 5 + 1) MX10_gentlest Q 88 [some (.ref 49), some (.int (nI b)), some (.int (nI cell)), some (.int (nI (fc F b))), some (.int fl), some (.int (nI i)), some (.int (nI j)), none] [] h' from
      H (qN A) 0 m 0 h' (by omega) e4 u4 v4 I4 (fun _ j hj => absurd hj (Nat.not_lt_zero _))
    clear e4 u4 v4 I4 f4 hwh
    intro r'
    induction r' with
    | zero =>
      intro j m fl h' hj e4 u4 v4 I4 f4
      have : j = qN A := by omega
      subst this
      have hwh := hw.eq e4
      have k4 : KC A F T lk h' := k.eq hw e4 (fun x hx => by simp at hx; omega)
      refine wX10_gentlest_88 hwh.1 hwh.2.1 hwh.2.2.1 (c_cells hwh g k4.l ⟨_, rfl, rfl, bY (Int32.le_refl _) ?_⟩)
      rw [nI_1]
      exact ih (i + 1) m fl h' (by omega) e4 u4 v4 I4.next (fun q => I4.fix g (fun i hi => f4 q i hi.1 hi))
    | succ r' ih' =>
      intro j m fl h' hj e4 u4 v4 I4 f4
      have hwh := hw.eq e4
      have k4 : KC A F T lk h' := k.eq hw e4 (fun x hx => by simp at hx; omega)
      have hmj := I4.1 j (by omega)
      refine wX10_gentlest_88 hwh.1 hwh.2.1 hwh.2.2.1 (c_cells hwh g k4.l ⟨_, rfl, rfl, bN (nI_ge (by omega) (by omega)) (c_isWaterB hwh g k4.l (by omega) (fun he => ⟨_, rfl, rfl, bN (by decide) ⟨vp_in_nI (by omega) (by decide), c_stepsBeside (m := m) hwh g k4.l (by omega) (fun i hi => ⟨v4 i hi, I4.1 i hi⟩) ⟨_, rfl, rfl, vp_in_nI (by omega) (by decide), ?_⟩⟩⟩) (fun he => ⟨_, rfl, rfl, bY rfl ⟨vp_in_nI (by omega) (by decide), ?_⟩⟩))⟩)
      · have hs := sbn_le (A := A) (m := m) (c := j) 4
        have hfj := fl9 j
        have I5 := I4.step g he
        rw [nI_clamp (by omega), v4 j (by omega), u4 j (by omega), cfr_w he.2, fe, i_max (by omega) (by omega), nI_1, nI_leI (by omega) (by omega)]
        refine ⟨fun q => ?_, fun q => ⟨vp_in_nI (by omega) (by decide), ?_⟩⟩
        · rw [Nat.min_eq_left q, upn_self] at I5
          refine ih' (j + 1) m _ h' (by omega) e4 u4 v4 I5 (fun z i hi he' => ?_)
          by_cases e : i = j
          · subst e; exact q
          · exact f4 z i (by omega) he'
        · rw [Nat.min_eq_right (by omega)] at I5
          refine ih' (j + 1) _ 1 _ (by omega) (gE1 (by decide) e4) (fun c hc => by rw [sI_ne (by decide)]; exact u4 c hc) (fun i hi => ?_) I5 (fun z => absurd z (by decide))
          by_cases e : i = j
          · subst e; rw [sI_s, upn_s]
          · rw [sI_nb e, upn_n e]; exact v4 i hi
      · rw [nI_clamp (by omega), v4 j (by omega), nI_1]
        refine bY (nI_le (b := 1000) (by omega) (by decide)) (ih' (j + 1) m _ h' (by omega) e4 u4 v4 (I4.skip he) (fun z i hi he' => ?_))
        by_cases e : i = j
        · subst e; exact absurd he' he
        · exact f4 z i (by omega) he'
theorem lfr_max (hF : (fun c => fer A F b c 0) = f) (hL : L c ≤ 1000000) (q : max (lfr A F b n) (L n) < L c) : qkd A n ≠ 4 ∧ lfr A F b n = f n := by
  have fe : fer A F b n 0 = f n := by rw [← hF]
  unfold lfr at q ⊢
  by_cases e : qkd A n = 4
  · rw [if_pos e] at q; omega
  · rw [if_neg e, fe]; exact ⟨e, rfl⟩
theorem m_laysGentle (hw : gWf h lk sp cd) (g : qG A) (k : LM A h) (hc : cell < qN A) (hF : (fun c => fer A F b c 0) = f) (hf : ∀ c, c < qN A → h.1 135 c = nI (lfr A F b c)) (hq : ∀ h' L, gEq [136] h h' → (∀ c, c < qN A → h'.1 136 c = nI (L c)) → LgF A f cell L → Q none h') : gC l G (d + 3) MX12_laysGentle [.ref 82, .int (nI cell)] h Q := by
  have h48 := g.N48
  have fe : ∀ c, fer A F b c 0 = f c := fun c => by rw [← hF]
  have fl9 : ∀ c, f c ≤ 99 := fun c => by rw [← fe]; exact fer_le g
  have ff : ∀ {h'}, gEq [136] h h' → ∀ c, c < qN A → h'.1 135 c = nI (lfr A F b c) := fun e c hc => by rw [(e.1 135 (by decide)).1]; exact hf c hc
  refine eX12_laysGentle hw (fun p e s m' args below meth cc => ?_)
  have H36 : ∀ M L fl h', gEq [136] h h' → (∀ c, c < qN A → h'.1 136 c = nI (L c)) → LgI A f cell L → (fl = 0 → LgF A f cell L) → (¬ fl = 0 → smn L (qN A) < M) → gg p l e s m' args below meth cc G (d + 2 + 1) MX12_laysGentle Q 36 [some (.ref 82), some (.int (nI cell)), some (.int fl), none, none, none] [] h' := by
    intro M
    induction M with
    | zero =>
      intro L fl h' e1 v1 I1 f0 f1
      have hwh := hw.eq e1
      exact wX12_laysGentle_36 hwh.1 hwh.2.1 hwh.2.2.1 ⟨fun q => hq h' L e1 v1 (f0 q), fun q => absurd (f1 q) (Nat.not_lt_zero _)⟩
    | succ M ih =>
      intro L fl h' e1 v1 I1 f0 f1
      have hwh := hw.eq e1
      refine wX12_laysGentle_36 hwh.1 hwh.2.1 hwh.2.2.1 ⟨fun q => hq h' L e1 v1 (f0 q), fun q => ?_⟩
      have f1 := f1 q
      suffices H : ∀ r c L fl h', c + r = qN A → gEq [136] h h' → (∀ c, c < qN A → h'.1 136 c = nI (L c)) → LgI A f cell L → smn L (qN A) < M + 1 → (¬ fl = 0 → smn L (qN A) < M) → (fl = 0 → ∀ c', c' < c → ∀ n, bsd A c' n → L c' ≤ max (f n) (L n)) → gg p l e s m' args below meth cc G (d + 2 + 1) MX12_laysGentle Q 44 [some (.ref 82), some (.int (nI cell)), some (.int fl), some (.int (nI c)), none, none] [] h' from
        H (qN A) 0 L 0 h' (by omega) e1 v1 I1 f1 (fun z => absurd rfl z) (fun _ c' hc' => absurd hc' (Nat.not_lt_zero _))
      clear hwh e1 v1 I1 f0 f1 q
      intro r
      induction r with
      | zero =>
        intro c L fl h' hr e1 v1 I1 s1 s2 f0
        have hwh := hw.eq e1
        exact wX12_laysGentle_44 hwh.1 hwh.2.1 hwh.2.2.1 (m_cellMany hwh (k.eq6 e1) ⟨_, rfl, rfl, bY (nI_le (by omega) (by omega)) (ih L fl h' e1 v1 I1 (fun z => ⟨I1, fun c hc => f0 z c (by omega)⟩) s2)⟩)
      | succ r ihc =>
        intro c L fl h' hr e1 v1 I1 s1 s2 f0
        have hwh := hw.eq e1
        have hcN : c < qN A := by omega
        refine wX12_laysGentle_44 hwh.1 hwh.2.1 hwh.2.2.1 (m_cellMany hwh (k.eq6 e1) ⟨_, rfl, rfl, bN (nI_ge (by omega) (by omega)) ?_⟩)
        suffices H : ∀ r' w L fl h', w + r' = 4 → gEq [136] h h' → (∀ c, c < qN A → h'.1 136 c = nI (L c)) → LgI A f cell L → smn L (qN A) < M + 1 → (¬ fl = 0 → smn L (qN A) < M) → (fl = 0 → ∀ c', c' < c → ∀ n, bsd A c' n → L c' ≤ max (f n) (L n)) → (fl = 0 → ∀ w', w' < w → ∀ n, stp A c w' = n + 1 → L c ≤ max (f n) (L n)) → gg p l e s m' args below meth cc G (d + 2 + 1) MX12_laysGentle Q 55 [some (.ref 82), some (.int (nI cell)), some (.int fl), some (.int (nI c)), some (.int (nI w)), none] [] h' from
          H 4 0 L fl h' (by omega) e1 v1 I1 s1 s2 f0 (fun _ w' hw' => absurd hw' (Nat.not_lt_zero _))
        clear hwh e1 v1 I1 f0 s1 s2
        intro r'
        induction r' with
        | zero =>
          intro w L fl h' hr' e1 v1 I1 s1 s2 f0 fw
          have : w = 4 := by omega
          subst this
          have hwh := hw.eq e1
          refine wX12_laysGentle_55 hwh.1 hwh.2.1 hwh.2.2.1 (bY (Int32.le_refl _) ?_)
          rw [nI_1]
          refine ihc (c + 1) L fl h' (by omega) e1 v1 I1 s1 s2 (fun z c' hc' n hn => ?_)
          by_cases ec : c' = c
          · subst ec
            obtain ⟨w', w4, hw'⟩ := (bsd_iff g hcN).mp hn
            exact fw z w' w4 n hw'
          · exact f0 z c' (by omega) n hn
        | succ r' ihw =>
          intro w L fl h' hr' e1 v1 I1 s1 s2 f0 fw
          have hwh := hw.eq e1
          have hn := nbr_lt (w := w) g hcN
          have skip : (∀ n, stp A c w = n + 1 → L c ≤ max (f n) (L n)) → gg p l e s m' args below meth cc G (d + 2 + 1) MX12_laysGentle Q 55 [some (.ref 82), some (.int (nI cell)), some (.int fl), some (.int (nI c)), some (.int (nI (w + 1))), none] [] h' := fun q =>
            ihw (w + 1) L fl h' (by omega) e1 v1 I1 s1 s2 f0 (fun z w' hw' n hs => by
              by_cases ew : w' = w
              · subst ew; exact q n hs
              · exact fw z w' (by omega) n hs)
          refine wX12_laysGentle_55 hwh.1 hwh.2.1 hwh.2.2.1 (bN (nI_ge (b := 4) (by omega) (by decide)) (m_beside hwh g (k.eq6 e1) hcN (by omega) ⟨_, rfl, rfl, ?_⟩))
          rw [← i_m1, i_eq1 (by omega) (by decide), nI_1]
          refine ⟨fun z => skip (fun n hs => ?_), fun z => ?_⟩
          · have := (wtn_s.mp hs).1
            omega
          obtain ⟨x, hx⟩ : ∃ x, nbr A c w = x + 1 := ⟨_, (Nat.succ_pred z).symm⟩
          have lx := I1.1 x (by omega)
          have lc := I1.1 c hcN
          have ll := lfr_le (F := F) (b := b) g x
          have vx : vp_in (nI x) 48 := vp_in_nI (by omega) (by decide)
          have vc : vp_in (nI c) 48 := vp_in_nI (by omega) (by decide)
          rw [hx, i_s1, nI_clamp (show x < 2 ^ 31 by omega), nI_clamp (show c < 2 ^ 31 by omega), ff e1 x (by omega), v1 x (by omega)]
          refine ⟨vx, vx, m_greater hwh (by omega) (by omega) ⟨_, rfl, rfl, vc, ?_⟩⟩
          rw [v1 c hcN, ff e1 x (by omega), v1 x (by omega), nI_ltI (by omega) (by omega)]
          refine ⟨fun q => ⟨vx, vx, m_greater hwh (by omega) (by omega) ⟨_, rfl, rfl, vc, ?_⟩⟩, fun q => skip (fun n hs => ?_)⟩
          · obtain ⟨l1, l2⟩ := lfr_max hF lc q
            rw [l2] at q ⊢
            have hs : stp A c w = x + 1 := wtn_s.mpr ⟨hx, l1⟩
            have hb : bsd A c x := (bsd_iff g hcN).mpr ⟨w, by omega, hs⟩
            have hsm := smn_up (L := L) (c := c) (v := max (f x) (L x)) q (qN A) hcN
            refine ihw (w + 1) (upn L c (max (f x) (L x))) 1 _ (by omega) (gE1 (by decide) e1) (fun c' hc' => ?_) (I1.up hcN hb (fl9 x) q) (by omega) (fun _ => by omega) (fun z => absurd z (by decide)) (fun z => absurd z (by decide))
            by_cases ec : c' = c
            · subst ec; rw [sI_s, upn_s]
            · rw [sI_nb ec, upn_n ec]; exact v1 c' hc'
          · obtain ⟨s1, s2⟩ := wtn_s.mp hs
            have : n = x := by omega
            subst this
            rw [lfr_w s2, fe] at q
            omega
  suffices H : ∀ r c h', c + r = qN A → gEq [136] h h' → (∀ c', c' < c → h'.1 136 c' = nI (upn (fun _ => 1000000) cell 0 c')) → gg p l e s m' args below meth cc G (d + 2 + 1) MX12_laysGentle Q 2 [some (.ref 82), some (.int (nI cell)), some (.int (nI c)), none, none, none] [] h' from H (qN A) 0 h (by omega) (gEq.rf _ _) (fun c hc => absurd hc (Nat.not_lt_zero _))
  intro r
  induction r with
  | zero =>
    intro c h' hr e1 v1
    have hwh := hw.eq e1
    refine wX12_laysGentle_2 hwh.1 hwh.2.1 hwh.2.2.1 (m_cellMany hwh (k.eq6 e1) ⟨_, rfl, rfl, bY (nI_le (by omega) (by omega)) (H36 (smn (upn (fun _ => 1000000) cell 0) (qN A) + 1) (upn (fun _ => 1000000) cell 0) 1 h' e1 (fun c hc => v1 c (by omega)) ⟨fun c _ => ?_, upn_s, fun c hc q => ?_⟩ (fun z => absurd z (by decide)) (fun _ => by omega))⟩)
    · show (if c = cell then 0 else 1000000) ≤ 1000000
      split <;> omega
    · by_cases ec : c = cell
      · subst ec; rw [upn_s]; exact ⟨by omega, 0, rfl⟩
      · rw [upn_n ec] at q; omega
  | succ r ih =>
    intro c h' hr e1 v1
    have hwh := hw.eq e1
    refine wX12_laysGentle_2 hwh.1 hwh.2.1 hwh.2.2.1 (m_cellMany hwh (k.eq6 e1) ⟨_, rfl, rfl, bN (nI_ge (by omega) (by omega)) ?_⟩)
    rw [nI_eq (by omega) (by omega), nI_clamp (by omega), nI_1]
    refine ⟨fun q => ⟨vp_in_nI (by omega) (by decide), ih (c + 1) _ (by omega) (gE1 (by decide) e1) (fun c' hc' => ?_)⟩, fun q => ⟨vp_in_nI (by omega) (by decide), ih (c + 1) _ (by omega) (gE1 (by decide) e1) (fun c' hc' => ?_)⟩⟩
    · by_cases ec : c' = c
      · subst ec; rw [sI_s, upn_n q]; rfl
      · rw [sI_nb ec]; exact v1 c' (by omega)
    · by_cases ec : c' = c
      · subst ec; subst q; rw [sI_s, upn_s]; rfl
      · rw [sI_nb ec]; exact v1 c' (by omega)
theorem st_gentle : gStepI l G (gInv Rst) MX11_gentle MX12_gentle 3 := by
  intro n9 h av hn9 hl hi
  obtain ⟨a, b, c, rfl⟩ := three_of hl
  obtain ⟨lk, sp, cd, A, F, T, hw, k, m, -, -⟩ := hi.2.2.2.2.2.2.k hn9
  have hm := gInv.mono Rst_cg n9 h hi
  have h6 := k.g.B6
  have g := k.g
  have h48 := k.g.N48
  rcases ixd a (qB A) (by omega) with ⟨j, hj, rfl⟩ | hb
  · obtain ⟨c0, c4, t9, -, -⟩ := k.f.2.2.2.1 j hj
    rcases wtr A b k.g with ⟨x, hx, rfl⟩ | hb
    · have hx1 := hx.1
      obtain ⟨f, hF⟩ : ∃ f, (fun c => fer A F j c 0) = f := ⟨_, rfl⟩
      have hQ := k.g.Q1
      have fin : ∀ h1 h2, gEq [45, 46, 48, 50, 51] h h1 → MG [82, 131, 132, 135, 136] h1 h2 → gInv Rst (n9 + 1) h2 := fun h1 h2 e1 e2 => by
        refine inv_read hi (e1.tr e2.1) (by decide) (fun j hj => ?_) ?_ ?_ ?_
        · rw [e2.2.1 j (fun z => by subst z; revert hj; decide), (e1.1 82 (by decide)).1]
        · rw [e2.2.2, (e1.1 82 (by decide)).2]
        · rw [(e2.1.1 58 (by decide)).1, (e1.1 58 (by decide)).1]
        · rw [(e2.1.1 58 (by decide)).1, (e1.1 58 (by decide)).1]
      have mdl : ∀ (v : Int32) (h1 : gH), gEq [45, 46, 48, 50, 51] h h1 → ((¬ c = 0 → ¬ c = 1 → v = -1)) → ((∀ t k, rch A f t k (fc F j) x → 1000 ≤ t) → v = -1) → (∀ X, X ≤ 99 → (∃ k, rch A f X k (fc F j) x) → (∀ t k, rch A f t k (fc F j) x → X ≤ t) → (c = 0 → v = nI X) ∧ (c = 1 → v = if nI X - nI (ft F j) ≤ 0 then 0 else (nI X - nI (ft F j) + nI (qQ A) - 1) / nI (qQ A))) → gC l G 900 MX12_gentle [.ref 82, .int (nI j), .int (nI x), .int c] h1 (fun r h' => ∃ v'', r = some (.int v'') ∧ v = v'' ∧ gInv Rst (n9 + 1) h') := fun v h1 e1 qn q0 q1 => by
        have hw1 := hw.eq e1
        have m1 : KM A F h1 := m.eq e1 (fun x hx => by simp at hx; omega) (by rw [(e1.1 82 (by decide)).1])
        refine eX12_gentle (d := 899) hw1 (m_isBoat_y hw1 m1.g m1.l hj ⟨_, rfl, rfl, bN (by decide) (m_isWater_y hw1 m1.g m1.l hx ⟨_, rfl, rfl, bN (by decide) (c_isInI 0 1 hw1 (fun z1 z2 => ⟨_, rfl, rfl, bN' (by decide) (m_laysFears hw1 m1 hj (fun h2 e2 v2 => ⟨rfl, e2.1.2, ?_⟩))⟩) (fun z => ⟨_, rfl, rfl, bY' rfl ⟨_, rfl, ?_, fin h1 h1 e1 MG.rf⟩⟩))⟩)⟩)
        · have a2 : ¬ c = 0 → c = 1 := fun z3 => by
            obtain ⟨j, hj, rfl⟩ := nI_of2 (x := c) (M := 1) (n := 1) (by decide) (Int32.not_lt.mpr z1) z2
            have : j = 0 ∨ j = 1 := by omega
            rcases this with e | e <;> subst e
            · exact absurd rfl z3
            · rfl
          have hw2 := hw1.eq e2.1
          have m2 := m1.mg e2 (fun x hx => by simp at hx; omega)
          refine m_laysGentle hw2 g m2.l hx.1 hF v2 (fun h3 L e3 v3 M => ⟨rfl, e3.2, ?_⟩)
          have e4 : MG [82, 131, 132, 135, 136] h1 h3 := ⟨(e2.1.tr e3).mono (fun x hx => by simp at hx ⊢; omega), fun j hj => by rw [(e3.1 82 (by decide)).1]; exact e2.2.1 j hj, by rw [(e3.1 82 (by decide)).2]; exact e2.2.2⟩
          have hw3 := hw2.eq e3
          have m3 := m1.mg e4 (fun x hx => by simp at hx; omega)
          have f3 := fin h1 h3 e1 e4
          refine m_cellOf hw3 m3 hj ⟨_, rfl, rfl, vp_in_nI (by omega) (by decide), ?_⟩
          have lx := M.1.1 (fc F j) c0
          have z6 : nI (L (fc F j)) < 1000000 ↔ L (fc F j) < 1000000 := nI_ltI (b := 1000000) (by omega) (by decide)
          rw [nI_clamp (by omega), v3 _ c0, z6]
          refine ⟨fun z => m_trustOf hw3 m3 hj ⟨_, rfl, rfl, ?_⟩, fun z => ⟨_, rfl, q0 (fun t k q => ?_), f3⟩⟩
          · obtain ⟨y1, y2⟩ := M.1.2.2 _ c0 z
            obtain ⟨r1, r2⟩ := q1 _ y1 y2 (fun t k q => M.cm k _ c0 q)
            rw [m3.l.Q]
            refine ⟨fun z3 => ⟨fun z4 => ⟨nI_ne0 (by omega) (by omega), _, rfl, ?_, f3⟩, fun z4 => ⟨_, rfl, ?_, f3⟩⟩, fun z3 => ⟨_, rfl, r1 z3, f3⟩⟩
            · rw [r2 (a2 z3), if_neg (Int32.not_le.mpr z4)]
            · rw [r2 (a2 z3), if_pos (Int32.not_lt.mp z4)]
          · have := M.cm k _ c0 q
            omega
        · refine qn (fun e => z ?_) (fun e => z ?_) <;> subst e <;> decide
      refine eX11_gentle (d := 899) hw (c_isBoat_y hw k.g k.l hj ⟨_, rfl, rfl, bN (by decide) (c_isWater_y hw k.g k.l hx ⟨_, rfl, rfl, bN' (by decide) (c_gentlest hw k hj hx hF (fun h1 X e1 X9 ex le => ⟨_, rfl, e1.2, ?_⟩) (fun h1 e1 no => ⟨_, rfl, e1.2, ?_⟩))⟩)⟩)
      · have hw1 := hw.eq e1
        have k1 : KC A F T lk h1 := k.eq hw e1 (fun x hx => by simp at hx; omega)
        have un : ∀ X', (∃ k, rch A f X' k (fc F j) x) → (∀ t k, rch A f t k (fc F j) x → X' ≤ t) → X' = X := fun X' ⟨k', r'⟩ le' => by
          obtain ⟨k, r⟩ := ex
          have := le X' k' r'
          have := le' X k r
          omega
        have hn : (∀ t k, rch A f t k (fc F j) x → 1000 ≤ t) → False := fun q => by
          obtain ⟨k, r⟩ := ex
          have := q X k r
          omega
        refine bN' (i_nm1 (by omega)) ⟨fun y => ⟨_, rfl, mdl _ h1 e1 (fun q => absurd y q) (fun q => (hn q).elim) (fun X' _ ex' le' => ?_)⟩, fun y => ?_, fun y y2 => ⟨_, rfl, mdl _ h1 e1 (fun _ _ => rfl) (fun q => (hn q).elim) (fun X' _ ex' le' => ⟨fun q => absurd q y, fun q => absurd q y2⟩)⟩⟩
        · rw [un X' ex' le']
          exact ⟨fun _ => rfl, fun q => absurd (y.symm.trans q) (by decide)⟩
        · have mm : ∀ v : Int32, (v = if nI X - nI (ft F j) ≤ 0 then 0 else (nI X - nI (ft F j) + nI (qQ A) - 1) / nI (qQ A)) → gC l G 900 MX12_gentle [.ref 82, .int (nI j), .int (nI x), .int c] h1 (fun r h' => ∃ v'', r = some (.int v'') ∧ v = v'' ∧ gInv Rst (n9 + 1) h') := fun v hv => mdl _ h1 e1 (fun _ q => absurd y q) (fun q => (hn q).elim) (fun X' _ ex' le' => by
            rw [un X' ex' le']
            exact ⟨fun q => absurd (q.symm.trans y) (by decide), fun _ => hv⟩)
          refine eX9_coinsUpTo (d := 898) hw1 (c_trustOf hw1 k1 hj ⟨_, rfl, rfl, fun z => ⟨_, rfl, rfl, _, rfl, mm _ ?_⟩, fun z => ?_⟩)
          · rw [if_pos z]
          · rw [k1.l.Q]
            refine bY (nI_le (a := 1) (by omega) (by omega)) ⟨nI_ne0 (by omega) (by omega), _, rfl, rfl, _, rfl, mm _ ?_⟩
            rw [if_neg z]
      · refine bY' rfl ⟨_, rfl, mdl _ h1 e1 (fun _ _ => rfl) (fun _ => rfl) (fun X' X9 ⟨k', r'⟩ le' => ?_)⟩
        have := no X' k' r'
        omega
    · refine eX11_gentle (d := 899) hw (c_isBoat_y hw k.g k.l hj ⟨_, rfl, rfl, bN (by decide) (c_isWater_n hw k.g k.l hb ⟨_, rfl, rfl, bY' rfl ⟨_, rfl, ?_⟩⟩)⟩)
      exact eX12_gentle (d := 899) hw (m_isBoat_y hw m.g m.l hj ⟨_, rfl, rfl, bN (by decide) (m_isWater_n hw m.g m.l hb ⟨_, rfl, rfl, bY rfl ⟨_, rfl, rfl, hm⟩⟩)⟩)
  · refine eX11_gentle (d := 899) hw (c_isBoat_n hw k.g k.l hb ⟨_, rfl, rfl, bY rfl ⟨_, rfl, ?_⟩⟩)
    exact eX12_gentle (d := 899) hw (m_isBoat_n hw m.g m.l hb ⟨_, rfl, rfl, bY rfl ⟨_, rfl, rfl, hm⟩⟩)
end GT2
