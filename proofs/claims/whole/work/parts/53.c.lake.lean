/-- of the class nothing has changed but its reader and the lake at b -/
def CKx (b : Nat) (h h' : gH) : Prop := gEq [1, b, b + 1, b + 3, b + 4, b + 5, b + 6, b + 7, b + 8, b + 9, b + 10] h h' ∧ h'.1 1 2 = h.1 1 2
def CKs (b : Nat) (h h' : gH) : Prop := CKx b h h' ∧ h'.1 1 8 = h.1 1 8 ∧ h'.1 1 9 = h.1 1 9
def CKf (b f q : Nat) (h h' : gH) : Prop := CKx b h h' ∧ h'.1 1 8 = nI f ∧ h'.1 1 9 = nI q
def kch (j : Nat) : Nat := [104, 115, 100, 119, 108].getD j 0
theorem kch_l : ∀ j, j < 5 → gLet (nI j) = nI (kch j) := by decide
theorem kch_k : ∀ j, j < 5 → kdl (kch j) = j + 1 ∧ kch j < 256 := by decide
theorem kdl_0 {x : Nat} (h : ∀ j, j < 5 → kch j ≠ x) : kdl x = 0 := by
  unfold kdl
  have h0 := h 0 (by decide)
  have h1 := h 1 (by decide)
  have h2 := h 2 (by decide)
  have h3 := h 3 (by decide)
  have h4 := h 4 (by decide)
  simp only [kch, List.getD_cons_zero, List.getD_cons_succ] at h0 h1 h2 h3 h4
  rw [if_neg (by omega), if_neg (by omega), if_neg (by omega), if_neg (by omega), if_neg (by omega)]
section CK
variable {l : Launch} {G : gG} {d : Nat} {Q : Option Value → gH → Prop} {h h1 h2 : gH} {lk sp : Nat} {cd : Option Nat} {t : Nat → Nat} {n s i f q c b w : Nat} {u : Bool} {L : qL}
theorem CKx.rf : CKx b h h := ⟨gEq.rf _ _, rfl⟩
theorem CKs.rf : CKs b h h := ⟨CKx.rf, rfl, rfl⟩
theorem CKx.tr (a : CKx b h h1) (e : CKx b h1 h2) : CKx b h h2 := ⟨(a.1.tr e.1).mono (fun x hx => by rcases List.mem_append.mp hx with z | z <;> exact z), e.2.trans a.2⟩
theorem CKs.tr (a : CKs b h h1) (e : CKs b h1 h2) : CKs b h h2 := ⟨a.1.tr e.1, e.2.1.trans a.2.1, e.2.2.trans a.2.2⟩
theorem CKs.fl (a : CKs b h h1) (e : CKf b f q h1 h2) : CKf b f q h h2 := ⟨a.1.tr e.1, e.2.1, e.2.2⟩
theorem CLx.ck (a : CLx h h1) : CKs b h h1 := ⟨⟨a.1.mono (fun x hx => by rw [List.mem_singleton] at hx; rw [hx]; exact List.mem_cons_self), a.2.1⟩, a.2.2.1, a.2.2.2⟩
theorem CFl.ck (a : CFl f q h h1) : CKf b f q h h1 := ⟨⟨a.1.mono (fun x hx => by rw [List.mem_singleton] at hx; rw [hx]; exact List.mem_cons_self), a.2.1⟩, a.2.2.1, a.2.2.2⟩
theorem CKs.si {k j : Nat} {x : Int32} (a : CKs b h h1) (hb : b = 30 ∨ b = 67) (hk : k ∈ [b, b + 1, b + 3, b + 4, b + 5, b + 6, b + 7, b + 8, b + 9, b + 10]) : CKs b h (sI h1 k j x) := by
  have k1 : 1 ≠ k := fun z => by
    rw [← z] at hk
    simp at hk
    omega
  refine ⟨⟨gE1 (List.mem_cons_of_mem _ hk) a.1.1, ?_⟩, ?_, ?_⟩
  · rw [sI_na k1]; exact a.1.2
  · rw [sI_na k1]; exact a.2.1
  · rw [sI_na k1]; exact a.2.2
theorem CKs.tp (hb : b = 30 ∨ b = 67) (a : CKs b h h1) (tp : TPc t n h) : TPc t n h1 := by
  have e2 := (a.1.1.1 2 (by simp; omega)).1
  have e3 := (a.1.1.1 3 (by simp; omega)).1
  exact ⟨by rw [a.1.2]; exact tp.1, fun i hi => by rw [e2]; exact tp.2.1 i hi, fun i hi => by rw [e3]; exact tp.2.2 i hi⟩
theorem CTk.c1 (k : CTk t n s u h) (e : h1.1 1 = h.1 1) : CTk t n s u h1 := by
  unfold CTk at k ⊢
  rw [e]
  exact k
theorem LCp.eq (E : ∀ j, j < 15 → j ≠ 2 → h1.1 (b + j) = h.1 (b + j)) (k : LCp L c b h) : LCp L c b h1 := by
  unfold LCp CDs at k ⊢
  rw [show h1.1 b = h.1 b from E 0 (by decide) (by decide), E 1 (by decide) (by decide), E 3 (by decide) (by decide), E 4 (by decide) (by decide), E 5 (by decide) (by decide), E 6 (by decide) (by decide), E 7 (by decide) (by decide), E 8 (by decide) (by decide), E 9 (by decide) (by decide), E 10 (by decide) (by decide), E 11 (by decide) (by decide), show h1.1 (b + 11 + 1) = h.1 (b + 11 + 1) from E 12 (by decide) (by decide), E 13 (by decide) (by decide), E 14 (by decide) (by decide)]
  exact k
theorem LCp.cl (hb : b = 30 ∨ b = 67) (k : LCp L c b h) (e : gEq [1] h h1) : LCp L c b h1 := k.eq (fun j _ _ => (e.1 _ (by simp; omega)).1)
theorem c_kind {x : Nat} (hw : gWf h lk sp cd) (hx : x < 256) (hq : Q (some (.int (nI (kdl x) - 1))) h) : gC l G (d + 4) MX7_kindOf [.int (nI x)] h Q := by
  refine eX7_kindOf hw (fun p e s m args below meth cc => ?_)
  have H : ∀ r j, j + r = 5 → (∀ j', j' < j → kch j' ≠ x) → gg p l e s m args below meth cc G (d + 4) MX7_kindOf Q 2 [some (.int (nI x)), some (.int (nI j))] [] h := by
    intro r
    induction r with
    | zero =>
      intro j hj a
      have : j = 5 := by omega
      subst this
      refine wX7_kindOf_2 hw.1 hw.2.1 hw.2.2.1 (bY (by decide) ?_)
      rw [kdl_0 a] at hq
      exact hq
    | succ r ih =>
      intro j hj a
      have kb := kch_k j (by omega)
      refine wX7_kindOf_2 hw.1 hw.2.1 hw.2.2.1 (bN (nI_ge (b := 5) (by omega) (by decide)) ⟨vp_in_nI (by omega) (by decide), ?_⟩)
      rw [kch_l j (by omega), nI_eq (by omega) (by omega), nI_1]
      refine ⟨fun z => ih (j + 1) (by omega) (fun j' hj' => ?_), fun z => ?_⟩
      · by_cases y : j' = j
        · rw [y]; exact z
        · exact a j' (by omega)
      · rw [← z, kb.1, i_s1] at hq
        exact hq
  exact H 5 0 rfl (fun _ z => absurd z (Nat.not_lt_zero _))
theorem c_find {k m : Nat} {v : Int32} (hw : gWf h lk sp cd) (hs : gSH[w]? = some (20, m)) (hk : k ≤ m) (hm : m < 2 ^ 20) (hy : ∀ j, j < k → h.1 w j = v → (∀ j', j' < j → h.1 w j' ≠ v) → Q (some (.int (nI j))) h) (hn : (∀ j, j < k → h.1 w j ≠ v) → Q (some (.int (-1))) h) : gC l G d MX7_find [.ref w, .int (nI k), .int v] h Q := by
  refine eX7_find hw hs (fun p e s m9 args below meth cc => ?_)
  have H : ∀ r j, j + r = k → (∀ j', j' < j → h.1 w j' ≠ v) → gg p l e s m9 args below meth cc G d MX7_find Q 2 [some (.ref w), some (.int (nI k)), some (.int v), some (.int (nI j))] [] h := by
    intro r
    induction r with
    | zero =>
      intro j hj a
      have : j = k := by omega
      subst this
      exact wX7_find_2 hw.1 hw.2.1 hw.2.2.1 hs (bY (nI_le (Nat.le_refl _) (by omega)) (hn a))
    | succ r ih =>
      intro j hj a
      refine wX7_find_2 hw.1 hw.2.1 hw.2.2.1 hs (bN (nI_ge (by omega) (by omega)) (bN (nI_ge (b := m) (by omega) (by omega)) ⟨vp_in_nI (by omega) (by omega), ?_⟩))
      rw [nI_clamp (by omega), nI_1]
      refine ⟨fun z => ih (j + 1) (by omega) (fun j' hj' => ?_), fun z => hy j (by omega) z a⟩
      by_cases y : j' = j
      · rw [y]; exact z
      · exact a j' (by omega)
  exact H k 0 (by omega) (fun _ z => absurd z (Nat.not_lt_zero _))
end CK
