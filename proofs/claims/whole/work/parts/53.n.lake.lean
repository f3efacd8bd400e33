def Lz : qL := (A0, [], fun _ => 0)
section CL
variable {l : Launch} {G : gG} {d : Nat} {Q : Option Value → gH → Prop} {h h1 h2 : gH} {lk sp : Nat} {cd : Option Nat} {t : Nat → Nat} {n s i f q c b w z : Nat} {u : Bool} {L : qL}
theorem i_abs {a b : Nat} (ha : a < 2 ^ 30) (hb : b < 2 ^ 30) : (if 0 ≤ nI a - nI b then nI a - nI b else 0 - (nI a - nI b)) = nI (adf a b) := by
  unfold adf
  rcases Nat.lt_or_ge a b with z | z
  · rw [if_neg (Int32.not_le.mpr (pk_sneg hb z)), show 0 - (nI a - nI b) = nI b - nI a by grind, pk_sub (by omega), show a - b + (b - a) = b - a by omega]
  · rw [pk_sub z, if_pos (nI_pos' (by omega)), show a - b + (b - a) = a - b by omega]
theorem c_cellsB (hw : gWf h lk sp cd) (hb : b = 30 ∨ b = 67) (lc : LCp L c b h) (g : qG L.1) (hq : Q (some (.int (nI (qN L.1)))) h) : gC l G (d + 1) MX4_cells [.ref b] h Q := by
  have := g.N48
  refine eX4_cells hw hb ?_
  rw [lc.1, lc.2.1, pk_mul]
  show Q (some (.int (if nI (qN L.1) < 48 then nI (qN L.1) else 48))) h
  by_cases y : qN L.1 = 48
  · rw [y]; rw [y] at hq; exact hq
  · have l48 : nI (qN L.1) < 48 := nI_lt (b := 48) (by omega) (by decide)
    rw [if_pos l48]; exact hq
theorem c_harbB {j : Nat} (hw : gWf h lk sp cd) (hb : b = 30 ∨ b = 67) (lc : LCp L c b h) (g : qG L.1) (hj : j < qN L.1) (hy : qkd L.1 j = 0 → Q (some (.int 1)) h) (hn : qkd L.1 j ≠ 0 → Q (some (.int 0)) h) : gC l G (d + 1) MX4_isHarbour [.ref b, .int (nI j)] h Q := by
  have N48 := g.N48
  refine eX4_isHarbour hw hb (eX4_isCell hw hb (bN (nI_pos (by omega)) (bN (nI_ge (b := 48) (by omega) (by decide)) (bN ?_ ⟨_, rfl, rfl, bN (by decide) ⟨vp_in_nI (by omega) (by decide), ?_⟩⟩))))
  · rw [lc.1, lc.2.1, pk_mul]
    show ¬ nI (qN L.1) ≤ _
    exact nI_ge hj (by omega)
  · have kb := g.2.2.2.2.2.2.1 _ hj
    have kz : nI (qkd L.1 j) = 0 ↔ qkd L.1 j = 0 := nI_eq (b := 0) (by omega) (by decide)
    rw [nI_clamp (by omega), lc.2.2.2.2.2.2.2.1 _ hj, kz]
    exact ⟨hn, hy⟩
theorem c_apartB {a a' : Nat} (hw : gWf h lk sp cd) (hb : b = 30 ∨ b = 67) (lc : LCp L c b h) (g : qG L.1) (ha : a < qN L.1) (ha' : a' < qN L.1) (hq : Q (some (.int (nI (qds L.1 a a')))) h) : gC l G (d + 1) MX4_apart [.ref b, .int (nI a), .int (nI a')] h Q := by
  have N48 := g.N48
  have C8 := g.C8
  obtain ⟨r1, r2, r3⟩ := qrow g ha
  obtain ⟨s1, s2, s3⟩ := qrow g ha'
  have R6 := g.R6
  have n0 : ¬ nI (qC L.1) = 0 := fun y => by
    have : qC L.1 = 0 := (nI_eq (b := 0) (by omega) (by decide)).mp y
    omega
  have E : ((if 0 ≤ ((nI a - nI a / nI (qC L.1) * nI (qC L.1)) - (nI a' - nI a' / nI (qC L.1) * nI (qC L.1))) then ((nI a - nI a / nI (qC L.1) * nI (qC L.1)) - (nI a' - nI a' / nI (qC L.1) * nI (qC L.1))) else 0 - ((nI a - nI a / nI (qC L.1) * nI (qC L.1)) - (nI a' - nI a' / nI (qC L.1) * nI (qC L.1)))) + (if 0 ≤ ((nI a / nI (qC L.1)) - (nI a' / nI (qC L.1))) then ((nI a / nI (qC L.1)) - (nI a' / nI (qC L.1))) else 0 - ((nI a / nI (qC L.1)) - (nI a' / nI (qC L.1))))) = nI (qds L.1 a a') := by
    rw [pk_rem (by omega) r3 (by omega), pk_rem (by omega) r3 (by omega), pk_div (by omega) r3 (by omega), pk_div (by omega) r3 (by omega), i_abs (by omega) (by omega), i_abs (by omega) (by omega), nI_add]
    rfl
  have le1 : (1 : Int32) ≤ nI (qC L.1) := nI_le (a := 1) (by omega) (by omega)
  apply eX4_apart (b := b) (a1 := nI a) (a2 := nI a') hw hb
  rw [lc.1]
  exact bY le1 ⟨n0, n0, n0, n0, by rw [E]; exact hq⟩
theorem qhm_99 {A : qT} {x : Nat} : ∀ k, qhm A x k ≤ 99
  | 0 => Nat.le_refl _
  | k + 1 => by
    have := qhm_99 (A := A) (x := x) k
    show (if qkd A k = 0 ∧ qds A k x < qhm A x k then qds A k x else qhm A x k) ≤ 99
    split <;> omega
/-- how far each cell is from a harbour -/
theorem c_measure (hw : gWf h lk sp cd) (hb : b = 30 ∨ b = 67) (lc : LCp L c b h) (g : qG L.1) (hq : ∀ h', gEq [b + 2] h h' → (∀ x, x < qN L.1 → h'.1 (b + 2) x = nI (qhm L.1 x (qN L.1))) → Q none h') : gC l G (d + 2) MX4_measureHomes [.ref b] h Q := by
  have N48 := g.N48
  refine eX4_measureHomes hw hb (fun p e s m args below meth cc => ?_)
  have LC' : ∀ h', gEq [b + 2] h h' → LCp L c b h' := fun h' e' => lc.eq (fun j _ j2 => (e'.1 _ (by simp; omega)).1)
  have H20 : ∀ x, x < qN L.1 → (∀ h', gEq [b + 2] h h' → (∀ y, y < x + 1 → h'.1 (b + 2) y = nI (qhm L.1 y (qN L.1))) → gg p l e s m args below meth cc G (d + 2) MX4_measureHomes Q 2 [some (.ref b), some (.int (nI (x + 1))), none] [] h') → ∀ r j h', j + r = qN L.1 → gEq [b + 2] h h' → (∀ y, y < x → h'.1 (b + 2) y = nI (qhm L.1 y (qN L.1))) → h'.1 (b + 2) x = nI (qhm L.1 x j) → gg p l e s m args below meth cc G (d + 2) MX4_measureHomes Q 20 [some (.ref b), some (.int (nI x)), some (.int (nI j))] [] h' := by
    intro x hx go r
    induction r with
    | zero =>
      intro j h' hj e1 a1 a2
      have hw1 := hw.eq e1
      have : j = qN L.1 := by omega
      subst this
      refine wX4_measureHomes_20 hw1.1 hw1.2.1 hw1.2.2.1 hb (c_cellsB hw1 hb (LC' h' e1) g ⟨_, rfl, rfl, bY (nI_le (Nat.le_refl _) (by omega)) ?_⟩)
      rw [nI_1]
      refine go h' e1 (fun y hy => ?_)
      by_cases z : y = x
      · rw [z]; exact a2
      · exact a1 y (by omega)
    | succ r ih =>
      intro j h' hj e1 a1 a2
      have hw1 := hw.eq e1
      have lc1 := LC' h' e1
      have b1 := qhm_99 (A := L.1) (x := x) j
      have b2 := qds_lt g hx (show j < qN L.1 by omega)
      refine wX4_measureHomes_20 hw1.1 hw1.2.1 hw1.2.2.1 hb (c_cellsB hw1 hb lc1 g ⟨_, rfl, rfl, bN (nI_ge (by omega) (by omega)) (c_harbB hw1 hb lc1 g (by omega) (fun k0 => ⟨_, rfl, rfl, bN (by decide) ⟨vp_in_nI (by omega) (by decide), c_apartB hw1 hb lc1 g hx (by omega) ⟨_, rfl, rfl, vp_in_nI (by omega) (by decide), ?_⟩⟩⟩) (fun k0 => ⟨_, rfl, rfl, bY rfl ?_⟩))⟩)
      · rw [nI_1, nI_clamp (by omega), a2]
        refine ih (j + 1) _ (by omega) (gE1 (by simp) e1) (fun y hy => by rw [sI_nb (by omega)]; exact a1 y hy) ?_
        rw [sI_s]
        show _ = nI (if qkd L.1 j = 0 ∧ qds L.1 j x < qhm L.1 x j then qds L.1 j x else qhm L.1 x j)
        have lt : nI (qds L.1 x j) < nI (qhm L.1 x j) ↔ qds L.1 x j < qhm L.1 x j := nI_ltI (by omega) (by omega)
        rw [qds_sym (a := j) (c := x)]
        by_cases y : qds L.1 x j < qhm L.1 x j
        · rw [if_pos (lt.mpr y), if_pos ⟨k0, y⟩]
        · rw [if_neg (fun z => y (lt.mp z)), if_neg (fun z => y z.2)]
      · rw [nI_1]
        refine ih (j + 1) _ (by omega) e1 a1 ?_
        rw [a2]
        show _ = nI (if qkd L.1 j = 0 ∧ qds L.1 j x < qhm L.1 x j then qds L.1 j x else qhm L.1 x j)
        rw [if_neg (fun z => k0 z.1)]
  have H2 : ∀ r x h', x + r = qN L.1 → gEq [b + 2] h h' → (∀ y, y < x → h'.1 (b + 2) y = nI (qhm L.1 y (qN L.1))) → gg p l e s m args below meth cc G (d + 2) MX4_measureHomes Q 2 [some (.ref b), some (.int (nI x)), none] [] h' := by
    intro r
    induction r with
    | zero =>
      intro x h' hx e1 a1
      have hw1 := hw.eq e1
      exact wX4_measureHomes_2 hw1.1 hw1.2.1 hw1.2.2.1 hb (c_cellsB hw1 hb (LC' h' e1) g ⟨_, rfl, rfl, bY (nI_le (by omega) (by omega)) (hq h' e1 (fun y hy => a1 y (by omega)))⟩)
    | succ r ih =>
      intro x h' hx e1 a1
      have hw1 := hw.eq e1
      refine wX4_measureHomes_2 hw1.1 hw1.2.1 hw1.2.2.1 hb (c_cellsB hw1 hb (LC' h' e1) g ⟨_, rfl, rfl, bN (nI_ge (by omega) (by omega)) ⟨vp_in_nI (by omega) (by decide), ?_⟩⟩)
      rw [nI_clamp (by omega)]
      exact H20 x (by omega) (fun h'' e2 a2 => ih (x + 1) h'' (by omega) e2 a2) (qN L.1) 0 _ (by omega) (gE1 (by simp) e1) (fun y hy => by rw [sI_nb (by omega)]; exact a1 y hy) (sI_s _ _ _ _)
  exact H2 (qN L.1) 0 h (by omega) (gEq.rf _ _) (fun _ z => absurd z (Nat.not_lt_zero _))
/-- a lake that tells nothing yet -/
theorem c_clear (hw : gWf h lk sp cd) (hb : b = 30 ∨ b = 67) (hq : ∀ h', gEq [b, b + 8, b + 11, b + 13, b + 14] h h' → LCp Lz 0 b h' → Q none h') : gC l G (d + 2) MX4_clear [.ref b] h Q := by
  have s8 : gSH[b + 8]? = some (20, 36) := by rcases hb with rfl | rfl <;> rfl
  have s13 : gSH[b + 11 + 2]? = some (20, 3) := by rcases hb with rfl | rfl <;> rfl
  have s14 : gSH[b + 11 + 3]? = some (20, 3) := by rcases hb with rfl | rfl <;> rfl
  have E0 : gEq [b, b + 8, b + 11, b + 13, b + 14] h (sI (sI (sI (sI (sI (sI (sI h b 11 0) b 12 0) b 13 0) b 14 0) b 15 0) b 16 5) b 17 0) := gE1 (by simp) (gE1 (by simp) (gE1 (by simp) (gE1 (by simp) (gE1 (by simp) (gE1 (by simp) (gE1 (by simp) (gEq.rf _ _)))))))
  have hw0 := hw.eq E0
  have E1 := gE1 (k := b + 11) (i := 3) (x := 0) (by simp) E0
  have hw1 := hw.eq E1
  refine eX4_clear hw hb (eX0_clear hw0 (by omega) (c_fill hw1 s13 (by decide) (fun h2 e2 a2 => ⟨rfl, e2.2, c_fill (hw1.eq e2) s14 (by decide) (fun h3 e3 a3 => ⟨rfl, e3.2, rfl, ?_, c_fill ((hw1.eq e2).eq e3) s8 (by decide) (fun h4 e4 a4 => ⟨rfl, e4.2, ?_⟩)⟩)⟩)))
  · rw [e3.2, e2.2]
    rfl
  · have O : ∀ a, a ≠ b + 8 → a ≠ b + 13 → a ≠ b + 14 → h4.1 a = (sI (sI (sI (sI (sI (sI (sI (sI h b 11 0) b 12 0) b 13 0) b 14 0) b 15 0) b 16 5) b 17 0) (b + 11) 3 0).1 a := fun a x1 x2 x3 => by
      rw [(e4.1 a (by simpa using x1)).1, (e3.1 a (by simpa using x3)).1, (e2.1 a (by simpa using x2)).1]
    refine hq h4 (((E1.tr e2).tr e3).tr e4 |>.mono (fun x hx => by simp at hx ⊢; omega)) ⟨?_, ?_, ?_, ?_, ?_, ?_, ?_, fun x hx => ?_, fun x hx => ?_, fun x hx => ?_, fun x hx => ?_, fun x hx => ?_, ⟨?_, fun i hi => absurd hi (Nat.not_lt_zero _)⟩, fun x hx => ?_⟩
    · rw [O b (by omega) (by omega) (by omega), sI_ne (by omega), sI_nb (by decide), sI_nb (by decide), sI_nb (by decide), sI_nb (by decide), sI_nb (by decide), sI_nb (by decide), sI_s]; rfl
    · rw [O b (by omega) (by omega) (by omega), sI_ne (by omega), sI_nb (by decide), sI_nb (by decide), sI_nb (by decide), sI_nb (by decide), sI_nb (by decide), sI_s]; rfl
    · rw [O b (by omega) (by omega) (by omega), sI_ne (by omega), sI_nb (by decide), sI_nb (by decide), sI_nb (by decide), sI_nb (by decide), sI_s]; rfl
    · rw [O b (by omega) (by omega) (by omega), sI_ne (by omega), sI_nb (by decide), sI_nb (by decide), sI_nb (by decide), sI_s]; rfl
    · rw [O b (by omega) (by omega) (by omega), sI_ne (by omega), sI_nb (by decide), sI_nb (by decide), sI_s]; rfl
    · rw [O b (by omega) (by omega) (by omega), sI_ne (by omega), sI_nb (by decide), sI_s]; rfl
    · rw [O b (by omega) (by omega) (by omega), sI_ne (by omega), sI_s]; rfl
    · exact absurd hx (Nat.not_lt_zero _)
    · exact absurd hx (Nat.not_lt_zero _)
    · exact absurd hx (Nat.not_lt_zero _)
    · rw [a4 x hx]; rfl
    · exact absurd hx (Nat.not_lt_zero _)
    · rw [O (b + 11) (by omega) (by omega) (by omega), sI_s]; rfl
    · rw [(e4.1 (b + 13) (by simp)).1, (e3.1 (b + 13) (by simp)).1, (e4.1 (b + 14) (by simp)).1]
      exact ⟨a2 x hx, a3 x hx⟩
end CL
