def mst (X Y f : Nat) : Nat := max (Y - max X f) ((Y - X) - (Y - max X f))
def nxt (A : qT) (fr : Nat → Nat) (X Y : Nat) : Nat → Nat × Nat
  | 0 => (0, 0)
  | c + 1 => if qkd A c = 4 ∨ ¬ X < Y then nxt A fr X Y c else if (nxt A fr X Y c).1 = 0 ∨ mst X Y (fr c) + 1 < (nxt A fr X Y c).2 then (c + 1, mst X Y (fr c) + 1) else nxt A fr X Y c
section NX
variable {l : Launch} {G : gG} {d : Nat} {Q : Option Value → gH → Prop} {h h0 : gH} {lk sp : Nat} {cd : Option Nat} {A F : qT} {T n b X Y : Nat} {fr : Nat → Nat}
theorem mst_le (hY : Y ≤ 100) {f : Nat} : mst X Y f ≤ 100 := by unfold mst; omega
theorem nxt_p (hY : Y ≤ 100) : ∀ c, ((nxt A fr X Y c).1 = 0 ↔ (nxt A fr X Y c).2 = 0) ∧ (nxt A fr X Y c).1 ≤ c ∧ (nxt A fr X Y c).2 ≤ 101
  | 0 => ⟨Iff.rfl, Nat.le_refl _, Nat.zero_le _⟩
  | c + 1 => by
    obtain ⟨h1, h2, h3⟩ := nxt_p hY c
    have hm := mst_le (X := X) hY (f := fr c)
    unfold nxt
    split
    · exact ⟨h1, by omega, h3⟩
    · split
      · exact ⟨⟨fun q => by simp at q, fun q => by simp at q⟩, Nat.le_refl _, by show mst X Y (fr c) + 1 ≤ 101; omega⟩
      · exact ⟨h1, by omega, h3⟩
theorem i_cnt {Y M : Nat} (hY : Y ≤ 100) (hM : M ≤ 99) : (if 0 < nI Y - 1 - nI M + 1 then nI Y - 1 - nI M + 1 else 0) = nI (Y - M) ∧ (M ≤ Y → nI Y - 1 - nI M + 1 = nI (Y - M)) := by
  have ev : nI Y - 1 - nI M + 1 = iI ((Y : Int) - M) := by
    rw [iI_nat (show Y < 2 ^ 31 by omega), iI_nat (show M < 2 ^ 31 by omega), show (1 : Int32) = iI 1 by decide, iI_sub, iI_sub]
    refine Int32.toInt_inj.mp ?_
    rw [show iI ((Y : Int) - 1 - M) + iI 1 = iI ((Y : Int) - 1 - M + 1) from (Int32.ofInt_add _ _).symm, show (Y : Int) - 1 - M + 1 = Y - M by omega]
  rw [ev, show (0 : Int32) = iI 0 by decide]
  refine ⟨?_, fun z => ?_⟩
  · by_cases z : M < Y
    · rw [if_pos ((iI_lt (by omega) (by omega) (by omega) (by omega)).mpr (by omega)), iI_nat (by omega)]
      congr 1
      omega
    · rw [if_neg (mt (iI_lt (by omega) (by omega) (by omega) (by omega)).mp (by omega)), show Y - M = 0 by omega]
      decide
  · rw [iI_nat (by omega)]
    congr 1
    omega
theorem c_findNext (hw : gWf h lk sp cd) (k : KC A F T lk h) (hb : b < qB A) (h3 : h.1 58 3 = nI b) (h5 : h.1 58 5 = nI X) (h6 : h.1 58 6 = nI Y - 1) (hX : X ≤ 99) (hY : Y ≤ 100) (hXY : X < Y) (hq : ∀ h', CT8 h h' → h'.1 58 7 = nI (nxt A (fun c => fer A F b c 0) X Y (qN A)).2 - 1 → Q (some (.int (nI (nxt A (fun c => fer A F b c 0) X Y (qN A)).1 - 1))) h') : gC l G (d + 5) MX8_findNext [.ref 58] h Q := by
  have h48 := k.g.N48
  have fl : ∀ c, fer A F b c 0 ≤ 99 := fun i => fer_le k.g
  have np := nxt_p (A := A) (fr := fun c => fer A F b c 0) (X := X) hY
  refine eX8_findNext hw (fun p e s m args below meth cc => ?_)
  rw [h5, h6, (i_cnt hY hX).2 (by omega)]
  suffices H : ∀ r c h', c + r = qN A → CT8 h h' → h'.1 58 5 = nI X → h'.1 58 6 = nI Y - 1 → h'.1 58 7 = nI (nxt A (fun c => fer A F b c 0) X Y c).2 - 1 → gg p l e s m args below meth cc G (d + 4 + 1) MX8_findNext Q 21 [some (.ref 58), some (.int (nI (nxt A (fun c => fer A F b c 0) X Y c).1 - 1)), some (.int (nI (Y - X))), some (.int (nI c)), none, none, none] [] h' from H (qN A) 0 _ (by omega) ⟨gE1 (by decide) (gEq.rf _ _), fun j hj => sI_nb (by omega)⟩ (by rw [sI_nb (by decide)]; exact h5) (by rw [sI_nb (by decide)]; exact h6) (sI_s _ _ _ _)
  intro r
  induction r with
  | zero =>
    intro c h' hc e1 v5 v6 v7
    have : c = qN A := by omega
    subst this
    have hwh := hw.eq e1.1
    have k1 : KC A F T lk h' := k.eq hw e1.1 (fun x hx => by simp at hx; omega)
    exact wX8_findNext_21 hwh.1 hwh.2.1 hwh.2.2.1 (c_cells hwh k.g k1.l ⟨_, rfl, rfl, bY (Int32.le_refl _) (hq h' e1 v7)⟩)
  | succ r ih =>
    intro c h' hc e1 v5 v6 v7
    have hwh := hw.eq e1.1
    have k1 : KC A F T lk h' := k.eq hw e1.1 (fun x hx => by simp at hx; omega)
    obtain ⟨n1, n2, n3⟩ := np c
    have lf := fl c
    have es : nxt A (fun c => fer A F b c 0) X Y (c + 1) = if qkd A c = 4 ∨ ¬ X < Y then nxt A (fun c => fer A F b c 0) X Y c else if (nxt A (fun c => fer A F b c 0) X Y c).1 = 0 ∨ mst X Y (fer A F b c 0) + 1 < (nxt A (fun c => fer A F b c 0) X Y c).2 then (c + 1, mst X Y (fer A F b c 0) + 1) else nxt A (fun c => fer A F b c 0) X Y c := rfl
    have hml := mst_le (X := X) hY (f := fer A F b c 0)
    have ih := ih (c + 1)
    rw [es] at ih
    generalize nxt A (fun c => fer A F b c 0) X Y c = N at *
    refine wX8_findNext_21 hwh.1 hwh.2.1 hwh.2.2.1 (c_cells hwh k.g k1.l ⟨_, rfl, rfl, bN (nI_ge (by omega) (by omega)) (c_isLand hwh k.g k1.l (by omega) (fun z => ⟨_, rfl, rfl, bN (by decide) ?_⟩) (fun z => ⟨_, rfl, rfl, bY rfl ?_⟩))⟩)
    · rw [if_pos (Or.inl z)] at ih
      rw [nI_1]
      exact ih h' (by omega) e1 v5 v6 v7
    · rw [if_neg (fun q => q.elim z (fun q => q hXY))] at ih
      rw [e1.2 3 (by decide), h3]
      refine c_fearOf (bo := 0) hwh k1 hb (by omega) (by decide) (fun h2 e2 => ⟨_, rfl, e2.2, ?_⟩)
      have c58 := (e2.1 58 (by decide)).1
      have e3 : CT8 h h2 := ⟨(e1.1.tr e2).mono (fun x hx => by simp at hx ⊢; omega), fun j hj => by rw [c58]; exact e1.2 j hj⟩
      rw [c58, v5, v6, v7, i_max (by omega) (by omega), (i_cnt hY (show max X (fer A F b c 0) ≤ 99 by omega)).1, pk_sub (show Y - max X (fer A F b c 0) ≤ Y - X by omega), i_max (by omega) (by omega), nI_1]
      have em : max (Y - max X (fer A F b c 0)) (Y - X - (Y - max X (fer A F b c 0))) = mst X Y (fer A F b c 0) := rfl
      rw [em]
      have z0 : nI N.1 - 1 = -1 ↔ N.1 = 0 := by rw [← i_m1, i_eq1 (by omega) (by decide)]
      rw [z0]
      have up : (N.1 = 0 ∨ mst X Y (fer A F b c 0) + 1 < N.2) → gg p l e s m args below meth cc G (d + 4 + 1) MX8_findNext Q 21 [some (.ref 58), some (.int (nI c)), some (.int (nI (Y - X))), some (.int (nI (c + 1))), none, none, none] [] (sI h2 58 7 (nI (mst X Y (fer A F b c 0)))) := fun q => by
        rw [if_pos q] at ih
        have := ih (sI h2 58 7 (nI (mst X Y (fer A F b c 0)))) (by omega) ⟨gE1 (by decide) e3.1, fun j hj => by rw [sI_nb (by omega)]; exact e3.2 j hj⟩ (by rw [sI_nb (by decide), c58]; exact v5) (by rw [sI_nb (by decide), c58]; exact v6) (by rw [sI_s, i_s1])
        rw [i_s1] at this
        exact this
      refine ⟨fun q => up (Or.inl q), fun q => ⟨fun q2 => ?_, fun q2 => up (Or.inr ?_)⟩⟩
      · have hN2 : N.2 ≠ 0 := fun e9 => q (n1.mpr e9)
        rw [show nI N.2 - 1 = nI (N.2 - 1) from pk_sub (b := 1) (by omega), nI_leI (by omega) (by omega)] at q2
        rw [if_neg (by omega)] at ih
        exact ih h2 (by omega) e3 (by rw [c58]; exact v5) (by rw [c58]; exact v6) (by rw [c58]; exact v7)
      · have hN2 : N.2 ≠ 0 := fun e9 => q (n1.mpr e9)
        rw [show nI N.2 - 1 = nI (N.2 - 1) from pk_sub (b := 1) (by omega), nI_leI (by omega) (by omega)] at q2
        omega
theorem m_greater {x y : Nat} (hw : gWf h lk sp cd) (hx : x < 2 ^ 31) (hy : y < 2 ^ 31) (hq : Q (some (.int (nI (max x y)))) h) : gC l G d MX12_greater [.int (nI x), .int (nI y)] h Q := by
  refine eX12_greater hw ?_
  rw [nI_leI hx hy]
  refine ⟨fun z => ?_, fun z => ?_⟩
  · rw [Nat.max_eq_right z] at hq; exact hq
  · rw [Nat.max_eq_left (by omega)] at hq; exact hq
theorem m_nextL {p : Program} {e : Env} {s : State} {m : MethodId} {args : Array Value} {below : List Frame} {meth : Method} {cc : Code} {tc tg : Nat → Nat} {a : Int32} (hw : gWf h lk sp cd) (k : KM A F h) (hn2 : n ≤ 20) (t2 : h.1 82 76 = nI n) (t5 : ∀ i, i < n → qW A (tc i) ∧ tg i ≤ 1 ∧ h.1 141 (2 * i) = nI (tc i) ∧ h.1 141 (2 * i + 1) = nI (tg i)) (hf : ∀ c, c < qN A → h.1 135 c = nI (lfr A F b c)) (hX : tLo (fun i => fer A F b (tc i) 0) tg n = X) (hY : tUp (fun i => fer A F b (tc i) 0) tg n = Y) (hX9 : X ≤ 99) (hY9 : Y ≤ 100)
    (hq0 : a = 0 → Q (some (.int (nI (nxt A (fun c => fer A F b c 0) X Y (qN A)).1 - 1))) h) (hq1 : ¬ a = 0 → Q (some (.int (nI (nxt A (fun c => fer A F b c 0) X Y (qN A)).2 - 1))) h) :
    ∀ r c, c + r = qN A → gg p l e s m args below meth cc G (d + 2 + 1) MX12_next Q 34 [some (.ref 82), some (.int a), some (.int (nI (nxt A (fun c => fer A F b c 0) X Y c).1 - 1)), some (.int (nI (nxt A (fun c => fer A F b c 0) X Y c).2 - 1)), some (.int (nI c)), none, none, none] [] h := by
  have h48 := k.g.N48
  have fl : ∀ c, fer A F b c 0 ≤ 99 := fun i => fer_le k.g
  have np := nxt_p (A := A) (fr := fun c => fer A F b c 0) (X := X) hY9
  intro r
  induction r with
  | zero =>
    intro c hc
    have : c = qN A := by omega
    subst this
    exact wX12_next_34 hw.1 hw.2.1 hw.2.2.1 (m_cellMany hw k.l ⟨_, rfl, rfl, bY (Int32.le_refl _) ⟨fun z => hq1 z, fun z => hq0 z⟩⟩)
  | succ r ih =>
    intro c hc
    obtain ⟨n1, n2, n3⟩ := np c
    have lf := fl c
    have es : nxt A (fun c => fer A F b c 0) X Y (c + 1) = if qkd A c = 4 ∨ ¬ X < Y then nxt A (fun c => fer A F b c 0) X Y c else if (nxt A (fun c => fer A F b c 0) X Y c).1 = 0 ∨ mst X Y (fer A F b c 0) + 1 < (nxt A (fun c => fer A F b c 0) X Y c).2 then (c + 1, mst X Y (fer A F b c 0) + 1) else nxt A (fun c => fer A F b c 0) X Y c := rfl
    have hml := mst_le (X := X) hY9 (f := fer A F b c 0)
    have ih := ih (c + 1) (by omega)
    rw [es] at ih
    generalize nxt A (fun c => fer A F b c 0) X Y c = N at *
    refine wX12_next_34 hw.1 hw.2.1 hw.2.2.1 (m_cellMany hw k.l ⟨_, rfl, rfl, bN (nI_ge (by omega) (by omega)) ?_⟩)
    by_cases zl : qkd A c = 4
    · rw [if_pos (Or.inl zl)] at ih
      refine wX12_next_52 hw.1 hw.2.1 hw.2.2.1 (bN (by decide) (m_isLand hw k.g k.l (by omega) (fun _ => ⟨_, rfl, rfl, bN' (by decide) (bY (by decide) ?_)⟩) (fun z => absurd zl z)))
      rw [nI_1]
      exact ih
    · have z0 : nI N.2 - 1 = -1 ↔ N.1 = 0 := by rw [← i_m1, i_eq1 (by omega) (by decide), n1]
      suffices H : ∀ r t, t + r = 100 → gg p l e s m args below meth cc G (d + 2 + 1) MX12_next Q 52 [some (.ref 82), some (.int a), some (.int (nI N.1 - 1)), some (.int (nI N.2 - 1)), some (.int (nI c)), some (.int (nI (min t Y - max X (fer A F b c 0)))), some (.int (nI (min t Y - X - (min t Y - max X (fer A F b c 0))))), some (.int (nI t))] [] h by
        have := H 100 0 (by omega)
        rw [show min 0 Y = 0 by omega, show 0 - max X (fer A F b c 0) = 0 by omega, show 0 - X - 0 = 0 by omega] at this
        exact this
      intro r2
      induction r2 with
      | zero =>
        intro t ht
        have : t = 100 := by omega
        subst this
        rw [show min 100 Y = Y by omega]
        refine wX12_next_52 hw.1 hw.2.1 hw.2.2.1 (bY (by decide) ?_)
        rw [nI_add, z0, nI_1]
        have es : Y - max X (fer A F b c 0) + (Y - X - (Y - max X (fer A F b c 0))) = Y - X := by omega
        rw [es]
        have e0 : nI (Y - X) = 0 ↔ ¬ X < Y := by rw [show (0 : Int32) = nI 0 from rfl, nI_eq (by omega) (by decide)]; omega
        rw [e0]
        refine ⟨fun q => ?_, fun q => ?_⟩
        · rw [if_pos (Or.inr q)] at ih
          exact ih
        · have q := Decidable.byContradiction q
          rw [if_neg (fun q9 => q9.elim zl (fun q9 => q9 q))] at ih
          have up : (N.1 = 0 ∨ mst X Y (fer A F b c 0) + 1 < N.2) → gg p l e s m args below meth cc G (d + 2 + 1) MX12_next Q 34 [some (.ref 82), some (.int a), some (.int (nI c)), some (.int (nI (mst X Y (fer A F b c 0)))), some (.int (nI (c + 1))), none, none, none] [] h := fun q => by
            rw [if_pos q] at ih
            have ih2 := ih
            rw [show nI (c + 1, mst X Y (fer A F b c 0) + 1).1 - 1 = nI c from i_s1 c, show nI (c + 1, mst X Y (fer A F b c 0) + 1).2 - 1 = nI (mst X Y (fer A F b c 0)) from i_s1 _] at ih2
            exact ih2
          refine ⟨fun q2 => m_greater hw (by omega) (by omega) ⟨_, rfl, rfl, up (Or.inl q2)⟩, fun q2 => m_greater hw (by omega) (by omega) ⟨_, rfl, rfl, ?_⟩⟩
          have hN2 : N.2 ≠ 0 := fun e9 => q2 (n1.mpr e9)
          show (nI (mst X Y (fer A F b c 0)) < nI N.2 - 1 → _) ∧ (¬ nI (mst X Y (fer A F b c 0)) < nI N.2 - 1 → _)
          have el : nI (mst X Y (fer A F b c 0)) < nI N.2 - 1 ↔ mst X Y (fer A F b c 0) + 1 < N.2 := by
            rw [show nI N.2 - 1 = nI (N.2 - 1) from pk_sub (b := 1) (by omega), nI_ltI (by omega) (by omega)]
            omega
          rw [el]
          refine ⟨fun q3 => m_greater hw (by omega) (by omega) ⟨_, rfl, rfl, up (Or.inr q3)⟩, fun q3 => ?_⟩
          rw [if_neg (fun q9 => q9.elim q2 q3)] at ih
          exact ih
      | succ r2 ih2 =>
        intro t ht
        have nx := ih2 (t + 1) (by omega)
        have ef : lfr A F b c = fer A F b c 0 := if_neg zl
        refine wX12_next_52 hw.1 hw.2.1 hw.2.2.1 (bN (nI_nlt (a := 99) (by omega) (by omega)) (m_isLand hw k.g k.l (by omega) (fun z => absurd z zl) (fun _ => ⟨_, rfl, rfl, bY' rfl (m_canTrust (F := F) (b := b) hw k.g hn2 t2 t5 hf (by omega) (fun z1 z2 => ⟨_, rfl, rfl, bN' (by decide) ⟨vp_in_nI (by omega) (by decide), ?_⟩⟩) (fun z => ⟨_, rfl, rfl, bY' rfl ?_⟩))⟩)))
        · rw [hX] at z1
          rw [hY] at z2
          rw [nI_clamp (by omega), hf c (by omega), ef, nI_ltI (by omega) (by omega), nI_1, nI_1, nI_1]
          refine ⟨fun z3 => ?_, fun z3 => ?_⟩
          · rw [show min (t + 1) Y - max X (fer A F b c 0) = min t Y - max X (fer A F b c 0) by omega, show min (t + 1) Y - X - (min t Y - max X (fer A F b c 0)) = min t Y - X - (min t Y - max X (fer A F b c 0)) + 1 by omega] at nx
            exact nx
          · rw [show min (t + 1) Y - max X (fer A F b c 0) = min t Y - max X (fer A F b c 0) + 1 by omega, show min (t + 1) Y - X - (min t Y - max X (fer A F b c 0) + 1) = min t Y - X - (min t Y - max X (fer A F b c 0)) by omega] at nx
            exact nx
        · rw [hX, hY] at z
          rw [nI_1]
          rw [show min (t + 1) Y - max X (fer A F b c 0) = min t Y - max X (fer A F b c 0) by omega, show min (t + 1) Y - X - (min t Y - max X (fer A F b c 0)) = min t Y - X - (min t Y - max X (fer A F b c 0)) by omega] at nx
          exact nx
theorem nxt_z (h : ¬ X < Y) : ∀ c, nxt A fr X Y c = (0, 0)
  | 0 => rfl
  | c + 1 => by
    unfold nxt
    rw [if_pos (Or.inr h)]
    exact nxt_z h c
theorem st_next : gStepI l G (gInv Rst) MX11_next MX12_next 1 := by
  intro n9 h av hn9 hl hi
  obtain ⟨a, rfl⟩ := one_of hl
  obtain ⟨lk, sp, cd, A, F, T, hw, k, m, -, rt⟩ := hi.2.2.2.2.2.2.k hn9
  have hm := gInv.mono Rst_cg n9 h hi
  rcases rt.tt k.g with ⟨z1, z2⟩ | ⟨n, b, tc, tg, tt⟩
  · refine eX11_next (d := 899) hw (bY z1 ⟨_, rfl, ?_⟩)
    exact eX12_next (d := 899) hw (fun p e s m' args below meth c => bY z2 ⟨_, rfl, rfl, hm⟩)
  · have t' := tt
    obtain ⟨n1, n2, hb, t1, t2, t3, t4, t5⟩ := tt
    have fl : ∀ i, fer A F b (tc i) 0 ≤ 99 := fun i => fer_le k.g
    have hX9 := tLo_le (f := fun i => fer A F b (tc i) 0) (g := tg) fl n
    have hY9 := tUp_le (f := fun i => fer A F b (tc i) 0) (g := tg) n
    refine eX11_next (d := 899) hw (bN (by rw [t1]; exact nI_ne0 (by omega) (by omega)) (c_findTrusts hw k t' (fun h1 e1 v5 v6 => ⟨_, rfl, e1.1.2, ?_⟩)))
    generalize hX : tLo (fun i => fer A F b (tc i) 0) tg n = X at hX9 v5
    generalize hY : tUp (fun i => fer A F b (tc i) 0) tg n = Y at hY9 v6
    have mdl : ∀ h1, CT8 h h1 → ∀ v : Int32, (a = 0 → v = nI (nxt A (fun c => fer A F b c 0) X Y (qN A)).1 - 1) → (a = 1 → v = nI (nxt A (fun c => fer A F b c 0) X Y (qN A)).2 - 1) → (¬ a = 0 → ¬ a = 1 → v = -1) → gC l G 900 MX12_next [.ref 82, .int a] h1 (fun r h' => ∃ v'', r = some (.int v'') ∧ v = v'' ∧ gInv Rst (n9 + 1) h') := fun h1 e1 v q0 q1 q3 => by
      have hw1 := hw.eq e1.1
      have m1 : KM A F h1 := m.eq e1.1 (fun x hx => by simp at hx; omega) (by rw [(e1.1.1 82 (by decide)).1])
      have c82 := (e1.1.1 82 (by decide)).1
      refine eX12_next (d := 899) hw1 (fun p e s m' args below meth c => bN (by rw [c82, t2]; exact nI_ne0 (by omega) (by omega)) (c_isInI 0 1 hw1 (fun z1 z2 => ⟨_, rfl, rfl, bN' (by decide) ?_⟩) (fun z => ⟨_, rfl, rfl, bY' rfl ⟨_, rfl, ?_, tt_fin hi e1 MG.rf⟩⟩)))
      · rw [c82, t4]
        refine m_laysFears hw1 m1 hb (fun h2 e2 f2 => ⟨rfl, e2.1.2, ?_⟩)
        have x141 : h2.1 141 = h.1 141 := by rw [(e2.1.1 141 (by decide)).1, (e1.1.1 141 (by decide)).1]
        have fin := tt_fin hi e1 e2
        have m2 := m1.mg e2 (fun x hx => by simp at hx; omega)
        have a2 : ¬ a = 0 → a = 1 := fun z3 => by
          obtain ⟨j, hj, rfl⟩ := nI_of2 (x := a) (M := 1) (n := 1) (by decide) (Int32.not_lt.mpr z1) z2
          have : j = 0 ∨ j = 1 := by omega
          rcases this with e | e <;> subst e
          · exact absurd rfl z3
          · rfl
        exact m_nextL (l := l) (G := G) (d := 897) (p := p) (e := e) (s := s) (m := m') (args := args) (below := below) (meth := meth) (cc := c) (a := a) (F := F) (b := b) (tc := tc) (tg := tg) (Q := fun r h' => ∃ v'', r = some (.int v'') ∧ v = v'' ∧ gInv Rst (n9 + 1) h') (hw1.eq e2.1) m2 n2 (by rw [e2.2.1 76 (by decide), c82]; exact t2) (fun i hi9 => by
          obtain ⟨s1, s2, s3, s4, s5, s6⟩ := t5 i hi9
          rw [x141]
          exact ⟨s1, s2, s4, s6⟩) f2 hX hY hX9 hY9 (fun z => ⟨_, rfl, q0 z, fin⟩) (fun z => ⟨_, rfl, q1 (a2 z), fin⟩) (qN A) 0 (by omega)
      · refine q3 (fun e => z ?_) (fun e => z ?_) <;> subst e <;> decide
    have hYX : nI (Y - X) = 0 ↔ ¬ X < Y := by
      rw [show (0 : Int32) = nI 0 from rfl, nI_eq (by omega) (by decide)]
      omega
    rw [hYX]
    have hw1 := hw.eq e1.1
    have k1 : KC A F T lk h1 := k.eq hw e1.1 (fun x hx => by simp at hx; omega)
    refine ⟨fun z => c_findNext hw1 k1 hb (by rw [e1.2 3 (by decide)]; exact t3) v5 v6 hX9 hY9 (Decidable.byContradiction z) (fun h2 e2 v7 => ⟨_, rfl, e2.1.2, ?_⟩), fun z => ⟨_, rfl, mdl h1 e1 _ (fun _ => by rw [nxt_z z]; decide) (fun _ => by rw [nxt_z z]; decide) (fun _ _ => rfl)⟩⟩
    have e3 : CT8 h h2 := ⟨(e1.1.tr e2.1).mono (fun x hx => by simp at hx ⊢; omega), fun j hj => by rw [e2.2 j hj]; exact e1.2 j hj⟩
    rw [v7]
    refine ⟨fun z => ⟨_, rfl, mdl h2 e3 _ (fun _ => rfl) (fun q => ?_) (fun q => absurd z q)⟩, fun z => ⟨_, rfl, mdl h2 e3 _ (fun q => ?_) (fun _ => rfl) (fun _ q => absurd z q)⟩, fun z1 z2 => ⟨_, rfl, mdl h2 e3 _ (fun q => absurd q z1) (fun q => absurd q z2) (fun _ _ => rfl)⟩⟩
    · rw [z] at q; exact absurd q (by decide)
    · rw [z] at q; exact absurd q (by decide)
end NX
