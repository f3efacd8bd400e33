section TS
variable {l : Launch} {G : gG} {d : Nat} {Q : Option Value → gH → Prop} {h h0 : gH} {lk sp : Nat} {cd : Option Nat} {A F : qT} {T n b : Nat}
theorem tt_fin {n9 : Nat} {h1 h2 : gH} (hi : gInv Rst n9 h) (e1 : CT8 h h1) (e2 : MG [82, 131, 132, 135] h1 h2) : gInv Rst (n9 + 1) h2 := by
  refine inv_read hi (e1.1.tr e2.1) (by decide) (fun j hj => ?_) ?_ ?_ ?_
  · rw [e2.2.1 j (fun z => by subst z; revert hj; decide), (e1.1.1 82 (by decide)).1]
  · rw [e2.2.2, (e1.1.1 82 (by decide)).2]
  · rw [(e2.1.1 58 (by decide)).1, e1.2 3 (by decide)]
  · rw [(e2.1.1 58 (by decide)).1, e1.2 4 (by decide)]
theorem m_trustsL {p : Program} {e : Env} {s : State} {m : MethodId} {args : Array Value} {below : List Frame} {meth : Method} {cc : Code} {tc tg : Nat → Nat} {a : Int32} (hw : gWf h lk sp cd) (g : qG A) (hn2 : n ≤ 20) (t2 : h.1 82 76 = nI n) (t5 : ∀ i, i < n → qW A (tc i) ∧ tg i ≤ 1 ∧ h.1 141 (2 * i) = nI (tc i) ∧ h.1 141 (2 * i + 1) = nI (tg i)) (hf : ∀ c, c < qN A → h.1 135 c = nI (lfr A F b c)) (X Y : Nat) (hX : tLo (fun i => fer A F b (tc i) 0) tg n = X) (hY : tUp (fun i => fer A F b (tc i) 0) tg n = Y) (hX9 : X ≤ 99) (hY9 : Y ≤ 100)
    (hq0 : a = 0 → Q (some (.int (nI (Y - X)))) h) (hq1 : a = 1 → Q (some (.int (nI (if X < Y then X + 1 else 0) - 1))) h) (hq2 : ¬ a = 0 → ¬ a = 1 → Q (some (.int (nI (if X < Y then Y else 0) - 1))) h) :
    ∀ r t, t + r = 100 → gg p l e s m args below meth cc G (d + 1) MX12_trusts Q 39 [some (.ref 82), some (.int a), some (.int (nI (min t Y - X))), some (.int (nI (if X < min t Y then X + 1 else 0) - 1)), some (.int (nI (if X < min t Y then min t Y else 0) - 1)), some (.int (nI t))] [] h := by
  intro r
  induction r with
  | zero =>
    intro t ht
    have : t = 100 := by omega
    subst this
    rw [show min 100 Y = Y by omega]
    refine wX12_trusts_39 hw.1 hw.2.1 hw.2.2.1 (bY (by decide) ⟨fun z => ⟨fun z2 => hq2 z z2, fun z2 => hq1 z2⟩, fun z => hq0 z⟩)
  | succ r ih =>
    intro t ht
    have nx := ih (t + 1) (by omega)
    refine wX12_trusts_39 hw.1 hw.2.1 hw.2.2.1 (bN (nI_nlt (a := 99) (by omega) (by omega)) (m_canTrust (F := F) (b := b) hw g hn2 t2 t5 hf (by omega) (fun z1 z2 => ⟨_, rfl, rfl, bN' (by decide) ?_⟩) (fun z => ⟨_, rfl, rfl, bY' rfl ?_⟩)))
    · rw [hX] at z1
      rw [hY] at z2
      have m1 : min t Y = t := by omega
      have m2 : min (t + 1) Y = t + 1 := by omega
      rw [m2, show t + 1 - X = min t Y - X + 1 by omega, if_pos (show X < t + 1 by omega), if_pos (show X < t + 1 by omega), i_s1, i_s1] at nx
      rw [nI_1, nI_1]
      by_cases z3 : X < min t Y
      · rw [if_pos z3, i_s1]
        refine bN' (i_nm1 (by omega)) nx
      · have : X = t := by omega
        subst this
        rw [if_neg z3]
        exact bY' (by decide) nx
    · rw [hX, hY] at z
      have e1 : min (t + 1) Y - X = min t Y - X := by omega
      have e2 : X < min (t + 1) Y ↔ X < min t Y := by omega
      rw [nI_1]
      by_cases z3 : X < min t Y
      · have e3 : min (t + 1) Y = min t Y := by omega
        rw [e3] at nx
        exact nx
      · rw [e1, if_neg (mt e2.mp z3), if_neg (mt e2.mp z3)] at nx
        rw [if_neg z3, if_neg z3]
        exact nx
theorem st_trusts : gStepI l G (gInv Rst) MX11_trusts MX12_trusts 1 := by
  intro n9 h av hn9 hl hi
  obtain ⟨a, rfl⟩ := one_of hl
  obtain ⟨lk, sp, cd, A, F, T, hw, k, m, -, rt⟩ := hi.2.2.2.2.2.2.k hn9
  have hm := gInv.mono Rst_cg n9 h hi
  rcases rt.tt k.g with ⟨z1, z2⟩ | ⟨n, b, tc, tg, tt⟩
  · refine eX11_trusts (d := 899) hw (bY' z1 ⟨_, rfl, ?_⟩)
    exact eX12_trusts (d := 899) hw (fun p e s m' args below meth c => bY z2 ⟨_, rfl, rfl, hm⟩)
  · have t' := tt
    obtain ⟨n1, n2, hb, t1, t2, t3, t4, t5⟩ := tt
    have fl : ∀ i, fer A F b (tc i) 0 ≤ 99 := fun i => fer_le k.g
    have hX9 := tLo_le (f := fun i => fer A F b (tc i) 0) (g := tg) fl n
    have hY9 := tUp_le (f := fun i => fer A F b (tc i) 0) (g := tg) n
    refine eX11_trusts (d := 899) hw (bN' (by rw [t1]; exact nI_ne0 (by omega) (by omega)) (c_findTrusts hw k t' (fun h1 e1 v5 v6 => ⟨_, rfl, e1.1.2, ?_⟩)))
    generalize hX : tLo (fun i => fer A F b (tc i) 0) tg n = X at hX9 v5
    generalize hY : tUp (fun i => fer A F b (tc i) 0) tg n = Y at hY9 v6
    rw [v5, v6]
    have hw1 := hw.eq e1.1
    have m1 : KM A F h1 := m.eq e1.1 (fun x hx => by simp at hx; omega) (by rw [(e1.1.1 82 (by decide)).1])
    have c82 := (e1.1.1 82 (by decide)).1
    have mdl : ∀ v : Int32, (a = 0 → v = nI (Y - X)) → (a = 1 → v = nI (if X < Y then X + 1 else 0) - 1) → (a = 2 → v = nI (if X < Y then Y else 0) - 1) → (¬ a = 0 → ¬ a = 1 → ¬ a = 2 → v = -1) → gC l G 900 MX12_trusts [.ref 82, .int a] h1 (fun r h' => ∃ v'', r = some (.int v'') ∧ v = v'' ∧ gInv Rst (n9 + 1) h') := fun v q0 q1 q2 q3 => by
      refine eX12_trusts (d := 899) hw1 (fun p e s m' args below meth c => bN (by rw [c82, t2]; exact nI_ne0 (by omega) (by omega)) (c_isInI 0 2 hw1 (fun z1 z2 => ⟨_, rfl, rfl, bN' (by decide) ?_⟩) (fun z => ⟨_, rfl, rfl, bY' rfl ⟨_, rfl, ?_, tt_fin hi e1 MG.rf⟩⟩)))
      · rw [c82, t4]
        refine m_laysFears hw1 m1 hb (fun h2 e2 f2 => ⟨rfl, e2.1.2, ?_⟩)
        have x141 : h2.1 141 = h.1 141 := by rw [(e2.1.1 141 (by decide)).1, (e1.1.1 141 (by decide)).1]
        have fin := tt_fin hi e1 e2
        have a2 : ¬ a = 0 → ¬ a = 1 → a = 2 := fun z3 z4 => by
          obtain ⟨j, hj, rfl⟩ := nI_of2 (x := a) (M := 2) (n := 2) (by decide) (Int32.not_lt.mpr z1) z2
          have : j = 0 ∨ j = 1 ∨ j = 2 := by omega
          rcases this with e | e | e <;> subst e
          · exact absurd rfl z3
          · exact absurd rfl z4
          · rfl
        have := m_trustsL (l := l) (G := G) (d := 899) (p := p) (e := e) (s := s) (m := m') (args := args) (below := below) (meth := meth) (cc := c) (a := a) (F := F) (b := b) (tc := tc) (tg := tg) (Q := fun r h' => ∃ v'', r = some (.int v'') ∧ v = v'' ∧ gInv Rst (n9 + 1) h') (hw1.eq e2.1) k.g n2 (by rw [e2.2.1 76 (by decide), c82]; exact t2) (fun i hi9 => by
          obtain ⟨s1, s2, s3, s4, s5, s6⟩ := t5 i hi9
          rw [x141]
          exact ⟨s1, s2, s4, s6⟩) f2 X Y hX hY hX9 hY9 (fun z => ⟨_, rfl, q0 z, fin⟩) (fun z => ⟨_, rfl, q1 z, fin⟩) (fun z3 z4 => ⟨_, rfl, q2 (a2 z3 z4), fin⟩) 100 0 (by omega)
        rw [show min 0 Y = 0 by omega, show 0 - X = 0 by omega, if_neg (show ¬ X < 0 by omega), if_neg (show ¬ X < 0 by omega), i_m1] at this
        exact this
      · refine q3 (fun e => z ?_) (fun e => z ?_) (fun e => z ?_) <;> subst e <;> decide
    have hYX : nI (Y - X) ≤ 0 ↔ ¬ X < Y := by
      rw [show (0 : Int32) = nI 0 from rfl, nI_leI (by omega) (by decide)]
      omega
    rw [hYX]
    have y1 : X < Y → nI Y - 1 = nI (if X < Y then Y else 0) - 1 := fun z => by rw [if_pos z]
    refine ⟨fun z => ⟨_, rfl, mdl _ (fun _ => rfl) (fun q => ?_) (fun q => ?_) (fun q => absurd z q)⟩, fun z => ⟨fun z2 => ⟨_, rfl, mdl _ (fun q => ?_) (fun q => ?_) (fun q => ?_) (fun _ q => absurd z q)⟩, fun z2 => ⟨_, rfl, mdl _ (fun q => ?_) (fun q => ?_) (fun q => ?_) (fun _ q => absurd z q)⟩⟩, fun z => ⟨fun z2 => ⟨_, rfl, mdl _ (fun q => ?_) (fun q => ?_) (fun q => ?_) (fun _ _ q => absurd z q)⟩, fun z2 => ⟨_, rfl, mdl _ (fun q => ?_) (fun q => ?_) (fun q => ?_) (fun _ _ q => absurd z q)⟩⟩, fun z1 z2 z3 => ⟨_, rfl, mdl _ (fun q => absurd q z1) (fun q => absurd q z2) (fun q => absurd q z3) (fun _ _ _ => rfl)⟩⟩
    · rw [z] at q; exact absurd q (by decide)
    · rw [z] at q; exact absurd q (by decide)
    · rw [z] at q; exact absurd q (by decide)
    · rw [if_neg z2]; decide
    · rw [z] at q; exact absurd q (by decide)
    · rw [z] at q; exact absurd q (by decide)
    · rw [if_pos (Decidable.byContradiction z2), i_s1]
    · rw [z] at q; exact absurd q (by decide)
    · rw [z] at q; exact absurd q (by decide)
    · rw [z] at q; exact absurd q (by decide)
    · rw [if_neg z2]; decide
    · rw [z] at q; exact absurd q (by decide)
    · rw [z] at q; exact absurd q (by decide)
    · exact y1 (Decidable.byContradiction z2)
end TS
