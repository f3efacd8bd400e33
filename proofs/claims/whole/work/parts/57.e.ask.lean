section AK
variable {l : Launch} {G : gG} {d : Nat} {Q : Option Value → gH → Prop} {h h0 h1 h2 : gH} {lk sp : Nat} {cd : Option Nat} {t : Nat → Nat} {n s κ : Nat} {b : Bool} {A F : qT}
theorem aq_w {u : Nat} (a : aq u) (z : cv u < 27) : cv u ∈ [24, 25, 26, 16, 17, 18, 12, 3] := by
  unfold cv at z ⊢
  by_cases q : u = 31
  · rw [if_pos q] at z; omega
  · rw [if_neg q] at z ⊢
    unfold aq at a
    rcases a with (⟨_, a⟩ | a | a) | a
    · have a : u = 24 ∨ u = 25 ∨ u = 26 ∨ u = 16 ∨ u = 17 ∨ u = 18 ∨ u = 12 ∨ u = 3 ∨ u = 27 := of_decide_eq_true a
      simp; omega
    · simp at a; omega
    · omega
    · omega
theorem map_getD {e : List Nat} {i : Nat} (hi : i < e.length) : cv (e.getD i 0) = (e.map cv).getD i 0 := by
  simp [List.getD, hi]
theorem gdQ_f {e : List Nat} {f : Nat → Nat} (g : gdQ κ e) (hf : ∀ i, f i = cv (e.getD i 0)) : uwf f e.length ∧ 0 < e.length ∧ (∀ u, u ∈ e → aq u) ∧ (∀ V C i, i < e.length → okB V C f i) ∧ (κ < 3 → ∀ V C, b01 (evS V C f e.length 0)) := by
  have ha : ∀ u, u ∈ e → aq u := by
    rcases g with ⟨_, g⟩ | ⟨_, _, g⟩
    · exact g.2.2
    · exact fun u hu => Or.inl (g u hu)
  have we : WE 37 (e.map cv) := by
    rcases g with ⟨_, g⟩ | ⟨_, g, g2⟩
    · exact g.1
    · rw [map_cv e g2]; exact g.mono (by decide)
  have el : (e.map cv).length = e.length := by simp
  have uw : uwf f e.length := by
    have := uwf_e (f := f) (e := e.map cv) (by decide) (fun i hi => by rw [el] at hi; rw [hf i]; exact map_getD hi) we
    rw [el] at this
    exact this
  have e0 : 0 < e.length := by
    cases e with
    | nil => have := (we 0).1; cases this
    | cons x y => simp
  have ty : ∃ bb, tyr [] e = some [bb] ∧ (κ < 3 → bb = true) := by
    rcases g with ⟨_, g⟩ | ⟨k3, g, g2⟩
    · exact ⟨true, g.2.1 [], fun _ => rfl⟩
    · exact ⟨false, WN.of g g2 [], fun z => by omega⟩
  obtain ⟨bb, t1, t2⟩ := ty
  have T := fun (V : Nat → Int) (C : Int → Int) => tyl (f := f) (V := V) (C := C) e 0 [] [bb] (fun i hi => by rw [Nat.zero_add]; exact hf i) rfl trivial t1 ha
  refine ⟨uw, e0, ha, fun V C i hi => ?_, fun k3 V C => ?_⟩
  · have := (T V C).1 i hi
    rw [Nat.zero_add] at this
    exact this
  · have := (T V C).2.1
    rw [Nat.zero_add] at this
    exact this.1 (t2 k3)
theorem m_qKind (hw : gWf h lk sp cd) (tw : TWf t n) (tp : TPm t h) (k : MTk t n s b h) (hy : ∀ κ h', κ < 6 → isW t n (34 + κ) (s, b) → MLx h h' → MTk t n (nx t n s) (nj t n s) h' → Q (some (.int (nI κ))) h') (hn : ∀ h', (∀ κ, κ < 6 → ¬ isW t n (34 + κ) (s, b)) → MFl 1 s h h' → Q (some (.int 5)) h') : gC l G (d + 4) MX12_qKind [.ref 82] h Q := by
  have T : ∀ j, j < 6 → ∀ h1, MLx h h1 → MTk t n s b h1 → ∀ Q' : Option Value → gH → Prop, (∀ h', isW t n (34 + j) (s, b) → MLx h h' → MTk t n (nx t n s) (nj t n s) h' → h'.2.2 = h1.2.2 → Q' (some (.int 1)) h') → (∀ h', ¬ isW t n (34 + j) (s, b) → MLx h h' → MTk t n s b h' → h'.2.2 = h1.2.2 → Q' (some (.int 0)) h') → gC l G (d + 3) MX12_takes [.ref 82, .ref (143 + j)] h1 Q' := fun j hj h1 e1 k1 Q' y1 n1 => by
    have hs : ∀ j, j < 6 → gSH[143 + j]? = some (22, wln (34 + j)) := by decide
    have hq : ∀ j, j < 6 → 34 + j = wqt j := by decide
    have tp1 := tp.ml e1.1
    exact m_takes (d := d + 1) (i := 34 + j) (w := 143 + j) (hw.eq e1.1) tw tp1 k1 (by omega) (hs j hj) (by omega) (fun x hx => by rw [hq j hj] at hx ⊢; exact tp1.2.2 j (by omega) x hx) (fun h2 z e2 k2 => y1 h2 z (e1.tr e2) k2 e2.1.2) (fun h2 z e2 k2 a2 => n1 h2 z (e1.tr e2) k2 e2.1.2)
  refine eX12_qKind hw ?_
  refine T 0 (by decide) h MLx.rf k _ (fun g z e1 k1 r1 => ⟨_, rfl, r1, bN (by decide) (hy 0 g (by decide) z e1 k1)⟩) (fun g0 z0 e0 k0 r0 => ⟨_, rfl, r0, bY rfl ?_⟩)
  refine T 1 (by decide) g0 e0 k0 _ (fun g z e1 k1 r1 => ⟨_, rfl, r1, bN (by decide) (hy 1 g (by decide) z e1 k1)⟩) (fun g1 z1 e1 k1 r1 => ⟨_, rfl, r1, bY rfl ?_⟩)
  refine T 2 (by decide) g1 e1 k1 _ (fun g z e1 k1 r1 => ⟨_, rfl, r1, bN (by decide) (hy 2 g (by decide) z e1 k1)⟩) (fun g2 z2 e2 k2 r2 => ⟨_, rfl, r2, bY rfl ?_⟩)
  refine T 3 (by decide) g2 e2 k2 _ (fun g z e1 k1 r1 => ⟨_, rfl, r1, bN (by decide) (hy 3 g (by decide) z e1 k1)⟩) (fun g3 z3 e3 k3 r3 => ⟨_, rfl, r3, bY rfl ?_⟩)
  refine T 4 (by decide) g3 e3 k3 _ (fun g z e1 k1 r1 => ⟨_, rfl, r1, bN (by decide) (hy 4 g (by decide) z e1 k1)⟩) (fun g4 z4 e4 k4 r4 => ⟨_, rfl, r4, bY rfl ?_⟩)
  have tp4 := tp.ml e4.1
  refine m_asks (d := d) (i := 39) (w := 148) (hw.eq e4.1) tw tp4 k4 (by decide) rfl (by decide) (fun x hx => tp4.2.2 5 (by decide) x hx) (fun p' h5 q5 e5 k5 => ⟨rfl, e5.1.2, ?_⟩) (fun f q h5 q5 e5 => ⟨rfl, e5.1.2, ?_⟩)
  · unfold wdF at q5
    split at q5
    · rename_i iw
      cases q5
      exact hy 5 h5 (by decide) iw (e4.tr e5) k5
    · cases q5
  · unfold wdF at q5
    split at q5
    · cases q5
    · rename_i iw
      cases q5
      refine hn h5 (fun κ hκ => ?_) (e4.fl e5)
      have : κ = 0 ∨ κ = 1 ∨ κ = 2 ∨ κ = 3 ∨ κ = 4 ∨ κ = 5 := by omega
      rcases this with y | y | y | y | y | y <;> subst y
      · exact z0
      · exact z1
      · exact z2
      · exact z3
      · exact z4
      · exact iw
theorem m_qTakes {gv : Nat → Int} {x : Nat} (hw : gWf h lk sp cd) (hκ : κ < 6) (hg : ∀ k, mil (gv k)) (hB : κ < 3 → b01 (gv x)) (hx : x < 48) (h113 : h.2.1 82 113 = lI (anw κ gv x)) (h114 : h.1 82 114 = if x = 0 then 1 else 0) (hq : ∀ h', gEq [82] h h' → (∀ j, j ≠ 114 → h'.1 82 j = h.1 82 j) → h'.1 82 114 = 0 → (∀ j, j ≠ 113 → h'.2.1 82 j = h.2.1 82 j) → h'.2.1 82 113 = lI (anw κ gv (x + 1)) → Q none h') : gC l G d MX12_qTakes [.ref 82, .int (nI κ), .long (lI (gv x)), .int (nI x)] h Q := by
  obtain ⟨b1, b2, b3, b4, b5, b6⟩ := an_b hg x (by omega)
  have gx := hg x
  unfold mil at gx b5 b6
  have zx : (nI x).toInt64 = lI (x : Nat) := lIn (by omega)
  refine eX12_qTakes hw (fun p9 e9 s9 m9 args9 below9 meth9 cc9 => ?_)
  have keep : anw κ gv (x + 1) = anw κ gv x → Q none (sI h 82 114 0) := fun e => hq _ (gEq.sI h 82 114 0) (fun j hj => sI_nb hj) (sI_s _ _ _ _) (fun j _ => rfl) (by rw [e]; exact h113)
  have put : ∀ v : Int, v = anw κ gv (x + 1) → Q none (sI (sL h 82 113 (lI v)) 82 114 0) := fun v e => by
    refine hq _ (((gEq.sL h 82 113 (lI v)).tr (gEq.sI _ 82 114 0)).mono (fun x hx => by simp at hx ⊢; omega)) (fun j hj => sI_nb hj) (sI_s _ _ _ _) (fun j hj => sL_nb hj) ?_
    show (sL h 82 113 (lI v)).2.1 82 113 = _
    rw [sL_s, e]
  have hwl : ∀ v, gWf (sL h 82 113 v) lk sp cd := fun v => hw.eq (gEq.sL h 82 113 v)
  have o1 : lI (gv x) = 1 ↔ gv x = 1 := by rw [show (1 : Int64) = lI 1 by decide, lI_eq (by omega) (by omega) (by omega) (by omega)]
  have cases6 : κ = 0 ∨ κ = 1 ∨ κ = 2 ∨ κ = 3 ∨ κ = 4 ∨ κ = 5 := by omega
  rcases cases6 with z | z | z | z | z | z <;> subst z
  · -- first
    have hB := hB (by decide)
    have a0 : anw 0 gv (x + 1) = if gv x ≠ 0 ∧ aF gv x = -1 then (x : Int) else aF gv x := rfl
    have a1 : anw 0 gv x = aF gv x := rfl
    rw [a0, a1] at keep
    rw [a0] at put
    have T : ∀ h', gWf h' lk sp cd → ∀ x5 : Int32, Q none (sI h' 82 114 0) → gg p9 l e9 s9 m9 args9 below9 meth9 cc9 G d MX12_qTakes Q 55 [some (.ref 82), some (.int (nI 0)), some (.long (lI (gv x))), none, some (.int (nI x)), some (.int x5)] [] h' := fun h' hw' x5 fin => wX12_qTakes_55 hw'.1 hw'.2.1 hw'.2.2.1 (bN' (by decide) (wX12_qTakes_75 hw'.1 hw'.2.1 hw'.2.2.1 (bN' (by decide) (wX12_qTakes_90 hw'.1 hw'.2.1 hw'.2.2.1 (bY (by decide) (wX12_qTakes_133 hw'.1 hw'.2.1 hw'.2.2.1 fin))))))
    rw [lg_cmp_eq, o1, lg_cmp_eq, h113, a1, show (-1 : Int64) = lI (-1) by decide, lI_eq (by omega) (by omega) (by omega) (by omega)]
    refine bN (by decide) ⟨fun z => ?_, fun z => bY' rfl ⟨fun w => ?_, fun w => ?_⟩⟩
    · have g0 : gv x = 0 := hB.resolve_right z
      exact wX12_qTakes_15 hw.1 hw.2.1 hw.2.2.1 (bY' rfl (wX12_qTakes_38 hw.1 hw.2.1 hw.2.2.1 (bN' (by decide) (T h hw _ (keep (if_neg (fun y => y.1 g0)))))))
    · refine wX12_qTakes_48 hw.1 hw.2.1 hw.2.2.1 ?_
      rw [zx]
      exact T _ (hwl _) _ (put _ (if_pos ⟨by omega, w⟩).symm)
    · exact wX12_qTakes_38 hw.1 hw.2.1 hw.2.2.1 (bN' (by decide) (T h hw _ (keep (if_neg (fun y => w y.2)))))
  · -- last
    have hB := hB (by decide)
    have a0 : anw 1 gv (x + 1) = if gv x ≠ 0 then (x : Int) else aL gv x := rfl
    have a1 : anw 1 gv x = aL gv x := rfl
    rw [a0, a1] at keep
    rw [a0] at put
    have T : ∀ h', gWf h' lk sp cd → ∀ x5 : Int32, Q none (sI h' 82 114 0) → gg p9 l e9 s9 m9 args9 below9 meth9 cc9 G d MX12_qTakes Q 55 [some (.ref 82), some (.int (nI 1)), some (.long (lI (gv x))), none, some (.int (nI x)), some (.int x5)] [] h' := fun h' hw' x5 fin => wX12_qTakes_55 hw'.1 hw'.2.1 hw'.2.2.1 (bN' (by decide) (wX12_qTakes_75 hw'.1 hw'.2.1 hw'.2.2.1 (bN' (by decide) (wX12_qTakes_90 hw'.1 hw'.2.1 hw'.2.2.1 (bY (by decide) (wX12_qTakes_133 hw'.1 hw'.2.1 hw'.2.2.1 fin))))))
    rw [lg_cmp_eq, o1]
    refine bN (by decide) ⟨fun z => ?_, fun z => bN' (by decide) ?_⟩
    · have g0 : gv x = 0 := hB.resolve_right z
      exact wX12_qTakes_15 hw.1 hw.2.1 hw.2.2.1 (bN' (by decide) (wX12_qTakes_38 hw.1 hw.2.1 hw.2.2.1 (bY' rfl (bY rfl (T h hw _ (keep (if_neg (fun y => y g0))))))))
    · refine wX12_qTakes_38 hw.1 hw.2.1 hw.2.2.1 (bY' rfl (bN (by decide) (wX12_qTakes_48 hw.1 hw.2.1 hw.2.2.1 ?_)))
      rw [zx]
      exact T _ (hwl _) _ (put _ (if_pos (by omega)).symm)
  · -- often
    have hB := hB (by decide)
    have a0 : anw 2 gv (x + 1) = if gv x ≠ 0 then aM gv x + 1 else aM gv x := rfl
    have a1 : anw 2 gv x = aM gv x := rfl
    rw [a0, a1] at keep
    rw [a0] at put
    have T : ∀ h', gWf h' lk sp cd → ∀ x5 : Int32, Q none (sI h' 82 114 0) → gg p9 l e9 s9 m9 args9 below9 meth9 cc9 G d MX12_qTakes Q 75 [some (.ref 82), some (.int (nI 2)), some (.long (lI (gv x))), none, some (.int (nI x)), some (.int x5)] [] h' := fun h' hw' x5 fin => wX12_qTakes_75 hw'.1 hw'.2.1 hw'.2.2.1 (bN' (by decide) (wX12_qTakes_90 hw'.1 hw'.2.1 hw'.2.2.1 (bY (by decide) (wX12_qTakes_133 hw'.1 hw'.2.1 hw'.2.2.1 fin))))
    rw [lg_cmp_eq, o1]
    refine bN (by decide) ⟨fun z => ?_, fun z => bN' (by decide) ?_⟩
    · have g0 : gv x = 0 := hB.resolve_right z
      exact wX12_qTakes_15 hw.1 hw.2.1 hw.2.2.1 (bN' (by decide) (wX12_qTakes_38 hw.1 hw.2.1 hw.2.2.1 (bN' (by decide) (wX12_qTakes_55 hw.1 hw.2.1 hw.2.2.1 (bY' rfl (bY rfl (T h hw _ (keep (if_neg (fun y => y g0))))))))))
    · refine wX12_qTakes_38 hw.1 hw.2.1 hw.2.2.1 (bN' (by decide) (wX12_qTakes_55 hw.1 hw.2.1 hw.2.2.1 (bY' rfl (bN (by decide) ?_))))
      rw [h113, a1, show (1 : Int64) = lI 1 by decide, lI_add]
      exact T _ (hwl _) _ (put _ (if_pos (by omega)).symm)
  · -- total
    have a0 : anw 3 gv (x + 1) = aT gv x + gv x := rfl
    have a1 : anw 3 gv x = aT gv x := rfl
    rw [a0] at put
    refine bY (by decide) (wX12_qTakes_15 hw.1 hw.2.1 hw.2.2.1 (bN' (by decide) (wX12_qTakes_38 hw.1 hw.2.1 hw.2.2.1 (bN' (by decide) (wX12_qTakes_55 hw.1 hw.2.1 hw.2.2.1 (bN' (by decide) (wX12_qTakes_75 hw.1 hw.2.1 hw.2.2.1 (bY' rfl ?_))))))))
    rw [h113, a1, lI_add]
    have hw' := hwl (lI (aT gv x + gv x))
    exact wX12_qTakes_90 hw'.1 hw'.2.1 hw'.2.2.1 (bY (by decide) (wX12_qTakes_133 hw'.1 hw'.2.1 hw'.2.2.1 (put _ rfl)))
  · -- most
    have a0 : anw 4 gv (x + 1) = if x = 0 then gv 0 else if gv x < aX gv x then aX gv x else gv x := rfl
    have a1 : anw 4 gv x = aX gv x := rfl
    rw [a0, a1] at keep
    rw [a0] at put
    have p128 : ∀ x5 : Int32, gv x = (if x = 0 then gv 0 else if gv x < aX gv x then aX gv x else gv x) → gg p9 l e9 s9 m9 args9 below9 meth9 cc9 G d MX12_qTakes Q 128 [some (.ref 82), some (.int (nI 4)), some (.long (lI (gv x))), none, some (.int (nI x)), some (.int x5)] [] h := fun x5 e => by
      have hw' := hwl (lI (gv x))
      exact wX12_qTakes_128 hw.1 hw.2.1 hw.2.2.1 (wX12_qTakes_133 hw'.1 hw'.2.1 hw'.2.2.1 (put _ e))
    refine bY (by decide) (wX12_qTakes_15 hw.1 hw.2.1 hw.2.2.1 (bN' (by decide) (wX12_qTakes_38 hw.1 hw.2.1 hw.2.2.1 (bN' (by decide) (wX12_qTakes_55 hw.1 hw.2.1 hw.2.2.1 (bN' (by decide) (wX12_qTakes_75 hw.1 hw.2.1 hw.2.2.1 (bN' (by decide) (wX12_qTakes_90 hw.1 hw.2.1 hw.2.2.1 (bN (by decide) ?_))))))))))
    rw [h114]
    by_cases x0 : x = 0
    · rw [if_pos x0]
      exact bN' (by decide) (p128 _ (by rw [if_pos x0, x0]))
    · rw [if_neg x0] at keep ⊢
      rw [lg_cmp_le, h113, a1, lI_le (by omega) (by omega) (by omega) (by omega)]
      refine bY' rfl (bY' rfl ⟨fun w => wX12_qTakes_133 hw.1 hw.2.1 hw.2.2.1 (keep ?_), fun w => p128 _ ?_⟩)
      · by_cases e : gv x < aX gv x
        · rw [if_pos e]
        · rw [if_neg e]; omega
      · rw [if_neg x0, if_neg (by omega)]
  · -- least
    have a0 : anw 5 gv (x + 1) = if x = 0 then gv 0 else if gv x < aN gv x then gv x else aN gv x := rfl
    have a1 : anw 5 gv x = aN gv x := rfl
    rw [a0, a1] at keep
    rw [a0] at put
    have p128 : ∀ x5 : Int32, gv x = (if x = 0 then gv 0 else if gv x < aN gv x then gv x else aN gv x) → gg p9 l e9 s9 m9 args9 below9 meth9 cc9 G d MX12_qTakes Q 128 [some (.ref 82), some (.int (nI 5)), some (.long (lI (gv x))), none, some (.int (nI x)), some (.int x5)] [] h := fun x5 e => by
      have hw' := hwl (lI (gv x))
      exact wX12_qTakes_128 hw.1 hw.2.1 hw.2.2.1 (wX12_qTakes_133 hw'.1 hw'.2.1 hw'.2.2.1 (put _ e))
    refine bY (by decide) (wX12_qTakes_15 hw.1 hw.2.1 hw.2.2.1 (bN' (by decide) (wX12_qTakes_38 hw.1 hw.2.1 hw.2.2.1 (bN' (by decide) (wX12_qTakes_55 hw.1 hw.2.1 hw.2.2.1 (bN' (by decide) (wX12_qTakes_75 hw.1 hw.2.1 hw.2.2.1 (bN' (by decide) (wX12_qTakes_90 hw.1 hw.2.1 hw.2.2.1 (bN (by decide) ?_))))))))))
    rw [h114]
    by_cases x0 : x = 0
    · rw [if_pos x0]
      exact bN' (by decide) (p128 _ (by rw [if_pos x0, x0]))
    · rw [if_neg x0] at keep ⊢
      rw [lg_cmp_ge, h113, a1, lI_le (by omega) (by omega) (by omega) (by omega)]
      refine bY' rfl (bN' (by decide) ⟨fun w => wX12_qTakes_133 hw.1 hw.2.1 hw.2.2.1 (keep ?_), fun w => p128 _ ?_⟩)
      · by_cases e : gv x < aN gv x
        · omega
        · rw [if_neg e]
      · rw [if_neg x0, if_pos (by omega)]
end AK
