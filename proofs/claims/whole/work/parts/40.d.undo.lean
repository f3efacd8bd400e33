section UD
variable {p : Program} {l : Launch} {e : Env} {s : State} {m : MethodId} {args : Array Value} {below : List Frame} {meth : Method} {c : Code} {G : gG} {d : Nat} {Q : Option Value → gH → Prop} {h h0 : gH} {lk sp : Nat} {cd : Option Nat} {A F : qT} {T w u : Nat}
theorem c_goBack_y (hw : gWf h lk sp cd) (w20 : w < 20) (u20 : u ≤ 20) (hu : 0 < u) (h2 : h.1 6 2 = nI w) (h4 : h.1 6 4 = nI u) (hq : ∀ h', gEq [6, 7] h h' → h'.1 6 2 = nI ((w + 19) % 20) → h'.1 6 4 = nI (u - 1) → h'.1 6 3 = h.1 6 3 → (∀ j, j < 67 → h'.1 7 j = h.1 (9 + w) j) → Q (some (.int 1)) h') : gC l G (d + 1) MX2_goBack [.ref 6] h Q := by
  have e1 : ((h.1 6 2 + 20) - 1) - ((h.1 6 2 + 20) - 1) / 20 * 20 = nI ((w + 19) % 20) := by
    rw [h2, lit 20, nI_add, show nI (w + 20) - 1 = nI (w + 19) from nI_pred (w + 19), pk_rem (by omega) (by decide) (by decide)]
  have e2 : h.1 6 4 - 1 = nI (u - 1) := by rw [h4]; exact pk_sub (b := 1) hu
  have c1 : ¬ h.1 6 4 < 1 := by rw [h4]; exact nI_nlt (b := 1) hu (by omega)
  have c2 : ¬ h.1 6 2 < 0 := by rw [h2]; exact nI_pos (by omega)
  have c3 : h.1 6 2 < 20 := by rw [h2]; exact nI_lt (b := 20) w20 (by decide)
  have c4 : vp_in (h.1 6 2) 20 := by rw [h2]; exact vp_in_nI w20 (by decide)
  have c5 : (h.1 6 2).toNatClampNeg = w := by rw [h2]; exact nI_clamp (by omega)
  refine eX2_goBack hw (bN c1 (bN c2 (bY c3 ⟨c4, ?_⟩)))
  rw [e1, e2, c5]
  refine hq _ ?_ ?_ ?_ ?_ (fun j hj => ?_)
  · have e := ((show gEq [7] h (sA h 7 (va_cpy (h.1 (9 + w)) (h.1 7) 0 0 67)) from ⟨fun a ha => ⟨(sA_o _ _ _ a (by simpa using ha)).1, (sA_o _ _ _ a (by simpa using ha)).2.1⟩, rfl⟩).tr (gEq.sI (sA h 7 (va_cpy (h.1 (9 + w)) (h.1 7) 0 0 67)) 6 2 (nI ((w + 19) % 20)))).tr (gEq.sI (sI (sA h 7 (va_cpy (h.1 (9 + w)) (h.1 7) 0 0 67)) 6 2 (nI ((w + 19) % 20))) 6 4 (nI (u - 1)))
    exact e.mono (fun x hx => by simp at hx ⊢; omega)
  · rw [sI_nb (by decide), sI_s]
  · rw [sI_s]
  · rw [sI_nb (by decide), sI_nb (by decide), (sA_o _ _ _ 6 (by decide)).1]
  · rw [sI_ne (by decide), sI_ne (by decide), sA_s, pk_cpy_in (by omega) (by omega), Nat.zero_add, Nat.sub_zero]
theorem c_goBack_n (hw : gWf h lk sp cd) (h4 : h.1 6 4 = nI 0) (hq : Q (some (.int 0)) h) : gC l G (d + 1) MX2_goBack [.ref 6] h Q := eX2_goBack hw (bY (by rw [h4]; decide) hq)
def MUp (h0 h : gH) (w k : Nat) : Prop := gEq [133] h0 h ∧ ∀ i, h.1 133 i = if i < k then h0.1 142 (187 * w + i) else h0.1 133 i
theorem m_undoL (hw : gWf h0 lk sp cd) (w20 : w < 20) (u20 : u ≤ 20) (hu : 0 < u) (h81 : h0.1 82 81 = nI w) (h80 : h0.1 82 80 = nI u) (hq : ∀ h', gEq [82, 133] h0 h' → h'.1 82 81 = nI ((w + 19) % 20) → h'.1 82 80 = nI (u - 1) → (∀ j, j ≠ 81 → j ≠ 80 → h'.1 82 j = h0.1 82 j) → h'.2.1 82 = h0.2.1 82 → (∀ i, i < 187 → h'.1 133 i = h0.1 142 (187 * w + i)) → Q (some (.int 1)) h') : ∀ r k h, k + r = 187 → MUp h0 h w k → gg p l e s m args below meth c G d MX12_undo Q 21 [some (.ref 82), some (.int (nI k))] [] h := by
  intro r
  induction r with
  | zero =>
    intro k h hk t
    have hk : k = 187 := by omega
    subst hk
    obtain ⟨t1, t5⟩ := t
    have hwh := hw.eq t1
    have e82 := (t1.1 82 (by decide)).1
    have e1 : ((h.1 82 81 + 20) - 1) - ((h.1 82 81 + 20) - 1) / 20 * 20 = nI ((w + 19) % 20) := by
      rw [e82, h81, lit 20, nI_add, show nI (w + 20) - 1 = nI (w + 19) from nI_pred (w + 19), pk_rem (by omega) (by decide) (by decide)]
    have e2 : h.1 82 80 - 1 = nI (u - 1) := by rw [e82, h80]; exact pk_sub (b := 1) hu
    refine wX12_undo_21 hwh.1 hwh.2.1 hwh.2.2.1 (bY (Int32.le_refl _) ?_)
    rw [e1, e2]
    refine hq _ ?_ ?_ (sI_s _ _ _ _) (fun j hj hj2 => ?_) ?_ (fun i hi => ?_)
    · exact ((t1.tr (gEq.sI h 82 81 _)).tr (gEq.sI _ 82 80 _)).mono (fun x hx => by simp at hx ⊢; omega)
    · rw [sI_nb (by decide), sI_s]
    · rw [sI_nb hj2, sI_nb hj, e82]
    · exact (t1.1 82 (by decide)).2
    · rw [sI_ne (by decide), sI_ne (by decide), t5 i, if_pos hi]
  | succ r ih =>
    intro k h hk t
    obtain ⟨t1, t5⟩ := t
    have hwh := hw.eq t1
    have e82 := (t1.1 82 (by decide)).1
    have ee : 187 * h.1 82 81 + nI k = nI (187 * w + k) := by rw [e82, h81, lit 187, pk_mul, nI_add]
    refine wX12_undo_21 hwh.1 hwh.2.1 hwh.2.2.1 (bN (nI_ge (b := 187) (by omega) (by decide)) ?_)
    rw [ee, nI_clamp (show 187 * w + k < 2 ^ 31 by omega), nI_clamp (show k < 2 ^ 31 by omega), nI_1, (t1.1 142 (by decide)).1]
    refine ⟨vp_in_nI (by omega) (by decide), vp_in_nI (by omega) (by decide), ih (k + 1) _ (by omega) ⟨?_, fun i => ?_⟩⟩
    · exact (t1.tr (gEq.sI h 133 k _)).mono (fun x hx => by simp at hx ⊢; omega)
    · by_cases e9 : i = k
      · subst e9
        rw [sI_s, if_pos (by omega)]
      · rw [sI_nb e9, t5 i]
        by_cases e8 : i < k
        · rw [if_pos e8, if_pos (by omega)]
        · rw [if_neg e8, if_neg (by omega)]
theorem st_undo : gStepI l G (gInv Rst) MX11_undo MX12_undo 0 := by
  intro n9 h av hn9 hl hi
  have := nil_of hl
  subst this
  obtain ⟨lk, sp, cd, A, F, hw, g1, g2, g3, g4, ⟨T, hT, g5⟩, g6, g7, ⟨w, u, w20, u20, u1, u2, u3, u4, ru⟩, g9⟩ := hi.2.2.2.2.2.2
  have h6 := g1.B6
  rcases Nat.eq_zero_or_pos u with hu | hu
  · subst hu
    refine eX11_undo (d := 899) hw (c_goBack_n hw u3 ⟨_, rfl, rfl, bY' rfl (c_refuse 4 (by decide) hw ⟨_, rfl, rfl, _, rfl, ?_⟩)⟩)
    refine eX12_undo (d := 900) (hw.eq (gEq.sI h 66 4 _)) (fun p e s m args below meth c => bY' (by rw [sI_ne (by decide)]; exact u4) ⟨_, rfl, rfl, ?_⟩)
    rw [sI_ne (by decide)]
    exact inv_ref Rst_cg 4 hi
  · refine eX11_undo (d := 899) hw (c_goBack_y hw w20 u20 hu u1 u3 (fun h1 a1 a2 a3 a4 a5 => ⟨_, rfl, a1.2, bN' (by decide) ⟨_, rfl, ?_⟩⟩))
    have e82 : h1.1 82 = h.1 82 := (a1.1 82 (by decide)).1
    refine eX12_undo (d := 900) (hw.eq a1) (fun p e s m args below meth c => bN' (by rw [e82, u4]; exact nI_ne0 hu (by omega)) ?_)
    refine m_undoL (hw.eq a1) w20 u20 hu (by rw [e82]; exact u2) (by rw [e82]; exact u4) (fun h2 b1 b2 b3 b4 b5 b6 => ⟨_, rfl, rfl, ?_⟩) 187 0 h1 (by omega) ⟨gEq.rf _ _, fun i => (if_neg (by omega)).symm⟩
    obtain ⟨j1, j2, j3, j4, j5, j6, j7⟩ := hi
    have e : gEq [6, 7, 82, 133] h h2 := (a1.tr b1).mono (fun x hx => by simp at hx ⊢; omega)
    have es : ∀ j, j ≠ 81 → j ≠ 80 → h2.1 82 j = h.1 82 j := fun j x1 x2 => by rw [b4 j x1 x2, e82]
    obtain ⟨F0, T0, r1, r2, r3, r4⟩ := ru 0 hu
    rw [show (w + 20 - 0) % 20 = w by omega] at r3 r4
    have e7 : h2.1 7 = h1.1 7 := (b1.1 7 (by decide)).1
    have e6 : h2.1 6 = h1.1 6 := (b1.1 6 (by decide)).1
    refine ⟨j1.eq e.2, fun i hi9 => ?_, ⟨?_, ?_⟩, ?_, ?_, ?_, lk, sp, cd, A, F0, hw.eq e, g1, ?_, ?_, r2, ⟨T0, by omega, ?_⟩, ?_, ?_, ⟨(w + 19) % 20, u - 1, by omega, by omega, by rw [e6]; exact a2, b2, by rw [e6]; exact a3, b3, fun i hi9 => ?_⟩, ?_⟩
    · rw [(e.1 66 (by decide)).1, (e.1 84 (by decide)).1]
      exact j2 i hi9
    · rw [(e.1 1 (by decide)).1, es 7 (by decide) (by decide)]
      exact j3.1
    · rw [(e.1 1 (by decide)).1, es 8 (by decide) (by decide)]
      exact j3.2
    · unfold I_pic
      rw [(e.1 0 (by decide)).1, es 116 (by decide) (by decide), (e.1 65 (by decide)).1, (e.1 167 (by decide)).1]
      exact j4
    · unfold I_tap
      rw [(e.1 1 (by decide)).1, es 1 (by decide) (by decide), (e.1 83 (by decide)).1, (e.1 2 (by decide)).1]
      exact j5
    · unfold I_sed
      rw [(e.1 0 (by decide)).2, b5, (a1.1 82 (by decide)).2]
      exact j6
    · exact g2.eq hw e (fun x hx => by simp at hx; omega)
    · exact g3.cg (fun x hx => e.1 x (fun z => by simp at hx z; omega)) (es 58 (by decide) (by decide))
    · rw [e7]
      exact r3.cg h6 a5
    · refine r4.cg h6 r2.2.2.1 (fun j hj => ?_)
      rw [b6 j hj, (a1.1 142 (by decide)).1]
    · rw [e6, a4]
      exact g7
    · obtain ⟨F2, T2, c1, c2, c3, c4⟩ := ru (i + 1) (by omega)
      have ei : (w + 19) % 20 + 20 - i = (w + 19) % 20 + 20 - i := rfl
      have ej : ((w + 19) % 20 + 20 - i) % 20 = (w + 20 - (i + 1)) % 20 := by omega
      have pr : ∀ j, j < 20 → 9 + j ∉ [6, 7, 82, 133] := by decide
      refine ⟨F2, T2, by omega, c2, ?_, ?_⟩
      · rw [ej, (e.1 _ (pr _ (Nat.mod_lt _ (by decide)))).1]
        exact c3
      · rw [ej, (e.1 142 (by decide)).1]
        exact c4
    · exact g9.cg (by rw [(e.1 58 (by decide)).1]) (by rw [(e.1 58 (by decide)).1]) (e.1 59 (by decide)).1 (e.1 60 (by decide)).1 (e.1 141 (by decide)).1 (es 76 (by decide) (by decide)) (es 77 (by decide) (by decide)) (fun k hk => (e.1 k (fun z => by
        obtain ⟨r2, r3, r4, r5, r6, r7⟩ := gWds_n k hk
        simp at z
        omega)).1)
end UD
