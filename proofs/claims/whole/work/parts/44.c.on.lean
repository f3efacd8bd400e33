/-- the fleet that an image tells -/
def fon (t : Nat → Nat) : qT := fun i j => if i = 0 then (if j = 0 then 256 * t 0 + t 1 else if j = 1 then 65536 * t 2 + 256 * t 3 + t 4 else 0) else if i = 1 then t (5 + 4 * j) else if i = 2 then t (5 + 4 * j + 1) else if i = 3 then t (5 + 4 * j + 2) else if i = 4 then t (5 + 4 * j + 3) else 0
section O2
variable {l : Launch} {G : gG} {d : Nat} {Q : Option Value → gH → Prop} {h h0 : gH} {lk sp : Nat} {cd : Option Nat} {A F : qT} {T n : Nat} {t : Nat → Nat}
theorem fon_g {x : Nat → Int32} (q : iOK A t n x) : fG A (fon t) := by
  refine ⟨q.2.2.1, q.2.2.2.1, Nat.zero_le _, fun b hb => ?_, fun i hi => absurd hi (Nat.not_lt_zero _)⟩
  obtain ⟨h1, h2, h3, h4, -⟩ := q.2.2.2.2 b hb
  exact ⟨h1.1, h1.2, h2, h3, h4⟩
def TK (t : Nat → Nat) (h0 : gH) (b : Nat) (h : gH) : Prop := gEq [7] h0 h ∧ h.1 7 0 = nI (256 * t 0 + t 1) ∧ h.1 7 1 = nI (65536 * t 2 + 256 * t 3 + t 4) ∧ h.1 7 2 = nI 0 ∧ ∀ b', b' < b → h.1 7 (3 + b') = nI (t (5 + 4 * b')) ∧ h.1 7 (9 + b') = nI (t (5 + 4 * b' + 1)) ∧ h.1 7 (15 + b') = nI (t (5 + 4 * b' + 2)) ∧ h.1 7 (21 + b') = nI (t (5 + 4 * b' + 3)) - 1
theorem c_take (hw : gWf h lk sp cd) (g : qG A) (h63 : h.1 6 3 = nI (qB A)) (h72 : h.1 7 2 = nI 0) (ht : ∀ i, i < 1600 → h.1 2 i = nI (t i) ∧ t i < 256) (hq : ∀ h', gEq [7] h h' → FC (qB A) (fon t) 0 (h'.1 7) → Q none h') : gC l G (d + 1) MX2_take [.ref 6, .ref 2] h Q := by
  have h6 := g.B6
  refine eX2_take hw s2 (fun p e s m args below meth c => c_hourIn hw ht ⟨_, rfl, rfl, ?_⟩)
  have e1 : gEq [7] h (sI h 7 0 (nI (256 * t 0 + t 1))) := gEq.sI _ _ _ _
  refine c_coinsIn (hw.eq e1) (fun i hi => by rw [(e1.1 2 (by decide)).1]; exact ht i hi) ⟨_, rfl, rfl, ?_⟩
  suffices H : ∀ r b h', b + r = qB A → TK t h b h' → gg p l e s m args below meth c G (d + 1) MX2_take Q 22 [some (.ref 6), some (.ref 2), some (.int (nI b)), none] [] h' from H (qB A) 0 _ (by omega) ⟨gE1 (List.mem_singleton.mpr rfl) e1, by rw [sI_nb (by decide), sI_s], sI_s _ _ _ _, by rw [sI_nb (by decide), sI_nb (by decide)]; exact h72, fun b hb => absurd hb (Nat.not_lt_zero _)⟩
  intro r
  induction r with
  | zero =>
    intro b h' hb tk
    obtain ⟨k1, k2, k3, k4, k5⟩ := tk
    have hwh := hw.eq k1
    refine wX2_take_22 hwh.1 hwh.2.1 hwh.2.2.1 s2 (bY (by rw [(k1.1 6 (by decide)).1, h63]; exact nI_le (by omega) (by omega)) (hq h' k1 ⟨k2, k3, k4, rfl, fun b' hb' => k5 b' (by omega), fun i hi => absurd hi (Nat.not_lt_zero _)⟩))
  | succ r ih =>
    intro b h' hb tk
    obtain ⟨k1, k2, k3, k4, k5⟩ := tk
    have hwh := hw.eq k1
    have e6 : h'.1 6 3 = nI (qB A) := by rw [(k1.1 6 (by decide)).1, h63]
    have e2 := (k1.1 2 (by decide)).1
    refine wX2_take_22 hwh.1 hwh.2.1 hwh.2.2.1 s2 (bN (by rw [e6]; exact nI_ge (by omega) (by omega)) (eX2_isBoat hwh (bN (nI_pos (by omega)) (bN (by rw [e6]; exact nI_ge (by omega) (by omega)) (bN (nI_ge (b := 6) (by omega) (by decide)) ⟨_, rfl, rfl, bN (by decide) ?_⟩)))))
    have e16 : (5 : Int32) + 4 * nI b = nI (5 + 4 * b) := by rw [lit 5, lit 4, pk_mul, nI_add]
    rw [e16, show nI (5 + 4 * b) + 1 = nI (5 + 4 * b + 1) from nI_add _ 1, show nI (5 + 4 * b) + 2 = nI (5 + 4 * b + 2) from nI_add _ 2, show nI (5 + 4 * b) + 3 = nI (5 + 4 * b + 3) from nI_add _ 3, show (3 : Int32) + nI b = nI (3 + b) from nI_add 3 b, show (9 : Int32) + nI b = nI (9 + b) from nI_add 9 b, show (15 : Int32) + nI b = nI (15 + b) from nI_add 15 b, show (21 : Int32) + nI b = nI (21 + b) from nI_add 21 b]
    rw [nI_clamp (show 5 + 4 * b < 2 ^ 31 by omega), nI_clamp (show 5 + 4 * b + 1 < 2 ^ 31 by omega), nI_clamp (show 5 + 4 * b + 2 < 2 ^ 31 by omega), nI_clamp (show 5 + 4 * b + 3 < 2 ^ 31 by omega), nI_clamp (show 3 + b < 2 ^ 31 by omega), nI_clamp (show 9 + b < 2 ^ 31 by omega), nI_clamp (show 15 + b < 2 ^ 31 by omega), nI_clamp (show 21 + b < 2 ^ 31 by omega)]
    rw [sI_ne (by decide), sI_ne (by decide), sI_ne (by decide), sI_ne (by decide), sI_ne (by decide), sI_ne (by decide), e2, (ht (5 + 4 * b) (by omega)).1, (ht (5 + 4 * b + 1) (by omega)).1, (ht (5 + 4 * b + 2) (by omega)).1, (ht (5 + 4 * b + 3) (by omega)).1, nI_1]
    refine bN (by rw [show Int32.ofNat 1600 = nI 1600 from rfl]; exact nI_ge (by omega) (by decide)) ⟨vp_in_nI (by omega) (by decide), vp_in_nI (by omega) (by decide), vp_in_nI (by omega) (by decide), vp_in_nI (by omega) (by decide), vp_in_nI (by omega) (by decide), vp_in_nI (by omega) (by decide), vp_in_nI (by omega) (by decide), vp_in_nI (by omega) (by decide), ih (b + 1) _ (by omega) ⟨?_, ?_, ?_, ?_, fun b' hb' => ?_⟩⟩
    · repeat (refine gE1 (List.mem_singleton.mpr rfl) ?_)
      exact k1
    · rw [sI_nb (by omega), sI_nb (by omega), sI_nb (by omega), sI_nb (by omega)]; exact k2
    · rw [sI_nb (by omega), sI_nb (by omega), sI_nb (by omega), sI_nb (by omega)]; exact k3
    · rw [sI_nb (by omega), sI_nb (by omega), sI_nb (by omega), sI_nb (by omega)]; exact k4
    · by_cases eb : b' = b
      · subst eb
        refine ⟨?_, ?_, ?_, sI_s _ _ _ _⟩
        · rw [sI_nb (by omega), sI_nb (by omega), sI_nb (by omega), sI_s]
        · rw [sI_nb (by omega), sI_nb (by omega), sI_s]
        · rw [sI_nb (by omega), sI_s]
      · obtain ⟨r1, r2, r3, r4⟩ := k5 b' (by omega)
        refine ⟨?_, ?_, ?_, ?_⟩
        · rw [sI_nb (by omega), sI_nb (by omega), sI_nb (by omega), sI_nb (by omega)]; exact r1
        · rw [sI_nb (by omega), sI_nb (by omega), sI_nb (by omega), sI_nb (by omega)]; exact r2
        · rw [sI_nb (by omega), sI_nb (by omega), sI_nb (by omega), sI_nb (by omega)]; exact r3
        · rw [sI_nb (by omega), sI_nb (by omega), sI_nb (by omega), sI_nb (by omega)]; exact r4
def TM (t : Nat → Nat) (h0 : gH) (b : Nat) (h : gH) : Prop := gEq [133] h0 h ∧ h.1 133 0 = nI (256 * t 0 + t 1) ∧ h.1 133 1 = nI (65536 * t 2 + 256 * t 3 + t 4) ∧ ∀ b', b' < b → h.1 133 (2 + 4 * b') = nI (t (5 + 4 * b')) ∧ h.1 133 (2 + 4 * b' + 1) = nI (t (5 + 4 * b' + 1)) ∧ h.1 133 (2 + 4 * b' + 2) = nI (t (5 + 4 * b' + 2)) ∧ h.1 133 (2 + 4 * b' + 3) = nI (t (5 + 4 * b' + 3)) - 1
theorem m_onL {p : Program} {e : Env} {s : State} {m : MethodId} {args : Array Value} {below : List Frame} {meth : Method} {c : Code} {v : Int32} (hw : gWf h0 lk sp cd) (g : qG A) (k : LM A h0) (ht : ∀ i, i < 1600 → h0.1 83 i = nI (t i) ∧ t i < 256) (hq : ∀ h', gEq [133] h0 h' → TM t h0 (qB A) h' → Q (some (.int 1)) (sI (sI h' 133 26 0) 82 80 0)) : ∀ r b h, b + r = qB A → TM t h0 b h → gg p l e s m args below meth c G (d + 1) MX12_on Q 65 [some (.ref 82), some (.int v), some (.int (nI b)), none] [] h := by
  have h6 := g.B6
  intro r
  induction r with
  | zero =>
    intro b h' hb tk
    have hb : b = qB A := by omega
    subst hb
    have hwh := hw.eq tk.1
    have k1 : LM A h' := k.cg (fun x hx => tk.1.1 x (fun z => by simp at hx z; omega)) (by rw [(tk.1.1 82 (by decide)).1])
    exact wX12_on_65 hwh.1 hwh.2.1 hwh.2.2.1 (m_boatMany hwh k1 ⟨_, rfl, rfl, bY (Int32.le_refl _) (hq h' tk.1 tk)⟩)
  | succ r ih =>
    intro b h' hb tk
    obtain ⟨k1, k2, k3, k5⟩ := tk
    have hwh := hw.eq k1
    have lm : LM A h' := k.cg (fun x hx => k1.1 x (fun z => by simp at hx z; omega)) (by rw [(k1.1 82 (by decide)).1])
    have e83 := (k1.1 83 (by decide)).1
    refine wX12_on_65 hwh.1 hwh.2.1 hwh.2.2.1 (m_boatMany hwh lm ⟨_, rfl, rfl, bN (nI_ge (by omega) (by omega)) ?_⟩)
    have e5 : ∀ j : Nat, (5 : Int32) + 4 * nI b + nI j = nI (5 + 4 * b + j) := fun j => by rw [lit 5, lit 4, pk_mul, nI_add, nI_add]
    have e2 : ∀ j : Nat, (2 : Int32) + 4 * nI b + nI j = nI (2 + 4 * b + j) := fun j => by rw [lit 2, lit 4, pk_mul, nI_add, nI_add]
    have st : ∀ (j : Nat) (h2 : gH), j < 3 → gEq [133] h' h2 → gg p l e s m args below meth c G (d + 1) MX12_on Q 75 [some (.ref 82), some (.int v), some (.int (nI b)), some (.int (nI (j + 1)))] [] (sI h2 133 (2 + 4 * b + j) (nI (t (5 + 4 * b + j)))) → gg p l e s m args below meth c G (d + 1) MX12_on Q 75 [some (.ref 82), some (.int v), some (.int (nI b)), some (.int (nI j))] [] h2 := fun j h2 hj e2' q => by
      have hw2 := hwh.eq e2'
      refine wX12_on_75 hw2.1 hw2.2.1 hw2.2.2.1 (bN (nI_ge (b := 3) hj (by decide)) ?_)
      rw [e5, e2, nI_clamp (by omega), nI_clamp (by omega), (e2'.1 83 (by decide)).1, e83, (ht _ (by omega)).1, nI_1]
      exact ⟨vp_in_nI (by omega) (by decide), vp_in_nI (by omega) (by decide), q⟩
    have q1 := gE1 (i := 2 + 4 * b + 0) (x := nI (t (5 + 4 * b + 0))) (List.mem_singleton.mpr rfl) (gEq.rf [133] h')
    have q2 := gE1 (i := 2 + 4 * b + 1) (x := nI (t (5 + 4 * b + 1))) (List.mem_singleton.mpr rfl) q1
    have q3 := gE1 (i := 2 + 4 * b + 2) (x := nI (t (5 + 4 * b + 2))) (List.mem_singleton.mpr rfl) q2
    refine st 0 h' (by decide) (gEq.rf _ _) (st 1 _ (by decide) q1 (st 2 _ (by decide) q2 ?_))
    have hw3 := hwh.eq q3
    refine wX12_on_75 hw3.1 hw3.2.1 hw3.2.2.1 (bY (Int32.le_refl _) ?_)
    have e8 : (8 : Int32) + 4 * nI b = nI (8 + 4 * b) := by rw [lit 8, lit 4, pk_mul, nI_add]
    have e23 : (2 : Int32) + 4 * nI b + 3 = nI (2 + 4 * b + 3) := e2 3
    rw [e8, e23, nI_clamp (by omega), nI_clamp (by omega), (q3.1 83 (by decide)).1, e83, (ht _ (by omega)).1, nI_1]
    refine ⟨vp_in_nI (by omega) (by decide), vp_in_nI (by omega) (by decide), ih (b + 1) _ (by omega) ⟨?_, ?_, ?_, fun b' hb' => ?_⟩⟩
    · repeat (refine gE1 (List.mem_singleton.mpr rfl) ?_)
      exact k1
    · rw [sI_nb (by omega), sI_nb (by omega), sI_nb (by omega), sI_nb (by omega)]; exact k2
    · rw [sI_nb (by omega), sI_nb (by omega), sI_nb (by omega), sI_nb (by omega)]; exact k3
    · by_cases eb : b' = b
      · subst eb
        refine ⟨?_, ?_, ?_, ?_⟩
        · rw [sI_nb (by omega), sI_nb (by omega), sI_nb (by omega)]; exact sI_s _ _ _ _
        · rw [sI_nb (by omega), sI_nb (by omega), sI_s]
        · rw [sI_nb (by omega), sI_s]
        · rw [sI_s, show 8 + 4 * b' = 5 + 4 * b' + 3 by omega]
      · obtain ⟨r1, r2, r3, r4⟩ := k5 b' (by omega)
        refine ⟨?_, ?_, ?_, ?_⟩
        · rw [sI_nb (by omega), sI_nb (by omega), sI_nb (by omega), sI_nb (by omega)]; exact r1
        · rw [sI_nb (by omega), sI_nb (by omega), sI_nb (by omega), sI_nb (by omega)]; exact r2
        · rw [sI_nb (by omega), sI_nb (by omega), sI_nb (by omega), sI_nb (by omega)]; exact r3
        · rw [sI_nb (by omega), sI_nb (by omega), sI_nb (by omega), sI_nb (by omega)]; exact r4
/-- both have laid the tape down and refuse -/
theorem inv_tref (j : Nat) {n : Nat} (hi : gInv Rst n h) : gInv Rst (n + 1) (sI (sI (sI (sI h 1 2 0) 66 j (h.1 66 j + 1)) 82 1 0) 84 j (h.1 84 j + 1)) := by
  obtain ⟨j1, j2, j3, j4, j5, j6, j7⟩ := hi
  refine ⟨j1.eq rfl, fun i hi => ?_, ?_, ?_, ⟨⟨0, by decide, ?_, ?_⟩, fun i hi => ?_⟩, j6, Rst_cg _ h _ rfl (fun k hk => ⟨?_, rfl⟩) (fun j' hj' => ?_) rfl rfl j7⟩
  · rw [sI_ne (by decide), sI_ne (by decide)]
    by_cases e : i = j
    · subst e
      rw [sI_s, sI_s, j2 i hi]
    · rw [sI_nb e, sI_nb e, sI_ne (by decide), sI_ne (by decide), sI_ne (by decide), sI_ne (by decide)]
      exact j2 i hi
  · exact j3
  · exact j4
  · rfl
  · rfl
  · rw [sI_ne (by decide), sI_ne (by decide), sI_ne (by decide), sI_ne (by decide), sI_ne (by decide), sI_ne (by decide), sI_ne (by decide), sI_ne (by decide)]
    exact j5.2 i hi
  · have e1 : k ≠ 1 := fun e => by subst e; revert hk; decide
    have e2 : k ≠ 82 := fun e => by subst e; revert hk; decide
    have e3 : k ≠ 66 := fun e => by subst e; revert hk; decide
    have e4 : k ≠ 84 := fun e => by subst e; revert hk; decide
    rw [sI_na e4, sI_na e2, sI_na e3, sI_na e1]
  · have e1 : j' ≠ 1 := fun e => by subst e; revert hj'; decide
    rw [sI_ne (by decide), sI_nb e1, sI_ne (by decide), sI_ne (by decide)]
theorem st_on : gStepI l G (gInv Rst) MX11_on MX12_on 0 := by
  intro n9 h av hn9 hl hi
  have := nil_of hl
  subst this
  obtain ⟨lk, sp, cd, A, F, hw, g1, g2, g3, g4, ⟨T, hT, g5⟩, g6, g7, ⟨w, u, w20, u20, u1, u2, u3, u4, ru⟩, g9⟩ := hi.2.2.2.2.2.2
  obtain ⟨⟨tn, tn1, tn2, tn3⟩, tb⟩ := hi.2.2.2.2.1
  have ht := fun i hi' => tpn_e (h := h) hi.2.2.2.2.1 (i := i) hi'
  generalize htt : tpn h = t at ht
  have h6 := g1.B6
  have m : KM A F h := ⟨g1, g3, g4, g6⟩
  have e0 : gEq [1] h (sI h 1 2 0) := gEq.sI _ _ _ _
  have hw0 := hw.eq e0
  have l0 : LC A lk (sI h 1 2 0) := g2.eq hw e0 (fun x hx => by simp at hx; omega)
  have x02 : (sI h 1 2 0).1 2 = h.1 2 := (e0.1 2 (by decide)).1
  have hwr := hw0.eq (gEq.sI (sI h 1 2 0) 66 5 ((sI h 1 2 0).1 66 5 + 1))
  have eqI : iOK A t tn (h.1 2) ↔ iOK A t tn (h.1 83) := by
    have es : sealv (h.1 2) (5 + 4 * qB A) = sealv (h.1 83) (5 + 4 * qB A) := sealv_cg _ (fun i hi => (tb i (by omega)).1.symm)
    unfold iOK
    rw [es, (tb (5 + 4 * qB A) (by omega)).1]
  have ref : ¬ (qC A ≠ 0 ∧ iOK A t tn (h.1 2)) → gC l G 899 MX11_refuse [.ref 0, .int (nI 5)] (sI h 1 2 0) (rI fun v1 h1 => h1.2.2 = (sI h 1 2 0).2.2 ∧ ∃ v', some (Value.int 0) = some (.int v') ∧ gC l G 900 MX12_on [.ref 82] h1 (fun r h' => ∃ v'', r = some (.int v'') ∧ v' = v'' ∧ gInv Rst (n9 + 1) h')) := fun hn => by
    refine c_refuse 5 (by decide) hw0 ⟨_, rfl, rfl, _, rfl, ?_⟩
    have e1 : gEq [1, 66] h (sI (sI h 1 2 0) 66 5 ((sI h 1 2 0).1 66 5 + 1)) := (e0.tr (gEq.sI _ _ _ _)).mono (fun x hx => hx)
    have v82 : (sI (sI h 1 2 0) 66 5 ((sI h 1 2 0).1 66 5 + 1)).1 82 1 = nI tn := tn3
    refine eX12_on (d := 899) (hw.eq e1) (fun p e s m' args below meth c => ?_)
    rw [v82]
    have e2 : gEq [1, 66, 82] h (sI (sI (sI h 1 2 0) 66 5 ((sI h 1 2 0).1 66 5 + 1)) 82 1 0) := (e1.tr (gEq.sI _ _ _ _)).mono (fun x hx => hx)
    have lm2 : LM A (sI (sI (sI h 1 2 0) 66 5 ((sI h 1 2 0).1 66 5 + 1)) 82 1 0) := g3.cg (fun x hx => e2.1 x (fun z => by simp at hx z; omega)) (by rw [sI_nb (by decide), sI_ne (by decide), sI_ne (by decide)])
    have e83 := (e2.1 83 (by decide)).1
    refine m_isTold (hw.eq e2) g1 lm2 tn1 (fun i hi => by rw [e83]; exact (ht i hi).2) (fun c1 c2 => ?_) (fun _ => ⟨_, rfl, rfl, bY' rfl ⟨_, rfl, rfl, ?_⟩⟩)
    · rw [e83] at c2
      exact absurd ⟨c1, eqI.mpr c2⟩ hn
    · rw [sI_ne (by decide), sI_ne (by decide), sI_ne (by decide), sI_ne (by decide)]
      exact inv_tref 5 hi
  refine eX11_on (d := 899) hw (c_isNone hw0 g1 l0 (fun z => ⟨_, rfl, rfl, bN' (by decide) (ref (fun q => q.1 z))⟩) (fun z => ⟨_, rfl, rfl, bY' rfl ?_⟩))
  rw [tn2]
  refine c_isImage hw0 g1 l0 tn1 (fun i hi => by rw [x02]; exact ⟨(ht i hi).1, (ht i hi).2.2⟩) (fun ok => ⟨_, rfl, rfl, bN' (by decide) (eX2_forget hw0 ⟨rfl, rfl, ?_⟩)⟩) (fun no => ⟨_, rfl, rfl, bY' rfl (ref (fun q => no (by rw [x02]; exact q.2)))⟩)
  rw [x02] at ok
  have e1 : gEq [1, 7, 6] h (sI (sI (sI h 1 2 0) 7 2 0) 6 4 0) := ((e0.tr (gEq.sI _ 7 2 0)).tr (gEq.sI _ 6 4 0)).mono (fun x hx => hx)
  have v1 : (sI (sI (sI h 1 2 0) 7 2 0) 6 4 0).1 7 2 = nI 0 := rfl
  have v2 : (sI (sI (sI h 1 2 0) 7 2 0) 6 4 0).1 6 4 = nI 0 := rfl
  have v3 : ∀ j, j ≠ 4 → (sI (sI (sI h 1 2 0) 7 2 0) 6 4 0).1 6 j = h.1 6 j := fun j hj => by rw [sI_nb hj, sI_ne (by decide), sI_ne (by decide)]
  have v4 : (sI (sI (sI h 1 2 0) 7 2 0) 6 4 0).1 1 2 = nI 0 := rfl
  have v5 : ∀ j, j ≠ 2 → (sI (sI (sI h 1 2 0) 7 2 0) 6 4 0).1 1 j = h.1 1 j := fun j hj => by rw [sI_ne (by decide), sI_ne (by decide), sI_nb hj]
  generalize sI (sI (sI h 1 2 0) 7 2 0) 6 4 0 = h1 at e1 v1 v2 v3 v4 v5 ⊢
  refine c_take (hw.eq e1) g1 (by rw [v3 3 (by decide)]; exact g7) v1 (fun i hi => by rw [(e1.1 2 (by decide)).1]; exact ⟨(ht i hi).1, (ht i hi).2.2⟩) (fun h2 e2 f2 => ⟨rfl, e2.2, _, rfl, ?_⟩)
  have e3 : gEq [1, 7, 6] h h2 := (e1.tr e2).mono (fun x hx => by simp at hx ⊢; omega)
  have hw2 := hw.eq e3
  have c82 : h2.1 82 = h.1 82 := (e3.1 82 (by decide)).1
  refine eX12_on (d := 899) hw2 (fun p e s m' args below meth c => ?_)
  rw [c82, tn3]
  have e4 : gEq [82] h2 (sI h2 82 1 0) := gEq.sI _ _ _ _
  have w1 : ∀ j, j ≠ 1 → (sI h2 82 1 0).1 82 j = h.1 82 j := fun j hj => by rw [sI_nb hj, c82]
  have w2 : (sI h2 82 1 0).1 82 1 = nI 0 := sI_s _ _ _ _
  have w3 : (sI h2 82 1 0).2.1 82 = h.2.1 82 := (e3.1 82 (by decide)).2
  generalize sI h2 82 1 0 = h3 at e4 w1 w2 w3 ⊢
  have e5 : gEq [1, 7, 6, 82] h h3 := (e3.tr e4).mono (fun x hx => by simp at hx ⊢; omega)
  have hw3 := hw.eq e5
  have lm3 : LM A h3 := g3.cg (fun x hx => e5.1 x (fun z => by simp at hx z; omega)) (w1 58 (by decide))
  have e83 := (e5.1 83 (by decide)).1
  have ht3 : ∀ i, i < 1600 → h3.1 83 i = nI (t i) ∧ t i < 256 := fun i hi => by rw [e83]; exact (ht i hi).2
  refine m_isTold hw3 g1 lm3 tn1 ht3 (fun c1 c2 => ⟨_, rfl, rfl, bN' (by decide) ?_⟩) (fun no => absurd ⟨z, by rw [e83]; exact eqI.mp ok⟩ no)
  rw [(ht3 0 (by decide)).1, (ht3 1 (by decide)).1, lit 256, pk_mul, nI_add]
  have e6 : gEq [133] h3 (sI h3 133 0 (nI (256 * t 0 + t 1))) := gEq.sI _ _ _ _
  refine eX12_coinsTold (hw3.eq e6) ⟨_, rfl, rfl, ?_⟩
  have q83 := (e6.1 83 (by decide)).1
  rw [q83, (ht3 2 (by decide)).1, (ht3 3 (by decide)).1, (ht3 4 (by decide)).1, lit 65536, lit 256, pk_mul, pk_mul, nI_add, nI_add]
  refine m_onL (d := 899) hw3 g1 lm3 ht3 (fun h4 e7 t7 => ⟨_, rfl, rfl, ?_⟩) (qB A) 0 _ (by omega) ⟨gE1 (List.mem_singleton.mpr rfl) e6, by rw [sI_nb (by decide), sI_s], sI_s _ _ _ _, fun b hb => absurd hb (Nat.not_lt_zero _)⟩
  obtain ⟨p1, p2, p3, p4⟩ := t7
  have f3 : FM (qB A) (fon t) ((sI (sI h4 133 26 0) 82 80 0).1 133) := by
    rw [sI_na (by decide)]
    refine ⟨by rw [sI_nb (by decide)]; exact p2, by rw [sI_nb (by decide)]; exact p3, sI_s _ _ _ _, fun b hb => ?_, fun i hi => absurd hi (Nat.not_lt_zero _)⟩
    rw [sI_nb (by omega), sI_nb (by omega), sI_nb (by omega), sI_nb (by omega)]
    exact p4 b hb
  have e8 : gEq [1, 7, 6, 82, 133] h (sI (sI h4 133 26 0) 82 80 0) := (((e5.tr e7).tr (gEq.sI _ 133 26 0)).tr (gEq.sI _ 82 80 0)).mono (fun x hx => by simp at hx ⊢; omega)
  have y1 : ∀ j, j ≠ 1 → j ≠ 80 → (sI (sI h4 133 26 0) 82 80 0).1 82 j = h.1 82 j := fun j hj hj2 => by rw [sI_nb hj2, sI_ne (by decide), (e7.1 82 (by decide)).1, w1 j hj]
  have y2 : (sI (sI h4 133 26 0) 82 80 0).1 82 80 = nI 0 := sI_s _ _ _ _
  have y3 : (sI (sI h4 133 26 0) 82 80 0).1 82 1 = nI 0 := by rw [sI_nb (by decide), sI_ne (by decide), (e7.1 82 (by decide)).1, w2]
  have y4 : (sI (sI h4 133 26 0) 82 80 0).2.1 82 = h.2.1 82 := ((e7.1 82 (by decide)).2).trans w3
  have y5 : ∀ x, x ∈ [1, 7, 6] → (sI (sI h4 133 26 0) 82 80 0).1 x = h2.1 x := fun x hx => by
    have n1 : x ≠ 82 := fun z => by subst z; revert hx; decide
    have n2 : x ≠ 133 := fun z => by subst z; revert hx; decide
    rw [sI_na n1, sI_na n2, (e7.1 x (by simp [n2])).1, (e4.1 x (by simp [n1])).1]
  generalize sI (sI h4 133 26 0) 82 80 0 = h5 at f3 e8 y1 y2 y3 y4 y5 ⊢
  have z1 : ∀ j, h5.1 1 j = h1.1 1 j := fun j => by rw [y5 1 (by decide), (e2.1 1 (by decide)).1]
  have z6 : ∀ j, h5.1 6 j = h1.1 6 j := fun j => by rw [y5 6 (by decide), (e2.1 6 (by decide)).1]
  obtain ⟨j1, j2, j3, j4, j5, j6, j7⟩ := hi
  refine ⟨j1.eq e8.2, fun i hi9 => ?_, ⟨?_, ?_⟩, ?_, ⟨⟨0, by decide, ?_, y3⟩, fun i hi9 => ?_⟩, ?_, lk, sp, cd, A, fon t, hw.eq e8, g1, ?_, ?_, fon_g ok, ⟨0, Nat.zero_le _, ?_⟩, f3, ?_, ⟨w, 0, w20, by decide, ?_, ?_, ?_, y2, fun i hi9 => absurd hi9 (Nat.not_lt_zero _)⟩, ?_⟩
  · rw [(e8.1 66 (by decide)).1, (e8.1 84 (by decide)).1]
    exact j2 i hi9
  · rw [z1, v5 8 (by decide), y1 7 (by decide) (by decide)]
    exact j3.1
  · rw [z1, v5 9 (by decide), y1 8 (by decide) (by decide)]
    exact j3.2
  · unfold I_pic
    rw [(e8.1 0 (by decide)).1, y1 116 (by decide) (by decide), (e8.1 65 (by decide)).1, (e8.1 167 (by decide)).1]
    exact j4
  · rw [z1, v4]
  · rw [(e8.1 83 (by decide)).1, (e8.1 2 (by decide)).1]
    exact j5.2 i hi9
  · unfold I_sed
    rw [(e8.1 0 (by decide)).2, y4]
    exact j6
  · exact g2.eq hw e8 (fun x hx => by simp at hx; omega)
  · exact g3.cg (fun x hx => e8.1 x (fun z => by simp at hx z; omega)) (y1 58 (by decide) (by decide))
  · rw [y5 7 (by decide)]
    exact f2
  · rw [z6, v3 3 (by decide)]
    exact g7
  · rw [z6, v3 2 (by decide)]
    exact u1
  · rw [y1 81 (by decide) (by decide)]
    exact u2
  · rw [z6]
    exact v2
  · exact g9.cg (by rw [(e8.1 58 (by decide)).1]) (by rw [(e8.1 58 (by decide)).1]) (e8.1 59 (by decide)).1 (e8.1 60 (by decide)).1 (e8.1 141 (by decide)).1 (y1 76 (by decide) (by decide)) (y1 77 (by decide) (by decide)) (fun k hk => (e8.1 k (fun z => by
      have : ∀ k, k ∈ gWds → k ∉ [1, 7, 6, 82, 133] := by decide
      exact this k hk z)).1)
end O2
