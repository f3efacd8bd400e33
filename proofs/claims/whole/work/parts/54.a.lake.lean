section LT
variable {l : Launch} {G : gG} {d : Nat} {Q : Option Value → gH → Prop} {h h1 h2 : gH} {lk sp : Nat} {cd : Option Nat} {t : Nat → Nat} {n s i f q c b w z : Nat} {u : Bool} {L : qL} {a1 a2 : Int32} {out : sOut}
/-- the model is told of the columns, first of all -/
theorem m_lakeTold (hw : gWf h lk sp cd) (tw : TWf t n) (tp : TPm t h) (k : MTk t n s u h) (lm : LMp L h) (hR : qR L.1 = 0) (hc : c = 0) (r : StR t n (c = 0) L (s, u) out)
    (hy : ∀ L' p' p'' h', out = .ok (L', p') → sgF t n 59 p' = .ok p'' → 3 ≤ qC L'.1 → MPs h h' → MTk t n p''.1 p''.2 h' → LMp L' h' → Q none h')
    (hn : ∀ f q h', (out = .error (f, q) ∨ ∃ L' p', out = .ok (L', p') ∧ sgF t n 59 p' = .error (f, q)) → 1 ≤ f ∧ f < 10 → MPf f q h h' → Q none h') : gC l G (d + 4) MX12_lakeTold [.ref 82] h Q := by
  have B : ∀ f q h1, gWf h1 lk sp cd → out = .error (f, q) → 1 ≤ f ∧ f ≤ 5 → MPf f q h h1 → gC l G (d + 3) MX12_asksSign [.ref 82, .int 59] h1 (rV fun h2 => h2.2.2 = h1.2.2 ∧ Q none h2) := fun f q h1 hw1 ro ff e1 =>
    m_asksSign_f (d := d + 2) hw1 (e1.ne ff) ⟨rfl, rfl, hn f q h1 (Or.inl ro) (by omega) e1⟩
  refine eX12_lakeTold hw (m_asks (d := d) (i := 0) (w := 85) hw tw tp k (by decide) rfl (by decide) (tp.2.1 0 (by decide)) (fun p2 h3 q3 e3 k3 => ⟨rfl, e3.1.2, ?_⟩) (fun f q h3 q3 e3 => ⟨rfl, e3.1.2, ?_⟩))
  · unfold wdF at q3
    split at q3
    · rename_i iw
      cases q3
      have rI : StI t n L (s, u) out := by
        unfold StR at r
        rw [if_neg (fun z => z iw.1)] at r
        rcases r with ⟨a, _⟩ | ⟨_, a⟩
        · exact absurd ⟨fun _ => hc, fun _ => iw⟩ a
        · exact a
      have r0 := StI_lake iw rI
      refine m_number (d := d + 2) (lo := 3) (hi := 9) (hw.eq e3.1) tw (tp.ml e3.1) k3 (by decide) (by decide) (fun v4 p4 h4 q4 e4 k4 _ => ⟨_, rfl, e4.1.2, ?_⟩) (fun f q h4 x q4 e4 => ⟨_, rfl, e4.1.2, ?_⟩)
      · have ro := bdR_oI q4 r0
        have E4 := e3.tr e4
        have P4 : MPs h (sI h4 119 0 (nI v4)) := E4.px.si (by decide) (by decide) (by decide)
        have tp4 : TPm t (sI h4 119 0 (nI v4)) := ⟨fun i hi => by rw [(P4.1.1.1 83 (by decide)).1]; exact tp.1 i hi, fun i hi j hj => by rw [(P4.1.1.1 (85 + i) (by simp; omega)).1]; exact tp.2.1 i hi j hj, fun i hi j hj => by rw [(P4.1.1.1 (143 + i) (by simp; omega)).1]; exact tp.2.2 i hi j hj⟩
        have l4 : LMp (fupd L.1 0 0 v4, L.2) (sI h4 119 0 (nI v4)) := by
          obtain ⟨a1, a2, a3, a4, a5, a6, a7, a8, a9, a10, a11, a12, a13, a14⟩ := lm.ml E4
          refine ⟨sI_s _ _ _ _, ?_, ?_, ?_, ?_, ?_, fun x hx => ?_, fun x hx => ?_, fun x hx => ?_, fun x hx => ?_, fun x hx => ?_, fun x hx => ?_, ?_, fun x hx => ?_⟩
          · rw [sI_nb (by decide)]; exact a2
          · rw [sI_nb (by decide)]; exact a3
          · rw [sI_nb (by decide)]; exact a4
          · rw [sI_nb (by decide)]; exact a5
          · rw [sI_ne (by decide)]; exact a6
          · have hx : x < v4 * qR L.1 := hx
            rw [hR, Nat.mul_zero] at hx
            exact absurd hx (Nat.not_lt_zero _)
          · rw [sI_na (by decide)]; exact a8 x hx
          · rw [sI_na (by decide)]; exact a9 x hx
          · rw [sI_ne (by decide)]; exact a10 x hx
          · rw [sI_na (by decide)]; exact a11 x hx
          · rw [sI_na (by decide), sI_na (by decide)]; exact a12 x hx
          · rw [sI_ne (by decide)]; exact a13
          · rw [sI_ne (by decide)]; exact a14 x hx
        refine m_asksSign (d := d + 1) (c := 59) (hw.eq P4.1.1) tw tp4 (k4.c2 (sI_na (by decide))) (by decide) (by decide) (fun p'' h5 q5 e5 k5 => ⟨rfl, e5.1.2, hy _ _ p'' h5 ro q5 (numF_b q4).1 (P4.tr e5.px) k5 (l4.ml e5)⟩) (fun f q h5 q5 e5 => ⟨rfl, e5.1.2, hn f q h5 (Or.inr ⟨_, _, ro, q5⟩) ?_ (P4.fl e5.px)⟩)
        unfold sgF at q5
        split at q5
        · cases q5
        · cases q5; decide
      · have ff := numF_f q4
        have E4 := (e3.fl e4).px
        have P4 : MPf f q h (sI h4 119 0 x) := ⟨E4.1.sx (by decide) (by decide) (by decide), by rw [sI_ne (by decide)]; exact E4.2.1, by rw [sI_ne (by decide)]; exact E4.2.2⟩
        exact B f q _ (hw.eq P4.1.1) (bdR_eI q4 r0) (by omega) P4
    · cases q3
  · have f1 := wdF_c q3
    have n5 := e3.px.ne (by omega)
    refine m_number_f (d := d + 2) (hw.eq e3.1) n5 ⟨_, rfl, rfl, ?_⟩
    have P4 : MPf f q h (sI h3 119 0 0) := ⟨e3.px.1.sx (by decide) (by decide) (by decide), by rw [sI_ne (by decide)]; exact e3.px.2.1, by rw [sI_ne (by decide)]; exact e3.px.2.2⟩
    refine B f q _ (hw.eq P4.1.1) ?_ (by omega) P4
    unfold wdF at q3
    split at q3
    · cases q3
    · rename_i nw
      cases q3
      unfold StR at r
      by_cases kw : tkk t n s u = 1001
      · rw [if_neg (fun z => z kw)] at r
        rcases r with ⟨_, a⟩ | ⟨a, _⟩
        · exact a
        · exact absurd (a.mpr hc) nw
      · rw [if_pos kw] at r; exact r
end LT
