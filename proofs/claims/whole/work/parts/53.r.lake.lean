section MN
variable {l : Launch} {G : gG} {d : Nat} {Q : Option Value → gH → Prop} {h h1 h2 : gH} {lk sp : Nat} {cd : Option Nat} {t : Nat → Nat} {n s i f q c b w z : Nat} {u : Bool} {L : qL} {a1 a2 : Int32}
theorem nI_f0 {h : gH} {f : Nat} (e : h.1 82 5 = nI f) (hf : f = 1 ∨ f = 2 ∨ f = 3 ∨ f = 4 ∨ f = 5) : h.1 82 5 ≠ 0 := by
  rw [e]
  rcases hf with rfl | rfl | rfl | rfl | rfl <;> decide
theorem nmF_c {p : Nat × Bool} {f q : Nat} (h : nmF t n p = .error (f, q)) : f = 1 := by
  unfold nmF at h
  split at h
  · split at h
    · split at h
      · cases h; rfl
      · cases h
    · cases h; rfl
  · cases h; rfl
theorem m_newName (hw : gWf h lk sp cd) (tw : TWf t n) (tp : TPm t h) (k : MTk t n s u h) (lm : LMp L h) (g : qG L.1)
    (hy : ∀ p' h', nnF t n L.1 (s, u) = .ok p' → MLx h h' → MTk t n p'.1 p'.2 h' → Q (some (.long (lN (p27 (ltr t n s) 6)))) h')
    (hn : ∀ f q h' x, nnF t n L.1 (s, u) = .error (f, q) → f = 1 ∨ f = 3 → MFl f q h h' → Q (some (.long x)) h') : gC l G (d + 4) MX12_newName [.ref 82] h Q := by
  refine eX12_newName hw (fun p e s9 m args below meth cc => ?_)
  have FL : ∀ h', gWf h' lk sp cd → h'.1 82 5 ≠ 0 → ∀ v : Int64, Q (some (.long v)) h' → ∀ r j, j + r = 2 → gg p l e s9 m args below meth cc G (d + 4) MX12_newName Q 7 [some (.ref 82), some (.long v), none, some (.int (nI j))] [] h' := by
    intro h' hw' h5 v hq r
    induction r with
    | zero =>
      intro j hj
      exact wX12_newName_7 hw'.1 hw'.2.1 hw'.2.2.1 (bY (nI_le (a := 2) (by omega) (by omega)) hq)
    | succ r ih =>
      intro j hj
      refine wX12_newName_7 hw'.1 hw'.2.1 hw'.2.2.1 (bN (nI_ge (b := 2) (by omega) (by decide)) (bN' h5 ?_))
      rw [nI_1]
      exact ih (j + 1) (by omega)
  have B6 := g.2.1
  have H6 := g.2.2.1
  refine m_name (d := d) hw tw tp k (fun h1 q1 e1 k1 a45 => ⟨_, rfl, e1.1.2, ?_⟩) (fun f q h1 q1 e1 => ⟨_, rfl, e1.1.2, FL h1 (hw.eq e1.1) (nI_f0 e1.2.2.2.1 (Or.inl (nmF_c q1))) 0 (hn f q h1 0 (by unfold nnF; rw [q1]) (Or.inl (nmF_c q1)) e1) 2 0 rfl⟩)
  have hw1 := hw.eq e1.1
  have lm1 := lm.ml e1
  obtain ⟨nw, l6, kw⟩ := nwf_ltr tw q1
  have k5 := k1.2.2.2.1
  have bn := lm1.2.2.2.2.2.2.2.1
  have hn' := lm1.2.2.2.2.2.2.2.2.1
  refine wX12_newName_7 hw1.1 hw1.2.1 hw1.2.2.1 (bN (by decide) (bY' k5 (m_nameOf (z := 0) hw1 (by decide) lm1.2.2.1 B6 (fun j hj ej _ => ⟨_, rfl, rfl, bN (i_nm1 (by omega)) ?_⟩) (fun no => ⟨_, rfl, rfl, bY rfl ?_⟩))))
  · rw [a45]
    refine m_fail (f := 3) hw1 k5 (fun h2 e2 => ⟨rfl, e2.1.2, FL h2 (hw1.eq e2.1) (nI_f0 e2.2.2.2.1 (by omega)) _ (hn 3 s h2 _ ?_ (Or.inr rfl) (e1.fl e2)) 1 1 rfl⟩)
    rw [show 6 * 0 + j = j by omega, (bn j hj).1, p27_nm (g.2.2.2.2.2.2.2.2.2.2.2.1 j hj) nw] at ej
    unfold nnF
    rw [q1]
    exact if_pos (Or.inl ⟨j, hj, ej⟩)
  · refine wX12_newName_7 hw1.1 hw1.2.1 hw1.2.2.1 (bN (by decide) (bY' k5 (m_nameOf (z := 1) hw1 (by decide) lm1.2.2.2.1 H6 (fun j hj ej _ => ⟨_, rfl, rfl, bN (i_nm1 (by omega)) ?_⟩) (fun no2 => ⟨_, rfl, rfl, bY rfl ?_⟩))))
    · rw [a45]
      refine m_fail (f := 3) hw1 k5 (fun h2 e2 => ⟨rfl, e2.1.2, FL h2 (hw1.eq e2.1) (nI_f0 e2.2.2.2.1 (by omega)) _ (hn 3 s h2 _ ?_ (Or.inr rfl) (e1.fl e2)) 0 2 rfl⟩)
      rw [show 6 * 1 + j = 6 + j by omega, (hn' j hj).1, p27_nm (g.2.2.2.2.2.2.2.2.2.2.2.2.1 j hj) nw] at ej
      unfold nnF
      rw [q1]
      exact if_pos (Or.inr ⟨j, hj, ej⟩)
    · refine wX12_newName_7 hw1.1 hw1.2.1 hw1.2.2.1 (bY (by decide) (hy (nx t n s, nj t n s) h1 ?_ e1 k1))
      unfold nnF
      rw [q1]
      refine if_neg (fun y => ?_)
      rcases y with ⟨j, hj, ej⟩ | ⟨j, hj, ej⟩
      · exact no j hj (by rw [show 6 * 0 + j = j by omega, (bn j hj).1, p27_nm (g.2.2.2.2.2.2.2.2.2.2.2.1 j hj) nw]; exact ej)
      · exact no2 j hj (by rw [show 6 * 1 + j = 6 + j by omega, (hn' j hj).1, p27_nm (g.2.2.2.2.2.2.2.2.2.2.2.2.1 j hj) nw]; exact ej)
theorem m_oneOf_f {kk : Nat} (hw : gWf h lk sp cd) (hz : z < 2) (hk : h.1 119 (2 + z) = nI kk) (k6 : kk ≤ 6) (h5 : h.1 82 5 ≠ 0) (hq : Q (some (.int 0)) h) : gC l G (d + 2) MX12_oneOf [.ref 82, .int (nI z)] h Q :=
  eX12_oneOf hw (m_name_f hw h5 ⟨_, rfl, rfl, m_nameOf hw hz hk k6 (fun j hj ej _ => ⟨_, rfl, rfl, bN' h5 (bN' h5 hq)⟩) (fun no => ⟨_, rfl, rfl, bN' h5 (bN' h5 hq)⟩)⟩)
theorem m_oneOf {kk : Nat} {o : Except (Nat × Nat) (Nat × (Nat × Bool))} (hw : gWf h lk sp cd) (tw : TWf t n) (tp : TPm t h) (k : MTk t n s u h) (hz : z < 2) (hk : h.1 119 (2 + z) = nI kk) (k6 : kk ≤ 6) (hv : ∀ j, j < kk → h.2.1 120 (6 * z + j) = lN (p27 (qnm L.1 z j) 6)) (hw' : ∀ j, j < kk → nwf (qnm L.1 z j)) (r : knR t n L.1 z kk (s, u) o)
    (hy : ∀ a h', o = .ok a → MLx h h' → MTk t n a.2.1 a.2.2 h' → Q (some (.int (nI a.1))) h')
    (hn : ∀ f q h' x, o = .error (f, q) → f = 1 ∨ f = 3 → MFl f q h h' → Q (some (.int x)) h') : gC l G (d + 4) MX12_oneOf [.ref 82, .int (nI z)] h Q := by
  refine eX12_oneOf hw (m_name (d := d) hw tw tp k (fun h1 q1 e1 k1 a45 => ⟨_, rfl, e1.1.2, ?_⟩) (fun f q h1 q1 e1 => ⟨_, rfl, e1.1.2, ?_⟩))
  · have hw1 := hw.eq e1.1
    obtain ⟨nw, l6, kw⟩ := nwf_ltr tw q1
    have k5 := k1.2.2.2.1
    have E120 : h1.2.1 120 = h.2.1 120 := (e1.1.1 120 (by decide)).2
    have eqv : ∀ j, j < kk → (h1.2.1 120 (6 * z + j) = lN (p27 (ltr t n s) 6) ↔ nmE (qnm L.1 z j) (ltr t n s)) := fun j hj => by rw [E120, hv j hj]; exact p27_nm (hw' j hj) nw
    rcases r with ⟨f, qf, ro⟩ | ⟨_, ⟨w, hw2, ew, nw2, ro⟩ | ⟨no, ro⟩⟩
    · rw [q1] at qf; cases qf
    · refine m_nameOf hw1 hz (by rw [(e1.1.1 119 (by decide)).1]; exact hk) k6 (fun j hj ej nj => ⟨_, rfl, rfl, bY' k5 (bN' (i_nm1 (by omega)) (bY' k5 ?_))⟩) (fun no => absurd ((eqv w hw2).mpr ew) (no w hw2))
      have : j = w := by
        rcases Nat.lt_trichotomy j w with y | y | y
        · exact absurd ((eqv j hj).mp ej) (nw2 j y)
        · exact y
        · exact absurd ((eqv w hw2).mpr ew) (nj w y)
      rw [this]
      exact hy (w, _, _) h1 ro e1 k1
    · refine m_nameOf hw1 hz (by rw [(e1.1.1 119 (by decide)).1]; exact hk) k6 (fun j hj ej nj => absurd ((eqv j hj).mp ej) (no j hj)) (fun _ => ⟨_, rfl, rfl, bY' k5 (bY' rfl ?_)⟩)
      rw [a45]
      refine m_fail (f := 3) hw1 k5 (fun h2 e2 => ⟨rfl, e2.1.2, bN' (nI_f0 e2.2.2.2.1 (by omega)) (hn 3 s h2 _ ro (Or.inr rfl) (e1.fl e2))⟩)
  · have hw1 := hw.eq e1.1
    have h5 := nI_f0 e1.2.2.2.1 (Or.inl (nmF_c q1))
    have ro : o = .error (f, q) := by
      rcases r with ⟨f', qf, ro⟩ | ⟨qf, _⟩
      · rw [q1] at qf; cases qf; exact ro
      · rw [q1] at qf; cases qf
    have fin := hn f q h1 0 ro (Or.inl (nmF_c q1)) e1
    exact m_nameOf hw1 hz (by rw [(e1.1.1 119 (by decide)).1]; exact hk) k6 (fun j hj ej nj => ⟨_, rfl, rfl, bN' h5 (bN' h5 fin)⟩) (fun no => ⟨_, rfl, rfl, bN' h5 (bN' h5 fin)⟩)
end MN
