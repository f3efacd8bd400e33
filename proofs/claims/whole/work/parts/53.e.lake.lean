section CN
variable {l : Launch} {G : gG} {d : Nat} {Q : Option Value → gH → Prop} {h h1 h2 : gH} {lk sp : Nat} {cd : Option Nat} {t : Nat → Nat} {n s i f q c b w : Nat} {u : Bool} {L : qL}
theorem p32_nm {f g : Nat → Nat} (hf : nwf f) (hg : nwf g) : nI (p32 f 6) = nI (p32 g 6) ↔ nmE f g := by
  have b1 := p32_lt hf.1
  have b2 := p32_lt hg.1
  rw [nI_eq (by omega) (by omega)]
  exact ⟨fun e => p32_in hf.1 hg.1 e, fun e => p32_cg 6 e⟩
theorem p32_n0 {f : Nat → Nat} (hf : nwf f) : nI (p32 f 6) ≠ 0 := by
  have b1 := p32_lt hf.1
  intro e
  have e0 : p32 f 6 = 0 := (nI_eq (b := 0) (by omega) (by decide)).mp e
  have := p32_at hf.1 (k := 0) (by decide)
  rw [e0] at this
  exact hf.2.1 (by simpa using this.symm)
theorem sh_nm (hb : b = 30 ∨ b = 67) : gSH[b + 3]? = some (20, 6) ∧ gSH[b + 6]? = some (20, 6) ∧ gSH[b + 9]? = some (20, 10) := by
  rcases hb with rfl | rfl <;> exact ⟨rfl, rfl, rfl⟩
theorem c_readNewName (hw : gWf h lk sp cd) (hb : b = 30 ∨ b = 67) (tw : TWf t n) (tp : TPc t n h) (k : CTk t n s u h) (hk : tkk t n s u ≠ 1003) (lc : LCp L c b h) (g : qG L.1)
    (hy : ∀ p' h', nnF t n L.1 (nx t n s, nj t n s) = .ok p' → nwf (ltr t n (nx t n s)) → CLx h h' → CTk t n p'.1 p'.2 h' → Q (some (.int (nI (p32 (ltr t n (nx t n s)) 6)))) h')
    (hn : ∀ f q h', nnF t n L.1 (nx t n s, nj t n s) = .error (f, q) → CFl f q h h' → Q (some (.int 0)) h') : gC l G (d + 3) MX7_readNewName [.ref 5, .ref b] h Q := by
  refine eX7_readNewName hw hb (c_move (d := d + 1) hw tw tp k hk (fun h1 e1 k1 => ⟨rfl, e1.1.2, ?_⟩))
  have hw1 := hw.eq e1.1
  refine c_isAtName (d := d) hw1 tw k1 (fun q => ⟨_, rfl, rfl, bN' (by decide) ?_⟩) (fun f q h2 q2 e2 => ⟨_, rfl, e2.1.2, ⟨fun z => absurd rfl z, fun _ => hn f q h2 ?_ (e1.fl e2)⟩⟩)
  · obtain ⟨nw, l6, kw⟩ := nwf_ltr tw q
    have a7 : h1.1 1 7 = nI (p32 (ltr t n (nx t n s)) 6) := (k1.wd tw kw).2.2.2.2 l6
    obtain ⟨a1, a2, a3, a4, a5, a6, a9', a8, a9, a10, a11, a12, a13, a14⟩ := lc.cl hb e1.1
    obtain ⟨s3, s6, s9⟩ := sh_nm hb
    rw [a7, a3]
    refine c_find (m := 6) hw1 s3 g.2.1 (by decide) (fun j hj e _ => ⟨_, rfl, rfl, bN' (i_nm1 (by have := g.2.1; omega)) (c_failHere (f := 3) (d := d + 1) hw1 k1.k4 (fun h4 e4 => ⟨_, rfl, e4.1.2, hn 3 _ h4 ?_ (e1.fl e4)⟩))⟩) (fun no => ⟨_, rfl, rfl, ⟨fun z => absurd rfl z, fun _ => ?_⟩⟩)
    · unfold nnF
      rw [q]
      rw [(a9 j hj).1, p32_nm (g.2.2.2.2.2.2.2.2.2.2.2.1 j hj) nw] at e
      exact if_pos (Or.inl ⟨j, hj, e⟩)
    · rw [a4]
      refine c_find (m := 6) hw1 s6 g.2.2.1 (by decide) (fun j hj e _ => ⟨_, rfl, rfl, bN (i_nm1 (by have := g.2.2.1; omega)) (c_failHere (f := 3) (d := d + 1) hw1 k1.k4 (fun h4 e4 => ⟨_, rfl, e4.1.2, hn 3 _ h4 ?_ (e1.fl e4)⟩))⟩) (fun no2 => ⟨_, rfl, rfl, ⟨fun _ => ?_, fun z => absurd rfl z⟩⟩)
      · unfold nnF
        rw [q]
        rw [(a10 j hj).1, p32_nm (g.2.2.2.2.2.2.2.2.2.2.2.2.1 j hj) nw] at e
        exact if_pos (Or.inr ⟨j, hj, e⟩)
      · refine c_move (d := d + 1) hw1 tw (tp.cl e1) k1 (by omega) (fun h6 e6 k6 => ⟨rfl, e6.1.2, hy (_, _) h6 ?_ nw (e1.tr e6) k6⟩)
        unfold nnF
        rw [q]
        refine if_neg (fun z => ?_)
        rcases z with ⟨j, hj, e⟩ | ⟨j, hj, e⟩
        · exact no j hj (by rw [(a9 j hj).1, p32_nm (g.2.2.2.2.2.2.2.2.2.2.2.1 j hj) nw]; exact e)
        · exact no2 j hj (by rw [(a10 j hj).1, p32_nm (g.2.2.2.2.2.2.2.2.2.2.2.2.1 j hj) nw]; exact e)
  · unfold nnF
    rw [q2]
/-- which of its kind bears the name that stands here -/
theorem c_readKnownName {z kk : Nat} (hw : gWf h lk sp cd) (hs : gSH[w]? = some (20, 6)) (hkk : kk ≤ 6) (tw : TWf t n) (tp : TPc t n h) (k : CTk t n s u h) (hv : ∀ j, j < kk → h.1 w j = nI (p32 (qnm L.1 z j) 6)) (w1 : w ≠ 1) (hn' : ∀ j, j < kk → nwf (qnm L.1 z j))
    (hy : ∀ a h', knR t n L.1 z kk (s, u) (.ok a) → a.1 < kk → CLx h h' → CTk t n a.2.1 a.2.2 h' → Q (some (.int (nI a.1))) h')
    (hn : ∀ f q h', knR t n L.1 z kk (s, u) (.error (f, q)) → CFl f q h h' → Q (some (.int (-1))) h') : gC l G (d + 3) MX7_readKnownName [.ref 5, .ref w, .int (nI kk)] h Q := by
  refine eX7_readKnownName hw hs ?_
  refine c_isAtName (d := d) hw tw k (fun q => ⟨_, rfl, rfl, bN' (by decide) ?_⟩) (fun f q h2 q2 e2 => ⟨_, rfl, e2.1.2, ⟨fun z => absurd rfl z, fun _ => hn f q h2 (Or.inl ⟨_, q2, rfl⟩) e2⟩⟩)
  obtain ⟨nw, l6, kw⟩ := nwf_ltr tw q
  have a7 : h.1 1 7 = nI (p32 (ltr t n s) 6) := (k.wd tw kw).2.2.2.2 l6
  rw [a7]
  refine c_find (m := 6) hw hs hkk (by decide) (fun j hj e no => ⟨_, rfl, rfl, bN' (i_nm1 (by omega)) (c_move (d := d + 1) hw tw tp k (by omega) (fun h6 e6 k6 => ⟨rfl, e6.1.2, hy (j, _, _) h6 (Or.inr ⟨q, Or.inl ⟨j, hj, ?_, fun j' hj' y => ?_, rfl⟩⟩) hj e6 k6⟩))⟩) (fun no => ⟨_, rfl, rfl, ⟨fun z => absurd rfl z, fun _ => c_failHere (f := 3) (d := d + 1) hw k.k4 (fun h4 e4 => ⟨_, rfl, e4.1.2, hn 3 _ h4 (Or.inr ⟨q, Or.inr ⟨fun j hj y => ?_, rfl⟩⟩) e4⟩)⟩⟩)
  · rw [hv j hj, p32_nm (hn' j hj) nw] at e
    exact e
  · exact no j' hj' (by rw [hv j' (by omega), p32_nm (hn' j' (by omega)) nw]; exact y)
  · exact no j hj (by rw [hv j hj, p32_nm (hn' j hj) nw]; exact y)
/-- a harbour that is told by its column and its row -/
theorem c_readHarbour (hw : gWf h lk sp cd) (hb : b = 30 ∨ b = 67) (tw : TWf t n) (tp : TPc t n h) (k : CTk t n s u h) (lc : LCp L c b h) (g : qG L.1)
    (hy : ∀ a5 a6 h', numF t n 0 (qC L.1) (s, u) = .ok a5 → numF t n 0 (qR L.1) a5.2 = .ok a6 → qkd L.1 (qC L.1 * a6.1 + a5.1) = 0 → qC L.1 * a6.1 + a5.1 < qN L.1 → CLx h h' → CTk t n a6.2.1 a6.2.2 h' → Q (some (.int (nI (qC L.1 * a6.1 + a5.1)))) h')
    (hn1 : ∀ f q h', numF t n 0 (qC L.1) (s, u) = .error (f, q) → CFl f q h h' → Q (some (.int (-1))) h')
    (hn2 : ∀ a5 f q h', numF t n 0 (qC L.1) (s, u) = .ok a5 → numF t n 0 (qR L.1) a5.2 = .error (f, q) → CFl f q h h' → Q (some (.int (-1))) h')
    (hn3 : ∀ a5 a6 h', numF t n 0 (qC L.1) (s, u) = .ok a5 → numF t n 0 (qR L.1) a5.2 = .ok a6 → qkd L.1 (qC L.1 * a6.1 + a5.1) ≠ 0 → CFl 2 a5.2.1 h h' → Q (some (.int (-1))) h') : gC l G (d + 3) MX7_readHarbour [.ref 5, .ref b] h Q := by
  have N48 := g.N48
  have C8 : qC L.1 ≤ 8 := by rcases g.1 with z | z <;> omega
  have R6 : qR L.1 ≤ 6 := by rcases g.1 with z | z <;> omega
  refine eX7_readHarbour hw hb ?_
  rw [lc.1]
  refine c_takeNumber (d := d) (lo := 0) hw tw tp k (by decide) (by omega) (fun v1 p1 h1 q1 e1 k1 => ⟨_, rfl, e1.1.2, bN' (i_nm1 (by have := numF_b q1; omega)) ?_⟩) (fun f q h1 q1 e1 => ⟨_, rfl, e1.1.2, ⟨fun z => absurd rfl z, fun _ => hn1 f q h1 q1 e1⟩⟩)
  have lc1 := lc.cl hb e1.1
  have hw1 := hw.eq e1.1
  rw [lc1.2.1]
  refine c_takeNumber (d := d) (lo := 0) hw1 tw (tp.cl e1) k1 (by decide) (by omega) (fun v2 p2 h2 q2 e2 k2 => ⟨_, rfl, e2.1.2, bN' (i_nm1 (by have := numF_b q2; omega)) ?_⟩) (fun f q h2 q2 e2 => ⟨_, rfl, e2.1.2, ⟨fun z => absurd rfl z, fun _ => hn2 (v1, p1) f q h2 q1 q2 (e1.fl e2)⟩⟩)
  have lc2 := lc1.cl hb e2.1
  have hw2 := hw1.eq e2.1
  have b1 := (numF_b q1).2.1
  have b2 := (numF_b q2).2.1
  have lt : qC L.1 * v2 + v1 < qN L.1 := by
    have : qC L.1 * (v2 + 1) ≤ qC L.1 * qR L.1 := Nat.mul_le_mul_left _ b2
    rw [Nat.mul_add, Nat.mul_one] at this
    show _ < qC L.1 * qR L.1
    omega
  have ee : nI v2 * nI (qC L.1) + nI v1 = nI (qC L.1 * v2 + v1) := by rw [pk_mul, nI_add, Nat.mul_comm]
  rw [lc2.1, ee, k1.k4]
  refine eX4_isHarbour hw2 hb (eX4_isCell hw2 hb (bN (nI_pos (by omega)) (bN (nI_ge (b := 48) (by omega) (by decide)) (bN ?_ ⟨_, rfl, rfl, bN (by decide) ⟨vp_in_nI (by omega) (by decide), ?_⟩⟩))))
  · rw [lc2.1, lc2.2.1, pk_mul]
    show ¬ nI (qN L.1) ≤ _
    exact nI_ge lt (by omega)
  · have kb := g.2.2.2.2.2.2.1 _ lt
    have kz : nI (qkd L.1 (qC L.1 * v2 + v1)) = 0 → qkd L.1 (qC L.1 * v2 + v1) = 0 := (nI_eq (b := 0) (by omega) (by decide)).mp
    rw [nI_clamp (by omega), lc2.2.2.2.2.2.2.2.1 _ lt]
    refine ⟨fun z => ⟨_, rfl, rfl, ⟨fun z => absurd rfl z, fun _ => c_fail (f := 2) hw2 (fun h4 e4 => ⟨_, rfl, e4.1.2, hn3 (v1, p1) (v2, p2) h4 q1 q2 (fun y => z (by rw [show qkd L.1 (qC L.1 * v2 + v1) = 0 from y]; rfl)) ((e1.tr e2).fl e4)⟩)⟩⟩, fun z => ⟨_, rfl, rfl, bN' (by decide) (hy (v1, p1) (v2, p2) h2 q1 q2 (kz z) lt (e1.tr e2) k2)⟩⟩
end CN
