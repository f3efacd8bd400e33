section CH
variable {l : Launch} {G : gG} {d : Nat} {Q : Option Value → gH → Prop} {h h1 h2 : gH} {lk sp : Nat} {cd : Option Nat} {t : Nat → Nat} {n s i f q c b w : Nat} {u : Bool} {L : qL} {A : qT} {tr cl x z' w' j : Nat}
/-- the statement that tells a hand -/
theorem c_readHand (hw : gWf h lk sp cd) (hb : b = 30 ∨ b = 67) (tw : TWf t n) (tp : TPc t n h) (k : CTk t n s u h) (hk : tkk t n s u ≠ 1003) (lc : LCp L c b h) (g : qG L.1) (h6 : qH L.1 ≠ 6)
    (hy : ∀ L' p' h', haR t n L (s, u) (.ok (L', p')) → CKs b h h' → CTk t n p'.1 p'.2 h' → LCp L' c b h' → Q (some (.int 1)) h')
    (hn : ∀ f q h', haR t n L (s, u) (.error (f, q)) → CKf b f q h h' → Q (some (.int 0)) h') : gC l G (d + 4) MX7_readHand [.ref 5, .ref b] h Q := by
  have B6 : qH L.1 < 6 := by have := g.2.2.1; omega
  refine eX7_readHand hw hb ?_
  rw [lc.2.2.2.1]
  refine c_readNewName (d := d) hw hb tw tp k hk lc g (fun p1 h1 q1 nw e1 k1 => ⟨_, rfl, e1.1.2, bN (p32_n0 nw) ?_⟩) (fun f q h1 q1 e1 => ⟨_, rfl, e1.1.2, bY rfl (hn f q h1 (bdR_er q1) e1.ck)⟩)
  have hw1 := hw.eq e1.1
  refine c_takeWord (d := d + 1) (i := 6) hw1 tw (tp.cl e1) k1 (by decide) (fun p2 h2 q2 e2 k2 => ⟨_, rfl, e2.1.2, bN' (by decide) ?_⟩) (fun f q h2 q2 e2 => ⟨_, rfl, e2.1.2, ⟨fun z => absurd rfl z, fun _ => hn f q h2 (bdR_ok q1 (bdR_er q2)) (e1.fl e2).ck⟩⟩)
  have hw2 := hw1.eq e2.1
  have e12 := e1.tr e2
  refine c_takeNumber (d := d + 1) (lo := 0) (hi := 10) hw2 tw (tp.cl e12) k2 (by decide) (by decide) (fun v3 p3 h3 q3 e3 k3 => ⟨_, rfl, e3.1.2, bN (i_nm1 (by have := numF_b q3; omega)) (bN (nI_pos (by omega)) (bY (nI_lt (b := 6) B6 (by decide)) ⟨vp_in_nI B6 (by decide), vp_in_nI B6 (by decide), ?_⟩))⟩) (fun f q h3 q3 e3 => ⟨_, rfl, e3.1.2, bY rfl (hn f q h3 (bdR_ok q1 (bdR_ok q2 (bdR_er q3))) (e12.fl e3).ck)⟩)
  have e13 := e12.tr e3
  obtain ⟨a1, a2, a3, a4, a5', a6', a7, a8, a9, a10, a11, a12, a13, a14⟩ := lc.cl hb e13.1
  rw [nI_clamp (by omega), a4, nI_1]
  refine hy ((handA t n L.1 (nx t n s) v3, L.2)) p3 _ (bdR_ok q1 (bdR_ok q2 (bdR_ok q3 rfl))) (((e13.ck.si hb (by simp)).si hb (by simp)).si hb (by simp)) (k3.c1 ?_) ?_
  · rw [sI_na (by omega), sI_na (by omega), sI_na (by omega)]
  · refine ⟨?_, ?_, ?_, sI_s _ _ _ _, ?_, ?_, ?_, fun x hx => ?_, fun x hx => ?_, fun x hx => ?_, fun x hx => ?_, fun x hx => ?_, ?_, fun x hx => ?_⟩
    · rw [sI_nb (by decide), sI_ne (by omega), sI_ne (by omega)]; exact a1
    · rw [sI_nb (by decide), sI_ne (by omega), sI_ne (by omega)]; exact a2
    · rw [sI_nb (by decide), sI_ne (by omega), sI_ne (by omega)]; exact a3
    · rw [sI_nb (by decide), sI_ne (by omega), sI_ne (by omega)]; exact a5'
    · rw [sI_nb (by decide), sI_ne (by omega), sI_ne (by omega)]; exact a6'
    · rw [sI_nb (by decide), sI_ne (by omega), sI_ne (by omega)]; exact a7
    · rw [sI_ne (by omega), sI_ne (by omega), sI_ne (by omega)]; exact a8 x hx
    · have hx : x < qB L.1 := hx
      have e32 : p32 (qnm (handA t n L.1 (nx t n s) v3) 0 x) 6 = p32 (qnm L.1 0 x) 6 := p32_cg 6 (fun j hj => (handA_nm B6 (by have := g.2.1; omega) (by decide) hj).trans (if_neg (fun z => by omega)))
      show _ = nI (p32 (qnm (handA t n L.1 (nx t n s) v3) 0 x) 6) ∧ _
      rw [e32, sI_na (by omega), sI_na (by omega), sI_na (by omega), sI_na (by omega), sI_na (by omega), sI_na (by omega), sI_na (by omega), sI_na (by omega), sI_na (by omega)]
      exact a9 x hx
    · have hx : x < qH L.1 + 1 := hx
      have e32 : p32 (qnm (handA t n L.1 (nx t n s) v3) 1 x) 6 = if x = qH L.1 then p32 (ltr t n (nx t n s)) 6 else p32 (qnm L.1 1 x) 6 := by
        by_cases y : x = qH L.1
        · rw [if_pos y]; exact p32_cg 6 (fun j hj => (handA_nm B6 (by omega) (by decide) hj).trans (if_pos ⟨rfl, y⟩))
        · rw [if_neg y]; exact p32_cg 6 (fun j hj => (handA_nm B6 (by omega) (by decide) hj).trans (if_neg (fun z => y z.2)))
      show _ = nI (p32 (qnm (handA t n L.1 (nx t n s) v3) 1 x) 6) ∧ _ = nI (qsk (handA t n L.1 (nx t n s) v3) x)
      rw [e32, handA_sk, sI_ne (show b + 6 ≠ b by omega), sI_ne (show b + 6 ≠ b + 7 by omega), sI_ne (show b + 7 ≠ b by omega)]
      by_cases y : x = qH L.1
      · subst y
        rw [if_pos rfl, if_pos rfl, sI_s, sI_s]
        exact ⟨rfl, rfl⟩
      · rw [if_neg y, if_neg y, sI_nb y, sI_nb y, sI_ne (show b + 7 ≠ b + 6 by omega)]
        exact a10 x (by omega)
    · rw [sI_ne (by omega), sI_ne (by omega), sI_ne (by omega)]; exact a11 x hx
    · rw [sI_na (by omega), sI_na (by omega), sI_na (by omega), sI_na (by omega), sI_na (by omega), sI_na (by omega)]; exact a12 x hx
    · unfold CDs at a13 ⊢; rw [sI_na (by omega), sI_na (by omega), sI_na (by omega), sI_na (by omega), sI_na (by omega), sI_na (by omega)]; exact a13
    · rw [sI_na (by omega), sI_na (by omega), sI_na (by omega), sI_na (by omega), sI_na (by omega), sI_na (by omega)]; exact a14 x hx
/-- the statement that tells how a boat likes a hand -/
theorem c_readLikes (hw : gWf h lk sp cd) (hb : b = 30 ∨ b = 67) (tw : TWf t n) (tp : TPc t n h) (k : CTk t n s u h) (hk : tkk t n s u ≠ 1003) (lc : LCp L c b h) (g : qG L.1)
    (hy : ∀ L' p' h', liR t n L (s, u) (.ok (L', p')) → CKs b h h' → CTk t n p'.1 p'.2 h' → LCp L' c b h' → Q (some (.int 1)) h')
    (hn : ∀ f q h', liR t n L (s, u) (.error (f, q)) → CKf b f q h h' → Q (some (.int 0)) h') : gC l G (d + 4) MX7_readLikes [.ref 5, .ref b] h Q := by
  have B6 := g.2.1
  have H6 := g.2.2.1
  obtain ⟨s3, s6, s9⟩ := sh_nm hb
  refine eX7_readLikes hw hb (c_move (d := d + 2) hw tw tp k hk (fun h1 e1 k1 => ⟨rfl, e1.1.2, ?_⟩))
  have hw1 := hw.eq e1.1
  have lc1 := lc.cl hb e1.1
  rw [lc1.2.2.1]
  refine c_readKnownName (d := d) (L := L) (z := 0) hw1 s3 B6 tw (tp.cl e1) k1 (fun j hj => (lc1.2.2.2.2.2.2.2.2.1 j hj).1) (by omega) (fun j hj => g.2.2.2.2.2.2.2.2.2.2.2.1 j hj) (fun o2 h2 q2 l2 e2 k2 => ⟨_, rfl, e2.1.2, bN' (i_nm1 (by omega)) ?_⟩) (fun f q h2 q2 e2 => ⟨_, rfl, e2.1.2, ⟨fun z => absurd rfl z, fun _ => hn f q h2 ⟨_, q2, rfl⟩ (e1.fl e2).ck⟩⟩)
  have hw2 := hw1.eq e2.1
  have e12 := e1.tr e2
  have lc2 := lc.cl hb e12.1
  rw [lc2.2.2.2.1]
  refine c_readKnownName (d := d) (L := L) (z := 1) hw2 s6 H6 tw (tp.cl e12) k2 (fun j hj => (lc2.2.2.2.2.2.2.2.2.2.1 j hj).1) (by omega) (fun j hj => g.2.2.2.2.2.2.2.2.2.2.2.2.1 j hj) (fun o3 h3 q3 l3 e3 k3 => ⟨_, rfl, e3.1.2, bN' (i_nm1 (by omega)) ?_⟩) (fun f q h3 q3 e3 => ⟨_, rfl, e3.1.2, ⟨fun z => absurd rfl z, fun _ => hn f q h3 ⟨_, q2, _, q3, rfl⟩ (e12.fl e3).ck⟩⟩)
  have hw3 := hw2.eq e3.1
  have e13 := e12.tr e3
  refine c_takeNumber (d := d + 1) (lo := 0) (hi := 100) hw3 tw (tp.cl e13) k3 (by decide) (by decide) (fun v4 p4 h4 q4 e4 k4 => ⟨_, rfl, e4.1.2, bN (i_nm1 (by have := numF_b q4; omega)) ?_⟩) (fun f q h4 q4 e4 => ⟨_, rfl, e4.1.2, bY rfl (hn f q h4 ⟨_, q2, _, q3, bdR_ok rfl (bdR_er q4)⟩ (e13.fl e4).ck)⟩)
  have hw4 := hw3.eq e4.1
  have e14 := e13.tr e4
  have lc4 := lc.cl hb e14.1
  refine eX4_isBoat hw4 hb (bN (nI_pos (by omega)) ?_)
  rw [lc4.2.2.1]
  refine bN (nI_ge l2 (by omega)) (bN (nI_ge (b := 6) (by omega) (by decide)) ⟨_, rfl, rfl, bN (by decide) (eX4_isHand hw4 hb (bN (nI_pos (by omega)) ?_))⟩)
  rw [lc4.2.2.2.1]
  refine bN (nI_ge l3 (by omega)) (bN (nI_ge (b := 6) (by omega) (by decide)) ⟨_, rfl, rfl, bN' (by decide) ?_⟩)
  have ee : nI o2.1 * 6 + nI o3.1 = nI (6 * o2.1 + o3.1) := by rw [show (6 : Int32) = nI 6 from rfl, pk_mul, nI_add, Nat.mul_comm]
  rw [ee, nI_clamp (by omega)]
  refine ⟨vp_in_nI (by omega) (by decide), ?_⟩
  obtain ⟨a1, a2, a3, a4, a5', a6', a7, a8, a9, a10, a11, a12, a13, a14⟩ := lc4
  refine hy ((fupd L.1 4 (6 * o2.1 + o3.1) v4, L.2)) p4 _ ⟨_, q2, _, q3, bdR_ok rfl (bdR_ok q4 rfl)⟩ (e14.ck.si hb (by simp)) (k4.c1 (sI_na (by omega))) ?_
  refine ⟨?_, ?_, ?_, ?_, ?_, ?_, ?_, fun x hx => ?_, fun x hx => ?_, fun x hx => ?_, fun x hx => ?_, fun x hx => ?_, ?_, fun x hx => ?_⟩
  · rw [sI_ne (by omega)]; exact a1
  · rw [sI_ne (by omega)]; exact a2
  · rw [sI_ne (by omega)]; exact a3
  · rw [sI_ne (by omega)]; exact a4
  · rw [sI_ne (by omega)]; exact a5'
  · rw [sI_ne (by omega)]; exact a6'
  · rw [sI_ne (by omega)]; exact a7
  · rw [sI_ne (by omega)]; exact a8 x hx
  · rw [sI_na (by omega), sI_na (by omega), sI_na (by omega)]; exact a9 x hx
  · rw [sI_na (by omega), sI_na (by omega)]; exact a10 x hx
  · show _ = nI (fupd L.1 4 (6 * o2.1 + o3.1) v4 4 x)
    rw [fupd_r]
    by_cases y : x = 6 * o2.1 + o3.1
    · rw [if_pos y, y, sI_s]
    · rw [if_neg y, sI_nb y]; exact a11 x hx
  · rw [sI_na (by omega), sI_na (by omega)]; exact a12 x hx
  · unfold CDs at a13 ⊢; rw [sI_na (by omega), sI_na (by omega)]; exact a13
  · rw [sI_na (by omega), sI_na (by omega)]; exact a14 x hx
/-- the statement that tells a sky -/
theorem c_readSky {kk : Nat} (hw : gWf h lk sp cd) (hb : b = 30 ∨ b = 67) (tw : TWf t n) (tp : TPc t n h) (k : CTk t n s u h) (hk : tkk t n s u ≠ 1003) (lc : LCp L c b h) (g : qG L.1) (h10 : qK L.1 ≠ 10) (hwd : h.1 1 6 = nI (8 + kk)) (hkk : kk < 4)
    (hy : ∀ L' p' h', skR t n L (s, u) kk (.ok (L', p')) → CKs b h h' → CTk t n p'.1 p'.2 h' → LCp L' c b h' → Q (some (.int 1)) h')
    (hn : ∀ f q h', skR t n L (s, u) kk (.error (f, q)) → CKf b f q h h' → Q (some (.int 0)) h') : gC l G (d + 4) MX7_readSky [.ref 5, .ref b] h Q := by
  have K10 : qK L.1 < 10 := by have := g.2.2.2.1; omega
  obtain ⟨s3, s6, s9⟩ := sh_nm hb
  refine eX7_readSky hw hb ?_
  rw [lc.2.2.2.2.1, hwd]
  have ew : nI (8 + kk) - 8 = nI kk := by
    have : ∀ x, x < 4 → nI (8 + x) - 8 = nI x := by decide
    exact this kk hkk
  rw [ew]
  refine c_move (d := d + 2) hw tw tp k hk (fun h1 e1 k1 => ⟨rfl, e1.1.2, ?_⟩)
  have hw1 := hw.eq e1.1
  refine c_takeWord (d := d + 1) (i := 4) hw1 tw (tp.cl e1) k1 (by decide) (fun p2 h2 q2 e2 k2 => ⟨_, rfl, e2.1.2, bN' (by decide) ?_⟩) (fun f q h2 q2 e2 => ⟨_, rfl, e2.1.2, ⟨fun z => absurd rfl z, fun _ => hn f q h2 (bdR_er q2) (e1.fl e2).ck⟩⟩)
  have hw2 := hw1.eq e2.1
  have e12 := e1.tr e2
  rw [k2.k4]
  refine c_takeNumber (d := d + 1) (lo := 0) (hi := 100) hw2 tw (tp.cl e12) k2 (by decide) (by decide) (fun v3 p3 h3 q3 e3 k3 => ⟨_, rfl, e3.1.2, bN (i_nm1 (by have := numF_b q3; omega)) (bN (nI_pos (by omega)) (bY (nI_lt (b := 10) K10 (by decide)) ?_))⟩) (fun f q h3 q3 e3 => ⟨_, rfl, e3.1.2, bY rfl (hn f q h3 (bdR_ok q2 (bdR_er q3)) (e12.fl e3).ck)⟩)
  have hw3 := hw2.eq e3.1
  have e13 := e12.tr e3
  have v100 := (numF_b q3).2.1
  obtain ⟨a1, a2, a3, a4, a5', a6', a7, a8, a9, a10, a11, a12, a13, a14⟩ := lc.cl hb e13.1
  have eqv : ∀ j, j < qK L.1 → (h3.1 (b + 9) j = nI v3 ↔ qsh L.1 j = v3) := fun j hj => by
    have := (g.2.2.2.2.2.2.2.2.2.2.1 j hj).1
    rw [(a12 j hj).1]
    exact nI_eq (by omega) (by omega)
  refine c_find (m := 10) hw3 s9 (by omega) (by decide) (fun j hj e _ => ⟨_, rfl, rfl, bN (i_nm1 (by omega)) (c_fail (f := 2) hw3 (fun h5 e5 => ⟨_, rfl, e5.1.2, Or.inl rfl, hn 2 _ h5 (bdR_ok q2 (bdR_ok q3 (Or.inl ⟨⟨j, hj, (eqv j hj).mp e⟩, rfl⟩))) (e13.fl e5).ck⟩))⟩) (fun no => ⟨_, rfl, rfl, bY rfl ⟨vp_in_nI K10 (by decide), vp_in_nI K10 (by decide), ?_⟩⟩)
  rw [nI_clamp (by omega), a5', nI_1]
  refine hy ((skyA L.1 v3 kk, L.2)) p3 _ (bdR_ok q2 (bdR_ok q3 (Or.inr ⟨fun j hj y => no j hj ((eqv j hj).mpr y), rfl⟩))) (((e13.ck.si hb (by simp)).si hb (by simp)).si hb (by simp)) (k3.c1 ?_) ?_
  · rw [sI_na (by omega), sI_na (by omega), sI_na (by omega)]
  · refine ⟨?_, ?_, ?_, ?_, sI_s _ _ _ _, ?_, ?_, fun x hx => ?_, fun x hx => ?_, fun x hx => ?_, fun x hx => ?_, fun x hx => ?_, ?_, fun x hx => ?_⟩
    · rw [sI_nb (by decide), sI_ne (by omega), sI_ne (by omega)]; exact a1
    · rw [sI_nb (by decide), sI_ne (by omega), sI_ne (by omega)]; exact a2
    · rw [sI_nb (by decide), sI_ne (by omega), sI_ne (by omega)]; exact a3
    · rw [sI_nb (by decide), sI_ne (by omega), sI_ne (by omega)]; exact a4
    · rw [sI_nb (by decide), sI_ne (by omega), sI_ne (by omega)]; exact a6'
    · rw [sI_nb (by decide), sI_ne (by omega), sI_ne (by omega)]; exact a7
    · rw [sI_ne (by omega), sI_ne (by omega), sI_ne (by omega)]; exact a8 x hx
    · rw [sI_na (by omega), sI_na (by omega), sI_na (by omega), sI_na (by omega), sI_na (by omega), sI_na (by omega), sI_na (by omega), sI_na (by omega), sI_na (by omega)]; exact a9 x hx
    · rw [sI_na (by omega), sI_na (by omega), sI_na (by omega), sI_na (by omega), sI_na (by omega), sI_na (by omega)]; exact a10 x hx
    · rw [sI_ne (by omega), sI_ne (by omega), sI_ne (by omega)]; exact a11 x hx
    · have hx : x < qK L.1 + 1 := hx
      show _ = nI (qsh (skyA L.1 v3 kk) x) ∧ _ = nI (qsq (skyA L.1 v3 kk) x)
      rw [skyA_h, skyA_q, sI_ne (show b + 9 ≠ b by omega), sI_ne (show b + 9 ≠ b + 10 by omega), sI_ne (show b + 10 ≠ b by omega)]
      by_cases y : x = qK L.1
      · subst y
        rw [if_pos rfl, if_pos rfl, sI_s, sI_s]
        exact ⟨rfl, rfl⟩
      · rw [if_neg y, if_neg y, sI_nb y, sI_nb y, sI_ne (show b + 10 ≠ b + 9 by omega)]
        exact a12 x (by omega)
    · unfold CDs at a13 ⊢; rw [sI_na (by omega), sI_na (by omega), sI_na (by omega), sI_na (by omega), sI_na (by omega), sI_na (by omega)]; exact a13
    · rw [sI_na (by omega), sI_na (by omega), sI_na (by omega), sI_na (by omega), sI_na (by omega), sI_na (by omega)]; exact a14 x hx
end CH
