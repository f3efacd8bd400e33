section CB
variable {l : Launch} {G : gG} {d : Nat} {Q : Option Value → gH → Prop} {h h1 h2 : gH} {lk sp : Nat} {cd : Option Nat} {t : Nat → Nat} {n s i f q c b w : Nat} {u : Bool} {L : qL} {A : qT} {tr cl k x z' w' j : Nat}
theorem boatA_ft : qft (boatA t n A w tr cl) x = if x = qB A then tr else qft A x := by
  show boatA t n A w tr cl 2 x = _
  unfold boatA; rw [fupd_i (by decide), fupd_i (by decide), fupd_r]; rfl
theorem boatA_fc : qfc (boatA t n A w tr cl) x = if x = qB A then cl else qfc A x := by
  show boatA t n A w tr cl 9 x = _
  unfold boatA; rw [fupd_i (by decide), fupd_r]; rfl
theorem boatA_nm (B6 : qB A < 6) (hw : w' < 6) (hz : z' < 2) (hj : j < 6) : qnm (boatA t n A w tr cl) z' w' j = if z' = 0 ∧ w' = qB A then ltr t n w j else qnm A z' w' j := nmA_nm (A := A) (t := t) (n := n) (s := w) (z := 0) (w := qB A) hw B6 (by decide) hz hj
theorem handA_sk : qsk (handA t n A w k) x = if x = qH A then k else qsk A x := by
  show handA t n A w k 3 x = _
  unfold handA; rw [fupd_i (by decide), fupd_r]; rfl
theorem handA_nm (B6 : qH A < 6) (hw : w' < 6) (hz : z' < 2) (hj : j < 6) : qnm (handA t n A w k) z' w' j = if z' = 1 ∧ w' = qH A then ltr t n w j else qnm A z' w' j := nmA_nm (A := A) (t := t) (n := n) (s := w) (z := 1) (w := qH A) hw B6 (by decide) hz hj
theorem skyA_h : qsh (skyA A tr k) x = if x = qK A then tr else qsh A x := by
  show skyA A tr k 5 x = _
  unfold skyA; rw [fupd_i (by decide), fupd_i (by decide), fupd_r]; rfl
theorem skyA_q : qsq (skyA A tr k) x = if x = qK A then k else qsq A x := by
  show skyA A tr k 6 x = _
  unfold skyA; rw [fupd_i (by decide), fupd_r]; rfl
/-- the statement that tells a boat -/
theorem c_readBoat (hw : gWf h lk sp cd) (hb : b = 30 ∨ b = 67) (tw : TWf t n) (tp : TPc t n h) (k : CTk t n s u h) (hk : tkk t n s u ≠ 1003) (lc : LCp L c b h) (g : qG L.1) (h6 : qB L.1 ≠ 6)
    (hy : ∀ L' p' h', boR t n L (s, u) (.ok (L', p')) → CKs b h h' → CTk t n p'.1 p'.2 h' → LCp L' c b h' → Q (some (.int 1)) h')
    (hn : ∀ f q h', boR t n L (s, u) (.error (f, q)) → CKf b f q h h' → Q (some (.int 0)) h') : gC l G (d + 4) MX7_readBoat [.ref 5, .ref b] h Q := by
  have N48 := g.N48
  have B6 : qB L.1 < 6 := by have := g.2.1; omega
  refine eX7_readBoat hw hb ?_
  rw [lc.2.2.1]
  refine c_readNewName (d := d) hw hb tw tp k hk lc g (fun p1 h1 q1 nw e1 k1 => ⟨_, rfl, e1.1.2, bN (p32_n0 nw) ?_⟩) (fun f q h1 q1 e1 => ⟨_, rfl, e1.1.2, bY rfl (hn f q h1 (bdR_er q1) e1.ck)⟩)
  have hw1 := hw.eq e1.1
  refine c_takeWord (d := d + 1) (i := 3) hw1 tw (tp.cl e1) k1 (by decide) (fun p2 h2 q2 e2 k2 => ⟨_, rfl, e2.1.2, bN' (by decide) ?_⟩) (fun f q h2 q2 e2 => ⟨_, rfl, e2.1.2, ⟨fun z => absurd rfl z, fun _ => hn f q h2 (bdR_ok q1 (bdR_er q2)) (e1.fl e2).ck⟩⟩)
  have hw2 := hw1.eq e2.1
  have e12 := e1.tr e2
  refine c_takeNumber (d := d + 1) (lo := 0) (hi := 100) hw2 tw (tp.cl e12) k2 (by decide) (by decide) (fun v3 p3 h3 q3 e3 k3 => ⟨_, rfl, e3.1.2, bN (i_nm1 (by have := numF_b q3; omega)) ?_⟩) (fun f q h3 q3 e3 => ⟨_, rfl, e3.1.2, bY rfl (hn f q h3 (bdR_ok q1 (bdR_ok q2 (bdR_er q3))) (e12.fl e3).ck)⟩)
  have hw3 := hw2.eq e3.1
  have e13 := e12.tr e3
  refine c_takeWord (d := d + 1) (i := 4) hw3 tw (tp.cl e13) k3 (by decide) (fun p4 h4 q4 e4 k4 => ⟨_, rfl, e4.1.2, bN' (by decide) ?_⟩) (fun f q h4 q4 e4 => ⟨_, rfl, e4.1.2, ⟨fun z => absurd rfl z, fun _ => hn f q h4 (bdR_ok q1 (bdR_ok q2 (bdR_ok q3 (bdR_er q4)))) (e13.fl e4).ck⟩⟩)
  have hw4 := hw3.eq e4.1
  have e14 := e13.tr e4
  refine c_readHarbour (d := d) hw4 hb tw (tp.cl e14) k4 (lc.cl hb e14.1) g (fun a5 a6 h5 q5 q6 kd lt e5 k5 => ⟨_, rfl, e5.1.2, bN (i_nm1 (by omega)) (bN (nI_pos (by omega)) (bY (nI_lt (b := 6) B6 (by decide)) ⟨vp_in_nI B6 (by decide), vp_in_nI B6 (by decide), vp_in_nI B6 (by decide), ?_⟩))⟩)
    (fun f q h5 q5 e5 => ⟨_, rfl, e5.1.2, bY rfl (hn f q h5 (bdR_ok q1 (bdR_ok q2 (bdR_ok q3 (bdR_ok q4 (bdR_er q5))))) (e14.fl e5).ck)⟩)
    (fun a5 f q h5 q5 q6 e5 => ⟨_, rfl, e5.1.2, bY rfl (hn f q h5 (bdR_ok q1 (bdR_ok q2 (bdR_ok q3 (bdR_ok q4 (bdR_ok q5 (bdR_er q6)))))) (e14.fl e5).ck)⟩)
    (fun a5 a6 h5 q5 q6 kd e5 => ⟨_, rfl, e5.1.2, bY rfl (hn 2 _ h5 (bdR_ok q1 (bdR_ok q2 (bdR_ok q3 (bdR_ok q4 (bdR_ok q5 (bdR_ok q6 (Or.inl ⟨kd, rfl⟩))))))) (e14.fl e5).ck)⟩)
  have e15 := e14.tr e5
  obtain ⟨a1, a2, a3, a4, a5', a6', a7, a8, a9, a10, a11, a12, a13, a14⟩ := lc.cl hb e15.1
  rw [nI_clamp (by omega), a3, nI_1]
  refine hy ((boatA t n L.1 (nx t n s) v3 (qC L.1 * a6.1 + a5.1), L.2)) a6.2 _ (bdR_ok q1 (bdR_ok q2 (bdR_ok q3 (bdR_ok q4 (bdR_ok q5 (bdR_ok q6 (Or.inr ⟨kd, rfl⟩))))))) ((((e15.ck.si hb (by simp)).si hb (by simp)).si hb (by simp)).si hb (by simp)) (k5.c1 ?_) ?_
  · rw [sI_na (by omega), sI_na (by omega), sI_na (by omega), sI_na (by omega)]
  · refine ⟨?_, ?_, sI_s _ _ _ _, ?_, ?_, ?_, ?_, fun x hx => ?_, fun x hx => ?_, fun x hx => ?_, fun x hx => ?_, fun x hx => ?_, ?_, fun x hx => ?_⟩
    · rw [sI_nb (by decide), sI_ne (by omega), sI_ne (by omega), sI_ne (by omega)]; exact a1
    · rw [sI_nb (by decide), sI_ne (by omega), sI_ne (by omega), sI_ne (by omega)]; exact a2
    · rw [sI_nb (by decide), sI_ne (by omega), sI_ne (by omega), sI_ne (by omega)]; exact a4
    · rw [sI_nb (by decide), sI_ne (by omega), sI_ne (by omega), sI_ne (by omega)]; exact a5'
    · rw [sI_nb (by decide), sI_ne (by omega), sI_ne (by omega), sI_ne (by omega)]; exact a6'
    · rw [sI_nb (by decide), sI_ne (by omega), sI_ne (by omega), sI_ne (by omega)]; exact a7
    · rw [sI_ne (by omega), sI_ne (by omega), sI_ne (by omega), sI_ne (by omega)]; exact a8 x hx
    · have hx : x < qB L.1 + 1 := hx
      have e32 : p32 (qnm (boatA t n L.1 (nx t n s) v3 (qC L.1 * a6.1 + a5.1)) 0 x) 6 = if x = qB L.1 then p32 (ltr t n (nx t n s)) 6 else p32 (qnm L.1 0 x) 6 := by
        by_cases y : x = qB L.1
        · rw [if_pos y]; exact p32_cg 6 (fun j hj => (boatA_nm B6 (by omega) (by decide) hj).trans (if_pos ⟨rfl, y⟩))
        · rw [if_neg y]; exact p32_cg 6 (fun j hj => (boatA_nm B6 (by omega) (by decide) hj).trans (if_neg (fun z => y z.2)))
      show _ = nI (p32 (qnm (boatA t n L.1 (nx t n s) v3 (qC L.1 * a6.1 + a5.1)) 0 x) 6) ∧ _ = nI (qfc (boatA t n L.1 (nx t n s) v3 (qC L.1 * a6.1 + a5.1)) x) ∧ _ = nI (qft (boatA t n L.1 (nx t n s) v3 (qC L.1 * a6.1 + a5.1)) x)
      rw [e32, boatA_fc, boatA_ft, sI_ne (show b + 3 ≠ b by omega), sI_ne (show b + 3 ≠ b + 4 by omega), sI_ne (show b + 3 ≠ b + 5 by omega), sI_ne (show b + 4 ≠ b by omega), sI_ne (show b + 5 ≠ b by omega), sI_ne (show b + 5 ≠ b + 4 by omega)]
      by_cases y : x = qB L.1
      · subst y
        rw [if_pos rfl, if_pos rfl, if_pos rfl, sI_s, sI_s, sI_s]
        exact ⟨rfl, rfl, rfl⟩
      · rw [if_neg y, if_neg y, if_neg y, sI_nb y, sI_nb y, sI_nb y, sI_ne (show b + 4 ≠ b + 5 by omega), sI_ne (show b + 4 ≠ b + 3 by omega), sI_ne (show b + 5 ≠ b + 3 by omega)]
        exact a9 x (by omega)
    · have hx : x < qH L.1 := hx
      have e32 : p32 (qnm (boatA t n L.1 (nx t n s) v3 (qC L.1 * a6.1 + a5.1)) 1 x) 6 = p32 (qnm L.1 1 x) 6 := p32_cg 6 (fun j hj => (boatA_nm B6 (by have := g.2.2.1; omega) (by decide) hj).trans (if_neg (fun z => by omega)))
      show _ = nI (p32 (qnm (boatA t n L.1 (nx t n s) v3 (qC L.1 * a6.1 + a5.1)) 1 x) 6) ∧ _
      rw [e32, sI_na (by omega), sI_na (by omega), sI_na (by omega), sI_na (by omega), sI_na (by omega), sI_na (by omega), sI_na (by omega), sI_na (by omega)]
      exact a10 x hx
    · rw [sI_ne (by omega), sI_ne (by omega), sI_ne (by omega), sI_ne (by omega)]; exact a11 x hx
    · rw [sI_na (by omega), sI_na (by omega), sI_na (by omega), sI_na (by omega), sI_na (by omega), sI_na (by omega), sI_na (by omega), sI_na (by omega)]; exact a12 x hx
    · unfold CDs at a13 ⊢; rw [sI_na (by omega), sI_na (by omega), sI_na (by omega), sI_na (by omega), sI_na (by omega), sI_na (by omega), sI_na (by omega), sI_na (by omega)]; exact a13
    · rw [sI_na (by omega), sI_na (by omega), sI_na (by omega), sI_na (by omega), sI_na (by omega), sI_na (by omega), sI_na (by omega), sI_na (by omega)]; exact a14 x hx
end CB
