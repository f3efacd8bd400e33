section CJ
variable {l : Launch} {G : gG} {d : Nat} {Q : Option Value → gH → Prop} {h h1 h2 : gH} {lk sp : Nat} {cd : Option Nat} {t : Nat → Nat} {n s i f q c b w z : Nat} {u : Bool} {L : qL}
/-- the statement that tells a sum -/
theorem c_readInto (hw : gWf h lk sp cd) (hb : b = 30 ∨ b = 67) (tw : TWf t n) (tp : TPc t n h) (k : CTk t n s u h) (hk : tkk t n s u = 1001) (lc : LCp L c b h) (qp : qP L s) (hz : z < 3) (hz0 : qsl L.1 z = 0)
    (hy : ∀ L' p' h', suR t n L (s, u) z (.ok (L', p')) → CK4s b h h' → gWf h' lk sp (some (b + 11)) → CTk t n p'.1 p'.2 h' → LCp L' c b h' → qP L' p'.1 → s < p'.1 → Q (some (.int 1)) h')
    (hn : ∀ f q h', suR t n L (s, u) z (.error (f, q)) → CK4f b f q h h' → gWf h' lk sp (some (b + 11)) → Q (some (.int 0)) h') : gC l G (d + 33) MX3_readInto [.ref 4, .ref (b + 11), .int (nI z), .long (knA z)] h Q := by
  have n16 := tw.1
  have hcc : b + 11 = 41 ∨ b + 11 = 61 ∨ b + 11 = 78 := by omega
  have hw0 : gWf (sL (sR h 4 1 (some (b + 11))) 4 2 (knA z)) lk sp (some (b + 11)) := ⟨sRF_cd hw.1, hw.2⟩
  have o0 : ∀ a, a ≠ 4 → (sL (sR h 4 1 (some (b + 11))) 4 2 (knA z)).2.1 a = h.2.1 a := fun a ha => by rw [sL_na ha]; rfl
  refine eX3_readInto hw hcc (c_move (d := d + 31) hw0 tw tp k (by omega) (fun h1 e1 k1 => ⟨rfl, e1.1.2, ?_⟩))
  have hw1 := hw0.eq e1.1
  have lt := tkk_n1 (t := t) (n := n) (s := s) (b := u) (by omega)
  have gt := nx_gt (t := t) lt
  have lc1 : LCp L c b h1 := lc.eq (fun j hj _ => (e1.1.1 _ (by simp; omega)).1)
  have C9 := lc1.2.2.2.2.2.2.2.2.2.2.2.2.1
  have a14 := lc1.2.2.2.2.2.2.2.2.2.2.2.2.2
  refine eX0_open hw1 hcc (bN (nI_pos (by omega)) (bN (nI_ge (b := 3) hz (by decide)) ⟨vp_in_nI hz (by decide), vp_in_nI hz (by decide), rfl, rfl, ?_⟩))
  rw [nI_clamp (by omega), C9.1]
  have E2 : gEq [b + 13, b + 14] h1 (sI (sI h1 (b + 11 + 2) z (nI L.2.1.length)) (b + 11 + 3) z (nI L.2.1.length)) := gE1 (by simp) (gE1 (by simp) (gEq.rf _ _))
  have hw2 := hw1.eq E2
  have O2 : ∀ a, a ≠ b + 13 → a ≠ b + 14 → (sI (sI h1 (b + 11 + 2) z (nI L.2.1.length)) (b + 11 + 3) z (nI L.2.1.length)).1 a = h1.1 a := fun a x1 x2 => (E2.1 a (by simp; omega)).1
  have tp1 : TPc t n h1 := TPc.cl (h := sL (sR h 4 1 (some (b + 11))) 4 2 (knA z)) tp e1
  have tp2 : TPc t n (sI (sI h1 (b + 11 + 2) z (nI L.2.1.length)) (b + 11 + 3) z (nI L.2.1.length)) := by
    unfold TPc at tp1 ⊢
    rw [O2 1 (by omega) (by omega), O2 2 (by omega) (by omega), O2 3 (by omega) (by omega)]
    exact tp1
  have kl : knL (knT (decide (z = 0))) (sI (sI h1 (b + 11 + 2) z (nI L.2.1.length)) (b + 11 + 3) z (nI L.2.1.length)) := knA_l (by
    rw [(E2.1 4 (by simp)).2, (e1.1.1 4 (by decide)).2, sL_s])
  have cd2 : CDs (b + 11) L.2.1 (sI (sI h1 (b + 11 + 2) z (nI L.2.1.length)) (b + 11 + 3) z (nI L.2.1.length)) := by
    unfold CDs at C9 ⊢
    rw [O2 (b + 11) (by omega) (by omega), O2 (b + 11 + 1) (by omega) (by omega)]
    exact C9
  have hkn : ∀ i, i < 40 → knT (decide (z = 0)) i = true → i ≤ 27 := by
    have f1 : ∀ i, i < 40 → knT true i = true → i ≤ 27 := by decide
    have f2 : ∀ i, i < 40 → knT false i = true → i ≤ 27 := by decide
    cases decide (z = 0)
    · exact f2
    · exact f1
  have pre : ∀ h3, CGx (b + 11) (sI (sI h1 (b + 11 + 2) z (nI L.2.1.length)) (b + 11 + 3) z (nI L.2.1.length)) h3 → ∀ x : Int32, CK4 b h (sI h3 (b + 11 + 3) z x) := fun h3 e3 x => by
    refine ⟨fun a ha => ?_, ?_⟩
    · simp only [List.mem_cons, List.not_mem_nil, or_false, not_or] at ha
      have x1 := (gEq.sI h3 (b + 11 + 3) z x).1 a (by simp; omega)
      have x2 := e3.1.1 a (by simp; omega)
      have x3 := E2.1 a (by simp; omega)
      have x4 := e1.1.1 a (by simp; omega)
      exact ⟨x1.1.trans (x2.1.trans (x3.1.trans x4.1)), x1.2.trans (x2.2.trans (x3.2.trans (x4.2.trans (o0 a (by omega)))))⟩
    · rw [sI_na (by omega), e3.2, O2 1 (by omega) (by omega), e1.2.1]
      rfl
  have hD : L.2.1.length ≤ nx t n s := by have := qp.2.2.2.1; omega
  refine c_sumG (d := d) (kn := knT (decide (z = 0))) (o := 0) (ob := 0) hcc tw hkn (by decide) _ L.2.1 (nx t n s) (nj t n s) _ hw2 tp2 (k1.c1 (O2 1 (by omega) (by omega))) kl cd2 hD (fun h3 e s3 b3 e3 k3 c3 l1 l2 we al cl => ⟨_, rfl, e3.1.1.2, ?_⟩) (fun h3 f q e3 er => ⟨_, rfl, e3.1.1.2, ?_⟩)
  · have hw3 := hw2.eq e3.1.1
    refine eX0_close hw3 hcc (bN (nI_pos (by omega)) (bN (nI_ge (b := 3) hz (by decide)) ⟨vp_in_nI hz (by decide), rfl, rfl, Or.inr rfl, ?_⟩))
    rw [nI_clamp (by omega), c3.1]
    have K : CK4s b h (sI h3 (b + 11 + 3) z (nI (L.2.1 ++ e).length)) := ⟨pre h3 e3.1 _, by
      rw [sI_na (by omega), e3.2.1, O2 1 (by omega) (by omega), e1.2.2.1]
      rfl, by
      rw [sI_na (by omega), e3.2.2, O2 1 (by omega) (by omega), e1.2.2.2]
      rfl⟩
    have sn3 := k3.1
    have el : L.2.1.length < (L.2.1 ++ e).length := by
      rw [List.length_append]
      cases e with
      | nil => have := (we 0).1; cases this
      | cons x y => simp
    refine hy (sumA L.1 z L.2.1 (L.2.1 ++ e), L.2.1 ++ e, fun y => if y = z then L.2.1.length else L.2.2 y) (s3, b3) _ ⟨.ok ((s3, b3), L.2.1 ++ e), ?_, ⟨el, rfl⟩⟩ K (hw3.eq (gEq.sI _ _ _ _)) (k3.c1 (sI_na (by omega))) ?_ (qP.sum (qp.mono (show s ≤ nx t n s by omega)) hz l1 (by omega) we al) (by show s < s3; omega)
    · obtain ⟨no, e1', pd, ee, pa, r⟩ := cl
      have pl : ∀ x, x ∈ pd → x = 42 ∨ x = 47 ∨ x = 43 ∨ x = 45 := pdA_ops pa
      have rd := Run.done (t := t) (n := n) (kn := knT (decide (z = 0))) (ob := 0) (p := (s3, b3)) (S := pd ++ []) (C := L.2.1 ++ e1') no (mkS_l pd pl)
      rw [popM_p (Or.inl rfl) pd _ pl] at rd
      have := r [] L.2.1 rfl (Or.inl rfl) _ rd
      rw [List.append_assoc, ← ee] at this
      exact this
    · have g3 : ∀ a, a ≠ 1 → a ≠ b + 11 → a ≠ b + 12 → a ≠ b + 13 → a ≠ b + 14 → (sI h3 (b + 11 + 3) z (nI (L.2.1 ++ e).length)).1 a = h1.1 a := fun a x1 x2 x3 x4 x5 => by
        rw [sI_na (by omega), (e3.1.1.1 a (by simp; omega)).1, O2 a x4 x5]
      obtain ⟨a1, a2, a3, a4, a5, a6, a7, a8, a9, a10, a11, a12, a13, a14⟩ := lc1
      have so : ∀ a x, (a < 8 ∨ a = 9) → L.1 a x = sumA L.1 z L.2.1 (L.2.1 ++ e) a x := fun a x ha => (sumA_o ha).symm
      refine ⟨?_, ?_, ?_, ?_, ?_, ?_, ?_, fun x hx => ?_, fun x hx => ?_, fun x hx => ?_, fun x hx => ?_, fun x hx => ?_, ?_, fun x hx => ?_⟩
      · rw [g3 _ (by omega) (by omega) (by omega) (by omega) (by omega)]; exact a1.trans (congrArg nI (so 0 0 (by omega)))
      · rw [g3 _ (by omega) (by omega) (by omega) (by omega) (by omega)]; exact a2.trans (congrArg nI (so 0 1 (by omega)))
      · rw [g3 _ (by omega) (by omega) (by omega) (by omega) (by omega)]; exact a3.trans (congrArg nI (so 0 2 (by omega)))
      · rw [g3 _ (by omega) (by omega) (by omega) (by omega) (by omega)]; exact a4.trans (congrArg nI (so 0 3 (by omega)))
      · rw [g3 _ (by omega) (by omega) (by omega) (by omega) (by omega)]; exact a5.trans (congrArg nI (so 0 4 (by omega)))
      · rw [g3 _ (by omega) (by omega) (by omega) (by omega) (by omega)]; exact a6.trans (congrArg nI (so 0 5 (by omega)))
      · rw [g3 _ (by omega) (by omega) (by omega) (by omega) (by omega)]; exact a7
      · have hx : x < qN (sumA L.1 z L.2.1 (L.2.1 ++ e)) := hx
        unfold qN qC qR at hx
        rw [sumA_o (by omega), sumA_o (by omega)] at hx
        rw [g3 _ (by omega) (by omega) (by omega) (by omega) (by omega)]
        exact (a8 x hx).trans (congrArg nI (so 1 x (by omega)))
      · have hx : x < qB (sumA L.1 z L.2.1 (L.2.1 ++ e)) := hx
        unfold qB at hx
        rw [sumA_o (by omega)] at hx
        obtain ⟨y1, y2, y3⟩ := a9 x hx
        rw [g3 _ (by omega) (by omega) (by omega) (by omega) (by omega), g3 _ (by omega) (by omega) (by omega) (by omega) (by omega), g3 _ (by omega) (by omega) (by omega) (by omega) (by omega), y1, y2, y3]
        exact ⟨congrArg nI (p32_cg 6 (fun j _ => so 7 _ (by omega))), congrArg nI (so 9 x (by omega)), congrArg nI (so 2 x (by omega))⟩
      · have hx : x < qH (sumA L.1 z L.2.1 (L.2.1 ++ e)) := hx
        unfold qH at hx
        rw [sumA_o (by omega)] at hx
        obtain ⟨y1, y2⟩ := a10 x hx
        rw [g3 _ (by omega) (by omega) (by omega) (by omega) (by omega), g3 _ (by omega) (by omega) (by omega) (by omega) (by omega), y1, y2]
        exact ⟨congrArg nI (p32_cg 6 (fun j _ => so 7 _ (by omega))), congrArg nI (so 3 x (by omega))⟩
      · rw [g3 _ (by omega) (by omega) (by omega) (by omega) (by omega)]
        exact (a11 x hx).trans (congrArg nI (so 4 x (by omega)))
      · have hx : x < qK (sumA L.1 z L.2.1 (L.2.1 ++ e)) := hx
        unfold qK at hx
        rw [sumA_o (by omega)] at hx
        obtain ⟨y1, y2⟩ := a12 x hx
        rw [g3 _ (by omega) (by omega) (by omega) (by omega) (by omega), g3 _ (by omega) (by omega) (by omega) (by omega) (by omega), y1, y2]
        exact ⟨congrArg nI (so 5 x (by omega)), congrArg nI (so 6 x (by omega))⟩
      · unfold CDs at c3 ⊢
        rw [sI_na (by omega), sI_na (by omega)]
        exact c3
      · have y1 : h3.1 (b + 13) = (sI (sI h1 (b + 11 + 2) z (nI L.2.1.length)) (b + 11 + 3) z (nI L.2.1.length)).1 (b + 13) := (e3.1.1.1 (b + 13) (by simp)).1
        have y2 : h3.1 (b + 14) = (sI (sI h1 (b + 11 + 2) z (nI L.2.1.length)) (b + 11 + 3) z (nI L.2.1.length)).1 (b + 14) := (e3.1.1.1 (b + 14) (by simp)).1
        show (sI h3 (b + 14) z (nI (L.2.1 ++ e).length)).1 (b + 13) x = nI (if x = z then L.2.1.length else L.2.2 x) ∧ (sI h3 (b + 14) z (nI (L.2.1 ++ e).length)).1 (b + 14) x = nI ((if x = z then L.2.1.length else L.2.2 x) + qsl (sumA L.1 z L.2.1 (L.2.1 ++ e)) x)
        rw [sumA_sl, sI_ne (by omega), y1]
        by_cases y : x = z
        · rw [if_pos y, if_pos y, y, sI_s]
          refine ⟨?_, by rw [List.length_append]⟩
          show (sI (sI h1 (b + 13) z (nI L.2.1.length)) (b + 14) z (nI L.2.1.length)).1 (b + 13) z = _
          rw [sI_ne (by omega), sI_s]
        · rw [if_neg y, if_neg y, sI_nb y, y2]
          show (sI (sI h1 (b + 13) z (nI L.2.1.length)) (b + 14) z (nI L.2.1.length)).1 (b + 13) x = _ ∧ (sI (sI h1 (b + 13) z (nI L.2.1.length)) (b + 14) z (nI L.2.1.length)).1 (b + 14) x = _
          rw [sI_ne (by omega), sI_nb y, sI_nb y, sI_ne (by omega)]
          exact a14 x hx
  · have hw3 := hw2.eq e3.1.1
    refine eX0_close hw3 hcc (bN (nI_pos (by omega)) (bN (nI_ge (b := 3) hz (by decide)) ⟨vp_in_nI hz (by decide), rfl, rfl, Or.inl rfl, ?_⟩))
    rw [nI_clamp (by omega)]
    refine hn f q _ ⟨.error (f, q), er [] L.2.1 rfl (Or.inl rfl), rfl⟩ ⟨pre h3 e3.1 _, ?_, ?_⟩ (hw3.eq (gEq.sI _ _ _ _))
    · rw [sI_na (by omega)]; exact e3.2.1
    · rw [sI_na (by omega)]; exact e3.2.2
end CJ
