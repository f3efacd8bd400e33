abbrev qOut : Type := Except (Nat × Nat) (Nat × List Nat)
/-- a question: its first word's kind, its codes -/
def QsF (t : Nat → Nat) (n κ : Nat) (o : pOut) (out : qOut) : Prop := match o with
  | .error f => out = .error f
  | .ok (p', C) => (tkk t n p'.1 p'.2 = 1000 ∧ out = .ok (κ, C)) ∨ (tkk t n p'.1 p'.2 ≠ 1000 ∧ out = .error (1, p'.1))
def QsR (t : Nat → Nat) (n : Nat) (p : Nat × Bool) (out : qOut) : Prop := ((∀ κ, κ < 6 → ¬ isW t n (34 + κ) p) ∧ out = .error (1, p.1)) ∨ ∃ κ, κ < 6 ∧ isW t n (34 + κ) p ∧ ((κ < 3 ∧ ∃ o, Tst t n true (nx t n p.1, nj t n p.1) [] [] o ∧ QsF t n κ o out) ∨ (3 ≤ κ ∧ ∃ o, Run t n knQ 0 true (nx t n p.1, nj t n p.1) [] [] o ∧ QsF t n κ o out))
def gdQ (κ : Nat) (e : List Nat) : Prop := (κ < 3 ∧ TB 37 e) ∨ (3 ≤ κ ∧ WE 22 e ∧ ∀ u, u ∈ e → alw knQ u)
/-- of the class nothing has changed but its reader, what it reads with, the question's codes -/
def CQ (h h' : gH) : Prop := (∀ a, a ∉ [1, 4, 61, 62, 63, 64] → h'.1 a = h.1 a ∧ h'.2.1 a = h.2.1 a) ∧ h'.1 1 2 = h.1 1 2
section RQ
variable {l : Launch} {G : gG} {d : Nat} {Q : Option Value → gH → Prop} {h h0 h1 h2 : gH} {lk sp : Nat} {cd : Option Nat} {t : Nat → Nat} {n s κ : Nat} {b : Bool}
theorem knQ_l {h : gH} (e : h.2.1 4 2 = 252121096) : knL knQ h := by
  have a0 : ∀ i, i < 40 → (lg_cmp (((252121096 : Int64) >>> ((nI i).toInt64 &&& 63)) &&& 1) 0 = 0 ↔ knQ i = false) := by decide
  intro i hi
  rw [e]
  exact a0 i hi
def Grq (l : Launch) (G : gG) (t : Nat → Nat) (n lk sp : Nat) (M : gM) (dd : Nat) (P : List Nat → Prop) (R : (Nat × Bool) → pOut → Prop) : Prop :=
  ∀ (h : gH) (s : Nat) (b : Bool) (Q : Option Value → gH → Prop), gWf h lk sp (some 61) → TPc t n h → CTk t n s b h → knL knQ h → CDs 61 [] h →
    (∀ h' e s' b', CGs 61 h h' → CTk t n s' b' h' → CDs 61 e h' → s + e.length ≤ s' → P e → R (s, b) (.ok ((s', b'), e)) → Q (some (.int 1)) h') →
    (∀ h' f q, CGf 61 f q h h' → R (s, b) (.error (f, q)) → Q (some (.int 0)) h') → gC l G dd M [.ref 4, .int 0] h Q
theorem grq_t (tw : TWf t n) : Grq l G t n lk sp MX3_readTest (d + 54) (TB 37) (fun p o => Tst t n true p [] [] o) := by
  intro h s b Q hw tp k kl cdd hy hn
  refine c_testG (d := d) (cc := 61) (Or.inr (Or.inl rfl)) tw h [] s b Q hw tp k kl cdd (Nat.zero_le _) (fun h' e s' b' e1 k1 c1 l1 l2 w1 cl => hy h' e s' b' e1 k1 c1 l1 w1 ?_) (fun h' f q e1 er => hn h' f q e1 (er [] [] rfl (Or.inl rfl)))
  obtain ⟨⟨n29, n28⟩, e1', pd, ee, hp, cl⟩ := cl
  have m := pdO_m hp
  have no : 105 ∉ pd ++ [] := fun z => by
    rw [List.append_nil] at z
    have := m 105 z
    omega
  have r := cl [] [] rfl (Or.inl rfl) _ (Tst.en n29 n28 no)
  rw [pSq_p (Or.inl rfl) pd _ m, List.nil_append, ← ee] at r
  exact r
theorem grq_s (tw : TWf t n) : Grq l G t n lk sp MX3_readSum (d + 54) (fun e => WE 22 e ∧ ∀ u, u ∈ e → alw knQ u) (fun p o => Run t n knQ 0 true p [] [] o) := by
  intro h s b Q hw tp k kl cdd hy hn
  exact c_sumG (d := d + 22) (cc := 61) (o := 0) (ob := 0) (Or.inr (Or.inl rfl)) tw knQ_27 (by decide) h [] s b Q hw tp k kl cdd (Nat.zero_le _) (fun h' e s' b' e1 k1 c1 l1 l2 w1 a1 cl => hy h' e s' b' e1 k1 c1 l1 ⟨w1, a1⟩ (clS_run cl [])) (fun h' f q e1 er => hn h' f q e1 (clF_run er []))
theorem c_rqB {M : gM} {P : List Nat → Prop} {R : (Nat × Bool) → pOut → Prop} (hw : gWf h lk sp cd) (tw : TWf t n) (tp : TPc t n h) (k : CTk t n s b h) (hk : tkk t n s b = 1001) (c0 : CDs 61 [] h) (gr : Grq l G t n lk sp M (d + 54) P R)
    (hy : ∀ e h', (∃ o, R (nx t n s, nj t n s) o ∧ QsF t n κ o (.ok (κ, e))) → CQ h h' → h'.1 1 8 = h.1 1 8 → h'.1 1 9 = h.1 1 9 → gWf h' lk sp (some 61) → h'.1 63 0 = nI 0 → h'.1 64 0 = nI e.length → CDs 61 e h' → P e → e.length ≤ 1600 → Q (some (.int (h.1 1 6))) h')
    (hn : ∀ f q h', (∃ o, R (nx t n s, nj t n s) o ∧ QsF t n κ o (.error (f, q))) → CQ h h' → h'.1 1 8 = nI f → h'.1 1 9 = nI q → gWf h' lk sp (some 61) → Q (some (.int (-1))) h') :
    gC l G (d + 54) MX5_move [.ref 1] (sL (sR h 4 1 (some 61)) 4 2 252121096) (rV fun h3 => h3.2.2 = (sL (sR h 4 1 (some 61)) 4 2 252121096).2.2 ∧ gC l G (d + 54) MX0_open [.ref 61, .int 0] h3 (rV fun h4 => h4.2.2 = h3.2.2 ∧ gC l G (d + 54) M [.ref 4, .int 0] h4 (rI fun v5 h5 => h5.2.2 = h4.2.2 ∧ gC l G (d + 54) MX0_close [.ref 61, .int 0] h5 (rV fun h6 => h6.2.2 = h5.2.2 ∧ ((v5 = 0 → Q (some (.int (-1))) h6) ∧ (¬ v5 = 0 → gC l G (d + 54) MX5_takeSign [.ref 1, .int (-1)] h6 (rI fun v7 h7 => h7.2.2 = h6.2.2 ∧ ((v7 = 0 → Q (some (.int (-1))) h7) ∧ (¬ v7 = 0 → Q (some (.int (h.1 1 6))) h7))))))))) := by
  have n16 := tw.1
  have hcc : (61 : Nat) = 41 ∨ (61 : Nat) = 61 ∨ (61 : Nat) = 78 := Or.inr (Or.inl rfl)
  have hw0 : gWf (sL (sR h 4 1 (some 61)) 4 2 252121096) lk sp (some 61) := ⟨sRF_cd hw.1, hw.2⟩
  have o0 : ∀ a, a ≠ 4 → (sL (sR h 4 1 (some 61)) 4 2 252121096).2.1 a = h.2.1 a := fun a ha => by rw [sL_na ha]; rfl
  refine c_move (d := d + 53) hw0 tw tp k (by omega) (fun h1 e1 k1 => ⟨rfl, e1.1.2, ?_⟩)
  have hw1 := hw0.eq e1.1
  have cl0 : (0 : Int32).toNatClampNeg = 0 := by decide
  have v03 : vp_in (nI 0) 3 := vp_in_nI (by decide) (by decide)
  have C9 : CDs 61 [] h1 := by
    unfold CDs at c0 ⊢
    rw [(e1.1.1 61 (by decide)).1]
    exact ⟨c0.1, fun i hi => absurd hi (Nat.not_lt_zero _)⟩
  refine eX0_open hw1 hcc (bN (by decide) (bN (by decide) ⟨v03, v03, rfl, rfl, ?_⟩))
  rw [cl0, C9.1]
  have E2 : gEq [63, 64] h1 (sI (sI h1 63 0 (nI 0)) 64 0 (nI 0)) := gE1 (by simp) (gE1 (by simp) (gEq.rf _ _))
  have hw2 := hw1.eq E2
  have O2 : ∀ a, a ≠ 63 → a ≠ 64 → (sI (sI h1 63 0 (nI 0)) 64 0 (nI 0)).1 a = h1.1 a := fun a x1 x2 => (E2.1 a (by simp; omega)).1
  have a63 : (sI (sI h1 63 0 (nI 0)) 64 0 (nI 0)).1 63 0 = nI 0 := by rw [sI_ne (by decide), sI_s]
  have tp1 : TPc t n h1 := TPc.cl (h := sL (sR h 4 1 (some 61)) 4 2 252121096) tp e1
  have tp2 : TPc t n (sI (sI h1 63 0 (nI 0)) 64 0 (nI 0)) := by
    unfold TPc at tp1 ⊢
    rw [O2 1 (by decide) (by decide), O2 2 (by decide) (by decide), O2 3 (by decide) (by decide)]
    exact tp1
  have kl : knL knQ (sI (sI h1 63 0 (nI 0)) 64 0 (nI 0)) := knQ_l (by
    rw [(E2.1 4 (by simp)).2, (e1.1.1 4 (by decide)).2, sL_s])
  have cd2 : CDs 61 [] (sI (sI h1 63 0 (nI 0)) 64 0 (nI 0)) := by
    unfold CDs at C9 ⊢
    rw [O2 61 (by decide) (by decide)]
    exact ⟨C9.1, fun i hi => absurd hi (Nat.not_lt_zero _)⟩
  have k2 : CTk t n (nx t n s) (nj t n s) (sI (sI h1 63 0 (nI 0)) 64 0 (nI 0)) := k1.c1 (O2 1 (by decide) (by decide))
  have pre : ∀ h3, CGx 61 (sI (sI h1 63 0 (nI 0)) 64 0 (nI 0)) h3 → ∀ x : Int32, CQ h (sI h3 64 0 x) := fun h3 e3 x => by
    refine ⟨fun a ha => ?_, ?_⟩
    · simp only [List.mem_cons, List.not_mem_nil, or_false, not_or] at ha
      have x1 := (gEq.sI h3 64 0 x).1 a (by simp; omega)
      have x2 := e3.1.1 a (by simp; omega)
      have x3 := E2.1 a (by simp; omega)
      have x4 := e1.1.1 a (by simp; omega)
      exact ⟨x1.1.trans (x2.1.trans (x3.1.trans x4.1)), x1.2.trans (x2.2.trans (x3.2.trans (x4.2.trans (o0 a (by omega)))))⟩
    · rw [sI_na (by decide), e3.2, O2 1 (by decide) (by decide), e1.2.1]
      rfl
  have f8 : (sI (sI h1 63 0 (nI 0)) 64 0 (nI 0)).1 1 8 = h.1 1 8 := by rw [O2 1 (by decide) (by decide), e1.2.2.1]; rfl
  have f9 : (sI (sI h1 63 0 (nI 0)) 64 0 (nI 0)).1 1 9 = h.1 1 9 := by rw [O2 1 (by decide) (by decide), e1.2.2.2]; rfl
  refine gr _ (nx t n s) (nj t n s) _ hw2 tp2 k2 kl cd2 (fun h3 e s3 b3 e3 k3 c3 l1 pe cl => ⟨_, rfl, e3.1.1.2, ?_⟩) (fun h3 f q e3 er => ⟨_, rfl, e3.1.1.2, ?_⟩)
  · have hw3 := hw2.eq e3.1.1
    have sn3 := k3.1
    refine eX0_close hw3 hcc (bN (by decide) (bN (by decide) ⟨v03, rfl, rfl, bN (by decide) ?_⟩))
    rw [cl0, c3.1]
    have hw4 : gWf (sI h3 (61 + 3) 0 (nI e.length)) lk sp (some 61) := hw3.eq (gEq.sI _ _ _ _)
    have K4 : CQ h (sI h3 (61 + 3) 0 (nI e.length)) := pre h3 e3.1 _
    have tp4 : TPc t n (sI h3 (61 + 3) 0 (nI e.length)) := by
      have tp3 := tp2.gx hcc e3.1
      unfold TPc at tp3 ⊢
      rw [sI_na (by decide), sI_na (by decide), sI_na (by decide)]
      exact tp3
    have k4 : CTk t n s3 b3 (sI h3 (61 + 3) 0 (nI e.length)) := k3.c1 (sI_na (by decide))
    have g8 : (sI h3 (61 + 3) 0 (nI e.length)).1 1 8 = h.1 1 8 := by rw [sI_na (by decide), e3.2.1]; exact f8
    have g9 : (sI h3 (61 + 3) 0 (nI e.length)).1 1 9 = h.1 1 9 := by rw [sI_na (by decide), e3.2.2]; exact f9
    refine c_takeEnd (d := d + 52) hw4 tw tp4 k4 (fun h5 te e5 => ⟨_, rfl, e5.1.2, bN (by decide) ?_⟩) (fun h5 te e5 => ⟨_, rfl, e5.1.2, bY rfl ?_⟩)
    · refine hy e h5 ⟨_, cl, Or.inl ⟨te, rfl⟩⟩ ⟨fun a ha => ?_, ?_⟩ ?_ ?_ (hw4.eq e5.1) ?_ ?_ ?_ pe (by omega)
      · have x1 := e5.1.1 a (by simp at ha ⊢; omega)
        exact ⟨x1.1.trans (K4.1 a ha).1, x1.2.trans (K4.1 a ha).2⟩
      · rw [e5.2.1]; exact K4.2
      · rw [e5.2.2.1]; exact g8
      · rw [e5.2.2.2]; exact g9
      · rw [(e5.1.1 63 (by decide)).1, sI_ne (by decide), (e3.1.1.1 63 (by decide)).1]; exact a63
      · rw [(e5.1.1 64 (by decide)).1]; exact sI_s _ _ _ _
      · unfold CDs at c3 ⊢
        rw [(e5.1.1 61 (by decide)).1, (e5.1.1 (61 + 1) (by decide)).1, sI_na (by decide), sI_na (by decide)]
        exact c3
    · refine hn 1 s3 h5 ⟨_, cl, Or.inr ⟨te, rfl⟩⟩ ⟨fun a ha => ?_, ?_⟩ e5.2.2.1 e5.2.2.2 (hw4.eq e5.1)
      · have x1 := e5.1.1 a (by simp at ha ⊢; omega)
        exact ⟨x1.1.trans (K4.1 a ha).1, x1.2.trans (K4.1 a ha).2⟩
      · rw [e5.2.1]; exact K4.2
  · have hw3 := hw2.eq e3.1.1
    refine eX0_close hw3 hcc (bN (by decide) (bN (by decide) ⟨v03, rfl, rfl, bY rfl ?_⟩))
    rw [cl0]
    refine hn f q _ ⟨_, er, rfl⟩ (pre h3 e3.1 _) ?_ ?_ (hw3.eq (gEq.sI _ _ _ _))
    · rw [sI_na (by decide)]; exact e3.2.1
    · rw [sI_na (by decide)]; exact e3.2.2
theorem c_readQuestion (hw : gWf h lk sp cd) (tw : TWf t n) (tp : TPc t n h) (c0 : CDs 61 [] h)
    (hy : ∀ κ e h', κ < 6 → QsR t n (skp t n 0, false) (.ok (κ, e)) → CQ h h' → h'.1 1 8 = 0 → h'.1 1 9 = -1 → gWf h' lk sp (some 61) → h'.1 63 0 = nI 0 → h'.1 64 0 = nI e.length → CDs 61 e h' → gdQ κ e → e.length ≤ 1600 → Q (some (.int (nI (34 + κ)))) h')
    (hn : ∀ f q h' cd', QsR t n (skp t n 0, false) (.error (f, q)) → CQ h h' → h'.1 1 8 = nI f → h'.1 1 9 = nI q → gWf h' lk sp cd' → Q (some (.int (-1))) h') : gC l G (d + 55) MX3_readQuestion [.ref 4, .ref 61] h Q := by
  have n16 := tw.1
  refine eX3_readQuestion hw (Or.inr (Or.inl rfl)) (c_rewind (d := d + 52) hw tw tp (fun h1 e1 x2 x8 x9 k1 => ⟨rfl, e1.2, ?_⟩))
  have hw1 := hw.eq e1
  have tk := tkk_lt (t := t) (n := n) (s := skp t n 0) (b := false) tw.2
  have K1 : ∀ h', (∀ a, a ∉ [1, 4, 61, 62, 63, 64] → h'.1 a = h1.1 a ∧ h'.2.1 a = h1.2.1 a) → h'.1 1 2 = h1.1 1 2 → CQ h h' := fun h' a1 a2 => ⟨fun a ha => by
    have x1 := a1 a ha
    have x2 := e1.1 a (by simp at ha ⊢; omega)
    exact ⟨x1.1.trans x2.1, x1.2.trans x2.2⟩, a2.trans x2⟩
  have tp1 : TPc t n h1 := ⟨by rw [x2]; exact tp.1, fun i hi => by rw [(e1.1 2 (by decide)).1]; exact tp.2.1 i hi, fun i hi => by rw [(e1.1 3 (by decide)).1]; exact tp.2.2 i hi⟩
  have c1 : CDs 61 [] h1 := by
    unfold CDs at c0 ⊢
    rw [(e1.1 61 (by decide)).1]
    exact ⟨c0.1, fun i hi => absurd hi (Nat.not_lt_zero _)⟩
  have bad : (∀ κ, κ < 6 → ¬ isW t n (34 + κ) (skp t n 0, false)) → gC l G (d + 54) MX5_failHere [.ref 1, .int 1] h1 (rI fun v2 h2 => h2.2.2 = h1.2.2 ∧ Q (some (.int (-1))) h2) := fun no => c_failHere (f := 1) (d := d + 53) hw1 k1.2.2.2.1 (fun h2 e2 => ⟨_, rfl, e2.1.2, hn 1 (skp t n 0) h2 cd (Or.inl ⟨no, rfl⟩) (K1 h2 (fun a ha => e2.1.1 a (by simp at ha ⊢; omega)) e2.2.1) e2.2.2.1 e2.2.2.2 (hw1.eq e2.1)⟩)
  rw [k1.k3, (kI_w tk).1]
  refine ⟨fun z => bad (fun κ _ w => z w.1), fun z => ?_⟩
  obtain ⟨⟨lt, cl, _⟩, _⟩ := tkk_w.mp ⟨z, tw.2⟩
  obtain ⟨w1, w2, w3⟩ := k1.2.2.2.2.2 lt cl
  have wi : ∀ i, i < 40 → (h1.1 1 6 = nI i ↔ isW t n i (skp t n 0, false)) := fun i hi => ⟨fun y => ⟨z, (w1 i hi).mp y⟩, fun y => (w1 i hi).mpr y.2⟩
  have T := fun (κ : Nat) (hκ : κ < 3) (h6 : h1.1 1 6 = nI (34 + κ)) => c_rqB (l := l) (G := G) (κ := κ) (d := d) (Q := Q) hw1 tw tp1 k1 z c1 (grq_t (d := d) tw) (fun e h' r a1 a2 a3 a4 a5 a6 a7 a8 a9 => by
    rw [h6]
    exact hy κ e h' (by omega) (Or.inr ⟨κ, by omega, (wi _ (by omega)).mp h6, Or.inl ⟨hκ, r⟩⟩) (K1 h' a1.1 a1.2) (a2.trans x8) (a3.trans x9) a4 a5 a6 a7 (Or.inl ⟨hκ, a8⟩) a9) (fun f q h' r a1 a2 a3 a4 => hn f q h' (some 61) (Or.inr ⟨κ, by omega, (wi _ (by omega)).mp h6, Or.inl ⟨hκ, r⟩⟩) (K1 h' a1.1 a1.2) a2 a3 a4)
  have S := fun (κ : Nat) (hκ : 3 ≤ κ) (hκ6 : κ < 6) (h6 : h1.1 1 6 = nI (34 + κ)) => c_rqB (l := l) (G := G) (κ := κ) (d := d) (Q := Q) hw1 tw tp1 k1 z c1 (grq_s (d := d) tw) (fun e h' r a1 a2 a3 a4 a5 a6 a7 a8 a9 => by
    rw [h6]
    exact hy κ e h' hκ6 (Or.inr ⟨κ, hκ6, (wi _ (by omega)).mp h6, Or.inr ⟨hκ, r⟩⟩) (K1 h' a1.1 a1.2) (a2.trans x8) (a3.trans x9) a4 a5 a6 a7 (Or.inr ⟨hκ, a8⟩) a9) (fun f q h' r a1 a2 a3 a4 => hn f q h' (some 61) (Or.inr ⟨κ, hκ6, (wi _ (by omega)).mp h6, Or.inr ⟨hκ, r⟩⟩) (K1 h' a1.1 a1.2) a2 a3 a4)
  have w40 : (h1.1 1 6 = -1) ∨ ∃ i, i < 40 ∧ h1.1 1 6 = nI i := w2
  refine ⟨fun z34 => ?_, fun z34 => bad (fun κ hκ w => z34 ?_)⟩
  · rcases w40 with y | ⟨i, hi, y⟩
    · rw [y] at z34
      exact absurd z34 (by decide)
    · have i34 : 34 ≤ i := by
        rw [y] at z34
        exact (nI_leI (a := 34) (by decide) (by omega)).mp z34
      have E : ∀ c : Nat, c < 40 → (h1.1 1 6 = nI c ↔ i = c) := fun c hc => by rw [y]; exact nI_eq (by omega) (by omega)
      refine ⟨fun z1 => T 0 (by decide) z1, fun z1 => ⟨fun z2 => T 1 (by decide) z2, fun z2 => ⟨fun z3 => ?_, fun z3 => T 2 (by decide) z3⟩⟩⟩
      have e1 : i ≠ 34 := fun q => z1 ((E 34 (by decide)).mpr q)
      have e2 : i ≠ 35 := fun q => z2 ((E 35 (by decide)).mpr q)
      have e3 : i ≠ 36 := fun q => z3 ((E 36 (by decide)).mpr q)
      exact S (i - 34) (by omega) (by omega) (by rw [y]; congr 1; omega)
  · rw [(wi (34 + κ) (by omega)).mpr w]
    exact nI_le (a := 34) (by omega) (by omega)
end RQ
