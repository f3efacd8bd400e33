section LC2
variable {l : Launch} {G : gG} {d : Nat} {Q : Option Value → gH → Prop} {h h0 : gH} {lk sp : Nat} {cd : Option Nat} {t : Nat → Nat} {n s p k c i : Nat} {b B : Bool}
theorem chI_w (hc : c < 256) : (chI c = -2 ↔ cls c = 1) ∧ (chI c = -3 ↔ cls c = 2) := by
  have np : ∀ m : Int32, m < 0 → nI c ≠ m := fun m hm e => nI_pos (n := c) (by omega) (by rw [e]; exact hm)
  unfold chI
  by_cases a1 : cls c = 1
  · rw [if_pos a1]; exact ⟨⟨fun _ => a1, fun _ => rfl⟩, ⟨fun q => absurd q (by decide), fun q => by omega⟩⟩
  · rw [if_neg a1]
    by_cases a2 : cls c = 2
    · rw [if_pos a2]; exact ⟨⟨fun q => absurd q (by decide), fun q => absurd q a1⟩, ⟨fun _ => a2, fun _ => rfl⟩⟩
    · rw [if_neg a2]; exact ⟨⟨fun q => absurd q (np _ (by decide)), fun q => absurd q a1⟩, ⟨fun q => absurd q (np _ (by decide)), fun q => absurd q a2⟩⟩
theorem c_move0 (hw : gWf h lk sp cd) (tw : TWf t n) (tp : TPc t n h) (hp : p ≤ n) (h5 : h.1 1 5 = nI p) (hB : (h.1 1 3 = -2 ∨ h.1 1 3 = -3) ↔ B = true) (hq : ∀ h', CLx h h' → CTk t n (skp t n p) (B && decide (skp t n p = p)) h' → Q none h') : gC l G (d + 1) MX5_move [.ref 1] h Q := by
  have n16 := tw.1
  obtain ⟨s, hs⟩ : ∃ s, skp t n p = s := ⟨_, rfl⟩
  rw [hs] at hq
  have sn : s ≤ n := by rw [← hs]; exact skp_n hp
  have ss : skp t n s = s := by rw [← hs]; exact skp_s
  have c0 : s < n → cls (t s) ≠ 0 := fun z => by rw [← hs] at z ⊢; exact skp_e z
  have tl := tks_le (t := t) sn
  refine eX5_move hw (fun p9 e9 s9 m9 args9 below9 meth9 cc9 => ?_)
  obtain ⟨J, hJ⟩ : ∃ J, (B && decide (s = p)) = J := ⟨_, rfl⟩
  rw [hJ] at hq
  -- the end: what word it is, whether it is joined
  have H209 : ∀ h' (x1 x3 : Int32), CLx h h' → h'.1 1 4 = nI s → h'.1 1 5 = nI (tks t n s) → (x3 = 0 ↔ ¬ (s < n ∧ (cls (t s) = 1 ∨ cls (t s) = 2))) → h'.1 1 3 = kI (tkk t n s false) → gg p9 l e9 s9 m9 args9 below9 meth9 cc9 G (d + 1) MX5_move Q 209 [some (.ref 1), some (.int x1), some (.int (if J then 1 else 0)), some (.int x3)] [] h' := fun h' x1 x3 e1 a4 a5 hx a3 => by
    have hwh := hw.eq e1.1
    have tk := tkk_lt (t := t) (n := n) (s := s) (b := false) tw.2
    have w1 : kI (tkk t n s false) = -2 ↔ s < n ∧ cls (t s) = 1 := by
      rw [(kI_w tk).1]
      exact ⟨fun q => by have := (tkk_w.mp ⟨q, tw.2⟩).1; exact ⟨this.1, this.2.1⟩, fun q => (tkk_w.mpr ⟨⟨q.1, q.2, rfl⟩, tw.2⟩).1⟩
    refine wX5_move_209 hwh.1 hwh.2.1 hwh.2.2.1 (c_readWord hwh tw (tp.cl e1) sn a4 a5 (by rw [a3]; exact w1) (fun h2 e2 b3 b4 b5 b6 => ⟨rfl, e2.1.2, ?_⟩))
    have hw2 := hwh.eq e2.1
    have e3 := e1.tr e2
    have nj0 : (¬ (s < n ∧ (cls (t s) = 1 ∨ cls (t s) = 2)) ∨ J = false) → tkk t n s J = tkk t n s false := fun q => by
      unfold tkk
      split
      · rfl
      · split
        · rcases q with q | q
          · exact absurd ⟨by omega, Or.inl (by assumption)⟩ q
          · rw [q]
        · split
          · rcases q with q | q
            · exact absurd ⟨by omega, Or.inr (by assumption)⟩ q
            · rw [q]
          · rfl
    cases hJ2 : J with
    | false =>
      rw [hJ2] at nj0 hq
      refine ⟨fun _ => wX5_move_227 hw2.1 hw2.2.1 hw2.2.2.1 (hq h2 e3 ⟨sn, ss, by rw [b3, a3], b4.trans a4, b5.trans a5, b6⟩), fun q => absurd rfl q⟩
    | true =>
      rw [hJ2] at nj0 hq
      refine ⟨fun q => absurd q (by decide), fun _ => ⟨fun q => ?_, fun q => ?_⟩⟩
      · refine wX5_move_227 hw2.1 hw2.2.1 hw2.2.2.1 (hq h2 e3 ⟨sn, ss, ?_, b4.trans a4, b5.trans a5, b6⟩)
        rw [b3, a3, nj0 (Or.inl (hx.mp q))]
      · have z : s < n ∧ (cls (t s) = 1 ∨ cls (t s) = 2) := Classical.byContradiction (fun z => q (hx.mpr z))
        have hw3 := hw.eq (e3.si (i := 3) (x := -4) (by decide) (by decide) (by decide)).1
        refine wX5_move_227 hw3.1 hw3.2.1 hw3.2.2.1 (hq _ (e3.si (by decide) (by decide) (by decide)) ⟨sn, ss, ?_, by rw [sI_nb (by decide)]; exact b4.trans a4, by rw [sI_nb (by decide)]; exact b5.trans a5, fun x y => ?_⟩)
        · rw [sI_s]
          have : tkk t n s true = 1003 := by
            unfold tkk
            rw [if_neg (by omega)]
            rcases z.2 with y | y
            · rw [if_pos y]; rfl
            · rw [if_neg (by omega), if_pos y]; rfl
          rw [this]
          rfl
        · rw [sI_nb (by decide), sI_nb (by decide)]
          exact b6 x y
  -- signs of the same kind
  have H128 : ∀ h' (x1 : Int32), CLx h h' → h'.1 1 4 = nI s → h'.1 1 5 = nI (if n ≤ s then s else s + 1) → h'.1 1 3 = (if n ≤ s then -1 else chI (t s)) → gg p9 l e9 s9 m9 args9 below9 meth9 cc9 G (d + 1) MX5_move Q 128 [some (.ref 1), some (.int x1), some (.int (if J then 1 else 0)), none] [] h' := fun h' x1 e1 a4 a5 a3 => by
    have hwh := hw.eq e1.1
    have ts := tw.2 s
    have np : ∀ m : Int32, m < 0 → nI (t s) ≠ m := fun m hm e => nI_pos (n := t s) (by omega) (by rw [e]; exact hm)
    have kf : h'.1 1 3 = kI (tkk t n s false) := by
      rw [a3]
      unfold tkk chI
      by_cases z : n ≤ s
      · rw [if_pos z, if_pos z]; rfl
      · rw [if_neg z, if_neg z]
        by_cases y : cls (t s) = 1
        · rw [if_pos y, if_pos y]; rfl
        · rw [if_neg y, if_neg y]
          by_cases x : cls (t s) = 2
          · rw [if_pos x, if_pos x]; rfl
          · rw [if_neg x, if_neg x]
            unfold kI
            rw [if_neg (by omega), if_neg (by omega), if_neg (by omega), if_neg (by omega)]
    have H152 : ∀ q K, s < n → cls (t s) = q → (q = 1 ∨ q = 2) → K = kI (tkk t n s false) → (∀ c, c < 256 → (chI c = K ↔ cls c = q)) → ∀ r i h', n - i ≤ r → s < i → i ≤ n → rn t n q s = rn t n q i → CLx h h' → h'.1 1 4 = nI s → h'.1 1 5 = nI i → h'.1 1 3 = K → gg p9 l e9 s9 m9 args9 below9 meth9 cc9 G (d + 1) MX5_move Q 152 [some (.ref 1), some (.int x1), some (.int (if J then 1 else 0)), some (.int 1)] [] h' := by
      intro q K z hc hq12 kk chk2
      have etk : tks t n s = rn t n q s := by
        unfold tks
        rw [if_neg (by omega)]
        rcases hq12 with y | y
        · rw [if_pos (by omega), y]
        · rw [if_neg (by omega), if_pos (by omega), y]
      have h1 : (1 : Int32) = 0 ↔ ¬ (s < n ∧ (cls (t s) = 1 ∨ cls (t s) = 2)) := ⟨fun q => absurd q (by decide), fun q => absurd ⟨z, by rw [hc]; exact hq12⟩ q⟩
      intro r
      induction r with
      | zero =>
        intro i h' hr si iN er e2 b4 b5 b3
        have hw2 := hw.eq e2.1
        have : i = n := by omega
        subst this
        have en : tks t i s = i := by rw [etk, er, rn_n (by omega)]
        refine wX5_move_152 hw2.1 hw2.2.1 hw2.2.2.1 (bN (by decide) (bY (by rw [e2.2.1, tp.1, b5]; exact Int32.le_refl _) (H209 h' x1 1 e2 b4 (by rw [en]; exact b5) h1 (by rw [b3, kk]))))
      | succ r ih =>
        intro i h' hr si iN er e2 b4 b5 b3
        have hw2 := hw.eq e2.1
        by_cases y : i < n
        · refine wX5_move_152 hw2.1 hw2.2.1 hw2.2.2.1 (bN (by decide) (bN (by rw [e2.2.1, tp.1, b5]; exact nI_ge y (by omega)) (bN (by rw [b5]; exact nI_ge (b := 1600) (by omega) (by decide)) ?_)))
          rw [b5]
          refine ⟨vp_in_nI (by omega) (by decide), ?_⟩
          rw [nI_clamp (by omega), (e2.1.1 2 (by decide)).1, tp.2.1 i (by omega)]
          refine c_kindOf hw2 (tw.2 i) ⟨_, rfl, rfl, ?_⟩
          rw [b3, chk2 _ (tw.2 i), b5, nI_1]
          refine ⟨fun w => ?_, fun w => ?_⟩
          · have en : tks t n s = i := by rw [etk, er, rn_n (fun v => w v.2)]
            exact H209 h' x1 1 e2 b4 (by rw [en]; exact b5) h1 (by rw [b3, kk])
          · exact ih (i + 1) _ (by omega) (by omega) (by omega) (er.trans (rn_y y w)) (e2.si (by decide) (by decide) (by decide)) (by rw [sI_nb (by decide)]; exact b4) (sI_s _ _ _ _) (by rw [sI_nb (by decide)]; exact b3)
        · have : i = n := by omega
          subst this
          have en : tks t i s = i := by rw [etk, er, rn_n (by omega)]
          exact wX5_move_152 hw2.1 hw2.2.1 hw2.2.2.1 (bN (by decide) (bY (by rw [e2.2.1, tp.1, b5]; exact Int32.le_refl _) (H209 h' x1 1 e2 b4 (by rw [en]; exact b5) h1 (by rw [b3, kk]))))
    have single : ¬ (s < n ∧ (cls (t s) = 1 ∨ cls (t s) = 2)) → gg p9 l e9 s9 m9 args9 below9 meth9 cc9 G (d + 1) MX5_move Q 152 [some (.ref 1), some (.int x1), some (.int (if J then 1 else 0)), some (.int 0)] [] h' := fun z => by
      refine wX5_move_152 hwh.1 hwh.2.1 hwh.2.2.1 (bY rfl (H209 h' x1 0 e1 a4 ?_ ⟨fun _ => z, fun _ => rfl⟩ kf))
      rw [a5]
      congr 1
      unfold tks
      split
      · rfl
      · rw [if_neg (fun y => z ⟨by omega, Or.inl y⟩), if_neg (fun y => z ⟨by omega, Or.inr y⟩)]
    refine wX5_move_128 hwh.1 hwh.2.1 hwh.2.2.1 ?_
    by_cases z : n ≤ s
    · rw [a3, if_pos z]
      exact bN (by decide) (bN' (by decide) (single (by omega)))
    · rw [if_neg z] at a3 a5
      by_cases y : cls (t s) = 1
      · have e2 : chI (t s) = -2 := by unfold chI; rw [if_pos y]
        rw [a3, e2]
        exact bY rfl (wX5_move_146 hwh.1 hwh.2.1 hwh.2.2.1 (H152 1 (-2) (by omega) y (Or.inl rfl) (by rw [← kf, a3, e2]) (fun c hc => (chI_w hc).1) (n - (s + 1)) (s + 1) h' (Nat.le_refl _) (by omega) (by omega) (rn_y (by omega) y) e1 a4 a5 (by rw [a3, e2])))
      · by_cases x : cls (t s) = 2
        · have e2 : chI (t s) = -3 := by unfold chI; rw [if_neg y, if_pos x]
          rw [a3, e2]
          exact bN (by decide) (bY' rfl (wX5_move_146 hwh.1 hwh.2.1 hwh.2.2.1 (H152 2 (-3) (by omega) x (Or.inr rfl) (by rw [← kf, a3, e2]) (fun c hc => (chI_w hc).2) (n - (s + 1)) (s + 1) h' (Nat.le_refl _) (by omega) (by omega) (rn_y (by omega) x) e1 a4 a5 (by rw [a3, e2]))))
        · have e2 : chI (t s) = nI (t s) := by unfold chI; rw [if_neg y, if_neg x]
          rw [a3, e2]
          exact bN (np _ (by decide)) (bN' (np _ (by decide)) (single (fun w => by omega)))
  have H6x : ((nI s < 0 → gg p9 l e9 s9 m9 args9 below9 meth9 cc9 G (d + 1) MX5_move Q 128 [some (.ref 1), some (.int (nI s)), some (.int (if J then 1 else 0)), none] [] (sI (sI (sI h 1 4 (nI s)) 1 5 (nI s)) 1 3 (-1))) ∧ (¬ nI s < 0 → ((h.1 1 2 ≤ nI s → gg p9 l e9 s9 m9 args9 below9 meth9 cc9 G (d + 1) MX5_move Q 128 [some (.ref 1), some (.int (nI s)), some (.int (if J then 1 else 0)), none] [] (sI (sI (sI h 1 4 (nI s)) 1 5 (nI s)) 1 3 (-1))) ∧ (¬ h.1 1 2 ≤ nI s → ((1600 ≤ nI s → gg p9 l e9 s9 m9 args9 below9 meth9 cc9 G (d + 1) MX5_move Q 128 [some (.ref 1), some (.int (nI s)), some (.int (if J then 1 else 0)), none] [] (sI (sI (sI h 1 4 (nI s)) 1 5 (nI s)) 1 3 (-1))) ∧ (¬ 1600 ≤ nI s → (vp_in (nI s) 1600 ∧ gC l G d MX5_kindOf [.int (h.1 2 (nI s).toNatClampNeg)] (sI (sI (sI h 1 4 (nI s)) 1 5 (nI s)) 1 3 (-1)) (rI fun v1 h1 => h1.2.2 = (sI (sI (sI h 1 4 (nI s)) 1 5 (nI s)) 1 3 (-1)).2.2 ∧ gg p9 l e9 s9 m9 args9 below9 meth9 cc9 G (d + 1) MX5_move Q 128 [some (.ref 1), some (.int (nI s)), some (.int (if J then 1 else 0)), none] [] (sI (sI h1 1 3 v1) 1 5 (nI s + 1)))))))))) := by
    have e1 : CLx h (sI (sI (sI h 1 4 (nI s)) 1 5 (nI s)) 1 3 (-1)) := ((CLx.rf.si (by decide) (by decide) (by decide)).si (by decide) (by decide) (by decide)).si (by decide) (by decide) (by decide)
    refine bN (nI_pos (by omega)) ?_
    rw [tp.1, nI_leI (by omega) (by omega)]
    refine ⟨fun z => H128 _ _ e1 (by rw [sI_nb (by decide), sI_nb (by decide), sI_s]) (by rw [sI_nb (by decide), sI_s, if_pos z]) (by rw [sI_s, if_pos z]), fun z => bN (nI_ge (b := 1600) (by omega) (by decide)) ⟨vp_in_nI (by omega) (by decide), ?_⟩⟩
    rw [nI_clamp (by omega), tp.2.1 s (by omega)]
    refine c_kindOf (hw.eq e1.1) (tw.2 s) ⟨_, rfl, rfl, H128 _ _ ((e1.si (by decide) (by decide) (by decide)).si (by decide) (by decide) (by decide)) (by rw [sI_nb (by decide), sI_nb (by decide), sI_nb (by decide), sI_nb (by decide), sI_s]) (by rw [sI_s, if_neg z, nI_1]) (by rw [sI_nb (by decide), sI_s, if_neg z])⟩
  have H42 : gg p9 l e9 s9 m9 args9 below9 meth9 cc9 G (d + 1) MX5_move Q 42 [some (.ref 1), some (.int (nI s)), none, none] [] h := by
    refine wX5_move_42 hw.1 hw.2.1 hw.2.2.1 ?_
    rw [h5, nI_eq (by omega) (by omega)]
    have g68 : J = true → gg p9 l e9 s9 m9 args9 below9 meth9 cc9 G (d + 1) MX5_move Q 68 [some (.ref 1), some (.int (nI s)), none, none] [] h := fun z => by
      have := H6x
      rw [z] at this
      exact wX5_move_68 hw.1 hw.2.1 hw.2.2.1 this
    have g72 : J = false → gg p9 l e9 s9 m9 args9 below9 meth9 cc9 G (d + 1) MX5_move Q 72 [some (.ref 1), some (.int (nI s)), none, none] [] h := fun z => by
      have := H6x
      rw [z] at this
      exact wX5_move_72 hw.1 hw.2.1 hw.2.2.1 this
    have jt : s = p → B = true → J = true := fun z y => by rw [← hJ, y, decide_eq_true z]; rfl
    have jf : ¬ (s = p ∧ B = true) → J = false := fun z => by
      rw [← hJ]
      cases hB2 : B with
      | false => rfl
      | true => rw [decide_eq_false (fun y => z ⟨y, hB2⟩)]; rfl
    exact ⟨fun z => g72 (jf (fun y => z y.1)), fun z => ⟨fun y => g68 (jt z (hB.mp (Or.inl y))), fun y => ⟨fun x => g72 (jf (fun w => (hB.mpr w.2).elim y x)), fun x => g68 (jt z (hB.mp (Or.inr x)))⟩⟩⟩
  rw [h5]
  suffices H : ∀ r i, n - i ≤ r → i ≤ n → skp t n i = s → gg p9 l e9 s9 m9 args9 below9 meth9 cc9 G (d + 1) MX5_move Q 5 [some (.ref 1), some (.int (nI i)), none, none] [] h from H (n - p) p (Nat.le_refl _) hp hs
  intro r
  induction r with
  | zero =>
    intro i hr iN er
    have : i = n := by omega
    subst this
    have : s = i := by rw [← er]; exact rn_n (by omega)
    subst this
    exact wX5_move_5 hw.1 hw.2.1 hw.2.2.1 (bN (nI_pos (by omega)) (bY (by rw [tp.1]; exact Int32.le_refl _) H42))
  | succ r ih =>
    intro i hr iN er
    by_cases y : i < n
    · refine wX5_move_5 hw.1 hw.2.1 hw.2.2.1 (bN (nI_pos (by omega)) (bN (by rw [tp.1]; exact nI_ge y (by omega)) (bN (nI_ge (b := 1600) (by omega) (by decide)) ⟨vp_in_nI (by omega) (by decide), ?_⟩)))
      rw [nI_clamp (by omega), tp.2.1 i (by omega), nI_1]
      refine c_isBlank hw (tw.2 i) (fun z => ⟨_, rfl, rfl, bN (by decide) (ih (i + 1) (by omega) (by omega) ((rn_y y z).symm.trans er))⟩) (fun z => ⟨_, rfl, rfl, bY rfl ?_⟩)
      have : s = i := by rw [← er]; exact rn_n (fun v => z v.2)
      subst this
      exact H42
    · have : i = n := by omega
      subst this
      have : s = i := by rw [← er]; exact rn_n (by omega)
      subst this
      exact wX5_move_5 hw.1 hw.2.1 hw.2.2.1 (bN (nI_pos (by omega)) (bY (by rw [tp.1]; exact Int32.le_refl _) H42))
theorem c_move (hw : gWf h lk sp cd) (tw : TWf t n) (tp : TPc t n h) (k : CTk t n s b h) (hk : tkk t n s b ≠ 1003) (hq : ∀ h', CLx h h' → CTk t n (nx t n s) (nj t n s) h' → Q none h') : gC l G (d + 1) MX5_move [.ref 1] h Q := by
  obtain ⟨k1, k2, k3, k4, k5, k6⟩ := k
  have tk := tkk_lt (t := t) (n := n) (s := s) (b := b) tw.2
  refine c_move0 (B := decide (s < n ∧ (cls (t s) = 1 ∨ cls (t s) = 2))) hw tw tp (tks_le k1) k5 ?_ (fun h' e1 k' => hq h' e1 ?_)
  · rw [k3, (kI_w tk).1, (kI_w tk).2.1, decide_eq_true_iff]
    constructor
    · rintro (q | q)
      · have := (tkk_w.mp ⟨q, tw.2⟩).1; exact ⟨this.1, Or.inl this.2.1⟩
      · have := (tkk_d.mp ⟨q, tw.2⟩).1; exact ⟨this.1, Or.inr this.2.1⟩
    · rintro ⟨q1, q2⟩
      have bf : b = false := by
        cases hb : b with
        | false => rfl
        | true =>
          exfalso
          apply hk
          rw [hb]
          unfold tkk
          rw [if_neg (by omega)]
          rcases q2 with y | y
          · rw [if_pos y]; rfl
          · rw [if_neg (by omega), if_pos y]; rfl
      rcases q2 with y | y
      · exact Or.inl (tkk_w.mpr ⟨⟨q1, y, bf⟩, tw.2⟩).1
      · exact Or.inr (tkk_d.mpr ⟨⟨q1, y, bf⟩, tw.2⟩).1
  · have : nj t n s = (decide (s < n ∧ (cls (t s) = 1 ∨ cls (t s) = 2)) && decide (skp t n (tks t n s) = tks t n s)) := by
      unfold nj
      by_cases q : s < n ∧ (cls (t s) = 1 ∨ cls (t s) = 2)
      · rw [decide_eq_true q, Bool.true_and]
        by_cases q2 : nx t n s = tks t n s
        · rw [decide_eq_true ⟨q.1, q.2, q2⟩]; exact (decide_eq_true q2).symm
        · rw [decide_eq_false (fun w => q2 w.2.2)]; exact (decide_eq_false q2).symm
      · rw [decide_eq_false q, Bool.false_and, decide_eq_false (fun w => q ⟨w.1, w.2.1⟩)]
    rw [this]
    exact k'
end LC2
