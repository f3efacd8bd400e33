section MS3
variable {l : Launch} {G : gG} {d : Nat} {Q : Option Value → gH → Prop} {h h0 h1 h2 : gH} {lk sp : Nat} {cd : Option Nat} {t : Nat → Nat} {n s i f q u x : Nat} {b dr : Bool} {p : Nat × Bool} {S C : List Nat}
theorem endP_wf (h : wfS S) : endP S C = (S, C) := by
  cases S with
  | nil => rfl
  | cons x r =>
    have := h x List.mem_cons_self
    exact endP_h (by omega)
theorem nx_ge : s ≤ nx t n s := by
  by_cases z : s < n
  · exact Nat.le_of_lt (nx_gt z)
  · have : tks t n s = s := by unfold tks; rw [if_pos (by omega)]
    have e : nx t n s = skp t n (tks t n s) := rfl
    rw [e, this]
    exact skp_le
theorem m_codeS (hw : gWf h lk sp cd) (tw : TWf t n) (m : MSt t n p S C h) (hl : C.length + 1 + S.length < p.1) (hq : ∀ h', MGs h h' → MSt t n p S (C ++ [u]) h' → (∀ j, j ≠ 60 → h'.1 82 j = h.1 82 j) → Q none h') : gC l G d MX12_code [.ref 82, .int (nI (utd u))] h Q := by
  refine m_code (p' := p) hw tw m (fun h1 e1 f1 w1 c1 c2 => hq h1 e1 ⟨?_, ?_, ?_, ?_, ?_, c1, c2, ?_, m.2.2.2.2.2.2.2.2.1, m.2.2.2.2.2.2.2.2.2⟩ f1)
  · obtain ⟨k1, k2, k3, k4, a, e, k5, k6, k7, k8, k9, k10⟩ := m.1
    exact ⟨k1, k2, by rw [f1 3 (by decide)]; exact k3, by rw [f1 5 (by decide)]; exact k4, a, e, k5, k6, k7, by rw [f1 2 (by decide)]; exact k8, by rw [f1 4 (by decide)]; exact k9, k10⟩
  · rw [f1 62 (by decide)]; exact m.2.1
  · rw [w1]; exact m.2.2.1
  · rw [f1 63 (by decide)]; exact m.2.2.2.1
  · rw [f1 64 (by decide)]; exact m.2.2.2.2.1
  · rw [List.length_append]; exact hl
theorem bad0 {f : Nat} (h1 : f ≠ 0) (h2 : f < 10) : ¬ nI f = 0 := nI_ne0 (by omega) (by omega)
theorem run_E {kn : Nat → Bool} {ob k : Nat} {p : Nat × Bool} {S C : List Nat} : run t n kn ob (k + 1) true p S C = (if tkk t n p.1 p.2 = 1002 then (match numF t n 0 10000 p with
      | .ok (v, p') => run t n kn ob k false p' (endP S (C ++ [1000 + v])).1 (endP S (C ++ [1000 + v])).2
      | .error e => some (.error e))
    else if tkk t n p.1 p.2 = 40 then (if ob + cnS S = 6 then some (.error (4, p.1)) else run t n kn ob k true (nx t n p.1, nj t n p.1) (100 :: S) C)
    else if tkk t n p.1 p.2 = 1001 then (
      if wix t n p.1 = 32 ∨ wix t n p.1 = 33 then (
        if tkk t n (nx t n p.1) (nj t n p.1) = 40 then (if ob + cnS S = 6 then some (.error (4, nx t n p.1)) else run t n kn ob k true (nx t n (nx t n p.1), nj t n (nx t n p.1)) ((wix t n p.1 + 69) :: S) C)
        else some (.error (1, nx t n p.1)))
      else if kn (wix t n p.1) = true ∧ wix t n p.1 < 40 then (
        if wix t n p.1 = 27 then (if ob + cnS S = 6 then some (.error (4, p.1)) else run t n kn ob k true (nx t n p.1, nj t n p.1) (27 :: S) C)
        else run t n kn ob k false (nx t n p.1, nj t n p.1) (endP S (C ++ [wix t n p.1])).1 (endP S (C ++ [wix t n p.1])).2)
      else some (.error (1, p.1)))
    else some (.error (1, p.1))) := rfl
theorem numF_f {lo hi f q : Nat} (h : numF t n lo hi p = .error (f, q)) : (f = 1 ∨ f = 2) ∧ (tkk t n p.1 p.2 ≠ 1002 → f = 1 ∧ q = p.1) := by
  unfold numF at h
  split at h
  · rename_i a
    refine ⟨?_, fun z => absurd a z⟩
    split at h
    · split at h
      · cases h
      · have := Except.error.inj h; exact Or.inr (congrArg Prod.fst this).symm
    · have := Except.error.inj h; exact Or.inl (congrArg Prod.fst this).symm
  · have := Except.error.inj h
    exact ⟨Or.inl (congrArg Prod.fst this).symm, fun _ => ⟨(congrArg Prod.fst this).symm, (congrArg Prod.snd this).symm⟩⟩
theorem m_onePart {K : Nat} {out : pOut} (hw : gWf h lk sp cd) (tw : TWf t n) (tp : TPm t h) (hdr : h.1 82 57 = 0 ↔ dr = false) (m : MSt t n p S C h) (hr : run t n (knT dr) 0 K true p S C = some out)
    (hf : ∀ f q h', out = .error (f, q) → f ≠ 0 → f < 10 → MGf f q h h' → Q none h')
    (hok : ∀ k' p' S' C' h', k' < K → run t n (knT dr) 0 k' false p' S' C' = some out → MGs h h' → MSt t n p' S' C' h' → Q none h') : gC l G (d + 4) MX12_onePart [.ref 82] h Q := by
  have n16 := tw.1
  refine eX12_onePart hw (fun p9 e9 s9 m9 args9 below9 meth9 cc9 => ?_)
  -- behind a failure
  have F143 : ∀ h' f q (x1 x2 : Int32), out = .error (f, q) → f ≠ 0 → f < 10 → MGf f q h h' → gg p9 l e9 s9 m9 args9 below9 meth9 cc9 G (d + 3 + 1) MX12_onePart Q 143 [some (.ref 82), some (.int x1), some (.int x2), none, none] [] h' := fun h' f q x1 x2 eo f0 f9 e1 => by
    have hwh := hw.eq e1.1.1
    have b5 : ¬ h'.1 82 5 = 0 := by rw [e1.2.1]; exact bad0 f0 f9
    have g146 : gg p9 l e9 s9 m9 args9 below9 meth9 cc9 G (d + 3 + 1) MX12_onePart Q 146 [some (.ref 82), some (.int x1), none, none, none] [] h' := wX12_onePart_146 hwh.1 hwh.2.1 hwh.2.2.1 (bN b5 (hf f q h' eo f0 f9 e1))
    exact wX12_onePart_143 hwh.1 hwh.2.1 hwh.2.2.1 (wX12_onePart_2 hwh.1 hwh.2.1 hwh.2.2.1 ⟨fun _ => g146, fun _ => bN' b5 g146⟩)
  have dr' : ∀ h', MGs h h' → (h'.1 82 57 = 0 ↔ dr = false) := fun h' e => by rw [e.1.2.1 57 (by decide)]; exact hdr
  -- a word or a number
  have H146 : ∀ k p S C h' (x1 : Int32), k < K → MGs h h' → MSt t n p S C h' → tkk t n p.1 p.2 ≠ 40 → ¬ isW t n 32 p → ¬ isW t n 33 p → run t n (knT dr) 0 (k + 1) true p S C = some out → gg p9 l e9 s9 m9 args9 below9 meth9 cc9 G (d + 3 + 1) MX12_onePart Q 146 [some (.ref 82), some (.int x1), none, none, none] [] h' := by
    intro k p S C h' x1 kK e1 m1 t40 w32 w33 hr
    rw [run_E] at hr
    have wf := m1.2.2.2.2.2.2.2.2.1
    have m8 := m1.2.2.2.2.2.2.2.1
    have wx : ∀ i, i < 40 → (isW t n i p ↔ tkk t n p.1 p.2 = 1001 ∧ wix t n p.1 = i) := fun i hi => isW_iff hi
    have sn := m1.1.1
    -- the code of a word
    have W : ∀ h2 (x1 : Int32) i, i < 40 → i ≠ 27 → knT dr i = true → isW t n i p → MGs h h2 → MSt t n (nx t n p.1, nj t n p.1) S C h2 → ∀ y : Int32, y = nI (utd i) → 7 ≤ utd i → utd i < 20 → gg p9 l e9 s9 m9 args9 below9 meth9 cc9 G (d + 3 + 1) MX12_onePart Q 329 [some (.ref 82), some (.int x1), none, none, none] [.int y] h2 := fun h2 x1 i i40 i27 ki wi e2 m2 y ey y7 y20 => by
      obtain ⟨k1, wi'⟩ := (wx i i40).mp wi
      have lt : p.1 < n := ((tkk_w.mp ⟨k1, tw.2⟩).1).1
      have hg := nx_gt (t := t) lt
      have hw2 := hw.eq e2.1.1
      have n3 : wix t n p.1 ≠ 32 ∧ wix t n p.1 ≠ 33 := ⟨fun z => w32 ((wx 32 (by decide)).mpr ⟨k1, z⟩), fun z => w33 ((wx 33 (by decide)).mpr ⟨k1, z⟩)⟩
      rw [if_neg (by omega), if_neg t40, if_pos k1, if_neg (by omega), wi', if_pos ⟨ki, i40⟩, if_neg i27, endP_wf wf] at hr
      subst ey
      refine wX12_onePart_329 hw2.1 hw2.2.1 hw2.2.2.1 (bN (i_nm1 (by omega)) (m_codeS hw2 tw m2 (by show C.length + 1 + S.length < nx t n p.1; omega) (fun h3 e3 m3 _ => ⟨rfl, e3.1.1.2, hok k _ _ _ h3 kK hr (e2.tr e3) m3⟩)))
    have T : ∀ h', MGs h h' → MSt t n p S C h' → ∀ i, i < 34 → ∀ Q' : Option Value → gH → Prop, (∀ h2, isW t n i p → MGs h h2 → MSt t n (nx t n p.1, nj t n p.1) S C h2 → h2.2.2 = h'.2.2 → Q' (some (.int 1)) h2) → (∀ h2, ¬ isW t n i p → MGs h h2 → MSt t n p S C h2 → h2.2.2 = h'.2.2 → Q' (some (.int 0)) h2) → gC l G (d + 3) MX12_takes [.ref 82, .ref (85 + i)] h' Q' := fun h' e1 m1 i hi Q' y1 n1 => by
      have hs : ∀ i, i < 34 → gSH[85 + i]? = some (22, wln i) := by decide
      have tp1 := tp.gx e1.1
      exact m_takes (d := d + 1) (hw.eq e1.1.1) tw tp1 m1.1 (by omega) (hs i hi) (by omega) (fun j hj => tp1.2.1 i hi j hj) (fun h2 z e2 k2 => y1 h2 z (e1.tr e2.gx) (m1.ml (p' := (nx t n p.1, nj t n p.1)) e2 k2 nx_ge) e2.1.2) (fun h2 z e2 k2 a2 => n1 h2 z (e1.tr e2.gx) (m1.ml (p' := p) e2 k2 (Nat.le_refl _)) e2.1.2)
    -- no word
    have N : ∀ h2, MGs h h2 → MSt t n p S C h2 → (∀ i, knT dr i = true → ¬ isW t n i p) → gg p9 l e9 s9 m9 args9 below9 meth9 cc9 G (d + 3 + 1) MX12_onePart Q 328 [some (.ref 82), some (.int x1), none, none, none] [] h2 := fun h2 e2 m2 no => by
      have hw2 := hw.eq e2.1.1
      have tp2 := tp.gx e2.1
      refine wX12_onePart_328 hw2.1 hw2.2.1 hw2.2.2.1 (wX12_onePart_329 hw2.1 hw2.2.1 hw2.2.2.1 (bY rfl (m_number (d := d + 2) (lo := 0) (hi := 10000) hw2 tw tp2 m2.1 (by decide) (by decide) (fun v p' h3 q3 e3 k3 _ => ⟨_, rfl, e3.1.2, ?_⟩) (fun f q h3 x q3 e3 => ⟨_, rfl, e3.1.2, ?_⟩))))
      · have q3 : numF t n 0 10000 p = .ok (v, p') := q3
        obtain ⟨kd, pe, -, v9⟩ := numF_ok q3
        have lt : p.1 < n := ((tkk_d.mp ⟨kd, tw.2⟩).1).1
        have hg := nx_gt (t := t) lt
        rw [if_pos kd, q3] at hr
        have hr : run t n (knT dr) 0 k false p' (endP S (C ++ [1000 + v])).1 (endP S (C ++ [1000 + v])).2 = some out := hr
        rw [endP_wf wf] at hr
        subst pe
        have m3 : MSt t n (nx t n p.1, nj t n p.1) S C h3 := m2.ml (p' := (nx t n p.1, nj t n p.1)) e3 k3 nx_ge
        have eu : (1000 : Int32) + nI v = nI (utd (1000 + v)) := by
          rw [lit 1000, nI_add]
          unfold utd
          rw [if_pos (by omega)]
        rw [eu]
        exact m_codeS (hw2.eq e3.1) tw m3 (by show C.length + 1 + S.length < nx t n p.1; omega) (fun h4 e4 m4 _ => ⟨rfl, e4.1.1.2, hok k _ _ _ h4 kK hr (e2.tr (e3.gx.tr e4)) m4⟩)
      · have q3 : numF t n 0 10000 p = .error (f, q) := q3
        obtain ⟨f12, fe⟩ := numF_f q3
        have eo : out = .error (f, q) := by
          by_cases kd : tkk t n p.1 p.2 = 1002
          · rw [if_pos kd, q3] at hr
            exact (Option.some.inj hr).symm
          · obtain ⟨rfl, rfl⟩ := fe kd
            rw [if_neg kd, if_neg t40] at hr
            by_cases k1 : tkk t n p.1 p.2 = 1001
            · have n3 : wix t n p.1 ≠ 32 ∧ wix t n p.1 ≠ 33 := ⟨fun z => w32 ((wx 32 (by decide)).mpr ⟨k1, z⟩), fun z => w33 ((wx 33 (by decide)).mpr ⟨k1, z⟩)⟩
              rw [if_pos k1, if_neg (by omega), if_neg (fun z => no _ z.1 ((wx _ z.2).mpr ⟨k1, rfl⟩))] at hr
              exact (Option.some.inj hr).symm
            · rw [if_neg k1] at hr
              exact (Option.some.inj hr).symm
        have e4 := e2.fl e3.gx
        refine m_codeAny (hw.eq e4.1.1) (k := C.length) (by rw [e3.2.1 60 (by decide)]; exact m2.2.2.2.2.2.1) (by omega) (fun h4 e5 a5 a6 => ⟨rfl, e5.1.2, hf f q h4 eo (by omega) (by omega) (e4.more e5 a5 a6)⟩)
    have hwh := hw.eq e1.1.1
    have kno : ∀ i, knT dr i = true ↔ (i = 16 ∨ i = 17 ∨ i = 18 ∨ i = 19 ∨ i = 20 ∨ i = 6 ∨ i = 21 ∨ i = 22 ∨ (dr = false ∧ (i = 3 ∨ i = 23))) := fun i => by unfold knT; rw [decide_eq_true_iff]
    refine wX12_onePart_146 hwh.1 hwh.2.1 hwh.2.2.1 (bY m1.1.2.2.2.1 ?_)
    refine T h' e1 m1 16 (by decide) _ (fun g0 zg0 eg0 mg0 rg0 => ⟨_, rfl, rg0, bN (by decide) (W g0 _ 16 (by decide) (by decide) ((kno 16).mpr (by omega)) zg0 eg0 mg0 _ rfl (by decide) (by decide))⟩) (fun g0 zg0 eg0 mg0 rg0 => ⟨_, rfl, rg0, bY rfl ?_⟩)
    refine T g0 eg0 mg0 17 (by decide) _ (fun g1 zg1 eg1 mg1 rg1 => ⟨_, rfl, rg1, bN (by decide) (W g1 _ 17 (by decide) (by decide) ((kno 17).mpr (by omega)) zg1 eg1 mg1 _ rfl (by decide) (by decide))⟩) (fun g1 zg1 eg1 mg1 rg1 => ⟨_, rfl, rg1, bY rfl ?_⟩)
    refine T g1 eg1 mg1 18 (by decide) _ (fun g2 zg2 eg2 mg2 rg2 => ⟨_, rfl, rg2, bN (by decide) (W g2 _ 18 (by decide) (by decide) ((kno 18).mpr (by omega)) zg2 eg2 mg2 _ rfl (by decide) (by decide))⟩) (fun g2 zg2 eg2 mg2 rg2 => ⟨_, rfl, rg2, bY rfl ?_⟩)
    refine T g2 eg2 mg2 19 (by decide) _ (fun g3 zg3 eg3 mg3 rg3 => ⟨_, rfl, rg3, bN (by decide) (W g3 _ 19 (by decide) (by decide) ((kno 19).mpr (by omega)) zg3 eg3 mg3 _ rfl (by decide) (by decide))⟩) (fun g3 zg3 eg3 mg3 rg3 => ⟨_, rfl, rg3, bY rfl ?_⟩)
    refine T g3 eg3 mg3 20 (by decide) _ (fun g4 zg4 eg4 mg4 rg4 => ⟨_, rfl, rg4, bN (by decide) (W g4 _ 20 (by decide) (by decide) ((kno 20).mpr (by omega)) zg4 eg4 mg4 _ rfl (by decide) (by decide))⟩) (fun g4 zg4 eg4 mg4 rg4 => ⟨_, rfl, rg4, bY rfl ?_⟩)
    refine T g4 eg4 mg4 6 (by decide) _ (fun g5 zg5 eg5 mg5 rg5 => ⟨_, rfl, rg5, bN (by decide) (W g5 _ 6 (by decide) (by decide) ((kno 6).mpr (by omega)) zg5 eg5 mg5 _ rfl (by decide) (by decide))⟩) (fun g5 zg5 eg5 mg5 rg5 => ⟨_, rfl, rg5, bY rfl ?_⟩)
    refine T g5 eg5 mg5 21 (by decide) _ (fun g6 zg6 eg6 mg6 rg6 => ⟨_, rfl, rg6, bN (by decide) (W g6 _ 21 (by decide) (by decide) ((kno 21).mpr (by omega)) zg6 eg6 mg6 _ rfl (by decide) (by decide))⟩) (fun g6 zg6 eg6 mg6 rg6 => ⟨_, rfl, rg6, bY rfl ?_⟩)
    refine T g6 eg6 mg6 22 (by decide) _ (fun g7 zg7 eg7 mg7 rg7 => ⟨_, rfl, rg7, bN (by decide) (W g7 _ 22 (by decide) (by decide) ((kno 22).mpr (by omega)) zg7 eg7 mg7 _ rfl (by decide) (by decide))⟩) (fun g7 zg7 eg7 mg7 rg7 => ⟨_, rfl, rg7, bY rfl ?_⟩)
    have no8 : ∀ i, knT dr i = true → i ≠ 3 → i ≠ 23 → ¬ isW t n i p := fun i ki n3 n23 => by
      rcases (kno i).mp ki with z | z | z | z | z | z | z | z | z
      · rw [z]; exact zg0
      · rw [z]; exact zg1
      · rw [z]; exact zg2
      · rw [z]; exact zg3
      · rw [z]; exact zg4
      · rw [z]; exact zg5
      · rw [z]; exact zg6
      · rw [z]; exact zg7
      · omega
    have hwg := hw.eq eg7.1.1
    rw [dr' g7 eg7]
    have dn : dr ≠ false → ∀ i, knT dr i = true → ¬ isW t n i p := fun z i ki => by
      rcases (kno i).mp ki with y | y | y | y | y | y | y | y | y
      all_goals first
        | exact absurd y.1 z
        | exact no8 i ki (by omega) (by omega)
    have g305 : ∀ h2, MGs h h2 → MSt t n p S C h2 → (dr = false → ¬ isW t n 3 p) → gg p9 l e9 s9 m9 args9 below9 meth9 cc9 G (d + 3 + 1) MX12_onePart Q 305 [some (.ref 82), some (.int x1), none, none, none] [] h2 := fun h2 e2 m2 n3 => by
      have hw2 := hw.eq e2.1.1
      refine wX12_onePart_305 hw2.1 hw2.2.1 hw2.2.2.1 ?_
      rw [dr' h2 e2]
      refine ⟨fun z => N h2 e2 m2 (dn z), fun z => T h2 e2 m2 23 (by decide) _ (fun h3 z3 e3 m3 r3 => ⟨_, rfl, r3, bN (by decide) (W h3 _ 23 (by decide) (by decide) ((kno 23).mpr (by simp [z])) z3 e3 m3 _ rfl (by decide) (by decide))⟩) (fun h3 z3 e3 m3 r3 => ⟨_, rfl, r3, bY rfl (N h3 e3 m3 (fun i ki => ?_))⟩)⟩
      by_cases i3 : i = 3
      · rw [i3]; exact n3 z
      · by_cases i23 : i = 23
        · rw [i23]; exact z3
        · exact no8 i ki i3 i23
    exact ⟨fun z => g305 g7 eg7 mg7 (fun y => absurd y z), fun z => T g7 eg7 mg7 3 (by decide) _ (fun h3 z3 e3 m3 r3 => ⟨_, rfl, r3, bN (by decide) (W h3 _ 3 (by decide) (by decide) ((kno 3).mpr (by simp [z])) z3 e3 m3 _ rfl (by decide) (by decide))⟩) (fun h3 z3 e3 m3 r3 => ⟨_, rfl, r3, bY rfl (g305 h3 e3 m3 (fun _ => z3))⟩)⟩
  suffices H : ∀ k p S C h', k ≤ K → MGs h h' → MSt t n p S C h' → run t n (knT dr) 0 k true p S C = some out → gg p9 l e9 s9 m9 args9 below9 meth9 cc9 G (d + 3 + 1) MX12_onePart Q 2 [some (.ref 82), some (.int 1), none, none, none] [] h' from H K p S C h (Nat.le_refl _) MGs.rf m hr
  intro k
  induction k with
  | zero => intro p S C h' _ _ _ hr; cases hr
  | succ k ih =>
    intro p S C h' kK e1 m1 hr
    have hwh := hw.eq e1.1.1
    have tp1 := tp.gx e1.1
    have sn := m1.1.1
    have m8 := m1.2.2.2.2.2.2.2.1
    have wf := m1.2.2.2.2.2.2.2.2.1
    have wx : ∀ i, i < 40 → (isW t n i p ↔ tkk t n p.1 p.2 = 1001 ∧ wix t n p.1 = i) := fun i hi => isW_iff hi
    have hs : ∀ i, i < 34 → gSH[85 + i]? = some (22, wln i) := by decide
    have tsn := tw.2 p.1
    refine wX12_onePart_2 hwh.1 hwh.2.1 hwh.2.2.1 (bN (by decide) (bY' m1.1.2.2.2.1 (m_look hwh tw tp1 m1.1 (fun h2 e2 k2 a2 => ⟨_, rfl, e2.1.2, ?_⟩))))
    have e2' := e1.tr e2.gx
    have hw2 := hw.eq e2'.1.1
    have tp2 := tp.gx e2'.1
    have m2 : MSt t n p S C h2 := m1.ml (p' := p) e2 k2 (Nat.le_refl _)
    have z40 : (if p.1 < n then nI (t p.1) else -1) = 40 ↔ tkk t n p.1 p.2 = 40 := by
      rw [tkk_c (by decide) (by decide)]
      by_cases z : p.1 < n
      · rw [if_pos z]
        exact ⟨fun q => ⟨z, (nI_eq (b := 40) (by omega) (by decide)).mp q⟩, fun q => by rw [q.2]; rfl⟩
      · rw [if_neg z]; exact ⟨fun q => absurd q (by decide), fun q => absurd q.1 z⟩
    rw [z40]
    refine ⟨fun t40 => ?_, fun t40 => ?_⟩
    · -- min or max
      have g69 : ∀ h3 (x2 : Int32), MGs h h3 → MSt t n p S C h3 → (isW t n 32 p ∨ isW t n 33 p) → gg p9 l e9 s9 m9 args9 below9 meth9 cc9 G (d + 3 + 1) MX12_onePart Q 69 [some (.ref 82), some (.int 1), some (.int x2), none, none] [] h3 := fun h3 x2 e3 m3 wz => by
        obtain ⟨w, w3, k1, wi⟩ : ∃ w, (w = 32 ∨ w = 33) ∧ tkk t n p.1 p.2 = 1001 ∧ wix t n p.1 = w := by
          rcases wz with z | z
          · obtain ⟨a, b⟩ := (wx 32 (by decide)).mp z; exact ⟨32, Or.inl rfl, a, b⟩
          · obtain ⟨a, b⟩ := (wx 33 (by decide)).mp z; exact ⟨33, Or.inr rfl, a, b⟩
        have lt : p.1 < n := ((tkk_w.mp ⟨k1, tw.2⟩).1).1
        have hg := nx_gt (t := t) lt
        have hw3 := hw.eq e3.1.1
        have tp3 := tp.gx e3.1
        rw [run_E, if_neg (by omega), if_neg t40, if_pos k1, wi, if_pos w3] at hr
        have tsn1 := tw.2 (nx t n p.1)
        -- behind the word
        have g90 : ∀ h4 (x3 : Int32), MGs h h4 → MSt t n (nx t n p.1, nj t n p.1) S C h4 → (x3 = 0 ↔ w = 33) → gg p9 l e9 s9 m9 args9 below9 meth9 cc9 G (d + 3 + 1) MX12_onePart Q 90 [some (.ref 82), some (.int 1), some (.int x2), some (.int x3), none] [] h4 := fun h4 x3 e4 m4 hx3 => by
          have hw4 := hw.eq e4.1.1
          have tp4 := tp.gx e4.1
          refine wX12_onePart_90 hw4.1 hw4.2.1 hw4.2.2.1 (m_look hw4 tw tp4 m4.1 (fun h5 e5 k5 a5 => ⟨_, rfl, e5.1.2, ?_⟩))
          have e5' := e4.tr e5.gx
          have hw5 := hw.eq e5'.1.1
          have tp5 := tp.gx e5'.1
          have m5 : MSt t n (nx t n p.1, nj t n p.1) S C h5 := m4.ml (p' := (nx t n p.1, nj t n p.1)) e5 k5 (Nat.le_refl _)
          have sn5 : nx t n p.1 ≤ n := m5.1.1
          have y40 : (if nx t n p.1 < n then nI (t (nx t n p.1)) else -1) = 40 ↔ tkk t n (nx t n p.1) (nj t n p.1) = 40 := by
            rw [tkk_c (by decide) (by decide)]
            by_cases z : nx t n p.1 < n
            · rw [if_pos z]
              exact ⟨fun q => ⟨z, (nI_eq (b := 40) (by omega) (by decide)).mp q⟩, fun q => by rw [q.2]; rfl⟩
            · rw [if_neg z]; exact ⟨fun q => absurd q (by decide), fun q => absurd q.1 z⟩
          have g132 : ∀ h6 (x4 : Int32), MGs h h6 → MTk t n (nx t n p.1) (nj t n p.1) h6 → (∀ p' h7, sgF t n 40 (nx t n p.1, nj t n p.1) = .ok p' → MLx h6 h7 → MTk t n p'.1 p'.2 h7 → gg p9 l e9 s9 m9 args9 below9 meth9 cc9 G (d + 3 + 1) MX12_onePart Q 143 [some (.ref 82), some (.int 1), some (.int x2), none, none] [] h7) → (tkk t n (nx t n p.1) (nj t n p.1) ≠ 40 → out = .error (1, nx t n p.1)) → gg p9 l e9 s9 m9 args9 below9 meth9 cc9 G (d + 3 + 1) MX12_onePart Q 132 [some (.ref 82), some (.int 1), some (.int x2), some (.int x3), some (.int x4)] [] h6 := fun h6 x4 e6 k6 ok er => by
            have hw6 := hw.eq e6.1.1
            refine wX12_onePart_132 hw6.1 hw6.2.1 hw6.2.2.1 (m_asksSign (d := d + 1) (c := 40) hw6 tw (tp.gx e6.1) k6 (by decide) (by decide) (fun p' h7 q7 e7 k7 => ⟨rfl, e7.1.2, ok p' h7 q7 e7 k7⟩) (fun f q h7 q7 e7 => ⟨rfl, e7.1.2, ?_⟩))
            obtain ⟨tn, fe⟩ := sgF_er q7
            have f1 : f = 1 := congrArg Prod.fst fe
            have q1 : q = nx t n p.1 := congrArg Prod.snd fe
            subst f1; subst q1
            exact F143 h7 1 _ 1 x2 (er tn) (by decide) (by decide) (e6.fl e7.gx)
          have g107 : ∀ mk : Nat, mk = w + 69 → tkk t n (nx t n p.1) (nj t n p.1) = 40 → gC l G (d + 3) MX12_opens [.ref 82, .int (nI (mk - 80)), .int (nI (nx t n p.1))] h5 (rV fun h1 => h1.2.2 = h5.2.2 ∧ gg p9 l e9 s9 m9 args9 below9 meth9 cc9 G (d + 3 + 1) MX12_onePart Q 132 [some (.ref 82), some (.int 1), some (.int x2), some (.int x3), some (.int (nI (nx t n p.1)))] [] h1) := fun mk hmk t41 => by
            rw [if_pos t41] at hr
            refine m_opens (d := d + 2) hw5 tw m5 (by omega) (by omega) (fun h6 c6 e6 f6 a62 ast a63 a129 => ⟨rfl, e6.1.1.2, ?_⟩) (fun h6 c6 e6 => ⟨rfl, e6.1.2, ?_⟩)
            · have e6' := e5'.tr e6
              rw [if_neg (by omega), ← hmk] at hr
              have k6 : MTk t n (nx t n p.1) (nj t n p.1) h6 := by
                obtain ⟨k1, k2, k3, k4, a, e, k5, k6, k7, k8, k9, k10⟩ := m5.1
                exact ⟨k1, k2, by rw [f6 3 (by decide) (by decide)]; exact k3, by rw [f6 5 (by decide) (by decide)]; exact k4, a, e, k5, k6, k7, by rw [f6 2 (by decide) (by decide)]; exact k8, by rw [f6 4 (by decide) (by decide)]; exact k9, k10⟩
              refine g132 h6 _ e6' k6 (fun p' h7 q7 e7 k7 => ?_) (fun z => absurd t41 z)
              obtain ⟨-, pe⟩ := sgF_ok q7
              subst pe
              have lt1 : nx t n p.1 < n := ((tkk_c (by decide) (by decide)).mp t41).1
              have hg1 := nx_gt (t := t) lt1
              have e7' := e6'.tr e7.gx
              have hw7 := hw.eq e7'.1.1
              have cn : cnS (mk :: S) = cnS S + 1 := cnS_cons_mk (Or.inr (by omega))
              have c10 := m5.2.2.2.2.2.2.2.2.2
              refine wX12_onePart_143 hw7.1 hw7.2.1 hw7.2.2.1 (ih _ (mk :: S) C h7 (by omega) e7' ⟨k7, ?_, ?_, ?_, ?_, ?_, fun i hi => ?_, ?_, fun y hy => ?_, by omega⟩ hr)
              · rw [e7.2.1 62 (by decide)]; exact a62
              · rw [(e7.1.1 130 (by decide)).1]; exact ast
              · rw [e7.2.1 63 (by decide)]; exact a63
              · rw [e7.2.1 64 (by decide), f6 64 (by decide) (by decide)]; exact m5.2.2.2.2.1
              · rw [e7.2.1 60 (by decide), f6 60 (by decide) (by decide)]; exact m5.2.2.2.2.2.1
              · rw [(e7.1.1 129 (by decide)).1, a129]; exact m5.2.2.2.2.2.2.1 i hi
              · show C.length + (S.length + 1) < nx t n (nx t n p.1)
                omega
              · rcases List.mem_cons.mp hy with z | z
                · omega
                · exact wf y z
            · rw [if_pos (by omega)] at hr
              have e6' := e5'.fl e6.gx
              have hw6 := hw.eq e6'.1.1
              have b6 : ¬ h6.1 82 5 = 0 := by rw [e6'.2.1]; decide
              refine wX12_onePart_132 hw6.1 hw6.2.1 hw6.2.2.1 (eX12_asksSign hw6 (bN' b6 ⟨rfl, rfl, F143 h6 4 _ 1 x2 (Option.some.inj hr).symm (by decide) (by decide) e6'⟩))
          rw [y40]
          refine ⟨fun t41 => ?_, fun t41 => ?_⟩
          · rw [if_neg t41] at hr
            refine wX12_onePart_107 hw5.1 hw5.2.1 hw5.2.2.1 (bY rfl (g132 h5 _ e5' m5.1 (fun p' h7 q7 _ _ => absurd (sgF_ok q7).1 t41) (fun _ => (Option.some.inj hr).symm)))
          · rw [a5]
            refine wX12_onePart_107 hw5.1 hw5.2.1 hw5.2.2.1 (bN (i_nm1 (by omega)) ?_)
            rw [hx3]
            refine ⟨fun z => ?_, fun z => ?_⟩
            · have := g107 102 (by omega) t41
              exact this
            · have := g107 101 (by omega) t41
              exact this
        refine wX12_onePart_69 hw3.1 hw3.2.1 hw3.2.2.1 (m_takes (d := d + 1) (i := 32) (w := 117) hw3 tw tp3 m3.1 (by decide) (hs 32 (by decide)) (by decide) (fun j hj => tp3.2.1 32 (by decide) j hj) (fun h4 z e4 k4 => ⟨_, rfl, e4.1.2, bN' (by decide) (g90 h4 1 (e3.tr e4.gx) (m3.ml (p' := (nx t n p.1, nj t n p.1)) e4 k4 nx_ge) ?_)⟩) (fun h4 z e4 k4 a4 => ⟨_, rfl, e4.1.2, bY' rfl ?_⟩))
        · have := ((wx 32 (by decide)).mp z).2
          exact ⟨fun q => absurd q (by decide), fun q => by omega⟩
        · have e4' := e3.tr e4.gx
          have tp4 := tp.gx e4'.1
          have w33' : w = 33 := by
            rcases w3 with q | q
            · exact absurd ((wx 32 (by decide)).mpr ⟨k1, by omega⟩) z
            · exact q
          refine m_asks (d := d) (i := 33) (w := 118) (hw.eq e4'.1.1) tw tp4 k4 (by decide) (hs 33 (by decide)) (by decide) (fun j hj => tp4.2.1 33 (by decide) j hj) (fun p' h5 q5 e5 k5 => ⟨rfl, e5.1.2, ?_⟩) (fun f q h5 q5 e5 => ?_)
          · have iw : isW t n 33 p := (wx 33 (by decide)).mpr ⟨k1, by omega⟩
            have : wdF t n 33 p = .ok (nx t n p.1, nj t n p.1) := if_pos iw
            have pe : (nx t n p.1, nj t n p.1) = p' := Except.ok.inj (this.symm.trans q5)
            subst pe
            exact g90 h5 0 (e4'.tr e5.gx) ((m3.ml (p' := p) e4 k4 (Nat.le_refl _)).ml (p' := (nx t n p.1, nj t n p.1)) e5 k5 nx_ge) ⟨fun _ => w33', fun _ => rfl⟩
          · have iw : isW t n 33 p := (wx 33 (by decide)).mpr ⟨k1, by omega⟩
            have : wdF t n 33 p = .ok (nx t n p.1, nj t n p.1) := if_pos iw
            exact absurd (this.symm.trans q5) (by intro z; cases z)
      refine m_isHere (d := d + 2) (i := 32) (w := 117) hw2 tw tp2 k2 (by decide) (hs 32 (by decide)) (by decide) (fun j hj => tp2.2.1 32 (by decide) j hj) (fun h3 e3 k3 a3 z => ⟨_, rfl, e3.1.2, bN' (by decide) (g69 h3 _ (e2'.tr e3.gx) (m2.ml (p' := p) e3 k3 (Nat.le_refl _)) (Or.inl z))⟩) (fun h3 e3 k3 a3 z => ⟨_, rfl, e3.1.2, bY' rfl ?_⟩)
      have e3' := e2'.tr e3.gx
      have tp3 := tp.gx e3'.1
      have m3 : MSt t n p S C h3 := m2.ml (p' := p) e3 k3 (Nat.le_refl _)
      refine m_isHere (d := d + 2) (i := 33) (w := 118) (hw.eq e3'.1.1) tw tp3 k3 (by decide) (hs 33 (by decide)) (by decide) (fun j hj => tp3.2.1 33 (by decide) j hj) (fun h4 e4 k4 a4 z4 => ⟨_, rfl, e4.1.2, bN (by decide) (g69 h4 _ (e3'.tr e4.gx) (m3.ml (p' := p) e4 k4 (Nat.le_refl _)) (Or.inr z4))⟩) (fun h4 e4 k4 a4 z4 => ⟨_, rfl, e4.1.2, bY rfl ?_⟩)
      have e4' := e3'.tr e4.gx
      have hw4 := hw.eq e4'.1.1
      exact wX12_onePart_143 hw4.1 hw4.2.1 hw4.2.2.1 (wX12_onePart_2 hw4.1 hw4.2.1 hw4.2.2.1 (bY rfl (H146 k p S C h4 0 (by omega) e4' (m3.ml (p' := p) e4 k4 (Nat.le_refl _)) t40 z z4 hr)))
    · -- a round bracket
      rw [run_E, if_neg (by omega), if_pos t40] at hr
      rw [a2]
      have lt : p.1 < n := ((tkk_c (by decide) (by decide)).mp t40).1
      have hg := nx_gt (t := t) lt
      refine m_opens (d := d + 2) (mk := 100) hw2 tw m2 (by decide) (by decide) (fun h3 c3 e3 f3 a62 ast a63 a129 => ⟨rfl, e3.1.1.2, ?_⟩) (fun h3 c3 e3 => ⟨rfl, e3.1.2, ?_⟩)
      · have e3' := e2'.tr e3
        rw [if_neg (by omega)] at hr
        rw [f3 2 (by decide) (by decide), a2, nI_1]
        have e4' : MGs h (sI h3 82 2 (nI (p.1 + 1))) := ⟨MGx.si82 (by decide) e3'.1, by rw [sI_nb (by decide)]; exact e3'.2⟩
        have hw4 := hw.eq e4'.1.1
        obtain ⟨ee, eel, eeh, eeb⟩ := k2.at a2
        have etk : tks t n p.1 = p.1 + 1 := by
          have c3 : t p.1 = 40 := ((tkk_c (by decide) (by decide)).mp t40).2
          unfold tks
          rw [if_neg (by omega), c3, if_neg (by decide), if_neg (by decide)]
        have en : nx t n p.1 = skp t n (p.1 + 1) := by show skp t n (tks t n p.1) = _; rw [etk]
        have k4 : MTk t n (nx t n p.1) (nj t n p.1) (sI h3 82 2 (nI (p.1 + 1))) := by
          refine ⟨nx_le (by omega), nx_s, by rw [sI_nb (by decide), f3 3 (by decide) (by decide)]; exact k2.2.2.1, by rw [sI_nb (by decide), f3 5 (by decide) (by decide)]; exact k2.2.2.2.1, p.1 + 1, ee, by omega, en.symm, by omega, sI_s _ _ _ _, by rw [sI_nb (by decide), f3 4 (by decide) (by decide)]; exact eeh, ?_⟩
          rw [nj_t]
          constructor
          · rintro ⟨_, q, _⟩
            have c3 : t p.1 = 40 := ((tkk_c (by decide) (by decide)).mp t40).2
            rw [c3] at q
            exact absurd q (by decide)
          · intro q; omega
        have cn : cnS (100 :: S) = cnS S + 1 := cnS_cons_mk (Or.inr (by omega))
        have c10 := m2.2.2.2.2.2.2.2.2.2
        refine wX12_onePart_143 hw4.1 hw4.2.1 hw4.2.2.1 (ih _ (100 :: S) C _ (by omega) e4' ⟨k4, ?_, ?_, ?_, ?_, ?_, fun i hi => ?_, ?_, fun y hy => ?_, by omega⟩ hr)
        · rw [sI_nb (by decide)]; exact a62
        · rw [sI_na (by decide)]; exact ast
        · rw [sI_nb (by decide)]; exact a63
        · rw [sI_nb (by decide), f3 64 (by decide) (by decide)]; exact m2.2.2.2.2.1
        · rw [sI_nb (by decide), f3 60 (by decide) (by decide)]; exact m2.2.2.2.2.2.1
        · rw [sI_ne (by decide), a129]; exact m2.2.2.2.2.2.2.1 i hi
        · show C.length + (S.length + 1) < nx t n p.1
          omega
        · rcases List.mem_cons.mp hy with z | z
          · omega
          · exact wf y z
      · rw [if_pos (by omega)] at hr
        have e3' := e2'.fl e3.gx
        refine F143 _ 4 p.1 _ _ (Option.some.inj hr).symm (by decide) (by decide) (e3'.more (MGx.si82 (by decide) MGx.rf) (by rw [sI_nb (by decide)]) (by rw [sI_nb (by decide)]))
end MS3
