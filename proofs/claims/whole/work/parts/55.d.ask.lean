section MQ4
variable {l : Launch} {G : gG} {d : Nat} {Q : Option Value → gH → Prop} {h h0 h1 h2 : gH} {lk sp : Nat} {cd : Option Nat} {t : Nat → Nat} {n s i f q u x tb ob : Nat} {b ee : Bool} {p : Nat × Bool} {S C : List Nat}
theorem m_qPushS {c : Nat} (m : MSq t n tb ob false p S C h) (hc : c = 42 ∨ c = 47 ∨ c = 43 ∨ c = 45) (hl : C.length + (S.length + 1) + tb < p.1) : MSq t n tb ob true p (c :: S) C (sI (sI h 165 (tb + S.length) (nI (qtc c))) 82 108 (nI (tb + S.length + 1))) := by
  obtain ⟨m1, m2, m3, m4, m5, m6, m7, m8, m9, m10, m11, m12⟩ := m
  have cn : cnS (c :: S) = cnS S := cnS_cons_op (by omega) (by omega)
  refine ⟨(m1.go (by decide)).gx (by decide), sI_s _ _ _ _, ⟨by rw [sI_ne (by decide), sI_s], stb_cg S (fun i hi => by rw [sI_ne (by decide), sI_nb (by omega)]) m3⟩, by rw [sI_nb (by decide), sI_ne (by decide), m4, cn], by rw [sI_nb (by decide), sI_ne (by decide)]; exact m5, by rw [sI_nb (by decide), sI_ne (by decide)]; exact m6, fun i hi => by rw [sI_ne (by decide), sI_ne (by decide)]; exact m7 i hi, hl, fun y hy => ?_, by omega, wfb_po (by omega) (by omega) m11, fun c c1 c2 z => by rw [sI_ne (by decide), sI_nb (by omega)]; exact m12 c c1 c2 z⟩
  rcases List.mem_cons.mp hy with z | z
  · omega
  · exact m9 y z
theorem m_qGoesOn {K : Nat} {out : pOut} (hw : gWf h lk sp cd) (tw : TWf t n) (tp : TPm t h) (m : MSq t n tb ob false p S C h) (hr : run t n knQ ob K false p S C = some out)
    (hf : ∀ f q h', out = .error (f, q) → f ≠ 0 → f < 10 → MQf tb f q h h' → Q (some (.int 0)) h')
    (hE : ∀ k' p' S' C' h', k' < K → run t n knQ ob k' true p' S' C' = some out → MQs tb h h' → MSq t n tb ob true p' S' C' h' → Q (some (.int 1)) h')
    (hD : ∀ p' S' C' h', out = .ok (p', (popM S' C').2) → mkS S' = 0 → MQs tb h h' → MSq t n tb ob false p' S' C' h' → Q (some (.int 0)) h') : gC l G (d + 4) MX12_qGoesOn [.ref 82] h Q := by
  have n16 := tw.1
  have main : ∀ (p9 : Program) (e9 : Env) (s9 : State) (m9 : MethodId) (args9 : Array Value) (below9 : List Frame) (meth9 : Method) (cc9 : Code), ∀ k p S C h', k ≤ K → MQs tb h h' → MSq t n tb ob false p S C h' → run t n knQ ob k false p S C = some out → (((¬ (h'.1 82 5) = 0 → gg p9 l e9 s9 m9 args9 below9 meth9 cc9 G (d + 3 + 1) MX12_qGoesOn Q 122 [some (.ref 82), none] [] h') ∧ ((h'.1 82 5) = 0 → gC l G (d + 3) MX12_look [.ref 82] h' (rI fun v1 h1 => h1.2.2 = (h').2.2 ∧ ((¬ v1 = 41 → gg p9 l e9 s9 m9 args9 below9 meth9 cc9 G (d + 3 + 1) MX12_qGoesOn Q 122 [some (.ref 82), none] [] h1) ∧ (v1 = 41 → gC l G (d + 3) MX12_qBracket [.ref 82] h1 (rI fun v2 h2 => h2.2.2 = (h1).2.2 ∧ ((v2 = 20 → gg p9 l e9 s9 m9 args9 below9 meth9 cc9 G (d + 3 + 1) MX12_qGoesOn Q 43 [some (.ref 82), none] [] h2) ∧ (¬ v2 = 20 → gC l G (d + 3) MX12_qBracket [.ref 82] h2 (rI fun v3 h3 => h3.2.2 = (h2).2.2 ∧ ((v3 = 23 → gg p9 l e9 s9 m9 args9 below9 meth9 cc9 G (d + 3 + 1) MX12_qGoesOn Q 43 [some (.ref 82), none] [] h3) ∧ (¬ v3 = 23 → gC l G (d + 3) MX12_qBracket [.ref 82] h3 (rI fun v4 h4 => h4.2.2 = (h3).2.2 ∧ ((¬ v4 = 24 → gg p9 l e9 s9 m9 args9 below9 meth9 cc9 G (d + 3 + 1) MX12_qGoesOn Q 122 [some (.ref 82), none] [] h4) ∧ (v4 = 24 → gg p9 l e9 s9 m9 args9 below9 meth9 cc9 G (d + 3 + 1) MX12_qGoesOn Q 43 [some (.ref 82), none] [] h4))))))))))))))) := by
    intro p9 e9 s9 m9 args9 below9 meth9 cc9 k
    induction k with
    | zero => intro p S C h' _ _ _ hr; cases hr
    | succ k ih =>
      intro p S C h' kK e1 m1 hr
      have hwh := hw.eq e1.1.1
      have tp1 := tp.qx e1.1
      have sn := m1.1.1
      have m8 := m1.2.2.2.2.2.2.2.1
      have wf := m1.2.2.2.2.2.2.2.2.1
      have c10 := m1.2.2.2.2.2.2.2.2.2.1
      have mw := mkS_q wf
      have tsn := tw.2 p.1
      rw [run_P] at hr
      have G0 : ∀ p S C h', MQs tb h h' → MSq t n tb ob false p S C h' → run t n knQ ob k false p S C = some out → gg p9 l e9 s9 m9 args9 below9 meth9 cc9 G (d + 3 + 1) MX12_qGoesOn Q 0 [some (.ref 82), none] [] h' := fun p S C h' e1 m1 hr => by
        have hwh := hw.eq e1.1.1
        exact wX12_qGoesOn_0 hwh.1 hwh.2.1 hwh.2.2.1 (ih p S C h' (by omega) e1 m1 hr)
      -- times, by
      have H158 : ∀ c, (c = 42 ∨ c = 47) → ∀ S C h', MQs tb h h' → MSq t n tb ob false (nx t n p.1, nj t n p.1) S C h' → C.length + S.length + tb + 1 < nx t n p.1 → run t n knQ ob k true (nx t n p.1, nj t n p.1) (c :: (popT S C).1) (popT S C).2 = some out → gg p9 l e9 s9 m9 args9 below9 meth9 cc9 G (d + 3 + 1) MX12_qGoesOn Q 162 [some (.ref 82), some (.int (nI (qtc c)))] [] h' := by
        intro c hc S
        have push : ∀ (S C : List Nat) h2, MQs tb h h2 → MSq t n tb ob false (nx t n p.1, nj t n p.1) S C h2 → C.length + S.length + tb + 1 < nx t n p.1 → run t n knQ ob k true (nx t n p.1, nj t n p.1) (c :: S) C = some out → (vp_in (h2.1 82 108) 1700 ∧ Q (some (.int 1)) (sI (sI h2 165 (h2.1 82 108).toNatClampNeg (nI (qtc c))) 82 108 (h2.1 82 108 + 1))) := fun S C h2 e2 m2 l2 hr => by
          have sn2 : nx t n p.1 ≤ n := m2.1.1
          rw [m2.2.1, nI_clamp (by omega), nI_1]
          exact ⟨vp_in_nI (by omega) (by decide), hE k _ _ _ _ (by omega) hr ⟨MQx.si82 (by decide) (MQx.si165 (by omega) e2.1), by rw [sI_nb (by decide), sI_ne (by decide)]; exact e2.2⟩ (m_qPushS m2 (by omega) (by show C.length + (S.length + 1) + tb < nx t n p.1; omega))⟩
        induction S with
        | nil =>
          intro C h2 e2 m2 l2 hr
          have hw2 := hw.eq e2.1.1
          exact wX12_qGoesOn_162 hw2.1 hw2.2.1 hw2.2.2.1 (m_qIsOn (c := 3) hw2 tw m2 (by decide) (by decide) (fun x r z => by cases z) (fun _ => ⟨_, rfl, rfl, bY' rfl (m_qIsOn (c := 4) hw2 tw m2 (by decide) (by decide) (fun x r z => by cases z) (fun _ => ⟨_, rfl, rfl, bY rfl (push [] C h2 e2 m2 l2 hr)⟩))⟩))
        | cons x r ihS =>
          intro C h2 e2 m2 l2 hr
          have hw2 := hw.eq e2.1.1
          have b := qtc_b (m2.2.2.2.2.2.2.2.2.1 x List.mem_cons_self)
          have ep : popT (x :: r) C = if x = 42 ∨ x = 47 then popT r (C ++ [x]) else (x :: r, C) := rfl
          have ll : (x :: r).length = r.length + 1 := rfl
          have g174 : (x = 42 ∨ x = 47) → gg p9 l e9 s9 m9 args9 below9 meth9 cc9 G (d + 3 + 1) MX12_qGoesOn Q 178 [some (.ref 82), some (.int (nI (qtc c)))] [] h2 := fun z => by
            rw [ep, if_pos z] at hr
            refine wX12_qGoesOn_178 hw2.1 hw2.2.1 hw2.2.2.1 (m_qDrops (d := d + 2) hw2 tw m2 (by omega) (by omega) (fun h3 e3 m3 f3 => ⟨rfl, e3.1.1.2, ihS (C ++ [x]) h3 (e2.tr e3) m3 ?_ hr⟩))
            rw [List.length_append]
            show C.length + 1 + r.length + tb + 1 < nx t n p.1
            omega
          refine wX12_qGoesOn_162 hw2.1 hw2.2.1 hw2.2.2.1 (m_qIsOn (c := 3) hw2 tw m2 (by decide) (by decide) (fun y r' z z2 => ⟨_, rfl, rfl, bN' (by decide) (g174 ?_)⟩) (fun no3 => ⟨_, rfl, rfl, bY' rfl (m_qIsOn (c := 4) hw2 tw m2 (by decide) (by decide) (fun y r' z z2 => ⟨_, rfl, rfl, bN (by decide) (g174 ?_)⟩) (fun no4 => ⟨_, rfl, rfl, bY rfl (push (x :: r) C h2 e2 m2 l2 ?_)⟩))⟩))
          · have := (List.cons.inj z).1; subst this; exact Or.inl (b.2.2.1.mp z2)
          · have := (List.cons.inj z).1; subst this; exact Or.inr (b.2.2.2.1.mp z2)
          · rw [ep, if_neg (fun z => z.elim (fun z => no3 x r rfl (b.2.2.1.mpr z)) (fun z => no4 x r rfl (b.2.2.2.1.mpr z)))] at hr
            exact hr
      -- plus, less
      have H243 : ∀ c, (c = 43 ∨ c = 45) → ∀ S C h', MQs tb h h' → MSq t n tb ob false (nx t n p.1, nj t n p.1) S C h' → C.length + S.length + tb + 1 < nx t n p.1 → run t n knQ ob k true (nx t n p.1, nj t n p.1) (c :: (popA S C).1) (popA S C).2 = some out → gg p9 l e9 s9 m9 args9 below9 meth9 cc9 G (d + 3 + 1) MX12_qGoesOn Q 247 [some (.ref 82), some (.int (nI (qtc c)))] [] h' := by
        intro c hc S
        have push : ∀ (S C : List Nat) h2, MQs tb h h2 → MSq t n tb ob false (nx t n p.1, nj t n p.1) S C h2 → C.length + S.length + tb + 1 < nx t n p.1 → run t n knQ ob k true (nx t n p.1, nj t n p.1) (c :: S) C = some out → (vp_in (h2.1 82 108) 1700 ∧ Q (some (.int 1)) (sI (sI h2 165 (h2.1 82 108).toNatClampNeg (nI (qtc c))) 82 108 (h2.1 82 108 + 1))) := fun S C h2 e2 m2 l2 hr => by
          have sn2 : nx t n p.1 ≤ n := m2.1.1
          rw [m2.2.1, nI_clamp (by omega), nI_1]
          exact ⟨vp_in_nI (by omega) (by decide), hE k _ _ _ _ (by omega) hr ⟨MQx.si82 (by decide) (MQx.si165 (by omega) e2.1), by rw [sI_nb (by decide), sI_ne (by decide)]; exact e2.2⟩ (m_qPushS m2 (by omega) (by show C.length + (S.length + 1) + tb < nx t n p.1; omega))⟩
        induction S with
        | nil =>
          intro C h2 e2 m2 l2 hr
          have hw2 := hw.eq e2.1.1
          have no : ∀ c : Nat, ∀ x r, ([] : List Nat) = x :: r → qtc x ≠ c := fun c x r z => by cases z
          exact wX12_qGoesOn_247 hw2.1 hw2.2.1 hw2.2.2.1 (m_qIsOn (c := 3) hw2 tw m2 (by decide) (by decide) (fun x r z => by cases z) (fun _ => ⟨_, rfl, rfl, bY' rfl (m_qIsOn (c := 4) hw2 tw m2 (by decide) (by decide) (fun x r z => by cases z) (fun _ => ⟨_, rfl, rfl, bY' rfl (m_qIsOn (c := 1) hw2 tw m2 (by decide) (by decide) (fun x r z => by cases z) (fun _ => ⟨_, rfl, rfl, bY' rfl (m_qIsOn (c := 2) hw2 tw m2 (by decide) (by decide) (fun x r z => by cases z) (fun _ => ⟨_, rfl, rfl, bY rfl (push [] C h2 e2 m2 l2 hr)⟩))⟩))⟩))⟩))
        | cons x r ihS =>
          intro C h2 e2 m2 l2 hr
          have hw2 := hw.eq e2.1.1
          have b := qtc_b (m2.2.2.2.2.2.2.2.2.1 x List.mem_cons_self)
          have ep : popA (x :: r) C = if x = 42 ∨ x = 47 ∨ x = 43 ∨ x = 45 then popA r (C ++ [x]) else (x :: r, C) := rfl
          have ll : (x :: r).length = r.length + 1 := rfl
          have g275 : (x = 42 ∨ x = 47 ∨ x = 43 ∨ x = 45) → gg p9 l e9 s9 m9 args9 below9 meth9 cc9 G (d + 3 + 1) MX12_qGoesOn Q 279 [some (.ref 82), some (.int (nI (qtc c)))] [] h2 := fun z => by
            rw [ep, if_pos z] at hr
            refine wX12_qGoesOn_279 hw2.1 hw2.2.1 hw2.2.2.1 (m_qDrops (d := d + 2) hw2 tw m2 (by omega) (by omega) (fun h3 e3 m3 f3 => ⟨rfl, e3.1.1.2, ihS (C ++ [x]) h3 (e2.tr e3) m3 ?_ hr⟩))
            rw [List.length_append]
            show C.length + 1 + r.length + tb + 1 < nx t n p.1
            omega
          have hx : ∀ {y : Nat} {r' : List Nat}, x :: r = y :: r' → x = y := fun z => (List.cons.inj z).1
          refine wX12_qGoesOn_247 hw2.1 hw2.2.1 hw2.2.2.1 (m_qIsOn (c := 3) hw2 tw m2 (by decide) (by decide) (fun y r' z z2 => ⟨_, rfl, rfl, bN' (by decide) (g275 (Or.inl (b.2.2.1.mp (hx z ▸ z2))))⟩) (fun no3 => ⟨_, rfl, rfl, bY' rfl (m_qIsOn (c := 4) hw2 tw m2 (by decide) (by decide) (fun y r' z z2 => ⟨_, rfl, rfl, bN' (by decide) (g275 (Or.inr (Or.inl (b.2.2.2.1.mp (hx z ▸ z2)))))⟩) (fun no4 => ⟨_, rfl, rfl, bY' rfl (m_qIsOn (c := 1) hw2 tw m2 (by decide) (by decide) (fun y r' z z2 => ⟨_, rfl, rfl, bN' (by decide) (g275 (Or.inr (Or.inr (Or.inl (b.2.2.2.2.1.mp (hx z ▸ z2))))))⟩) (fun no1 => ⟨_, rfl, rfl, bY' rfl (m_qIsOn (c := 2) hw2 tw m2 (by decide) (by decide) (fun y r' z z2 => ⟨_, rfl, rfl, bN (by decide) (g275 (Or.inr (Or.inr (Or.inr (b.2.2.2.2.2.1.mp (hx z ▸ z2))))))⟩) (fun no2 => ⟨_, rfl, rfl, bY rfl (push (x :: r) C h2 e2 m2 l2 ?_)⟩))⟩))⟩))⟩))
          rw [ep, if_neg (fun z => by
            rcases z with z | z | z | z
            · exact no3 x r rfl (b.2.2.1.mpr z)
            · exact no4 x r rfl (b.2.2.2.1.mpr z)
            · exact no1 x r rfl (b.2.2.2.2.1.mpr z)
            · exact no2 x r rfl (b.2.2.2.2.2.1.mpr z))] at hr
          exact hr
      -- signs
      have H118 : ∀ h', MQs tb h h' → MSq t n tb ob false p S C h' → ¬ (tkk t n p.1 p.2 = 41 ∧ (mkS S = 100 ∨ mkS S = 103 ∨ mkS S = 104)) → gg p9 l e9 s9 m9 args9 below9 meth9 cc9 G (d + 3 + 1) MX12_qGoesOn Q 122 [some (.ref 82), none] [] h' := fun h' e1 m1 nc => by
        rw [if_neg nc] at hr
        have hwh := hw.eq e1.1.1
        have tp1 := tp.qx e1.1
        have behind : ∀ c, tkk t n p.1 p.2 = c → cls c = 3 → c < 256 → ∀ h2, MQs tb h h2 → h2.1 82 2 = nI (p.1 + 1) → h2.1 82 2 - 1 = nI p.1 ∧ h2.1 83 p.1 = nI c ∧ p.1 < n := fun c hc c3 c25 h2 e2 a2 => by
          obtain ⟨z1, z2⟩ := (tkk_c c3 c25).mp hc
          refine ⟨by rw [a2, i_s1], ?_, z1⟩
          rw [(tp.qx e2.1).1 p.1 (by omega), z2]
        refine wX12_qGoesOn_122 hwh.1 hwh.2.1 hwh.2.2.1 (m_takesSign (d := d + 2) (c := 42) hwh tw tp1 m1.1 (by decide) (by decide) (fun h2 z e2 k2 a2 => ⟨_, rfl, e2.1.2, bN' (by decide) ?_⟩) (fun h2 z42 e2 k2 a2 => ⟨_, rfl, e2.1.2, bY' rfl ?_⟩))
        · have e2' := e1.tr e2.qx
          have hw2 := hw.eq e2'.1.1
          obtain ⟨b1, b2, b3⟩ := behind 42 z (by decide) (by decide) h2 e2' a2
          have hg := nx_gt (t := t) b3
          rw [if_pos (Or.inl z), z] at hr
          refine wX12_qGoesOn_140 hw2.1 hw2.2.1 hw2.2.2.1 ?_
          rw [b1, nI_clamp (by omega), b2]
          exact ⟨vp_in_nI (by omega) (by decide), bY' rfl (H158 42 (Or.inl rfl) S C h2 e2' (m1.ml (p' := (nx t n p.1, nj t n p.1)) e2 k2 nx_ge) (by omega) hr)⟩
        · have e2' := e1.tr e2.qx
          have m2 : MSq t n tb ob false p S C h2 := m1.ml (p' := p) e2 k2 (Nat.le_refl _)
          refine m_takesSign (d := d + 2) (c := 47) (hw.eq e2'.1.1) tw (tp.qx e2'.1) k2 (by decide) (by decide) (fun h3 z e3 k3 a3 => ⟨_, rfl, e3.1.2, bN (by decide) ?_⟩) (fun h3 z47 e3 k3 a3 => ⟨_, rfl, e3.1.2, bY rfl ?_⟩)
          · have e3' := e2'.tr e3.qx
            have hw3 := hw.eq e3'.1.1
            obtain ⟨b1, b2, b3⟩ := behind 47 z (by decide) (by decide) h3 e3' a3
            have hg := nx_gt (t := t) b3
            rw [if_pos (Or.inr z), z] at hr
            refine wX12_qGoesOn_140 hw3.1 hw3.2.1 hw3.2.2.1 ?_
            rw [b1, nI_clamp (by omega), b2]
            exact ⟨vp_in_nI (by omega) (by decide), bN' (by decide) (H158 47 (Or.inr rfl) S C h3 e3' (m2.ml (p' := (nx t n p.1, nj t n p.1)) e3 k3 nx_ge) (by omega) hr)⟩
          · rw [if_neg (fun z => z.elim z42 z47)] at hr
            have e3' := e2'.tr e3.qx
            have m3 : MSq t n tb ob false p S C h3 := m2.ml (p' := p) e3 k3 (Nat.le_refl _)
            refine m_takesSign (d := d + 2) (c := 43) (hw.eq e3'.1.1) tw (tp.qx e3'.1) k3 (by decide) (by decide) (fun h4 z e4 k4 a4 => ⟨_, rfl, e4.1.2, bN' (by decide) ?_⟩) (fun h4 z43 e4 k4 a4 => ⟨_, rfl, e4.1.2, bY' rfl ?_⟩)
            · have e4' := e3'.tr e4.qx
              have hw4 := hw.eq e4'.1.1
              obtain ⟨b1, b2, b3⟩ := behind 43 z (by decide) (by decide) h4 e4' a4
              have hg := nx_gt (t := t) b3
              rw [if_pos (Or.inl z), z] at hr
              refine wX12_qGoesOn_225 hw4.1 hw4.2.1 hw4.2.2.1 ?_
              rw [b1, nI_clamp (by omega), b2]
              exact ⟨vp_in_nI (by omega) (by decide), bY' rfl (H243 43 (Or.inl rfl) S C h4 e4' (m3.ml (p' := (nx t n p.1, nj t n p.1)) e4 k4 nx_ge) (by omega) hr)⟩
            · have e4' := e3'.tr e4.qx
              have m4 : MSq t n tb ob false p S C h4 := m3.ml (p' := p) e4 k4 (Nat.le_refl _)
              refine m_takesSign (d := d + 2) (c := 45) (hw.eq e4'.1.1) tw (tp.qx e4'.1) k4 (by decide) (by decide) (fun h5 z e5 k5 a5 => ⟨_, rfl, e5.1.2, bN (by decide) ?_⟩) (fun h5 z45 e5 k5 a5 => ⟨_, rfl, e5.1.2, bY rfl ?_⟩)
              · have e5' := e4'.tr e5.qx
                have hw5 := hw.eq e5'.1.1
                obtain ⟨b1, b2, b3⟩ := behind 45 z (by decide) (by decide) h5 e5' a5
                have hg := nx_gt (t := t) b3
                rw [if_pos (Or.inr z), z] at hr
                refine wX12_qGoesOn_225 hw5.1 hw5.2.1 hw5.2.2.1 ?_
                rw [b1, nI_clamp (by omega), b2]
                exact ⟨vp_in_nI (by omega) (by decide), bN' (by decide) (H243 45 (Or.inr rfl) S C h5 e5' (m4.ml (p' := (nx t n p.1, nj t n p.1)) e5 k5 nx_ge) (by omega) hr)⟩
              · rw [if_neg (fun z => z.elim z43 z45)] at hr
                have e5' := e4'.tr e5.qx
                have hw5 := hw.eq e5'.1.1
                have m5 : MSq t n tb ob false p S C h5 := m4.ml (p' := p) e5 k5 (Nat.le_refl _)
                have z21 : mkI (mkS S) = 21 ↔ mkS S = 101 := mkI_eq (c := 21) mw (by decide) (by decide)
                have z22 : mkI (mkS S) = 22 ↔ mkS S = 102 := mkI_eq (c := 22) mw (by decide) (by decide)
                have g322 : mkS S = 101 ∨ mkS S = 102 → gg p9 l e9 s9 m9 args9 below9 meth9 cc9 G (d + 3 + 1) MX12_qGoesOn Q 326 [some (.ref 82), none] [] h5 := fun hm => by
                  rw [if_pos hm] at hr
                  refine wX12_qGoesOn_326 hw5.1 hw5.2.1 hw5.2.2.1 (m_asksSign (d := d + 1) (c := 44) hw5 tw (tp.qx e5'.1) k5 (by decide) (by decide) (fun p' h6 q6 e6 k6 => ⟨rfl, e6.1.2, bY k6.2.2.2.1 ?_⟩) (fun f q h6 q6 e6 => ⟨rfl, e6.1.2, ?_⟩))
                  · obtain ⟨t44, pe⟩ := sgF_ok q6
                    have t44 : tkk t n p.1 p.2 = 44 := t44
                    subst pe
                    rw [if_pos t44] at hr
                    have lt : p.1 < n := ((tkk_c (by decide) (by decide)).mp t44).1
                    have hg := nx_gt (t := t) lt
                    have e6' := e5'.tr e6.qx
                    have m6 : MSq t n tb ob false (nx t n p.1, nj t n p.1) S C h6 := m5.ml (p' := (nx t n p.1, nj t n p.1)) e6 k6 nx_ge
                    refine m_qDropsToBracket (d := d + 1) (hw.eq e6'.1.1) tw m6 (fun h7 e7 m7 f7 => ⟨rfl, e7.1.1.2, ?_⟩)
                    obtain ⟨r, er⟩ := popM_sh S C (by omega)
                    rw [er] at m7 hr
                    have e7' := e6'.tr e7
                    have sn7 : nx t n p.1 ≤ n := m7.1.1
                    have l7 := m7.2.2.2.2.2.2.2.1
                    have ll : (mkS S :: r).length = r.length + 1 := rfl
                    rw [ll] at l7
                    have l7 : (popM S C).2.length + (r.length + 1) + tb < nx t n p.1 := l7
                    have s7 : h7.1 165 (tb + r.length) = nI (mkS S - 80) := by
                      have := m7.2.2.1.1
                      rw [(qtc_b (x := mkS S) (by omega)).2.2.2.2.2.2.1 (by omega)] at this
                      exact this
                    have w7 := m7.2.2.2.2.2.2.2.2.1
                    have cn : cnS ((mkS S + 2) :: r) = cnS (mkS S :: r) := by rw [cnS_cons_mk (Or.inr (by omega)), cnS_cons_mk (Or.inr (by omega))]
                    rw [m7.2.1, ll, show tb + (r.length + 1) = tb + r.length + 1 by omega, i_s1, nI_clamp (by omega), s7, lit 2, nI_add]
                    refine ⟨vp_in_nI (by omega) (by decide), vp_in_nI (by omega) (by decide), hE k (nx t n p.1, nj t n p.1) ((mkS S + 2) :: r) (popM S C).2 _ (by omega) hr ⟨MQx.si165 (by omega) e7'.1, by rw [sI_ne (by decide)]; exact e7'.2⟩ ⟨m7.1.go (by decide), by rw [sI_ne (by decide)]; exact m7.2.1, ⟨?_, ?_⟩, by rw [sI_ne (by decide), cn]; exact m7.2.2.2.1, by rw [sI_ne (by decide)]; exact m7.2.2.2.2.1, by rw [sI_ne (by decide)]; exact m7.2.2.2.2.2.1, fun i hi => by rw [sI_ne (by decide)]; exact m7.2.2.2.2.2.2.1 i hi, l7, fun y hy => ?_, by rw [cn]; exact m7.2.2.2.2.2.2.2.2.2.1, (wfb_mk (by omega)).mpr ((wfb_mk (by omega)).mp m7.2.2.2.2.2.2.2.2.2.2.1), fun c c1 c2 z => by rw [sI_nb (by omega)]; exact m7.2.2.2.2.2.2.2.2.2.2.2 c c1 c2 z⟩⟩
                    · rw [sI_s, (qtc_b (x := mkS S + 2) (by omega)).2.2.2.2.2.2.1 (by omega)]
                      congr 1
                      omega
                    · exact stb_cg r (fun i hi => by rw [sI_nb (by omega)]) m7.2.2.1.2
                    · rcases List.mem_cons.mp hy with z | z
                      · omega
                      · exact w7 y (List.mem_cons_of_mem _ z)
                  · obtain ⟨tn, fe⟩ := sgF_er q6
                    have f1 : f = 1 := congrArg Prod.fst fe
                    have q1 : q = p.1 := congrArg Prod.snd fe
                    subst f1; subst q1
                    have tn : tkk t n p.1 p.2 ≠ 44 := tn
                    rw [if_neg tn] at hr
                    exact bN (by rw [e6.2.2.2.1]; decide) (hf 1 _ h6 (Option.some.inj hr).symm (by decide) (by decide) (e5'.fl (e6.qx (m5.bd tw))))
                refine m_qBracket (d := d + 2) hw5 tw m5 ⟨_, rfl, rfl, ?_⟩
                rw [z21]
                refine ⟨fun z => g322 (Or.inl z), fun z1 => m_qBracket (d := d + 2) hw5 tw m5 ⟨_, rfl, rfl, ?_⟩⟩
                rw [z22]
                refine ⟨fun z2 => m_qBracket (d := d + 2) hw5 tw m5 ⟨_, rfl, rfl, ?_⟩, fun z => g322 (Or.inr z)⟩
                rw [if_neg (fun z => z.elim z1 z2)] at hr
                have zm : mkI (mkS S) = -1 ↔ mkS S = 0 := by
                  unfold mkI
                  by_cases y : mkS S = 0
                  · rw [if_pos y]; exact ⟨fun _ => y, fun _ => rfl⟩
                  · rw [if_neg y]; exact ⟨fun q => absurd q (i_nm1 (by omega)), fun q => absurd q y⟩
                rw [zm]
                refine ⟨fun z => ?_, fun z => bY' k5.2.2.2.1 ?_⟩
                · rw [if_pos z] at hr
                  exact wX12_qGoesOn_386 hw5.1 hw5.2.1 hw5.2.2.1 (hD p S C h5 (Option.some.inj hr).symm z e5' m5)
                · rw [if_neg z] at hr
                  rw [a5]
                  refine m_fail (f := 1) hw5 k5.2.2.2.1 (fun h6 e6 => ⟨rfl, e6.1.2, ?_⟩)
                  have hw6 := hw5.eq e6.1
                  exact wX12_qGoesOn_386 hw6.1 hw6.2.1 hw6.2.2.1 (hf 1 p.1 h6 (Option.some.inj hr).symm (by decide) (by decide) (e5'.fl (e6.qx (m5.bd tw))))
      -- closing
      have H43 : ∀ h', MQs tb h h' → MSq t n tb ob false p S C h' → h'.1 82 2 = nI p.1 → tkk t n p.1 p.2 = 41 → (mkS S = 100 ∨ mkS S = 103 ∨ mkS S = 104) → gg p9 l e9 s9 m9 args9 below9 meth9 cc9 G (d + 3 + 1) MX12_qGoesOn Q 43 [some (.ref 82), none] [] h' := fun h' e1 m1 a1 t41 hm => by
        rw [if_pos ⟨t41, hm⟩] at hr
        have hwh := hw.eq e1.1.1
        have lt : p.1 < n := ((tkk_c (by decide) (by decide)).mp t41).1
        have hg := nx_gt (t := t) lt
        refine wX12_qGoesOn_43 hwh.1 hwh.2.1 hwh.2.2.1 ?_
        rw [a1, nI_1]
        have e2 : MQs tb h (sI h' 82 2 (nI (p.1 + 1))) := ⟨MQx.si82 (by decide) e1.1, by rw [sI_nb (by decide)]; exact e1.2⟩
        obtain ⟨q1, q2, q3, q4, q5, q6, q7, q8, q9, q10, q11, q12⟩ := m1
        have m2 : MSq t n tb ob false (nx t n p.1, nj t n p.1) S C (sI h' 82 2 (nI (p.1 + 1))) := ⟨q1.sign a1 (by decide) (by decide) t41, by rw [sI_nb (by decide)]; exact q2, by rw [sI_na (by decide)]; exact q3, by rw [sI_nb (by decide)]; exact q4, by rw [sI_nb (by decide)]; exact q5, by rw [sI_nb (by decide)]; exact q6, fun i hi => by rw [sI_ne (by decide)]; exact q7 i hi, by show C.length + S.length + tb < nx t n p.1; omega, q9, q10, q11, by rw [sI_na (by decide)]; exact q12⟩
        refine m_qDropsToBracket (d := d + 1) (hw.eq e2.1.1) tw m2 (fun h7 e7 m7 f7 => ⟨rfl, e7.1.1.2, ?_⟩)
        obtain ⟨r, er⟩ := popM_sh S C (by omega)
        rw [er] at m7 hr
        have e7' := e2.tr e7
        have sn7 : nx t n p.1 ≤ n := m7.1.1
        have l7 := m7.2.2.2.2.2.2.2.1
        have ll : (mkS S :: r).length = r.length + 1 := rfl
        rw [ll] at l7
        have l7 : (popM S C).2.length + (r.length + 1) + tb < nx t n p.1 := l7
        have s7 : h7.1 165 (tb + r.length) = nI (mkS S - 80) := by
          have := m7.2.2.1.1
          rw [(qtc_b (x := mkS S) (by omega)).2.2.2.2.2.2.1 (by omega)] at this
          exact this
        have w7 := m7.2.2.2.2.2.2.2.2.1
        have c7 := m7.2.2.2.2.2.2.2.2.2.1
        have cn : cnS (mkS S :: r) = cnS r + 1 := cnS_cons_mk (Or.inr (by omega))
        have hr : run t n knQ ob k false (nx t n p.1, nj t n p.1) (endP r ((popM S C).2 ++ mkC (mkS S))).1 (endP r ((popM S C).2 ++ mkC (mkS S))).2 = some out := hr
        have z20 : nI (mkS S - 80) = 20 ↔ mkS S = 100 := (nI_eq (b := 20) (by omega) (by decide)).trans (by omega)
        have z23 : nI (mkS S - 80) = 23 ↔ mkS S = 103 := (nI_eq (b := 23) (by omega) (by decide)).trans (by omega)
        rw [m7.2.1, ll, show tb + (r.length + 1) = tb + r.length + 1 by omega, i_s1, nI_clamp (by omega), s7, z20, z23, m7.2.2.2.1, cn, ← Nat.add_assoc, i_s1]
        have e8 : MQs tb h (sI (sI h7 82 108 (nI (tb + r.length))) 82 109 (nI (ob + cnS r))) := ⟨MQx.si82 (by decide) (MQx.si82 (by decide) e7'.1), by rw [sI_nb (by decide), sI_nb (by decide)]; exact e7'.2⟩
        have m8' : MSq t n tb ob true (nx t n p.1, nj t n p.1) r (popM S C).2 (sI (sI h7 82 108 (nI (tb + r.length))) 82 109 (nI (ob + cnS r))) := ⟨(m7.1.gx (by decide)).gx (by decide), by rw [sI_nb (by decide), sI_s], by rw [sI_na (by decide), sI_na (by decide)]; exact m7.2.2.1.2, sI_s _ _ _ _, by rw [sI_nb (by decide), sI_nb (by decide)]; exact m7.2.2.2.2.1, by rw [sI_nb (by decide), sI_nb (by decide)]; exact m7.2.2.2.2.2.1, fun i hi => by rw [sI_ne (by decide), sI_ne (by decide)]; exact m7.2.2.2.2.2.2.1 i hi, by show (popM S C).2.length + r.length + tb < nx t n p.1; omega, wfQ.tl w7, by omega, (wfb_mk (by omega)).mp m7.2.2.2.2.2.2.2.2.2.2.1, by rw [sI_na (by decide), sI_na (by decide)]; exact m7.2.2.2.2.2.2.2.2.2.2.2⟩
        have G115 : ∀ C' h', MQs tb h h' → MSq t n tb ob true (nx t n p.1, nj t n p.1) r C' h' → run t n knQ ob k false (nx t n p.1, nj t n p.1) (endP r C').1 (endP r C').2 = some out → gg p9 l e9 s9 m9 args9 below9 meth9 cc9 G (d + 3 + 1) MX12_qGoesOn Q 115 [some (.ref 82), none] [] h' := fun C' h' e' m' hr => by
          have hw' := hw.eq e'.1.1
          exact wX12_qGoesOn_115 hw'.1 hw'.2.1 hw'.2.2.1 (m_qEndsPart (d := d + 1) hw' tw m' (fun h9 e9' m9' => ⟨rfl, e9'.1.1.2, G0 _ _ _ h9 (e'.tr e9') m9' hr⟩))
        refine ⟨vp_in_nI (by omega) (by decide), fun z => ?_, fun z => ⟨vp_in_nI (by omega) (by decide), fun z3 => ?_, fun z3 => ?_⟩⟩
        · rw [z, show mkC 100 = [] from rfl, List.append_nil] at hr
          exact G115 _ _ e8 m8' hr
        · have : mkS S = 104 := by omega
          rw [this, show mkC 104 = [33] from rfl] at hr
          exact m_qCodeS (u := 33) (hw.eq e8.1.1) tw m8' (by show (popM S C).2.length + 1 + r.length + tb < nx t n p.1; omega) (fun h9 e9' m9' _ => ⟨rfl, e9'.1.1.2, G115 _ h9 (e8.tr e9') m9' hr⟩)
        · rw [z3, show mkC 103 = [32] from rfl] at hr
          exact m_qCodeS (u := 32) (hw.eq e8.1.1) tw m8' (by show (popM S C).2.length + 1 + r.length + tb < nx t n p.1; omega) (fun h9 e9' m9' _ => ⟨rfl, e9'.1.1.2, G115 _ h9 (e8.tr e9') m9' hr⟩)
      -- what is next
      refine bY' m1.1.2.2.2.1 (m_look hwh tw tp1 m1.1 (fun h2 e2 k2 a2 => ⟨_, rfl, e2.1.2, ?_⟩))
      have e2' := e1.tr e2.qx
      have hw2 := hw.eq e2'.1.1
      have m2 : MSq t n tb ob false p S C h2 := m1.ml (p' := p) e2 k2 (Nat.le_refl _)
      have z41 : (if p.1 < n then nI (t p.1) else -1) = 41 ↔ tkk t n p.1 p.2 = 41 := by
        rw [tkk_c (by decide) (by decide)]
        by_cases z : p.1 < n
        · rw [if_pos z]
          exact ⟨fun q => ⟨z, (nI_eq (b := 41) (by omega) (by decide)).mp q⟩, fun q => by rw [q.2]; rfl⟩
        · rw [if_neg z]; exact ⟨fun q => absurd q (by decide), fun q => absurd q.1 z⟩
      have z20 : mkI (mkS S) = 20 ↔ mkS S = 100 := mkI_eq (c := 20) mw (by decide) (by decide)
      have z23 : mkI (mkS S) = 23 ↔ mkS S = 103 := mkI_eq (c := 23) mw (by decide) (by decide)
      have z24 : mkI (mkS S) = 24 ↔ mkS S = 104 := mkI_eq (c := 24) mw (by decide) (by decide)
      rw [z41]
      refine ⟨fun z => H118 h2 e2' m2 (fun y => z y.1), fun z => m_qBracket (d := d + 2) hw2 tw m2 ⟨_, rfl, rfl, ?_⟩⟩
      rw [z20]
      refine ⟨fun y => H43 h2 e2' m2 a2 z (Or.inl y), fun y0 => m_qBracket (d := d + 2) hw2 tw m2 ⟨_, rfl, rfl, ?_⟩⟩
      rw [z23]
      refine ⟨fun y => H43 h2 e2' m2 a2 z (Or.inr (Or.inl y)), fun y3 => m_qBracket (d := d + 2) hw2 tw m2 ⟨_, rfl, rfl, ?_⟩⟩
      rw [z24]
      exact ⟨fun y4 => H118 h2 e2' m2 (fun w => by omega), fun y => H43 h2 e2' m2 a2 z (Or.inr (Or.inr y))⟩
  exact eX12_qGoesOn hw (fun p9 e9 s9 m9 args9 below9 meth9 cc9 => main p9 e9 s9 m9 args9 below9 meth9 cc9 K p S C h (Nat.le_refl _) MQs.rf m hr)
end MQ4

