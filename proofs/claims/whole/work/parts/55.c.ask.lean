section MQ3
variable {l : Launch} {G : gG} {d : Nat} {Q : Option Value → gH → Prop} {h h0 h1 h2 : gH} {lk sp : Nat} {cd : Option Nat} {t : Nat → Nat} {n s i f q u x tb ob : Nat} {b ee : Bool} {p : Nat × Bool} {S C : List Nat}
theorem m_qCodeS (hw : gWf h lk sp cd) (tw : TWf t n) (m : MSq t n tb ob ee p S C h) (hl : C.length + 1 + S.length + tb < p.1) (hq : ∀ h', MQs tb h h' → MSq t n tb ob ee p S (C ++ [u]) h' → (∀ j, j ≠ 106 → h'.1 82 j = h.1 82 j) → Q none h') : gC l G d MX12_qCode [.ref 82, .int (nI (qtd u))] h Q := by
  obtain ⟨m1, m2, m3, m4, m5, m6, m7, m8, m9, m10, m11, m12⟩ := id m
  refine m_qCode hw tw m (fun h1 e1 f1 w1 c1 c2 => hq h1 e1 ⟨?_, ?_, ?_, ?_, ?_, c1, c2, ?_, m9, m10, m11, ?_⟩ f1)
  · exact m1.f1 (fun j z _ _ _ => f1 j z)
  · rw [f1 108 (by decide)]; exact m2
  · rw [w1]; exact m3
  · rw [f1 109 (by decide)]; exact m4
  · rw [f1 110 (by decide)]; exact m5
  · rw [List.length_append]; show C.length + 1 + S.length + tb < p.1; omega
  · rw [w1]; exact m12
theorem m_qEndsPart_f (hw : gWf h lk sp cd) (h5 : h.1 82 5 ≠ 0) (hq : Q none h) : gC l G (d + 1) MX12_qEndsPart [.ref 82] h Q := eX12_qEndsPart hw (fun p e s m args below meth cc => bN' h5 hq)
theorem MSq.op {mk : Nat} {p' : Nat × Bool} (m : MSq t n tb ob true p S C h) (hm : mk = 27 ∨ (100 ≤ mk ∧ mk ≤ 104)) (c6 : ob + cnS S ≠ 6) (k7 : MTk t n p'.1 p'.2 h1) (hl : C.length + (S.length + 1) + tb < p'.1) (a108 : h1.1 82 108 = nI (tb + (mk :: S).length)) (ast : stb tb (mk :: S) (h1.1 165)) (a109 : h1.1 82 109 = nI (ob + cnS (mk :: S))) (a110 : h1.1 82 110 = h.1 82 110) (a106 : h1.1 82 106 = h.1 82 106) (a164 : h1.1 164 = h.1 164) (alo : ∀ i, i < tb → h1.1 165 i = h.1 165 i) : MSq t n tb ob true p' (mk :: S) C h1 := by
  obtain ⟨m1, m2, m3, m4, m5, m6, m7, m8, m9, m10, m11, m12⟩ := m
  have cn : cnS (mk :: S) = cnS S + 1 := cnS_cons_mk (by omega)
  refine ⟨k7, a108, ast, a109, a110.trans m5, a106.trans m6, fun i hi => by rw [a164]; exact m7 i hi, hl, fun y hy => ?_, by omega, ?_, fun c c1 c2 z => by rw [alo _ (by omega)]; exact m12 c c1 c2 z⟩
  · rcases List.mem_cons.mp hy with z | z
    · omega
    · exact m9 y z
  · rcases hm with z | z
    · subst z; exact wfb_27.mpr ⟨rfl, m11⟩
    · exact (wfb_mk z.1).mpr m11
theorem m_qPartTold {K : Nat} {out : pOut} (hw : gWf h lk sp cd) (tw : TWf t n) (tp : TPm t h) (m : MSq t n tb ob true p S C h) (hr : run t n knQ ob K true p S C = some out)
    (hf : ∀ f q h', out = .error (f, q) → f ≠ 0 → f < 10 → MQf tb f q h h' → Q none h')
    (hok : ∀ k' p' S' C' h', k' < K → run t n knQ ob k' false p' S' C' = some out → MQs tb h h' → MSq t n tb ob false p' S' C' h' → Q none h') : gC l G (d + 5) MX12_qPartTold [.ref 82] h Q := by
  have n16 := tw.1
  refine eX12_qPartTold hw (fun p9 e9 s9 m9 args9 below9 meth9 cc9 => ?_)
  -- behind a failure
  have F183 : ∀ h' f q (x1 x2 x3 : Int32), out = .error (f, q) → f ≠ 0 → f < 10 → MQf tb f q h h' → gg p9 l e9 s9 m9 args9 below9 meth9 cc9 G (d + 4 + 1) MX12_qPartTold Q 183 [some (.ref 82), some (.int x1), some (.int x2), some (.int x3), none, none] [] h' := fun h' f q x1 x2 x3 eo f0 f9 e1 => by
    have hwh := hw.eq e1.1.1
    have b5 : ¬ h'.1 82 5 = 0 := by rw [e1.2.1]; exact bad0 f0 f9
    have g186 : gg p9 l e9 s9 m9 args9 below9 meth9 cc9 G (d + 4 + 1) MX12_qPartTold Q 186 [some (.ref 82), some (.int x1), none, none, none, none] [] h' := wX12_qPartTold_186 hwh.1 hwh.2.1 hwh.2.2.1 (bN b5 (hf f q h' eo f0 f9 e1))
    exact wX12_qPartTold_183 hwh.1 hwh.2.1 hwh.2.2.1 (wX12_qPartTold_2 hwh.1 hwh.2.1 hwh.2.2.1 ⟨fun _ => g186, fun _ => bN' b5 g186⟩)
  have knq : ∀ i, knQ i = true ↔ (i = 24 ∨ i = 25 ∨ i = 26 ∨ i = 16 ∨ i = 17 ∨ i = 18 ∨ i = 12 ∨ i = 3 ∨ i = 27) := fun i => by unfold knQ; rw [decide_eq_true_iff]
  -- a word or a number
  have H186 : ∀ k p S C h' (x1 : Int32), k < K → MQs tb h h' → MSq t n tb ob true p S C h' → tkk t n p.1 p.2 ≠ 40 → ¬ isW t n 32 p → ¬ isW t n 33 p → ¬ isW t n 27 p → run t n knQ ob (k + 1) true p S C = some out → gg p9 l e9 s9 m9 args9 below9 meth9 cc9 G (d + 4 + 1) MX12_qPartTold Q 186 [some (.ref 82), some (.int x1), none, none, none, none] [] h' := by
    intro k p S C h' x1 kK e1 m1 t40 w32 w33 w27 hr
    rw [run_E] at hr
    have m8 := m1.2.2.2.2.2.2.2.1
    have wx : ∀ i, i < 40 → (isW t n i p ↔ tkk t n p.1 p.2 = 1001 ∧ wix t n p.1 = i) := fun i hi => isW_iff hi
    have sn := m1.1.1
    have hwh := hw.eq e1.1.1
    have tp1 := tp.qx e1.1
    -- a code is put, then what waits for a part is
    have E : ∀ (u : Nat) h2, MQs tb h h2 → MSq t n tb ob true (nx t n p.1, nj t n p.1) S C h2 → p.1 < nx t n p.1 → run t n knQ ob k false (nx t n p.1, nj t n p.1) (endP S (C ++ [u])).1 (endP S (C ++ [u])).2 = some out → gC l G (d + 4) MX12_qCode [.ref 82, .int (nI (qtd u))] h2 (rV fun h4 => h4.2.2 = h2.2.2 ∧ gC l G (d + 4) MX12_qEndsPart [.ref 82] h4 (rV fun h5 => h5.2.2 = h4.2.2 ∧ Q none h5)) := fun u h2 e2 m2 hg hr => by
      have hw2 := hw.eq e2.1.1
      refine m_qCodeS hw2 tw m2 (by show C.length + 1 + S.length + tb < nx t n p.1; omega) (fun h3 e3 m3 _ => ⟨rfl, e3.1.1.2, ?_⟩)
      exact m_qEndsPart (d := d + 2) (hw2.eq e3.1.1) tw m3 (fun h4 e4 m4 => ⟨rfl, e4.1.1.2, hok k _ _ _ h4 kK hr (e2.tr (e3.tr e4)) m4⟩)
    refine wX12_qPartTold_186 hwh.1 hwh.2.1 hwh.2.2.1 (bY m1.1.2.2.2.1 (m_qWordOf (d := d + 1) (lo := 0) (hi := 8) hwh tw tp1 m1.1 (by decide) (by decide) (fun j h2 j9 _ j8 wj e2 k2 a2 => ⟨_, rfl, e2.1.2, bN (i_nm1 (by omega)) ?_⟩) (fun h2 no e2 k2 a2 => ⟨_, rfl, e2.1.2, bY rfl ?_⟩)))
    · have e2' := e1.tr e2.qx
      have hw2 := hw.eq e2'.1.1
      refine m_qAsksWord (d := d) hw2 tw (tp.qx e2'.1) k2 j9 wj (fun h3 e3 k3 => ⟨rfl, e3.1.2, ?_⟩)
      have e3' := e2'.tr e3.qx
      have hw3 := hw.eq e3'.1.1
      have m3 : MSq t n tb ob true (nx t n p.1, nj t n p.1) S C h3 := (m1.ml (p' := p) e2 k2 (Nat.le_refl _)).ml (p' := (nx t n p.1, nj t n p.1)) e3 k3 nx_ge
      have q40 : ∀ j, j < 9 → qwd j < 40 ∧ knQ (qwd j) = true := by decide
      have q8 : ∀ j, j < 8 → qwd j ≠ 27 ∧ qtd (qwd j) = 40 + j := by decide
      obtain ⟨k1, wi'⟩ := (wx (qwd j) (q40 j j9).1).mp wj
      have lt : p.1 < n := ((tkk_w.mp ⟨k1, tw.2⟩).1).1
      have hg := nx_gt (t := t) lt
      have n3 : wix t n p.1 ≠ 32 ∧ wix t n p.1 ≠ 33 := ⟨fun z => w32 ((wx 32 (by decide)).mpr ⟨k1, z⟩), fun z => w33 ((wx 33 (by decide)).mpr ⟨k1, z⟩)⟩
      rw [if_neg (by omega), if_neg t40, if_pos k1, if_neg (by omega), wi', if_pos ⟨(q40 j j9).2, (q40 j j9).1⟩, if_neg (q8 j j8).1] at hr
      refine wX12_qPartTold_212 hw3.1 hw3.2.1 hw3.2.2.1 (bN (i_nm1 (by omega)) ?_)
      have eq : (40 : Int32) + nI j = nI (qtd (qwd j)) := by rw [(q8 j j8).2, lit 40, nI_add]
      rw [eq]
      exact E (qwd j) h3 e3' m3 hg hr
    · have e2' := e1.tr e2.qx
      have hw2 := hw.eq e2'.1.1
      have tp2 := tp.qx e2'.1
      have m2 : MSq t n tb ob true p S C h2 := m1.ml (p' := p) e2 k2 (Nat.le_refl _)
      have no' : ∀ i, knQ i = true → ¬ isW t n i p := fun i ki z => by
        rcases (knq i).mp ki with y | y | y | y | y | y | y | y | y <;> subst y
        · exact no 0 (by decide) (by decide) (by decide) z
        · exact no 1 (by decide) (by decide) (by decide) z
        · exact no 2 (by decide) (by decide) (by decide) z
        · exact no 3 (by decide) (by decide) (by decide) z
        · exact no 4 (by decide) (by decide) (by decide) z
        · exact no 5 (by decide) (by decide) (by decide) z
        · exact no 6 (by decide) (by decide) (by decide) z
        · exact no 7 (by decide) (by decide) (by decide) z
        · exact w27 z
      refine wX12_qPartTold_212 hw2.1 hw2.2.1 hw2.2.2.1 (bY rfl (m_number (d := d + 3) (lo := 0) (hi := 10000) hw2 tw tp2 m2.1 (by decide) (by decide) (fun v p' h3 q3 e3 k3 _ => ⟨_, rfl, e3.1.2, ?_⟩) (fun f q h3 x q3 e3 => ⟨_, rfl, e3.1.2, ?_⟩)))
      · have q3 : numF t n 0 10000 p = .ok (v, p') := q3
        obtain ⟨kd, pe, -, v9⟩ := numF_ok q3
        have lt : p.1 < n := ((tkk_d.mp ⟨kd, tw.2⟩).1).1
        have hg := nx_gt (t := t) lt
        rw [if_pos kd, q3] at hr
        have hr : run t n knQ ob k false p' (endP S (C ++ [1000 + v])).1 (endP S (C ++ [1000 + v])).2 = some out := hr
        subst pe
        have m3 : MSq t n tb ob true (nx t n p.1, nj t n p.1) S C h3 := m2.ml (p' := (nx t n p.1, nj t n p.1)) e3 k3 nx_ge
        have eu : (1000 : Int32) + nI v = nI (qtd (1000 + v)) := by
          rw [lit 1000, nI_add]
          unfold qtd
          rw [if_pos (by omega)]
        rw [eu]
        exact E (1000 + v) h3 (e2'.tr e3.qx) m3 hg hr
      · have q3 : numF t n 0 10000 p = .error (f, q) := q3
        obtain ⟨f12, fe⟩ := numF_f q3
        have eo : out = .error (f, q) := by
          by_cases kd : tkk t n p.1 p.2 = 1002
          · rw [if_pos kd, q3] at hr
            exact (Option.some.inj hr).symm
          · obtain ⟨rfl, rfl⟩ := fe kd
            rw [if_neg kd, if_neg t40] at hr
            by_cases k1 : tkk t n p.1 p.2 = 1001
            · have n3 : wix t n p.1 ≠ 32 ∧ wix t n p.1 ≠ 33 := ⟨fun z => w32 ((wx 32 (by decide)).mpr ⟨k1, z⟩), fun z => w33 ((wx 33 (by decide)).mpr ⟨k1, z⟩)⟩
              rw [if_pos k1, if_neg (by omega), if_neg (fun z => no' _ z.1 ((wx _ z.2).mpr ⟨k1, rfl⟩))] at hr
              exact (Option.some.inj hr).symm
            · rw [if_neg k1] at hr
              exact (Option.some.inj hr).symm
        have e4 : MQf tb f q h h3 := e2'.fl (e3.qx (m2.bd tw))
        refine m_qCodeAny (tb := tb) (hw.eq e4.1.1) (k := C.length) (by rw [e3.2.1 106 (by decide)]; exact m2.2.2.2.2.2.1) (by omega) (fun h4 e5 a5 a6 a106 => ⟨rfl, e5.1.2, ?_⟩)
        have e6 := e4.more e5 a5 a6 ⟨C.length + 1, by omega, a106⟩
        exact m_qEndsPart_f (d := d + 3) (hw.eq e6.1.1) (by rw [e6.2.1]; exact bad0 (by omega) (by omega)) ⟨rfl, rfl, hf f q h4 eo (by omega) (by omega) e6⟩
  suffices H : ∀ k p S C h', k ≤ K → MQs tb h h' → MSq t n tb ob true p S C h' → run t n knQ ob k true p S C = some out → gg p9 l e9 s9 m9 args9 below9 meth9 cc9 G (d + 4 + 1) MX12_qPartTold Q 2 [some (.ref 82), some (.int 1), none, none, none, none] [] h' from H K p S C h (Nat.le_refl _) MQs.rf m hr
  intro k
  induction k with
  | zero => intro p S C h' _ _ _ hr; cases hr
  | succ k ih =>
    intro p S C h' kK e1 m1 hr
    have hwh := hw.eq e1.1.1
    have tp1 := tp.qx e1.1
    have sn := m1.1.1
    have m8 := m1.2.2.2.2.2.2.2.1
    have wx : ∀ i, i < 40 → (isW t n i p ↔ tkk t n p.1 p.2 = 1001 ∧ wix t n p.1 = i) := fun i hi => isW_iff hi
    have tsn := tw.2 p.1
    refine wX12_qPartTold_2 hwh.1 hwh.2.1 hwh.2.2.1 (bN (by decide) (bY' m1.1.2.2.2.1 (m_look hwh tw tp1 m1.1 (fun h1 e1a k1a a1a => ⟨_, rfl, e1a.1.2, ?_⟩))))
    have e1' := e1.tr e1a.qx
    have m1' : MSq t n tb ob true p S C h1 := m1.ml (p' := p) e1a k1a (Nat.le_refl _)
    have z40 : (if p.1 < n then nI (t p.1) else -1) = 40 ↔ tkk t n p.1 p.2 = 40 := by
      rw [tkk_c (by decide) (by decide)]
      by_cases z : p.1 < n
      · rw [if_pos z]
        exact ⟨fun q => ⟨z, (nI_eq (b := 40) (by omega) (by decide)).mp q⟩, fun q => by rw [q.2]; rfl⟩
      · rw [if_neg z]; exact ⟨fun q => absurd q (by decide), fun q => absurd q.1 z⟩
    rw [z40]
    -- what stands here
    have body : ∀ (v2 : Int32) h2, MQs tb h h2 → MSq t n tb ob true p S C h2 → h2.1 82 2 = nI p.1 → (v2 = -1 ∧ ¬ isW t n 27 p ∨ v2 = nI 8 ∧ isW t n 27 p) → ∀ v1 : Int32, ((¬ tkk t n p.1 p.2 = 40 → gC l G (d + 4) MX12_isHere [.ref 82, .ref 153] h2 (rI fun v3 h3 => h3.2.2 = (h2).2.2 ∧ ((¬ v3 = 0 → gg p9 l e9 s9 m9 args9 below9 meth9 cc9 G (d + 4 + 1) MX12_qPartTold Q 78 [some (.ref 82), some (.int 1), some (.int v1), some (.int v2), none, none] [] h3) ∧ (v3 = 0 → gC l G (d + 4) MX12_isHere [.ref 82, .ref 154] h3 (rI fun v4 h4 => h4.2.2 = (h3).2.2 ∧ ((v4 = 0 → ((v2 = (-1) → gg p9 l e9 s9 m9 args9 below9 meth9 cc9 G (d + 4 + 1) MX12_qPartTold Q 183 [some (.ref 82), some (.int 0), some (.int v1), some (.int v2), none, none] [] h4) ∧ (¬ v2 = (-1) → gC l G (d + 4) MX12_qOpens [.ref 82, .int ((60 + v2) - 8), .int (h4.1 82 2)] h4 (rV fun h5 => h5.2.2 = (h4).2.2 ∧ gC l G (d + 4) MX12_qAsksWord [.ref 82, .int v2] h5 (rV fun h6 => h6.2.2 = (h5).2.2 ∧ gg p9 l e9 s9 m9 args9 below9 meth9 cc9 G (d + 4 + 1) MX12_qPartTold Q 183 [some (.ref 82), some (.int 1), some (.int v1), some (.int v2), none, none] [] h6))))) ∧ (¬ v4 = 0 → gg p9 l e9 s9 m9 args9 below9 meth9 cc9 G (d + 4 + 1) MX12_qPartTold Q 78 [some (.ref 82), some (.int 1), some (.int v1), some (.int v2), none, none] [] h4))))))) ∧ (tkk t n p.1 p.2 = 40 → gC l G (d + 4) MX12_qOpens [.ref 82, .int 20, .int (h2.1 82 2)] h2 (rV fun h7 => h7.2.2 = (h2).2.2 ∧ gg p9 l e9 s9 m9 args9 below9 meth9 cc9 G (d + 4 + 1) MX12_qPartTold Q 183 [some (.ref 82), some (.int 1), some (.int v1), some (.int v2), none, none] [] (sI h7 82 2 ((h7.1 82 2) + 1))))) := by
      intro v2 h2 e2' m2 a2 hv2 v1
      have hw2 := hw.eq e2'.1.1
      have tp2 := tp.qx e2'.1
      have k2 := m2.1
      refine ⟨fun t40 => ?_, fun t40 => ?_⟩
      · -- min or max
        have g78 : ∀ h3, MQs tb h h3 → MSq t n tb ob true p S C h3 → (isW t n 32 p ∨ isW t n 33 p) → gg p9 l e9 s9 m9 args9 below9 meth9 cc9 G (d + 4 + 1) MX12_qPartTold Q 78 [some (.ref 82), some (.int 1), some (.int v1), some (.int v2), none, none] [] h3 := fun h3 e3 m3 wz => by
          obtain ⟨w, w3, k1, wi⟩ : ∃ w, (w = 32 ∨ w = 33) ∧ tkk t n p.1 p.2 = 1001 ∧ wix t n p.1 = w := by
            rcases wz with z | z
            · obtain ⟨a, b⟩ := (wx 32 (by decide)).mp z; exact ⟨32, Or.inl rfl, a, b⟩
            · obtain ⟨a, b⟩ := (wx 33 (by decide)).mp z; exact ⟨33, Or.inr rfl, a, b⟩
          have lt : p.1 < n := ((tkk_w.mp ⟨k1, tw.2⟩).1).1
          have hg := nx_gt (t := t) lt
          have hw3 := hw.eq e3.1.1
          have tp3 := tp.qx e3.1
          rw [run_E, if_neg (by omega), if_neg t40, if_pos k1, wi, if_pos w3] at hr
          have tsn1 := tw.2 (nx t n p.1)
          -- behind the word
          have g101 : ∀ h4 (x3 : Int32), MQs tb h h4 → MSq t n tb ob true (nx t n p.1, nj t n p.1) S C h4 → (x3 = 0 ↔ w = 33) → gg p9 l e9 s9 m9 args9 below9 meth9 cc9 G (d + 4 + 1) MX12_qPartTold Q 101 [some (.ref 82), some (.int 1), some (.int v1), some (.int v2), some (.int x3), none] [] h4 := fun h4 x3 e4 m4 hx3 => by
            have hw4 := hw.eq e4.1.1
            have tp4 := tp.qx e4.1
            refine wX12_qPartTold_101 hw4.1 hw4.2.1 hw4.2.2.1 (m_look hw4 tw tp4 m4.1 (fun h5 e5 k5 a5 => ⟨_, rfl, e5.1.2, ?_⟩))
            have e5' := e4.tr e5.qx
            have hw5 := hw.eq e5'.1.1
            have tp5 := tp.qx e5'.1
            have m5 : MSq t n tb ob true (nx t n p.1, nj t n p.1) S C h5 := m4.ml (p' := (nx t n p.1, nj t n p.1)) e5 k5 (Nat.le_refl _)
            have sn5 : nx t n p.1 ≤ n := m5.1.1
            have y40 : (if nx t n p.1 < n then nI (t (nx t n p.1)) else -1) = 40 ↔ tkk t n (nx t n p.1) (nj t n p.1) = 40 := by
              rw [tkk_c (by decide) (by decide)]
              by_cases z : nx t n p.1 < n
              · rw [if_pos z]
                exact ⟨fun q => ⟨z, (nI_eq (b := 40) (by omega) (by decide)).mp q⟩, fun q => by rw [q.2]; rfl⟩
              · rw [if_neg z]; exact ⟨fun q => absurd q (by decide), fun q => absurd q.1 z⟩
            have g144 : ∀ h6 (x4 : Int32), MQs tb h h6 → MQb h6 → MTk t n (nx t n p.1) (nj t n p.1) h6 → (∀ p' h7, sgF t n 40 (nx t n p.1, nj t n p.1) = .ok p' → MLx h6 h7 → MTk t n p'.1 p'.2 h7 → gg p9 l e9 s9 m9 args9 below9 meth9 cc9 G (d + 4 + 1) MX12_qPartTold Q 183 [some (.ref 82), some (.int 1), some (.int v1), some (.int v2), none, none] [] h7) → (tkk t n (nx t n p.1) (nj t n p.1) ≠ 40 → out = .error (1, nx t n p.1)) → gg p9 l e9 s9 m9 args9 below9 meth9 cc9 G (d + 4 + 1) MX12_qPartTold Q 144 [some (.ref 82), some (.int 1), some (.int v1), some (.int v2), some (.int x3), some (.int x4)] [] h6 := fun h6 x4 e6 bd6 k6 ok er => by
              have hw6 := hw.eq e6.1.1
              refine wX12_qPartTold_144 hw6.1 hw6.2.1 hw6.2.2.1 (m_asksSign (d := d + 2) (c := 40) hw6 tw (tp.qx e6.1) k6 (by decide) (by decide) (fun p' h7 q7 e7 k7 => ⟨rfl, e7.1.2, ok p' h7 q7 e7 k7⟩) (fun f q h7 q7 e7 => ⟨rfl, e7.1.2, ?_⟩))
              obtain ⟨tn, fe⟩ := sgF_er q7
              have f1 : f = 1 := congrArg Prod.fst fe
              have q1 : q = nx t n p.1 := congrArg Prod.snd fe
              subst f1; subst q1
              exact F183 h7 1 _ 1 v1 v2 (er tn) (by decide) (by decide) (e6.fl (e7.qx bd6))
            have gO : ∀ mk : Nat, mk = w + 69 → tkk t n (nx t n p.1) (nj t n p.1) = 40 → gC l G (d + 4) MX12_qOpens [.ref 82, .int (nI (qtc mk)), .int (nI (nx t n p.1))] h5 (rV fun h1 => h1.2.2 = h5.2.2 ∧ gg p9 l e9 s9 m9 args9 below9 meth9 cc9 G (d + 4 + 1) MX12_qPartTold Q 144 [some (.ref 82), some (.int 1), some (.int v1), some (.int v2), some (.int x3), some (.int (nI (nx t n p.1)))] [] h1) := fun mk hmk t41 => by
              rw [if_pos t41] at hr
              refine m_qOpens (d := d + 3) hw5 tw m5 (by omega) (fun h6 c6 e6 f6 a108 ast a109 a164 => ⟨rfl, e6.1.1.2, ?_⟩) (fun h6 c6 e6 => ⟨rfl, e6.1.2, ?_⟩)
              · have e6' := e5'.tr e6
                rw [if_neg c6, ← hmk] at hr
                have k6 : MTk t n (nx t n p.1) (nj t n p.1) h6 := m5.1.f1 (fun j _ z1 z2 _ => f6 j z1 z2)
                refine g144 h6 _ e6' (by unfold MQb; rw [f6 106 (by decide) (by decide)]; exact m5.bd tw) k6 (fun p' h7 q7 e7 k7 => ?_) (fun z => absurd t41 z)
                obtain ⟨-, pe⟩ := sgF_ok q7
                subst pe
                have lt1 : nx t n p.1 < n := ((tkk_c (by decide) (by decide)).mp t41).1
                have hg1 := nx_gt (t := t) lt1
                have e7' := e6'.tr e7.qx
                have hw7 := hw.eq e7'.1.1
                refine wX12_qPartTold_183 hw7.1 hw7.2.1 hw7.2.2.1 (ih _ (mk :: S) C h7 (by omega) e7' (m5.op (p' := (nx t n (nx t n p.1), nj t n (nx t n p.1))) (by omega) c6 k7 (by show C.length + (S.length + 1) + tb < nx t n (nx t n p.1); omega) ?_ ?_ ?_ ?_ ?_ ?_ (fun i hi => ?_)) hr)
                · rw [e7.2.1 108 (by decide)]; exact a108
                · rw [(e7.1.1 165 (by decide)).1]; exact ast
                · rw [e7.2.1 109 (by decide)]; exact a109
                · rw [e7.2.1 110 (by decide), f6 110 (by decide) (by decide)]
                · rw [e7.2.1 106 (by decide), f6 106 (by decide) (by decide)]
                · rw [(e7.1.1 164 (by decide)).1, a164]
                · rw [(e7.1.1 165 (by decide)).1]; exact e6.1.2.2.2 i hi
              · rw [if_pos c6] at hr
                have e6' : MQf tb 4 (nx t n p.1) h h6 := e5'.fl (e6.qx (m5.bd tw))
                have hw6 := hw.eq e6'.1.1
                have b6 : ¬ h6.1 82 5 = 0 := by rw [e6'.2.1]; decide
                refine wX12_qPartTold_144 hw6.1 hw6.2.1 hw6.2.2.1 (eX12_asksSign hw6 (bN' b6 ⟨rfl, rfl, F183 h6 4 _ 1 v1 v2 (Option.some.inj hr).symm (by decide) (by decide) e6'⟩))
            rw [y40]
            refine ⟨fun t41 => ?_, fun t41 => ?_⟩
            · rw [if_neg t41] at hr
              exact g144 h5 _ e5' (m5.bd tw) m5.1 (fun p' h7 q7 _ _ => absurd (sgF_ok q7).1 t41) (fun _ => (Option.some.inj hr).symm)
            · rw [a5]
              refine bN (i_nm1 (by omega)) ?_
              rw [hx3]
              refine ⟨fun z => ?_, fun z => ?_⟩
              · have := gO 102 (by omega) t41
                exact this
              · have := gO 101 (by omega) t41
                exact this
          refine wX12_qPartTold_78 hw3.1 hw3.2.1 hw3.2.2.1 (m_takes (d := d + 2) (i := 32) (w := 153) hw3 tw tp3 m3.1 (by decide) rfl (by decide) (fun j hj => tp3.2.2 10 (by decide) j hj) (fun h4 z e4 k4 => ⟨_, rfl, e4.1.2, bN' (by decide) (g101 h4 1 (e3.tr e4.qx) (m3.ml (p' := (nx t n p.1, nj t n p.1)) e4 k4 nx_ge) ?_)⟩) (fun h4 z e4 k4 a4 => ⟨_, rfl, e4.1.2, bY' rfl ?_⟩))
          · have := ((wx 32 (by decide)).mp z).2
            exact ⟨fun q => absurd q (by decide), fun q => by omega⟩
          · have e4' := e3.tr e4.qx
            have tp4 := tp.qx e4'.1
            have w33' : w = 33 := by
              rcases w3 with q | q
              · exact absurd ((wx 32 (by decide)).mpr ⟨k1, by omega⟩) z
              · exact q
            have iw : isW t n 33 p := (wx 33 (by decide)).mpr ⟨k1, by omega⟩
            have wok : wdF t n 33 p = .ok (nx t n p.1, nj t n p.1) := if_pos iw
            refine m_asks (d := d + 1) (i := 33) (w := 154) (hw.eq e4'.1.1) tw tp4 k4 (by decide) rfl (by decide) (fun j hj => tp4.2.2 11 (by decide) j hj) (fun p' h5 q5 e5 k5 => ⟨rfl, e5.1.2, ?_⟩) (fun f q h5 q5 e5 => ?_)
            · have pe : (nx t n p.1, nj t n p.1) = p' := Except.ok.inj (wok.symm.trans q5)
              subst pe
              exact g101 h5 0 (e4'.tr e5.qx) ((m3.ml (p' := p) e4 k4 (Nat.le_refl _)).ml (p' := (nx t n p.1, nj t n p.1)) e5 k5 nx_ge) ⟨fun _ => w33', fun _ => rfl⟩
            · exact absurd (wok.symm.trans q5) (by intro z; cases z)
        refine m_isHere (d := d + 3) (i := 32) (w := 153) hw2 tw tp2 k2 (by decide) rfl (by decide) (fun j hj => tp2.2.2 10 (by decide) j hj) (fun h3 e3 k3 a3 z => ⟨_, rfl, e3.1.2, bN' (by decide) (g78 h3 (e2'.tr e3.qx) (m2.ml (p' := p) e3 k3 (Nat.le_refl _)) (Or.inl z))⟩) (fun h3 e3 k3 a3 z => ⟨_, rfl, e3.1.2, bY' rfl ?_⟩)
        have e3' := e2'.tr e3.qx
        have tp3 := tp.qx e3'.1
        have m3 : MSq t n tb ob true p S C h3 := m2.ml (p' := p) e3 k3 (Nat.le_refl _)
        refine m_isHere (d := d + 3) (i := 33) (w := 154) (hw.eq e3'.1.1) tw tp3 k3 (by decide) rfl (by decide) (fun j hj => tp3.2.2 11 (by decide) j hj) (fun h4 e4 k4 a4 z4 => ⟨_, rfl, e4.1.2, bN (by decide) (g78 h4 (e3'.tr e4.qx) (m3.ml (p' := p) e4 k4 (Nat.le_refl _)) (Or.inr z4))⟩) (fun h4 e4 k4 a4 z4 => ⟨_, rfl, e4.1.2, bY rfl ?_⟩)
        have e4' := e3'.tr e4.qx
        have hw4 := hw.eq e4'.1.1
        have m4 : MSq t n tb ob true p S C h4 := m3.ml (p' := p) e4 k4 (Nat.le_refl _)
        rcases hv2 with ⟨v2e, w27⟩ | ⟨v2e, w27⟩
        · exact bY v2e (wX12_qPartTold_183 hw4.1 hw4.2.1 hw4.2.2.1 (wX12_qPartTold_2 hw4.1 hw4.2.1 hw4.2.2.1 (bY rfl (H186 k p S C h4 0 (by omega) e4' m4 t40 z z4 w27 hr))))
        · -- boats
          subst v2e
          refine bN (i_nm1 (by decide)) ?_
          obtain ⟨k1, wi⟩ := (wx 27 (by decide)).mp w27
          have lt : p.1 < n := ((tkk_w.mp ⟨k1, tw.2⟩).1).1
          have hg := nx_gt (t := t) lt
          rw [run_E, if_neg (by omega), if_neg t40, if_pos k1, wi, if_neg (by decide), if_pos ⟨by decide, by decide⟩, if_pos rfl] at hr
          rw [a4, show ((60 : Int32) + nI 8 - 8) = nI (qtc 27) from by decide]
          refine m_qOpens (d := d + 3) (mk := 27) hw4 tw m4 (Or.inl rfl) (fun h6 c6 e6 f6 a108 ast a109 a164 => ⟨rfl, e6.1.1.2, ?_⟩) (fun h6 c6 e6 => ⟨rfl, e6.1.2, ?_⟩)
          · have e6' := e4'.tr e6
            rw [if_neg c6] at hr
            have k6 : MTk t n p.1 p.2 h6 := m4.1.f1 (fun j _ z1 z2 _ => f6 j z1 z2)
            refine m_qAsksWord (d := d) (j := 8) (hw.eq e6'.1.1) tw (tp.qx e6'.1) k6 (by decide) w27 (fun h7 e7 k7 => ⟨rfl, e7.1.2, ?_⟩)
            have e7' := e6'.tr e7.qx
            have hw7 := hw.eq e7'.1.1
            refine wX12_qPartTold_183 hw7.1 hw7.2.1 hw7.2.2.1 (ih _ (27 :: S) C h7 (by omega) e7' (m4.op (p' := (nx t n p.1, nj t n p.1)) (Or.inl rfl) c6 k7 (by show C.length + (S.length + 1) + tb < nx t n p.1; omega) ?_ ?_ ?_ ?_ ?_ ?_ (fun i hi => ?_)) hr)
            · rw [e7.2.1 108 (by decide)]; exact a108
            · rw [(e7.1.1 165 (by decide)).1]; exact ast
            · rw [e7.2.1 109 (by decide)]; exact a109
            · rw [e7.2.1 110 (by decide), f6 110 (by decide) (by decide)]
            · rw [e7.2.1 106 (by decide), f6 106 (by decide) (by decide)]
            · rw [(e7.1.1 164 (by decide)).1, a164]
            · rw [(e7.1.1 165 (by decide)).1]; exact e6.1.2.2.2 i hi
          · rw [if_pos c6] at hr
            have e6' : MQf tb 4 p.1 h h6 := e4'.fl (e6.qx (m4.bd tw))
            have b6 : ¬ h6.1 82 5 = 0 := by rw [e6'.2.1]; decide
            exact m_qAsksWord_f (d := d + 2) (hw.eq e6'.1.1) b6 ⟨rfl, rfl, F183 h6 4 _ 1 v1 _ (Option.some.inj hr).symm (by decide) (by decide) e6'⟩
      · -- a round bracket
        rw [run_E, if_neg (by omega), if_pos t40] at hr
        rw [a2]
        have lt : p.1 < n := ((tkk_c (by decide) (by decide)).mp t40).1
        have hg := nx_gt (t := t) lt
        refine m_qOpens (d := d + 3) (mk := 100) hw2 tw m2 (Or.inr (by decide)) (fun h3 c3 e3 f3 a108 ast a109 a164 => ⟨rfl, e3.1.1.2, ?_⟩) (fun h3 c3 e3 => ⟨rfl, e3.1.2, ?_⟩)
        · have e3' := e2'.tr e3
          rw [if_neg c3] at hr
          rw [f3 2 (by decide) (by decide), a2, nI_1]
          have e4' : MQs tb h (sI h3 82 2 (nI (p.1 + 1))) := ⟨MQx.si82 (by decide) e3'.1, by rw [sI_nb (by decide)]; exact e3'.2⟩
          have hw4 := hw.eq e4'.1.1
          have k3 : MTk t n p.1 p.2 h3 := k2.f1 (fun j _ z1 z2 _ => f3 j z1 z2)
          have k4 : MTk t n (nx t n p.1) (nj t n p.1) (sI h3 82 2 (nI (p.1 + 1))) := k3.sign (by rw [f3 2 (by decide) (by decide)]; exact a2) (by decide) (by decide) t40
          refine wX12_qPartTold_183 hw4.1 hw4.2.1 hw4.2.2.1 (ih _ (100 :: S) C _ (by omega) e4' (m2.op (p' := (nx t n p.1, nj t n p.1)) (Or.inr (by decide)) c3 k4 (by show C.length + (S.length + 1) + tb < nx t n p.1; omega) ?_ ?_ ?_ ?_ ?_ ?_ (fun i hi => ?_)) hr)
          · rw [sI_nb (by decide)]; exact a108
          · rw [sI_na (by decide)]; exact ast
          · rw [sI_nb (by decide)]; exact a109
          · rw [sI_nb (by decide), f3 110 (by decide) (by decide)]
          · rw [sI_nb (by decide), f3 106 (by decide) (by decide)]
          · rw [sI_na (by decide), a164]
          · rw [sI_ne (by decide)]; exact e3.1.2.2.2 i hi
        · rw [if_pos c3] at hr
          have e3' : MQf tb 4 p.1 h h3 := e2'.fl (e3.qx (m2.bd tw))
          refine F183 _ 4 p.1 _ _ _ (Option.some.inj hr).symm (by decide) (by decide) (e3'.more (MQx.si82 (by decide) MQx.rf) (by rw [sI_nb (by decide)]) (by rw [sI_nb (by decide)]) (by unfold MQb; rw [sI_nb (by decide)]; exact e3'.2.2.2))
    refine m_qWordOf (d := d + 1) (lo := 8) (hi := 9) (hw.eq e1'.1.1) tw (tp.qx e1'.1) m1'.1 (by decide) (by decide) (fun j h2 j9 j8 _ wj e2 k2 a2 => ⟨_, rfl, e2.1.2, ?_⟩) (fun h2 no e2 k2 a2 => ⟨_, rfl, e2.1.2, ?_⟩)
    · have : j = 8 := by omega
      subst this
      exact body _ h2 (e1'.tr e2.qx) (m1'.ml (p' := p) e2 k2 (Nat.le_refl _)) a2 (Or.inr ⟨rfl, wj⟩) _
    · exact body _ h2 (e1'.tr e2.qx) (m1'.ml (p' := p) e2 k2 (Nat.le_refl _)) a2 (Or.inl ⟨rfl, no 8 (by decide) (by decide) (by decide)⟩) _
end MQ3
