/-! the model's tests -/
def wfT (T : List Nat) : Prop := ∀ x, x ∈ T → x = 28 ∨ x = 29 ∨ x = 30 ∨ x = 105
def wft : Bool → List Nat → Prop
  | _, [] => True
  | e, x :: r => if x = 30 then e = true ∧ wft true r else if x = 105 then wft true r else wft false r
def MTt (t : Nat → Nat) (n : Nat) (e : Bool) (p : Nat × Bool) (T C : List Nat) (h : gH) : Prop := MTk t n p.1 p.2 h ∧ h.1 82 108 = nI T.length ∧ h.1 82 109 = nI (cnT T) ∧ h.1 82 106 = nI C.length ∧ (∀ i, i < C.length → h.1 164 i = nI (qtd (C.getD i 0))) ∧ C.length + T.length < p.1 ∧ cnT T ≤ 6 ∧ stb 0 T (h.1 165) ∧ wfT T ∧ wft e T
section MT
variable {l : Launch} {G : gG} {d : Nat} {Q : Option Value → gH → Prop} {h h0 h1 h2 : gH} {lk sp : Nat} {cd : Option Nat} {t : Nat → Nat} {n s i f q u x tb ob : Nat} {b ee : Bool} {p p' : Nat × Bool} {T C : List Nat} {w : Nat → Int32}
theorem wfT.tl (h : wfT (x :: T)) : wfT T := fun y hy => h y (List.mem_cons_of_mem _ hy)
theorem qtc_t (h : x = 28 ∨ x = 29 ∨ x = 30 ∨ x = 105) : qtc x < 26 ∧ 10 ≤ qtc x ∧ (qtc x = 10 ↔ x = 29) ∧ (qtc x = 11 ↔ x = 28) ∧ (qtc x = 12 ↔ x = 30) ∧ (qtc x = 25 ↔ x = 105) ∧ (x ≠ 105 → qtc x = qtd x) := by
  rcases h with h | h | h | h <;> subst h <;> decide
theorem wft_30 : wft ee (30 :: T) ↔ (ee = true ∧ wft true T) := by
  show (if 30 = 30 then ee = true ∧ wft true T else if 30 = 105 then wft true T else wft false T) ↔ _
  rw [if_pos rfl]
theorem wft_105 : wft ee (105 :: T) ↔ wft true T := by
  show (if 105 = 30 then ee = true ∧ wft true T else if 105 = 105 then wft true T else wft false T) ↔ _
  rw [if_neg (by decide), if_pos rfl]
theorem wft_op (z : x = 28 ∨ x = 29) : wft ee (x :: T) ↔ wft false T := by
  show (if x = 30 then ee = true ∧ wft true T else if x = 105 then wft true T else wft false T) ↔ _
  rw [if_neg (by omega), if_neg (by omega)]
theorem wft_m : ∀ T, wft false T → wft true T
  | [], _ => trivial
  | x :: r, h => by
    have h : (if x = 30 then false = true ∧ wft true r else if x = 105 then wft true r else wft false r) := h
    show (if x = 30 then true = true ∧ wft true r else if x = 105 then wft true r else wft false r)
    by_cases z : x = 30
    · rw [if_pos z] at h; exact absurd h.1 (by decide)
    · rw [if_neg z] at h ⊢; exact h
theorem stb_top (hs : stb 0 T w) (wf : wfT T) : ∀ c, 1 ≤ c → c ≤ 4 → 0 < T.length → w (T.length - 1) ≠ nI c := fun c c1 c2 hl => by
  cases T with
  | nil => exact absurd hl (Nat.not_lt_zero _)
  | cons x r =>
    have b := qtc_t (wf x List.mem_cons_self)
    have : w (0 + r.length) = nI (qtc x) := hs.1
    rw [Nat.zero_add] at this
    show w (r.length + 1 - 1) ≠ _
    rw [Nat.add_sub_cancel, this]
    intro z
    have := (nI_eq (by omega) (by omega)).mp z
    omega
theorem MTt.qt (m : MTt t n ee p T C h) : MQt t n T.length (cnT T) p C h := by
  obtain ⟨m1, m2, m3, m4, m5, m6, m7, m8, m9, m10⟩ := m
  exact ⟨m1, m2, m3, m4, m5, m6, m7, stb_top m8 m9⟩
theorem MQx.z (e : MQx tb h h1) : MQx 0 h h1 := ⟨e.1, e.2.1, e.2.2.1, fun i hi => absurd hi (Nat.not_lt_zero _)⟩
theorem MQs.z (e : MQs tb h h1) : MQs 0 h h1 := ⟨e.1.z, e.2⟩
theorem MQf.z (e : MQf tb f q h h1) : MQf 0 f q h h1 := ⟨e.1.z, e.2⟩
theorem MTt.of (q : MQt t n T.length (cnT T) p' C h1) (e : MQx T.length h h1) (hs : stb 0 T (h.1 165)) (wf : wfT T) (w : wft ee T) : MTt t n ee p' T C h1 := by
  obtain ⟨m1, m2, m3, m4, m5, m6, m7, m8⟩ := q
  exact ⟨m1, m2, m3, m4, m5, m6, m7, stb_cg T (fun i hi => by rw [Nat.zero_add]; exact e.2.2.2 i hi) hs, wf, w⟩
theorem MTt.ml (m : MTt t n ee p T C h) (e : MLx h h1) (k : MTk t n p'.1 p'.2 h1) (hp : p.1 ≤ p'.1) : MTt t n ee p' T C h1 := by
  obtain ⟨m1, m2, m3, m4, m5, m6, m7, m8, m9, m10⟩ := m
  have f : ∀ j, j ∉ [2, 4, 10, 45] → h1.1 82 j = h.1 82 j := e.2.1
  exact ⟨k, by rw [f 108 (by decide)]; exact m2, by rw [f 109 (by decide)]; exact m3, by rw [f 106 (by decide)]; exact m4, fun i hi => by rw [(e.1.1 164 (by decide)).1]; exact m5 i hi, by omega, m7, by rw [(e.1.1 165 (by decide)).1]; exact m8, m9, m10⟩
theorem MTt.bd (tw : TWf t n) (m : MTt t n ee p T C h) : MQb h := ⟨C.length, by have := m.1.1; have := tw.1; have := m.2.2.2.2.2.1; omega, m.2.2.2.1⟩
theorem MTt.md {e' : Bool} (m : MTt t n ee p T C h) (w : wft e' T) : MTt t n e' p T C h := by
  obtain ⟨m1, m2, m3, m4, m5, m6, m7, m8, m9, m10⟩ := m
  exact ⟨m1, m2, m3, m4, m5, m6, m7, m8, m9, w⟩
/-- what is on top of a test's signs -/
theorem m_tIsOn {c : Nat} (hw : gWf h lk sp cd) (tw : TWf t n) (m : MTt t n ee p T C h) (hc : c < 100) (hy : ∀ x r, T = x :: r → qtc x = c → Q (some (.int 1)) h) (hn : (∀ x r, T = x :: r → qtc x ≠ c) → Q (some (.int 0)) h) : gC l G d MX12_qIsOn [.ref 82, .int (nI c)] h Q := by
  obtain ⟨m1, m2, m3, m4, m5, m6, m7, m8, m9, m10⟩ := m
  have n16 := tw.1
  have sn := m1.1
  refine eX12_qIsOn hw ?_
  rw [m2]
  cases T with
  | nil => exact bY (by decide) (hn (fun x r e => by cases e))
  | cons x r =>
    have b := qtc_t (m9 x List.mem_cons_self)
    have ll : (x :: r).length = r.length + 1 := rfl
    rw [ll] at m6 ⊢
    have m81 : h.1 165 r.length = nI (qtc x) := by have := m8.1; rw [Nat.zero_add] at this; exact this
    refine bN (nI_ge (a := 0) (by omega) (by omega)) ?_
    rw [i_s1, nI_clamp (by omega), m81, nI_eq (by omega) (by omega)]
    refine ⟨vp_in_nI (by omega) (by decide), fun z => hn (fun y r' e => ?_), fun z => hy x r rfl z⟩
    have := (List.cons.inj e).1
    subst this
    exact z
theorem m_tCodeS (hw : gWf h lk sp cd) (tw : TWf t n) (m : MTt t n ee p T C h) (hl : C.length + 1 + T.length < p.1) (hq : ∀ h', MQs 0 h h' → MTt t n ee p T (C ++ [u]) h' → Q none h') : gC l G d MX12_qCode [.ref 82, .int (nI (qtd u))] h Q := by
  obtain ⟨m1, m2, m3, m4, m5, m6, m7, m8, m9, m10⟩ := m
  have n16 := tw.1
  have sn := m1.1
  refine eX12_qCode hw ?_
  rw [m4, nI_clamp (by omega), nI_1]
  refine ⟨vp_in_nI (by omega) (by decide), hq _ ⟨MQx.si82 (by decide) (MQx.si164 MQx.rf), by rw [sI_nb (by decide), sI_ne (by decide)]⟩ ⟨(m1.go (by decide)).gx (by decide), by rw [sI_nb (by decide), sI_ne (by decide)]; exact m2, by rw [sI_nb (by decide), sI_ne (by decide)]; exact m3, by rw [sI_s, List.length_append]; rfl, fun i hi => ?_, by rw [List.length_append]; show C.length + 1 + T.length < p.1; omega, m7, by rw [sI_na (by decide), sI_na (by decide)]; exact m8, m9, m10⟩⟩
  rw [List.length_append] at hi
  have hi : i < C.length + 1 := hi
  rw [sI_ne (by decide)]
  by_cases e : i = C.length
  · subst e; rw [sI_s, getD_last]
  · rw [sI_nb e, getD_app (by omega)]; exact m5 i (by omega)
theorem m_tDropsC (hw : gWf h lk sp cd) (tw : TWf t n) (ms : MTt t n ee p T C (sI h 82 108 (nI T.length))) (a : h.1 82 108 = nI (T.length + 1)) (v : h.1 165 T.length = nI (qtd x)) (hl : C.length + 1 + T.length < p.1) (hq : ∀ h', MQs 0 h h' → MTt t n ee p T (C ++ [x]) h' → Q none h') : gC l G (d + 1) MX12_qDrops [.ref 82] h Q := by
  have n16 := tw.1
  have sn := ms.1.1
  refine eX12_qDrops hw ?_
  rw [a, i_s1, nI_clamp (by omega), v]
  have e0 : MQs 0 h (sI h 82 108 (nI T.length)) := ⟨MQx.si82 (by decide) MQx.rf, by rw [sI_nb (by decide)]⟩
  exact ⟨vp_in_nI (by omega) (by decide), m_tCodeS (u := x) (hw.eq e0.1.1) tw ms hl (fun h1 e1 m1 => ⟨rfl, e1.1.1.2, hq h1 (e0.tr e1) m1⟩)⟩
theorem m_tDrops (hw : gWf h lk sp cd) (tw : TWf t n) (m : MTt t n ee p (x :: T) C h) (hx : x = 28 ∨ x = 29) (hq : ∀ h', MQs 0 h h' → MTt t n false p T (C ++ [x]) h' → Q none h') : gC l G (d + 1) MX12_qDrops [.ref 82] h Q := by
  obtain ⟨m1, m2, m3, m4, m5, m6, m7, ⟨m8, m8'⟩, m9, m10⟩ := m
  have b := qtc_t (m9 x List.mem_cons_self)
  have ll : (x :: T).length = T.length + 1 := rfl
  rw [ll] at m2 m6
  have cn : cnT (x :: T) = cnT T := cnT_op (by omega) (by omega)
  rw [cn] at m3 m7
  rw [Nat.zero_add] at m8
  exact m_tDropsC hw tw ⟨m1.gx (by decide), sI_s _ _ _ _, by rw [sI_nb (by decide)]; exact m3, by rw [sI_nb (by decide)]; exact m4, fun i hi => by rw [sI_ne (by decide)]; exact m5 i hi, by omega, m7, by rw [sI_na (by decide)]; exact m8', m9.tl, (wft_op hx).mp m10⟩ m2 (by rw [m8, b.2.2.2.2.2.2 (by omega)]) (by omega) hq
theorem m_qDropsNots_f (hw : gWf h lk sp cd) (h5 : h.1 82 5 ≠ 0) (hq : Q none h) : gC l G (d + 1) MX12_qDropsNots [.ref 82] h Q := eX12_qDropsNots hw (fun p e s m args below meth cc => bN' h5 hq)
theorem m_qDropsNots (hw : gWf h lk sp cd) (tw : TWf t n) (m : MTt t n true p T C h) (hq : ∀ h', MQs 0 h h' → MTt t n false p (dN T C).1 (dN T C).2 h' → Q none h') : gC l G (d + 2) MX12_qDropsNots [.ref 82] h Q := by
  have n16 := tw.1
  have main : ∀ (p9 : Program) (e9 : Env) (s9 : State) (m9 : MethodId) (args9 : Array Value) (below9 : List Frame) (meth9 : Method) (cc9 : Code) (R D : List Nat) (h2 : gH), MQs 0 h h2 → MTt t n true p R D h2 → dN R D = dN T C → ((¬ (h2.1 82 5) = 0 → Q none h2) ∧ ((h2.1 82 5) = 0 → gC l G (d + 1) MX12_qIsOn [.ref 82, .int 12] h2 (rI fun v1 h1 => h1.2.2 = (h2).2.2 ∧ ((v1 = 0 → Q none h1) ∧ (¬ v1 = 0 → gC l G (d + 1) MX12_qDrops [.ref 82] (sI h1 82 109 ((h1.1 82 109) - 1)) (rV fun h3 => h3.2.2 = ((sI h1 82 109 ((h1.1 82 109) - 1))).2.2 ∧ gg p9 l e9 s9 m9 args9 below9 meth9 cc9 G (d + 1 + 1) MX12_qDropsNots Q 0 [some (.ref 82)] [] h3)))))) := by
    intro p9 e9 s9 m9 args9 below9 meth9 cc9 R
    induction R with
    | nil =>
      intro D h2 e2 m2 ep
      have hw2 := hw.eq e2.1.1
      refine bY' m2.1.2.2.2.1 (m_tIsOn (c := 12) hw2 tw m2 (by decide) (fun x r z => by cases z) (fun _ => ⟨_, rfl, rfl, bY rfl (hq h2 e2 ?_)⟩))
      rw [← ep]; exact m2.md trivial
    | cons x r ih =>
      intro D h2 e2 m2 ep
      have hw2 := hw.eq e2.1.1
      obtain ⟨k1, k2, k3, k4, k5, k6, k7, ⟨k8, k8'⟩, k9, k10⟩ := id m2
      have b := qtc_t (k9 x List.mem_cons_self)
      have ll : (x :: r).length = r.length + 1 := rfl
      rw [ll] at k2 k6
      rw [Nat.zero_add] at k8
      have epx : dN (x :: r) D = if x = 30 then dN r (D ++ [30]) else (x :: r, D) := rfl
      refine bY' k1.2.2.2.1 (m_tIsOn (c := 12) hw2 tw m2 (by decide) (fun y r' z z2 => ⟨_, rfl, rfl, bN (by decide) ?_⟩) (fun no => ⟨_, rfl, rfl, bY rfl (hq h2 e2 ?_)⟩))
      · have := (List.cons.inj z).1
        subst this
        have x30 : x = 30 := b.2.2.2.2.1.mp z2
        subst x30
        rw [epx, if_pos rfl] at ep
        have cn : cnT (30 :: r) = cnT r + 1 := cnT_mk (Or.inl rfl)
        rw [cn] at k3 k7
        rw [k3, i_s1]
        have e3 : MQs 0 h2 (sI h2 82 109 (nI (cnT r))) := ⟨MQx.si82 (by decide) MQx.rf, by rw [sI_nb (by decide)]⟩
        refine m_tDropsC (d := d) (x := 30) (hw2.eq e3.1.1) tw ⟨(k1.gx (by decide)).gx (by decide), sI_s _ _ _ _, by rw [sI_nb (by decide), sI_s], by rw [sI_nb (by decide), sI_nb (by decide)]; exact k4, fun i hi => by rw [sI_ne (by decide), sI_ne (by decide)]; exact k5 i hi, by omega, by omega, by rw [sI_na (by decide), sI_na (by decide)]; exact k8', k9.tl, (wft_30.mp k10).2⟩ (by rw [sI_nb (by decide)]; exact k2) (by rw [sI_ne (by decide), k8]; rfl) (by omega) (fun h4 e4 m4 => ⟨rfl, e4.1.1.2, ?_⟩)
        have hw4 := (hw2.eq e3.1.1).eq e4.1.1
        exact wX12_qDropsNots_0 hw4.1 hw4.2.1 hw4.2.2.1 (ih (D ++ [30]) h4 (e2.tr (e3.tr e4)) m4 ep)
      · have x30 : x ≠ 30 := fun y => no x r rfl (b.2.2.2.2.1.mpr y)
        rw [← ep, epx, if_neg x30]
        refine m2.md ?_
        have : (if x = 30 then true = true ∧ wft true r else if x = 105 then wft true r else wft false r) := k10
        show (if x = 30 then false = true ∧ wft true r else if x = 105 then wft true r else wft false r)
        rw [if_neg x30] at this ⊢
        exact this
  exact eX12_qDropsNots hw (fun p9 e9 s9 m9 args9 below9 meth9 cc9 => main p9 e9 s9 m9 args9 below9 meth9 cc9 T C h MQs.rf m rfl)
theorem stb_all : ∀ T, stb 0 T w → (∀ x, x ∈ T → ∃ i, i < T.length ∧ w i = nI (qtc x)) ∧ ∀ i, i < T.length → ∃ x, x ∈ T ∧ w i = nI (qtc x)
  | [], _ => ⟨fun x hx => (by cases hx), fun i hi => absurd hi (Nat.not_lt_zero _)⟩
  | y :: r, ⟨h1, h2⟩ => by
    obtain ⟨a, b⟩ := stb_all r h2
    rw [Nat.zero_add] at h1
    refine ⟨fun x hx => ?_, fun i hi => ?_⟩
    · rcases List.mem_cons.mp hx with z | z
      · subst z; exact ⟨r.length, Nat.lt_succ_self _, h1⟩
      · obtain ⟨i, hi, e⟩ := a x z
        exact ⟨i, Nat.lt_succ_of_lt hi, e⟩
    · have hi : i < r.length + 1 := hi
      by_cases z : i = r.length
      · subst z; exact ⟨y, List.mem_cons_self, h1⟩
      · obtain ⟨x, hx, e⟩ := b i (by omega)
        exact ⟨x, List.mem_cons_of_mem _ hx, e⟩
theorem m_qHasSquare (hw : gWf h lk sp cd) (tw : TWf t n) (m : MTt t n ee p T C h) (hy : 105 ∈ T → Q (some (.int 1)) h) (hn : 105 ∉ T → Q (some (.int 0)) h) : gC l G d MX12_qHasSquare [.ref 82] h Q := by
  obtain ⟨m1, m2, m3, m4, m5, m6, m7, m8, m9, m10⟩ := m
  have n16 := tw.1
  have sn := m1.1
  obtain ⟨A, B⟩ := stb_all T m8
  refine eX12_qHasSquare hw (fun p9 e9 s9 m9' args9 below9 meth9 cc9 => ?_)
  have L : ∀ r x, x + r = T.length → (∀ i, i < x → h.1 165 i ≠ 25) → gg p9 l e9 s9 m9' args9 below9 meth9 cc9 G d MX12_qHasSquare Q 2 [some (.ref 82), some (.int (nI x))] [] h := by
    intro r
    induction r with
    | zero =>
      intro x hx no
      refine wX12_qHasSquare_2 hw.1 hw.2.1 hw.2.2.1 ?_
      rw [m2]
      refine bY (nI_le (by omega) (by omega)) (hn (fun z => ?_))
      obtain ⟨i, hi, e⟩ := A 105 z
      exact no i (by omega) (by rw [e]; rfl)
    | succ r ih =>
      intro x hx no
      have ej : nI x + 1 = nI (x + 1) := by rw [nI_1]
      refine wX12_qHasSquare_2 hw.1 hw.2.1 hw.2.2.1 ?_
      rw [m2]
      refine bN (nI_ge (by omega) (by omega)) ?_
      rw [nI_clamp (by omega), ej]
      refine ⟨vp_in_nI (by omega) (by decide), fun z => ih (x + 1) (by omega) (fun i hi => ?_), fun z => hy ?_⟩
      · by_cases y : i = x
        · rw [y]; exact z
        · exact no i (by omega)
      · obtain ⟨y, hy', e⟩ := B x (by omega)
        have b := qtc_t (m9 y hy')
        rw [e] at z
        have : qtc y = 25 := (nI_eq (b := 25) (by omega) (by decide)).mp z
        have := b.2.2.2.2.2.1.mp this
        subst this
        exact hy'
  exact L T.length 0 (by omega) (fun i hi => absurd hi (Nat.not_lt_zero _))
theorem m_tOpens {mk place : Nat} (hw : gWf h lk sp cd) (tw : TWf t n) (m : MTt t n true p T C h) (hm : mk = 30 ∨ mk = 105) (hy : ∀ h', cnT T ≠ 6 → MQs 0 h h' → (∀ j, j ≠ 108 → j ≠ 109 → h'.1 82 j = h.1 82 j) → (∀ p' h2, MTk t n p'.1 p'.2 h2 → p.1 < p'.1 → (∀ j, j ≠ 2 → j ≠ 4 → j ≠ 10 → j ≠ 45 → h2.1 82 j = h'.1 82 j) → h2.1 164 = h'.1 164 → h2.1 165 = h'.1 165 → MTt t n true p' (mk :: T) C h2) → Q none h') (hn : ∀ h', cnT T = 6 → MFl 4 place h h' → Q none h') : gC l G (d + 1) MX12_qOpens [.ref 82, .int (nI (qtc mk)), .int (nI place)] h Q := by
  obtain ⟨m1, m2, m3, m4, m5, m6, m7, m8, m9, m10⟩ := m
  have n16 := tw.1
  have sn := m1.1
  have cn : cnT (mk :: T) = cnT T + 1 := cnT_mk hm
  refine eX12_qOpens hw ?_
  have z6 : nI (cnT T) = 6 ↔ cnT T = 6 := nI_eq (b := 6) (by omega) (by decide)
  rw [m3, z6, m2, nI_1, nI_1, nI_clamp (by omega)]
  refine bY m1.2.2.2.1 ⟨fun z => ⟨vp_in_nI (by omega) (by decide), hy _ z ⟨MQx.si82 (by decide) (MQx.si165 (Nat.zero_le _) (MQx.si82 (by decide) MQx.rf)), by rw [sI_nb (by decide), sI_ne (by decide), sI_nb (by decide)]⟩ (fun j j1 j2 => by rw [sI_nb j1, sI_ne (by decide), sI_nb j2]) (fun p' h2 k lt F e164 e165 => ⟨k, ?_, ?_, ?_, fun i hi => ?_, ?_, by omega, ⟨?_, ?_⟩, fun y hy => ?_, ?_⟩)⟩, fun z => m_fail (f := 4) hw m1.2.2.2.1 (fun h1 e1 => ⟨rfl, e1.1.2, hn h1 z e1⟩)⟩
  · rw [F 108 (by decide) (by decide) (by decide) (by decide), sI_s]; rfl
  · rw [F 109 (by decide) (by decide) (by decide) (by decide), sI_nb (by decide), sI_ne (by decide), sI_s, cn]
  · rw [F 106 (by decide) (by decide) (by decide) (by decide), sI_nb (by decide), sI_ne (by decide), sI_nb (by decide)]; exact m4
  · rw [e164, sI_ne (by decide), sI_ne (by decide), sI_ne (by decide)]; exact m5 i hi
  · show C.length + (T.length + 1) < p'.1
    omega
  · rw [e165, Nat.zero_add, sI_ne (by decide), sI_s]
  · refine stb_cg T (fun i hi => ?_) m8
    rw [e165, Nat.zero_add, sI_ne (by decide), sI_nb (by omega), sI_ne (by decide)]
  · rcases List.mem_cons.mp hy with z | z
    · omega
    · exact m9 y z
  · rcases hm with z | z
    · subst z; exact wft_30.mpr ⟨rfl, m10⟩
    · subst z; exact wft_105.mpr m10
theorem m_tPush {c : Nat} (m : MTt t n false p T C h) (hc : c = 28 ∨ c = 29) (hl : C.length + (T.length + 1) < p.1) : MTt t n true p (c :: T) C (sI (sI h 165 T.length (nI (qtc c))) 82 108 (nI (T.length + 1))) := by
  obtain ⟨m1, m2, m3, m4, m5, m6, m7, m8, m9, m10⟩ := m
  have cn : cnT (c :: T) = cnT T := cnT_op (by omega) (by omega)
  refine ⟨(m1.go (by decide)).gx (by decide), sI_s _ _ _ _, by rw [sI_nb (by decide), sI_ne (by decide), m3, cn], by rw [sI_nb (by decide), sI_ne (by decide)]; exact m4, fun i hi => by rw [sI_ne (by decide), sI_ne (by decide)]; exact m5 i hi, hl, by omega, ⟨by rw [Nat.zero_add, sI_ne (by decide), sI_s], stb_cg T (fun i hi => by rw [Nat.zero_add, sI_ne (by decide), sI_nb (by omega)]) m8⟩, fun y hy => ?_, (wft_op hc).mpr m10⟩
  rcases List.mem_cons.mp hy with z | z
  · omega
  · exact m9 y z
end MT
