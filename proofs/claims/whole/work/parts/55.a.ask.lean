/-! the model's sums in questions: a pile of waiting signs, of which tb lie below and belong to the test -/
def qtd (u : Nat) : Nat := if 1000 ≤ u then u else [0, 0, 0, 47, 0, 0, 0, 0, 0, 0, 0, 0, 46, 0, 0, 0, 43, 44, 45, 0, 0, 0, 0, 0, 40, 41, 42, 60, 11, 10, 12, 13, 5, 6, 0, 0, 0, 0, 0, 0, 0, 0, 3, 1, 0, 2, 0, 4, 0, 0, 0, 0, 0, 0, 0, 0, 0, 0, 0, 0, 7, 9, 8].getD u 0
def qtc (x : Nat) : Nat := if 100 ≤ x then x - 80 else qtd x
def stb (tb : Nat) : List Nat → (Nat → Int32) → Prop
  | [], _ => True
  | x :: r, w => w (tb + r.length) = nI (qtc x) ∧ stb tb r w
def wfQ (S : List Nat) : Prop := ∀ x, x ∈ S → x = 42 ∨ x = 47 ∨ x = 43 ∨ x = 45 ∨ x = 27 ∨ (100 ≤ x ∧ x ≤ 104)
/-- 27 waits only where a part is asked -/
def wfb : Bool → List Nat → Prop
  | _, [] => True
  | e, x :: r => if x = 27 then e = true ∧ wfb true r else if 100 ≤ x then wfb true r else wfb false r
def knQ (i : Nat) : Bool := decide (i = 24 ∨ i = 25 ∨ i = 26 ∨ i = 16 ∨ i = 17 ∨ i = 18 ∨ i = 12 ∨ i = 3 ∨ i = 27)
def MQx (tb : Nat) (h h' : gH) : Prop := gEq [82, 164, 165] h h' ∧ (∀ j, j ∉ [2, 4, 5, 6, 10, 45, 106, 108, 109, 110] → h'.1 82 j = h.1 82 j) ∧ h'.2.1 82 = h.2.1 82 ∧ ∀ i, i < tb → h'.1 165 i = h.1 165 i
def MQs (tb : Nat) (h h' : gH) : Prop := MQx tb h h' ∧ h'.1 82 6 = h.1 82 6
def MQb (h : gH) : Prop := ∃ k, k ≤ 1650 ∧ h.1 82 106 = nI k
def MQf (tb f q : Nat) (h h' : gH) : Prop := MQx tb h h' ∧ h'.1 82 5 = nI f ∧ h'.1 82 6 = nI q ∧ MQb h'
def MSq (t : Nat → Nat) (n tb ob : Nat) (e : Bool) (p : Nat × Bool) (S C : List Nat) (h : gH) : Prop := MTk t n p.1 p.2 h ∧ h.1 82 108 = nI (tb + S.length) ∧ stb tb S (h.1 165) ∧ h.1 82 109 = nI (ob + cnS S) ∧ h.1 82 110 = nI tb ∧ h.1 82 106 = nI C.length ∧ (∀ i, i < C.length → h.1 164 i = nI (qtd (C.getD i 0))) ∧ C.length + S.length + tb < p.1 ∧ wfQ S ∧ ob + cnS S ≤ 6 ∧ wfb e S ∧ ∀ c, 1 ≤ c → c ≤ 4 → 0 < tb → h.1 165 (tb - 1) ≠ nI c
section MQ
variable {l : Launch} {G : gG} {d : Nat} {Q : Option Value → gH → Prop} {h h0 h1 h2 : gH} {lk sp : Nat} {cd : Option Nat} {t : Nat → Nat} {n s i f q u x tb ob : Nat} {b ee : Bool} {p : Nat × Bool} {S C : List Nat}
theorem wfb_m : ∀ S, wfb false S → wfb true S
  | [], _ => trivial
  | x :: r, h => by
    have h : (if x = 27 then false = true ∧ wfb true r else if 100 ≤ x then wfb true r else wfb false r) := h
    show (if x = 27 then true = true ∧ wfb true r else if 100 ≤ x then wfb true r else wfb false r)
    by_cases z : x = 27
    · rw [if_pos z] at h; exact absurd h.1 (by decide)
    · rw [if_neg z] at h ⊢; exact h
theorem wfb_op {r : List Nat} (h : wfb ee (x :: r)) (z : x ≠ 27) (z2 : x < 100) : wfb false r := by
  have h : (if x = 27 then ee = true ∧ wfb true r else if 100 ≤ x then wfb true r else wfb false r) := h
  rw [if_neg z, if_neg (by omega)] at h; exact h
theorem wfb_mk {r : List Nat} (z : 100 ≤ x) : wfb ee (x :: r) ↔ wfb true r := by
  show (if x = 27 then ee = true ∧ wfb true r else if 100 ≤ x then wfb true r else wfb false r) ↔ _
  rw [if_neg (by omega), if_pos z]
theorem wfb_po {r : List Nat} (z : x ≠ 27) (z2 : x < 100) (h : wfb false r) : wfb ee (x :: r) := by
  show (if x = 27 then ee = true ∧ wfb true r else if 100 ≤ x then wfb true r else wfb false r)
  rw [if_neg z, if_neg (by omega)]; exact h
theorem wfb_27 {r : List Nat} : wfb ee (27 :: r) ↔ (ee = true ∧ wfb true r) := by
  show (if 27 = 27 then ee = true ∧ wfb true r else if 100 ≤ 27 then wfb true r else wfb false r) ↔ _
  rw [if_pos rfl]
theorem wfb_any (h : wfb false S) : wfb ee S := by cases ee; exact h; exact wfb_m S h
theorem wfb_t (h : wfb ee S) : wfb true S := by cases ee; exact wfb_m S h; exact h
theorem MQx.rf : MQx tb h h := ⟨gEq.rf _ _, fun _ _ => rfl, rfl, fun _ _ => rfl⟩
theorem MQs.rf : MQs tb h h := ⟨MQx.rf, rfl⟩
theorem MQx.tr (a : MQx tb h h1) (b : MQx tb h1 h2) : MQx tb h h2 := ⟨(a.1.tr b.1).mono (fun x hx => by rcases List.mem_append.mp hx with z | z <;> exact z), fun j hj => (b.2.1 j hj).trans (a.2.1 j hj), b.2.2.1.trans a.2.2.1, fun i hi => (b.2.2.2 i hi).trans (a.2.2.2 i hi)⟩
theorem MQs.tr (a : MQs tb h h1) (b : MQs tb h1 h2) : MQs tb h h2 := ⟨a.1.tr b.1, b.2.trans a.2⟩
theorem MQs.fl (a : MQs tb h h1) (b : MQf tb f q h1 h2) : MQf tb f q h h2 := ⟨a.1.tr b.1, b.2⟩
theorem MQf.more (a : MQf tb f q h h1) (b : MQx tb h1 h2) (e5 : h2.1 82 5 = h1.1 82 5) (e6 : h2.1 82 6 = h1.1 82 6) (k : MQb h2) : MQf tb f q h h2 := ⟨a.1.tr b, e5.trans a.2.1, e6.trans a.2.2.1, k⟩
theorem MLx.qx (a : MLx h h1) : MQs tb h h1 := ⟨⟨a.1.mono (fun x hx => by simp at hx ⊢; omega), fun j hj => a.2.1 j (fun z => hj (by simp at z ⊢; omega)), a.2.2, fun i _ => by rw [(a.1.1 165 (by decide)).1]⟩, a.2.1 6 (by decide)⟩
theorem MFl.qx (a : MFl f q h h1) (k : MQb h) : MQf tb f q h h1 := ⟨⟨a.1.mono (fun x hx => by simp at hx ⊢; omega), fun j hj => a.2.1 j (fun z => hj (by simp at z ⊢; omega)), a.2.2.1, fun i _ => by rw [(a.1.1 165 (by decide)).1]⟩, a.2.2.2.1, a.2.2.2.2, by unfold MQb; rw [a.2.1 106 (by decide)]; exact k⟩
theorem MQx.si82 {j : Nat} {v : Int32} (hj : j ∈ [2, 4, 5, 6, 10, 45, 106, 108, 109, 110]) (a : MQx tb h h1) : MQx tb h (sI h1 82 j v) := ⟨gE1 (by decide) a.1, fun i hi => by rw [sI_nb (show i ≠ j from fun z => hi (by rw [z]; exact hj))]; exact a.2.1 i hi, a.2.2.1, fun i hi => by rw [sI_ne (by decide)]; exact a.2.2.2 i hi⟩
theorem MQx.si165 {j : Nat} {v : Int32} (hj : tb ≤ j) (a : MQx tb h h1) : MQx tb h (sI h1 165 j v) := ⟨gE1 (by decide) a.1, fun i hi => by rw [sI_ne (by decide)]; exact a.2.1 i hi, a.2.2.1, fun i hi => by rw [sI_nb (by omega)]; exact a.2.2.2 i hi⟩
theorem MQx.si164 {j : Nat} {v : Int32} (a : MQx tb h h1) : MQx tb h (sI h1 164 j v) := ⟨gE1 (by decide) a.1, fun i hi => by rw [sI_ne (by decide)]; exact a.2.1 i hi, a.2.2.1, fun i hi => by rw [sI_ne (by decide)]; exact a.2.2.2 i hi⟩
theorem TPm.qx (q : TPm t h) (e : MQx tb h h1) : TPm t h1 := ⟨fun i hi => by rw [(e.1.1 83 (by decide)).1]; exact q.1 i hi, fun i hi j hj => by rw [(e.1.1 (85 + i) (by simp; omega)).1]; exact q.2.1 i hi j hj, fun i hi j hj => by rw [(e.1.1 (143 + i) (by simp; omega)).1]; exact q.2.2 i hi j hj⟩
theorem stb_cg {w w' : Nat → Int32} : ∀ S, (∀ i, i < S.length → w' (tb + i) = w (tb + i)) → stb tb S w → stb tb S w'
  | [], _, _ => trivial
  | x :: r, h, ⟨h1, h2⟩ => ⟨by rw [h r.length (by show r.length < r.length + 1; omega)]; exact h1, stb_cg r (fun i hi => h i (by show i < r.length + 1; omega)) h2⟩
theorem MSq.ml {p' : Nat × Bool} (m : MSq t n tb ob ee p S C h) (e : MLx h h1) (k : MTk t n p'.1 p'.2 h1) (hp : p.1 ≤ p'.1) : MSq t n tb ob ee p' S C h1 := by
  obtain ⟨m1, m2, m3, m4, m5, m6, m7, m8, m9, m10, m11, m12⟩ := m
  have f : ∀ j, j ∉ [2, 4, 10, 45] → h1.1 82 j = h.1 82 j := e.2.1
  exact ⟨k, by rw [f 108 (by decide)]; exact m2, by rw [(e.1.1 165 (by decide)).1]; exact m3, by rw [f 109 (by decide)]; exact m4, by rw [f 110 (by decide)]; exact m5, by rw [f 106 (by decide)]; exact m6, fun i hi => by rw [(e.1.1 164 (by decide)).1]; exact m7 i hi, by omega, m9, m10, m11, by rw [(e.1.1 165 (by decide)).1]; exact m12⟩
theorem MSq.bd (tw : TWf t n) (m : MSq t n tb ob ee p S C h) : MQb h := ⟨C.length, by have := m.1.1; have := tw.1; have := m.2.2.2.2.2.2.2.1; omega, m.2.2.2.2.2.1⟩
theorem MSq.md (m : MSq t n tb ob ee p S C h) {e' : Bool} (w : wfb e' S) : MSq t n tb ob e' p S C h := by
  obtain ⟨m1, m2, m3, m4, m5, m6, m7, m8, m9, m10, m11, m12⟩ := m
  exact ⟨m1, m2, m3, m4, m5, m6, m7, m8, m9, m10, w, m12⟩
theorem m_qCodeAny {v : Int32} (hw : gWf h lk sp cd) {k : Nat} (hk : h.1 82 106 = nI k) (hl : k < 1700) (hq : ∀ h', MQx tb h h' → h'.1 82 5 = h.1 82 5 → h'.1 82 6 = h.1 82 6 → h'.1 82 106 = nI (k + 1) → Q none h') : gC l G d MX12_qCode [.ref 82, .int v] h Q := by
  refine eX12_qCode hw ?_
  rw [hk, nI_clamp (by omega), nI_1]
  exact ⟨vp_in_nI (by omega) (by decide), hq _ (MQx.si82 (by decide) (MQx.si164 MQx.rf)) (by rw [sI_nb (by decide), sI_ne (by decide)]) (by rw [sI_nb (by decide), sI_ne (by decide)]) (sI_s _ _ _ _)⟩
theorem m_qCode (hw : gWf h lk sp cd) (tw : TWf t n) (m : MSq t n tb ob ee p S C h) (hq : ∀ h', MQs tb h h' → (∀ j, j ≠ 106 → h'.1 82 j = h.1 82 j) → h'.1 165 = h.1 165 → h'.1 82 106 = nI (C ++ [u]).length → (∀ i, i < (C ++ [u]).length → h'.1 164 i = nI (qtd ((C ++ [u]).getD i 0))) → Q none h') : gC l G d MX12_qCode [.ref 82, .int (nI (qtd u))] h Q := by
  obtain ⟨m1, m2, m3, m4, m5, m6, m7, m8, m9, m10, m11, m12⟩ := m
  have n16 := tw.1
  have sn := m1.1
  refine eX12_qCode hw ?_
  rw [m6, nI_clamp (by omega), nI_1]
  refine ⟨vp_in_nI (by omega) (by decide), hq _ ⟨MQx.si82 (by decide) (MQx.si164 MQx.rf), by rw [sI_nb (by decide), sI_ne (by decide)]⟩ (fun j hj => by rw [sI_nb hj, sI_ne (by decide)]) ?_ (by rw [sI_s, List.length_append]; rfl) (fun i hi => ?_)⟩
  · rw [sI_na (by decide), sI_na (by decide)]
  · rw [List.length_append] at hi
    have hi : i < C.length + 1 := hi
    rw [sI_ne (by decide)]
    by_cases e : i = C.length
    · subst e; rw [sI_s, getD_last]
    · rw [sI_nb e, getD_app (by omega)]; exact m7 i (by omega)
theorem wfQ.tl (h : wfQ (x :: S)) : wfQ S := fun y hy => h y (List.mem_cons_of_mem _ hy)
theorem qtc_b {x : Nat} (h : x = 42 ∨ x = 47 ∨ x = 43 ∨ x = 45 ∨ x = 27 ∨ (100 ≤ x ∧ x ≤ 104)) : (qtc x < 61) ∧ ((20 ≤ qtc x ∧ qtc x ≤ 24) ↔ 100 ≤ x) ∧ (qtc x = 3 ↔ x = 42) ∧ (qtc x = 4 ↔ x = 47) ∧ (qtc x = 1 ↔ x = 43) ∧ (qtc x = 2 ↔ x = 45) ∧ (100 ≤ x → qtc x = x - 80) ∧ (x < 100 → qtc x = qtd x) ∧ (60 ≤ qtc x ↔ x = 27) := by
  rcases h with h | h | h | h | h | h
  · subst h; decide
  · subst h; decide
  · subst h; decide
  · subst h; decide
  · subst h; decide
  · have : x = 100 ∨ x = 101 ∨ x = 102 ∨ x = 103 ∨ x = 104 := by omega
    rcases this with h | h | h | h | h <;> subst h <;> decide
theorem MTk.f1 (k : MTk t n s b h) (f1 : ∀ j, j ≠ 106 → j ≠ 108 → j ≠ 109 → j ≠ 110 → h1.1 82 j = h.1 82 j) : MTk t n s b h1 := by
  obtain ⟨k1, k2, k3, k4, a, e, k5, k6, k7, k8, k9, k10⟩ := k
  exact ⟨k1, k2, by rw [f1 3 (by decide) (by decide) (by decide) (by decide)]; exact k3, by rw [f1 5 (by decide) (by decide) (by decide) (by decide)]; exact k4, a, e, k5, k6, k7, by rw [f1 2 (by decide) (by decide) (by decide) (by decide)]; exact k8, by rw [f1 4 (by decide) (by decide) (by decide) (by decide)]; exact k9, k10⟩
theorem m_qDropsC (hw : gWf h lk sp cd) (tw : TWf t n) (ms : MSq t n tb ob ee p S C (sI h 82 108 (nI (tb + S.length)))) (a : h.1 82 108 = nI (tb + S.length + 1)) (v : h.1 165 (tb + S.length) = nI (qtd x)) (hl : C.length + 1 + S.length + tb < p.1) (hq : ∀ h', MQs tb h h' → MSq t n tb ob ee p S (C ++ [x]) h' → (∀ j, j ≠ 106 → j ≠ 108 → h'.1 82 j = h.1 82 j) → Q none h') : gC l G (d + 1) MX12_qDrops [.ref 82] h Q := by
  have n16 := tw.1
  have sn := ms.1.1
  refine eX12_qDrops hw ?_
  rw [a, i_s1, nI_clamp (by omega), v]
  have e0 : MQs tb h (sI h 82 108 (nI (tb + S.length))) := ⟨MQx.si82 (by decide) MQx.rf, by rw [sI_nb (by decide)]⟩
  refine ⟨vp_in_nI (by omega) (by decide), m_qCode (u := x) (hw.eq e0.1.1) tw ms (fun h1 e1 f1 w1 c1 c2 => ⟨rfl, e1.1.1.2, hq h1 (e0.tr e1) ⟨?_, ?_, ?_, ?_, ?_, c1, c2, ?_, ms.2.2.2.2.2.2.2.2.1, ms.2.2.2.2.2.2.2.2.2.1, ms.2.2.2.2.2.2.2.2.2.2.1, ?_⟩ (fun j h60 h62 => by rw [f1 j h60, sI_nb h62])⟩)⟩
  · exact ms.1.f1 (fun j z _ _ _ => f1 j z)
  · rw [f1 108 (by decide)]; exact ms.2.1
  · rw [w1]; exact ms.2.2.1
  · rw [f1 109 (by decide)]; exact ms.2.2.2.1
  · rw [f1 110 (by decide)]; exact ms.2.2.2.2.1
  · rw [List.length_append]; show C.length + 1 + S.length + tb < p.1; omega
  · rw [w1]; exact ms.2.2.2.2.2.2.2.2.2.2.2
theorem m_qDrops (hw : gWf h lk sp cd) (tw : TWf t n) (m : MSq t n tb ob ee p (x :: S) C h) (hx : x < 100) (h27 : x ≠ 27) (hq : ∀ h', MQs tb h h' → MSq t n tb ob false p S (C ++ [x]) h' → (∀ j, j ≠ 106 → j ≠ 108 → h'.1 82 j = h.1 82 j) → Q none h') : gC l G (d + 1) MX12_qDrops [.ref 82] h Q := by
  obtain ⟨m1, m2, ⟨m3, m3'⟩, m4, m5, m6, m7, m8, m9, m10, m11, m12⟩ := id m
  have b := qtc_b (m9 x List.mem_cons_self)
  have ll : (x :: S).length = S.length + 1 := rfl
  rw [ll] at m2 m8
  have cn : cnS (x :: S) = cnS S := cnS_cons_op h27 hx
  have ms : MSq t n tb ob false p S C (sI h 82 108 (nI (tb + S.length))) := ⟨m1.gx (by decide), sI_s _ _ _ _, by rw [sI_na (by decide)]; exact m3', by rw [sI_nb (by decide), m4, cn], by rw [sI_nb (by decide)]; exact m5, by rw [sI_nb (by decide)]; exact m6, fun i hi => by rw [sI_ne (by decide)]; exact m7 i hi, by omega, wfQ.tl m9, by omega, wfb_op m11 h27 hx, by rw [sI_na (by decide)]; exact m12⟩
  exact m_qDropsC hw tw ms (by rw [m2, show tb + (S.length + 1) = tb + S.length + 1 by omega]) (by rw [m3, b.2.2.2.2.2.2.2.1 hx]) (by omega) hq
theorem m_qIsBracket {c : Nat} (hw : gWf h lk sp cd) (hc : c < 1000) (hy : 20 ≤ c → c ≤ 24 → Q (some (.int 1)) h) (hn : ¬ (20 ≤ c ∧ c ≤ 24) → Q (some (.int 0)) h) : gC l G d MX12_qIsBracket [.int (nI c)] h Q := by
  refine eX12_qIsBracket hw ?_
  have a1 : nI c < 20 ↔ c < 20 := nI_ltI (b := 20) (by omega) (by decide)
  have a2 : 24 < nI c ↔ 24 < c := nI_ltI (a := 24) (by decide) (by omega)
  rw [a1, a2]
  exact ⟨fun z => hn (by omega), fun z => ⟨fun y => hn (by omega), fun y => hy (by omega) (by omega)⟩⟩
theorem m_qIsOn {c : Nat} (hw : gWf h lk sp cd) (tw : TWf t n) (m : MSq t n tb ob ee p S C h) (hc1 : 1 ≤ c) (hc : c ≤ 4) (hy : ∀ x r, S = x :: r → qtc x = c → Q (some (.int 1)) h) (hn : (∀ x r, S = x :: r → qtc x ≠ c) → Q (some (.int 0)) h) : gC l G d MX12_qIsOn [.ref 82, .int (nI c)] h Q := by
  obtain ⟨m1, m2, m3, m4, m5, m6, m7, m8, m9, m10, m11, m12⟩ := m
  have n16 := tw.1
  have sn := m1.1
  refine eX12_qIsOn hw ?_
  rw [m2]
  cases S with
  | nil =>
    show (nI (tb + 0) ≤ 0 → _) ∧ _
    rcases Nat.eq_zero_or_pos tb with z | z
    · subst z
      exact bY (by decide) (hn (fun x r e => by cases e))
    · have m8 : C.length + 0 + tb < p.1 := m8
      have et : nI (tb + 0) - 1 = nI (tb - 1) := by rw [show tb + 0 = (tb - 1) + 1 by omega, i_s1]
      refine bN (nI_ge (a := 0) (by omega) (by omega)) ?_
      rw [show (([] : List Nat).length) = 0 from rfl, et, nI_clamp (by omega)]
      exact ⟨vp_in_nI (by omega) (by decide), bN' (m12 c hc1 hc z) (hn (fun x r e => by cases e))⟩
  | cons x r =>
    have b := qtc_b (m9 x List.mem_cons_self)
    have ll : (x :: r).length = r.length + 1 := rfl
    rw [ll] at m8 ⊢
    refine bN (nI_ge (a := 0) (by omega) (by omega)) ?_
    rw [show tb + (r.length + 1) = tb + r.length + 1 by omega, i_s1, nI_clamp (by omega), m3.1, nI_eq (by omega) (by omega)]
    refine ⟨vp_in_nI (by omega) (by decide), fun z => hn (fun y r' e => ?_), fun z => hy x r rfl z⟩
    have := (List.cons.inj e).1
    subst this
    exact z
theorem mkS_q (hS : wfQ S) : mkS S = 0 ∨ (100 ≤ mkS S ∧ mkS S ≤ 104) := by
  induction S with
  | nil => exact Or.inl rfl
  | cons x r ih =>
    have := hS x List.mem_cons_self
    show (if 100 ≤ x then x else mkS r) = 0 ∨ (100 ≤ (if 100 ≤ x then x else mkS r) ∧ (if 100 ≤ x then x else mkS r) ≤ 104)
    by_cases z : 100 ≤ x
    · rw [if_pos z]; exact Or.inr ⟨z, by omega⟩
    · rw [if_neg z]; exact ih (wfQ.tl hS)
theorem m_qBracket (hw : gWf h lk sp cd) (tw : TWf t n) (m : MSq t n tb ob ee p S C h) (hq : Q (some (.int (mkI (mkS S)))) h) : gC l G (d + 1) MX12_qBracket [.ref 82] h Q := by
  obtain ⟨m1, m2, m3, m4, m5, m6, m7, m8, m9, m10, m11, m12⟩ := m
  have n16 := tw.1
  have sn := m1.1
  refine eX12_qBracket hw (fun p9 e9 s9 m9' args9 below9 meth9 cc9 => ?_)
  rw [m2]
  suffices H : ∀ R : List Nat, stb tb R (h.1 165) → wfQ R → tb + R.length < 1700 → Q (some (.int (mkI (mkS R)))) h → gg p9 l e9 s9 m9' args9 below9 meth9 cc9 G (d + 1) MX12_qBracket Q 7 [some (.ref 82), some (.int (nI (tb + R.length) - 1))] [] h from H S m3 m9 (by omega) hq
  intro R
  induction R with
  | nil =>
    intro _ _ _ hq
    have lt : nI (tb + ([] : List Nat).length) - 1 < h.1 82 110 := by
      rw [m5]
      show nI tb - nI 1 < nI tb
      rw [Int32.lt_iff_toInt_lt, pk_sub_toInt (by omega) (by decide), nI_toInt (by omega)]
      omega
    exact wX12_qBracket_7 hw.1 hw.2.1 hw.2.2.1 (bY lt (bY lt hq))
  | cons x r ih =>
    intro hs hf hl hq
    have b := qtc_b (hf x List.mem_cons_self)
    have ll : (x :: r).length = r.length + 1 := rfl
    rw [ll] at hl ⊢
    have nl : ¬ nI (tb + r.length) < h.1 82 110 := by rw [m5]; exact nI_nlt (by omega) (by omega)
    have eq1 : nI (tb + (r.length + 1)) - 1 = nI (tb + r.length) := by rw [show tb + (r.length + 1) = tb + r.length + 1 by omega, i_s1]
    rw [eq1]
    refine wX12_qBracket_7 hw.1 hw.2.1 hw.2.2.1 (bN nl ?_)
    rw [nI_clamp (by omega), hs.1]
    refine ⟨vp_in_nI (by omega) (by decide), m_qIsBracket hw (by omega) (fun z1 z2 => ⟨_, rfl, rfl, bN' (by decide) (bN nl ?_)⟩) (fun z => ⟨_, rfl, rfl, bY' rfl ?_⟩)⟩
    · rw [hs.1]
      refine ⟨vp_in_nI (by omega) (by decide), ?_⟩
      have hx : 100 ≤ x := b.2.1.mp ⟨z1, z2⟩
      have em : mkS (x :: r) = x := if_pos hx
      rw [em] at hq
      unfold mkI at hq
      rw [if_neg (by omega)] at hq
      rw [b.2.2.2.2.2.2.1 hx]
      exact hq
    · have hx : ¬ 100 ≤ x := fun y => z (b.2.1.mpr y)
      have em : mkS (x :: r) = mkS r := if_neg hx
      rw [em] at hq
      have := ih hs.2 (wfQ.tl hf) (by omega) hq
      rw [show nI (tb + r.length) + (-1) = nI (tb + r.length) - 1 by grind]
      exact this
theorem m_qDropsToBracket (hw : gWf h lk sp cd) (tw : TWf t n) (m : MSq t n tb ob false p S C h) (hq : ∀ h', MQs tb h h' → MSq t n tb ob false p (popM S C).1 (popM S C).2 h' → (∀ j, j ≠ 106 → j ≠ 108 → h'.1 82 j = h.1 82 j) → Q none h') : gC l G (d + 2) MX12_qDropsToBracket [.ref 82] h Q := by
  have n16 := tw.1
  have main : ∀ (p9 : Program) (e9 : Env) (s9 : State) (m9 : MethodId) (args9 : Array Value) (below9 : List Frame) (meth9 : Method) (cc9 : Code) (R D : List Nat) (h2 : gH), MQs tb h h2 → (∀ j, j ≠ 106 → j ≠ 108 → h2.1 82 j = h.1 82 j) → MSq t n tb ob false p R D h2 → popM R D = popM S C → (((h2.1 82 108) ≤ (h2.1 82 110) → Q none h2) ∧ (¬ (h2.1 82 108) ≤ (h2.1 82 110) → (vp_in (((h2.1 82 108) - 1)) 1700 ∧ gC l G (d + 1) MX12_qIsBracket [.int (h2.1 165 (((h2.1 82 108) - 1) : Int32).toNatClampNeg)] h2 (rI fun v1 h1 => h1.2.2 = (h2).2.2 ∧ ((¬ v1 = 0 → Q none h1) ∧ (v1 = 0 → gC l G (d + 1) MX12_qDrops [.ref 82] h1 (rV fun h3 => h3.2.2 = (h1).2.2 ∧ gg p9 l e9 s9 m9 args9 below9 meth9 cc9 G (d + 1 + 1) MX12_qDropsToBracket Q 0 [some (.ref 82)] [] h3)))))) ) := by
    intro p9 e9 s9 m9 args9 below9 meth9 cc9 R
    induction R with
    | nil =>
      intro D h2 e2 f2 m2 ep
      refine bY (by rw [m2.2.1, m2.2.2.2.2.1]; exact nI_le (Nat.le_refl _) (by have := m2.2.2.2.2.2.2.2.1; have := m2.1.1; show tb < _; omega)) (hq h2 e2 ?_ f2)
      rw [← ep]; exact m2
    | cons x r ih =>
      intro D h2 e2 f2 m2 ep
      have hw2 := hw.eq e2.1.1
      obtain ⟨k1, k2, ⟨k3, k3'⟩, k4, k5, k6, k7, k8, k9, k10, k11, k12⟩ := id m2
      have sn := k1.1
      have b := qtc_b (k9 x List.mem_cons_self)
      have ll : (x :: r).length = r.length + 1 := rfl
      rw [ll] at k2 k8
      rw [k2, k5]
      refine bN (nI_ge (by omega) (by omega)) ?_
      rw [show tb + (r.length + 1) = tb + r.length + 1 by omega, i_s1, nI_clamp (by omega), k3]
      have epx : popM (x :: r) D = if 100 ≤ x then (x :: r, D) else popM r (D ++ [x]) := rfl
      refine ⟨vp_in_nI (by omega) (by decide), m_qIsBracket hw2 (by omega) (fun z1 z2 => ⟨_, rfl, rfl, bN' (by decide) (hq h2 e2 ?_ f2)⟩) (fun z => ⟨_, rfl, rfl, bY' rfl ?_⟩)⟩
      · rw [← ep, epx, if_pos (b.2.1.mp ⟨z1, z2⟩)]; exact m2
      · have hx : ¬ 100 ≤ x := fun y => z (b.2.1.mpr y)
        have x27 : x ≠ 27 := fun y => by subst y; exact absurd (wfb_27.mp k11).1 (by decide)
        rw [epx, if_neg hx] at ep
        refine m_qDrops (d := d) hw2 tw m2 (by omega) x27 (fun h3 e3 m3 f3 => ⟨rfl, e3.1.1.2, ?_⟩)
        have hw3 := hw2.eq e3.1.1
        exact wX12_qDropsToBracket_0 hw3.1 hw3.2.1 hw3.2.2.1 (ih (D ++ [x]) h3 (e2.tr e3) (fun j a b => (f3 j a b).trans (f2 j a b)) m3 ep)
  exact eX12_qDropsToBracket hw (fun p9 e9 s9 m9 args9 below9 meth9 cc9 => main p9 e9 s9 m9 args9 below9 meth9 cc9 S C h MQs.rf (fun _ _ _ => rfl) m rfl)
theorem m_qOpens {mk place : Nat} (hw : gWf h lk sp cd) (tw : TWf t n) (m : MSq t n tb ob ee p S C h) (hm : mk = 27 ∨ (100 ≤ mk ∧ mk ≤ 104)) (hy : ∀ h', ob + cnS S ≠ 6 → MQs tb h h' → (∀ j, j ≠ 108 → j ≠ 109 → h'.1 82 j = h.1 82 j) → h'.1 82 108 = nI (tb + (mk :: S).length) → stb tb (mk :: S) (h'.1 165) → h'.1 82 109 = nI (ob + cnS (mk :: S)) → h'.1 164 = h.1 164 → Q none h') (hn : ∀ h', ob + cnS S = 6 → MFl 4 place h h' → Q none h') : gC l G (d + 1) MX12_qOpens [.ref 82, .int (nI (qtc mk)), .int (nI place)] h Q := by
  obtain ⟨m1, m2, m3, m4, m5, m6, m7, m8, m9, m10, m11, m12⟩ := m
  have n16 := tw.1
  have sn := m1.1
  have cn : cnS (mk :: S) = cnS S + 1 := cnS_cons_mk (by omega)
  refine eX12_qOpens hw ?_
  have z6 : nI (ob + cnS S) = 6 ↔ ob + cnS S = 6 := nI_eq (b := 6) (by omega) (by decide)
  rw [m4, z6, m2, nI_1, nI_1, nI_clamp (by omega)]
  refine bY m1.2.2.2.1 ⟨fun z => ⟨vp_in_nI (by omega) (by decide), hy _ z ⟨MQx.si82 (by decide) (MQx.si165 (by omega) (MQx.si82 (by decide) MQx.rf)), by rw [sI_nb (by decide), sI_ne (by decide), sI_nb (by decide)]⟩ (fun j j1 j2 => by rw [sI_nb j1, sI_ne (by decide), sI_nb j2]) (sI_s _ _ _ _) ⟨?_, ?_⟩ ?_ ?_⟩, fun z => m_fail (f := 4) hw m1.2.2.2.1 (fun h1 e1 => ⟨rfl, e1.1.2, hn h1 z e1⟩)⟩
  · rw [sI_ne (by decide), sI_s]
  · refine stb_cg S (fun i hi => ?_) m3
    rw [sI_ne (by decide), sI_nb (by omega), sI_ne (by decide)]
  · rw [sI_nb (by decide), sI_ne (by decide), sI_s, cn, Nat.add_assoc]
  · rw [sI_na (by decide), sI_na (by decide), sI_na (by decide)]
theorem m_qEndsPart (hw : gWf h lk sp cd) (tw : TWf t n) (m : MSq t n tb ob true p S C h) (hq : ∀ h', MQs tb h h' → MSq t n tb ob false p (endP S C).1 (endP S C).2 h' → Q none h') : gC l G (d + 2) MX12_qEndsPart [.ref 82] h Q := by
  have n16 := tw.1
  have main : ∀ (p9 : Program) (e9 : Env) (s9 : State) (m9 : MethodId) (args9 : Array Value) (below9 : List Frame) (meth9 : Method) (cc9 : Code) (R D : List Nat) (h2 : gH), MQs tb h h2 → MSq t n tb ob true p R D h2 → endP R D = endP S C → ((¬ (h2.1 82 5) = 0 → Q none h2) ∧ ((h2.1 82 5) = 0 → (((h2.1 82 108) ≤ (h2.1 82 110) → Q none h2) ∧ (¬ (h2.1 82 108) ≤ (h2.1 82 110) → (vp_in (((h2.1 82 108) - 1)) 1700 ∧ (((h2.1 165 (((h2.1 82 108) - 1) : Int32).toNatClampNeg) < 60 → Q none h2) ∧ (¬ (h2.1 165 (((h2.1 82 108) - 1) : Int32).toNatClampNeg) < 60 → gC l G (d + 1) MX12_qDrops [.ref 82] (sI h2 82 109 ((h2.1 82 109) - 1)) (rV fun h1 => h1.2.2 = ((sI h2 82 109 ((h2.1 82 109) - 1))).2.2 ∧ gg p9 l e9 s9 m9 args9 below9 meth9 cc9 G (d + 1 + 1) MX12_qEndsPart Q 0 [some (.ref 82)] [] h1)))))))) := by
    intro p9 e9 s9 m9 args9 below9 meth9 cc9 R
    induction R with
    | nil =>
      intro D h2 e2 m2 ep
      have m8 := m2.2.2.2.2.2.2.2.1
      have sn := m2.1.1
      refine bY' m2.1.2.2.2.1 (bY (by rw [m2.2.1, m2.2.2.2.2.1]; exact nI_le (Nat.le_refl _) (by show tb < _; omega)) (hq h2 e2 ?_))
      rw [← ep]; exact m2.md trivial
    | cons x r ih =>
      intro D h2 e2 m2 ep
      have hw2 := hw.eq e2.1.1
      obtain ⟨k1, k2, ⟨k3, k3'⟩, k4, k5, k6, k7, k8, k9, k10, k11, k12⟩ := id m2
      have sn := k1.1
      have b := qtc_b (k9 x List.mem_cons_self)
      have ll : (x :: r).length = r.length + 1 := rfl
      rw [ll] at k2 k8
      rw [k2, k5]
      refine bY' k1.2.2.2.1 (bN (nI_ge (by omega) (by omega)) ?_)
      rw [show tb + (r.length + 1) = tb + r.length + 1 by omega, i_s1, nI_clamp (by omega), k3]
      have z60 : nI (qtc x) < 60 ↔ qtc x < 60 := nI_ltI (b := 60) (by omega) (by decide)
      rw [z60]
      have epx : endP (x :: r) D = if x = 27 then endP r (D ++ [27]) else (x :: r, D) := rfl
      refine ⟨vp_in_nI (by omega) (by decide), fun z => hq h2 e2 ?_, fun z => ?_⟩
      · have x27 : x ≠ 27 := fun y => by have := b.2.2.2.2.2.2.2.2.mpr y; omega
        rw [← ep, epx, if_neg x27]
        refine m2.md ?_
        have : (if x = 27 then true = true ∧ wfb true r else if 100 ≤ x then wfb true r else wfb false r) := k11
        show (if x = 27 then false = true ∧ wfb true r else if 100 ≤ x then wfb true r else wfb false r)
        rw [if_neg x27] at this ⊢
        exact this
      · have x27 : x = 27 := b.2.2.2.2.2.2.2.2.mp (by omega)
        subst x27
        rw [epx, if_pos rfl] at ep
        have cn : cnS (27 :: r) = cnS r + 1 := cnS_cons_mk (Or.inl rfl)
        rw [k4, cn, ← Nat.add_assoc, i_s1]
        have e3 : MQs tb h2 (sI h2 82 109 (nI (ob + cnS r))) := ⟨MQx.si82 (by decide) MQx.rf, by rw [sI_nb (by decide)]⟩
        have ms : MSq t n tb ob true p r D (sI (sI h2 82 109 (nI (ob + cnS r))) 82 108 (nI (tb + r.length))) := ⟨(k1.gx (by decide)).gx (by decide), sI_s _ _ _ _, by rw [sI_na (by decide), sI_na (by decide)]; exact k3', by rw [sI_nb (by decide), sI_s], by rw [sI_nb (by decide), sI_nb (by decide)]; exact k5, by rw [sI_nb (by decide), sI_nb (by decide)]; exact k6, fun i hi => by rw [sI_ne (by decide), sI_ne (by decide)]; exact k7 i hi, by omega, wfQ.tl k9, by omega, (wfb_27.mp k11).2, by rw [sI_na (by decide), sI_na (by decide)]; exact k12⟩
        refine m_qDropsC (d := d) (x := 27) (hw2.eq e3.1.1) tw ms (by rw [sI_nb (by decide), k2, show tb + (r.length + 1) = tb + r.length + 1 by omega]) (by rw [sI_ne (by decide), k3]; rfl) (by omega) (fun h4 e4 m4 f4 => ⟨rfl, e4.1.1.2, ?_⟩)
        have hw4 := (hw2.eq e3.1.1).eq e4.1.1
        exact wX12_qEndsPart_0 hw4.1 hw4.2.1 hw4.2.2.1 (ih (D ++ [27]) h4 (e2.tr (e3.tr e4)) m4 ep)
  exact eX12_qEndsPart hw (fun p9 e9 s9 m9 args9 below9 meth9 cc9 => main p9 e9 s9 m9 args9 below9 meth9 cc9 S C h MQs.rf m rfl)
end MQ
