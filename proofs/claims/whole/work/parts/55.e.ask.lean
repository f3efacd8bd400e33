section MQ5
variable {l : Launch} {G : gG} {d : Nat} {Q : Option Value → gH → Prop} {h h0 h1 h2 : gH} {lk sp : Nat} {cd : Option Nat} {t : Nat → Nat} {n s i f q u x tb ob : Nat} {b ee : Bool} {p : Nat × Bool} {S C : List Nat}
/-- the model reads a question at p: codes C, tb of its signs wait, ob are open -/
def MQt (t : Nat → Nat) (n tb ob : Nat) (p : Nat × Bool) (C : List Nat) (h : gH) : Prop := MTk t n p.1 p.2 h ∧ h.1 82 108 = nI tb ∧ h.1 82 109 = nI ob ∧ h.1 82 106 = nI C.length ∧ (∀ i, i < C.length → h.1 164 i = nI (qtd (C.getD i 0))) ∧ C.length + tb < p.1 ∧ ob ≤ 6 ∧ ∀ c, 1 ≤ c → c ≤ 4 → 0 < tb → h.1 165 (tb - 1) ≠ nI c
theorem m_qSums {K : Nat} {out : pOut} (hw : gWf h lk sp cd) (tw : TWf t n) (tp : TPm t h) (m : MQt t n tb ob p C h) (hr : run t n knQ ob K true p [] C = some out)
    (hf : ∀ f q h', out = .error (f, q) → f ≠ 0 → f < 10 → MQf tb f q h h' → Q none h')
    (hok : ∀ p' C' h', out = .ok (p', C') → MQs tb h h' → MQt t n tb ob p' C' h' → Q none h') : gC l G (d + 6) MX12_qSums [.ref 82] h Q := by
  have n16 := tw.1
  refine eX12_qSums hw (fun p9 e9 s9 m9 args9 below9 meth9 cc9 => ?_)
  generalize h.1 82 110 = w0
  rw [m.2.1]
  have e0 : MQs tb h (sI h 82 110 (nI tb)) := ⟨MQx.si82 (by decide) MQx.rf, by rw [sI_nb (by decide)]⟩
  have m0 : MSq t n tb ob true p [] C (sI h 82 110 (nI tb)) := by
    obtain ⟨q1, q2, q3, q4, q5, q6, q7, q8⟩ := m
    exact ⟨q1.gx (by decide), by rw [sI_nb (by decide)]; exact q2, trivial, by rw [sI_nb (by decide)]; exact q3, sI_s _ _ _ _, by rw [sI_nb (by decide)]; exact q4, fun i hi => by rw [sI_ne (by decide)]; exact q5 i hi, by show C.length + 0 + tb < p.1; omega, fun x hx => (by cases hx), q7, trivial, by rw [sI_na (by decide)]; exact q8⟩
  have F : ∀ h' f q (x2 : Int32), out = .error (f, q) → f ≠ 0 → f < 10 → MQf tb f q h h' → gg p9 l e9 s9 m9 args9 below9 meth9 cc9 G (d + 5 + 1) MX12_qSums Q 15 [some (.ref 82), some (.int w0), some (.int x2)] [] h' := fun h' f q x2 eo f0 f9 e1 => by
    have hwh := hw.eq e1.1.1
    have b5 : ¬ h'.1 82 5 = 0 := by rw [e1.2.1]; exact bad0 f0 f9
    have g53 : gg p9 l e9 s9 m9 args9 below9 meth9 cc9 G (d + 5 + 1) MX12_qSums Q 53 [some (.ref 82), some (.int w0), some (.int x2)] [] h' := wX12_qSums_53 hwh.1 hwh.2.1 hwh.2.2.1 (bN' b5 (hf f q _ eo f0 f9 (e1.more (MQx.si82 (by decide) MQx.rf) (by rw [sI_nb (by decide)]) (by rw [sI_nb (by decide)]) (by unfold MQb; rw [sI_nb (by decide)]; exact e1.2.2.2))))
    exact wX12_qSums_15 hwh.1 hwh.2.1 hwh.2.2.1 ⟨fun _ => g53, fun _ => bN' b5 g53⟩
  have D : ∀ (S C : List Nat) p' h', out = .ok (p', (popM S C).2) → mkS S = 0 → MQs tb h h' → MSq t n tb ob false p' S C h' → gg p9 l e9 s9 m9 args9 below9 meth9 cc9 G (d + 5 + 1) MX12_qSums Q 53 [some (.ref 82), some (.int w0), some (.int 0)] [] h' := by
    intro S
    induction S with
    | nil =>
      intro C p' h' eo _ e1 m1
      have hwh := hw.eq e1.1.1
      obtain ⟨q1, q2, q3, q4, q5, q6, q7, q8, q9, q10, q11, q12⟩ := m1
      have q8 : C.length + 0 + tb < p'.1 := q8
      have sn := q1.1
      refine wX12_qSums_53 hwh.1 hwh.2.1 hwh.2.2.1 (bY' q1.2.2.2.1 (bY (by rw [q2, q5]; exact nI_le (Nat.le_refl _) (by omega)) (hok p' C _ eo ⟨MQx.si82 (by decide) e1.1, by rw [sI_nb (by decide)]; exact e1.2⟩ ⟨q1.gx (by decide), by rw [sI_nb (by decide)]; exact q2, by rw [sI_nb (by decide)]; exact q4, by rw [sI_nb (by decide)]; exact q6, fun i hi => by rw [sI_ne (by decide)]; exact q7 i hi, by omega, q10, by rw [sI_na (by decide)]; exact q12⟩)))
    | cons x r ih =>
      intro C p' h' eo hm e1 m1
      have hwh := hw.eq e1.1.1
      have em : mkS (x :: r) = if 100 ≤ x then x else mkS r := rfl
      have ep : popM (x :: r) C = if 100 ≤ x then (x :: r, C) else popM r (C ++ [x]) := rfl
      have x1 : ¬ 100 ≤ x := fun z => by rw [em, if_pos z] at hm; omega
      rw [em, if_neg x1] at hm
      rw [ep, if_neg x1] at eo
      have sn := m1.1.1
      have m8 := m1.2.2.2.2.2.2.2.1
      have ll : (x :: r).length = r.length + 1 := rfl
      rw [ll] at m8
      have x27 : x ≠ 27 := fun y => by subst y; exact absurd (wfb_27.mp m1.2.2.2.2.2.2.2.2.2.2.1).1 (by decide)
      refine wX12_qSums_53 hwh.1 hwh.2.1 hwh.2.2.1 (bY' m1.1.2.2.2.1 (bN (by rw [m1.2.1, m1.2.2.2.2.1, ll]; exact nI_ge (by omega) (by omega)) (m_qDrops (d := d + 4) hwh tw m1 (by omega) x27 (fun h2 e2 m2 _ => ⟨rfl, e2.1.1.2, ih (C ++ [x]) p' h2 eo hm (e1.tr e2) m2⟩))))
  suffices H : ∀ k' k p S C h', k ≤ k' → k ≤ K → MQs tb h h' → MSq t n tb ob true p S C h' → run t n knQ ob k true p S C = some out → gg p9 l e9 s9 m9 args9 below9 meth9 cc9 G (d + 5 + 1) MX12_qSums Q 15 [some (.ref 82), some (.int w0), some (.int 1)] [] h' from H K K p [] C _ (Nat.le_refl _) (Nat.le_refl _) e0 m0 hr
  intro k'
  induction k' with
  | zero =>
    intro k p S C h' k0 _ _ _ hr
    have : k = 0 := by omega
    subst this
    cases hr
  | succ k' ih =>
    intro k p S C h' kk kK e1 m1 hr
    have hwh := hw.eq e1.1.1
    have tp1 := tp.qx e1.1
    refine wX12_qSums_15 hwh.1 hwh.2.1 hwh.2.2.1 (bN (by decide) (bY' m1.1.2.2.2.1 (m_qPartTold (d := d) hwh tw tp1 m1 hr (fun f q h2 eo f0 f9 e2 => ⟨rfl, e2.1.1.2, bN' (by rw [e2.2.1]; exact bad0 f0 f9) (F h2 f q 0 eo f0 f9 (e1.fl e2))⟩) (fun k2 p2 S2 C2 h2 kl hr2 e2 m2 => ⟨rfl, e2.1.1.2, bY' m2.1.2.2.2.1 ?_⟩))))
    have e2' := e1.tr e2
    have hw2 := hw.eq e2'.1.1
    refine m_qGoesOn (d := d + 1) hw2 tw (tp.qx e2'.1) m2 hr2 (fun f q h3 eo f0 f9 e3 => ⟨_, rfl, e3.1.1.2, bY rfl (F h3 f q 0 eo f0 f9 (e2'.fl e3))⟩) (fun k3 p3 S3 C3 h3 kl3 hr3 e3 m3 => ⟨_, rfl, e3.1.1.2, bN (by decide) (ih k3 p3 S3 C3 h3 (by omega) (by omega) (e2'.tr e3) m3 hr3)⟩) (fun p3 S3 C3 h3 eo hm e3 m3 => ⟨_, rfl, e3.1.1.2, bY rfl ?_⟩)
    have e3' := e2'.tr e3
    have hw3 := hw.eq e3'.1.1
    exact wX12_qSums_15 hw3.1 hw3.2.1 hw3.2.2.1 (bY rfl (D S3 C3 p3 h3 eo hm e3' m3))
end MQ5
