def MQe (f q : Nat) (h h' : gH) : Prop := MQx 0 h h' ∧ h'.1 82 5 = nI f ∧ h'.1 82 6 = nI q
section MT2
variable {l : Launch} {G : gG} {d : Nat} {Q : Option Value → gH → Prop} {h h0 h1 h2 : gH} {lk sp : Nat} {cd : Option Nat} {t : Nat → Nat} {n s i f q u x tb ob : Nat} {b ee : Bool} {p p' : Nat × Bool} {T C : List Nat} {out : pOut}
theorem MQf.e (e : MQf tb f q h h1) : MQe f q h h1 := ⟨e.1.z, e.2.1, e.2.2.1⟩
theorem MQs.e (a : MQs 0 h h1) (e : MQe f q h1 h2) : MQe f q h h2 := ⟨a.1.tr e.1, e.2⟩
theorem sgz {c : Nat} (tw : TWf t n) (hc : cls c = 3) (hc2 : c < 256) : (if p.1 < n then nI (t p.1) else -1) = nI c ↔ tkk t n p.1 p.2 = c := by
  have tsn := tw.2 p.1
  rw [tkk_c hc hc2]
  by_cases z : p.1 < n
  · rw [if_pos z]
    exact ⟨fun q => ⟨z, (nI_eq (by omega) (by omega)).mp q⟩, fun q => by rw [q.2]⟩
  · rw [if_neg z]; exact ⟨fun q => absurd q.symm (i_nm1 (by omega)), fun q => absurd q.1 z⟩
theorem m_qFact (K : (Nat × Bool) → List Nat → pOut → Prop) (hw : gWf h lk sp cd) (tw : TWf t n) (tp : TPm t h) (m : MTt t n true p T C h)
    (r : (isW t n 31 p ∧ K (nx t n p.1, nj t n p.1) (C ++ [31]) out) ∨ (¬ isW t n 31 p ∧ sumR t n (cnT T) p C (fun p1 C1 out => (¬ isC (tkk t n p1.1 p1.2) ∧ out = .error (1, p1.1)) ∨ (isC (tkk t n p1.1 p1.2) ∧ sumR t n (cnT T) (nx t n p1.1, nj t n p1.1) C1 (fun p2 C2 out => K p2 (C2 ++ [tkk t n p1.1 p1.2]) out) out)) out))
    (hf : ∀ f q h', out = .error (f, q) → f ≠ 0 → f < 10 → MQe f q h h' → Q none h')
    (hok : ∀ p' C' h', K p' C' out → MQs 0 h h' → MTt t n true p' T C' h' → Q none h') : gC l G (d + 7) MX12_qFact [.ref 82] h Q := by
  have n16 := tw.1
  have m6 := m.2.2.2.2.2.1
  have sn := m.1.1
  refine eX12_qFact hw (m_takes (d := d + 4) (i := 31) (w := 152) hw tw tp m.1 (by decide) rfl (by decide) (fun j hj => tp.2.2 9 (by decide) j hj) (fun h1 w31 e1 k1 => ⟨_, rfl, e1.1.2, bN (by decide) ?_⟩) (fun h1 w31 e1 k1 a1 => ⟨_, rfl, e1.1.2, bY rfl ?_⟩))
  · have r1 : K (nx t n p.1, nj t n p.1) (C ++ [31]) out := by
      rcases r with z | z
      · exact z.2
      · exact absurd w31 z.1
    have lt : p.1 < n := tkk_n1 (t := t) (b := p.2) (by have := w31.1; show tkk t n p.1 p.2 ≠ 1000; have : tkk t n p.1 p.2 = 1001 := this; omega)
    have hg := nx_gt (t := t) lt
    have m1 : MTt t n true (nx t n p.1, nj t n p.1) T C h1 := m.ml (p' := (nx t n p.1, nj t n p.1)) e1 k1 nx_ge
    exact m_tCodeS (u := 31) (hw.eq e1.1) tw m1 (by show C.length + 1 + T.length < nx t n p.1; omega) (fun h2 e2 m2 => ⟨rfl, e2.1.1.2, hok _ _ h2 r1 (e1.qx.tr e2) m2⟩)
  · have r1 := r.elim (fun z => absurd z.1 w31) (fun z => z.2)
    obtain ⟨o1, ⟨K1, r1⟩, r2⟩ := r1
    have m1 : MTt t n true p T C h1 := m.ml (p' := p) e1 k1 (Nat.le_refl _)
    have hw1 := hw.eq e1.1
    have tp1 := tp.ml e1.1
    refine m_qSums (d := d) hw1 tw tp1 m1.qt r1 (fun f q h2 eo f0 f9 e2 => ⟨rfl, e2.1.1.2, bN (by rw [e2.2.1]; exact bad0 f0 f9) ?_⟩) (fun p1 C1 h2 eo e2 q2 => ⟨rfl, e2.1.1.2, bY q2.1.2.2.2.1 ?_⟩)
    · subst eo
      exact hf f q h2 r2 f0 f9 ((e1.qx (tb := T.length)).fl e2).e
    · subst eo
      obtain ⟨g1, r2⟩ := r2
      have e2' : MQs T.length h h2 := e1.qx.tr e2
      have hw2 := hw.eq e2'.1.1
      have tp2 := tp.qx e2'.1
      have m2 : MTt t n true p1 T C1 h2 := MTt.of q2 e2'.1 m.2.2.2.2.2.2.2.1 m.2.2.2.2.2.2.2.2.1 m.2.2.2.2.2.2.2.2.2
      refine m_look (d := d + 6) hw2 tw tp2 m2.1 (fun h3 e3 k3 a3 => ⟨_, rfl, e3.1.2, ?_⟩)
      have e3' := e2'.tr e3.qx
      have hw3 := hw.eq e3'.1.1
      have m3 : MTt t n true p1 T C1 h3 := m2.ml (p' := p1) e3 k3 (Nat.le_refl _)
      have l3 := m3.2.2.2.2.2.1
      have sec : ∀ c, isC c → tkk t n p1.1 p1.2 = c → ∀ Q' : Option Value → gH → Prop, (∀ h4, h4.2.2 = (sI h3 82 2 (h3.1 82 2 + 1)).2.2 → gC l G (d + 6) MX12_qCode [.ref 82, .int (nI (qtd c))] h4 (rV fun h5 => h5.2.2 = h4.2.2 ∧ Q none h5) → Q' none h4) → gC l G (d + 6) MX12_qSums [.ref 82] (sI h3 82 2 (h3.1 82 2 + 1)) Q' := fun c hc tc Q' go => by
        have c3 : cls c = 3 ∧ c < 256 := by rcases hc with z | z | z <;> subst z <;> decide
        have lt : p1.1 < n := ((tkk_c c3.1 c3.2).mp tc).1
        have hg := nx_gt (t := t) lt
        rcases r2 with r2 | r2
        · exact absurd (tc ▸ hc) r2.1
        obtain ⟨_, o2, ⟨K2, r3⟩, r4⟩ := r2
        rw [a3, nI_1] at go ⊢
        have e4' : MQs T.length h (sI h3 82 2 (nI (p1.1 + 1))) := ⟨MQx.si82 (by decide) e3'.1, by rw [sI_nb (by decide)]; exact e3'.2⟩
        have k4 : MTk t n (nx t n p1.1) (nj t n p1.1) (sI h3 82 2 (nI (p1.1 + 1))) := m3.1.sign a3 c3.1 c3.2 tc
        have m4 : MTt t n true (nx t n p1.1, nj t n p1.1) T C1 (sI h3 82 2 (nI (p1.1 + 1))) := by
          obtain ⟨x1, x2, x3, x4, x5, x6, x7, x8, x9, x10⟩ := m3
          exact ⟨k4, by rw [sI_nb (by decide)]; exact x2, by rw [sI_nb (by decide)]; exact x3, by rw [sI_nb (by decide)]; exact x4, fun i hi => by rw [sI_ne (by decide)]; exact x5 i hi, by show C1.length + T.length < nx t n p1.1; omega, x7, by rw [sI_na (by decide)]; exact x8, x9, x10⟩
        refine m_qSums (d := d) (hw.eq e4'.1.1) tw (tp.qx e4'.1) m4.qt r3 (fun f q h5 eo f0 f9 e5 => go h5 e5.1.1.2 ?_) (fun p2 C2 h5 eo e5 q5 => go h5 e5.1.1.2 ?_)
        · subst eo
          have e5' := e4'.fl e5
          obtain ⟨k, kl, ke⟩ := e5.2.2.2
          exact m_qCodeAny (tb := T.length) (hw.eq e5'.1.1) ke (by omega) (fun h6 e6 b5 b6 b106 => ⟨rfl, e6.1.2, hf f q h6 r4 f0 f9 ⟨(e5'.1.tr e6).z, b5.trans e5'.2.1, b6.trans e5'.2.2.1⟩⟩)
        · subst eo
          obtain ⟨g2, r4⟩ := r4
          have g2 : C2.length + nx t n p1.1 ≤ C1.length + p2.1 := g2
          have e5' := e4'.tr e5
          have m5 : MTt t n true p2 T C2 h5 := MTt.of q5 e5'.1 m.2.2.2.2.2.2.2.1 m.2.2.2.2.2.2.2.2.1 m.2.2.2.2.2.2.2.2.2
          rw [tc] at r4
          exact m_tCodeS (u := c) (hw.eq e5'.1.1) tw m5 (by omega) (fun h6 e6 m6 => ⟨rfl, e6.1.1.2, hok p2 (C2 ++ [c]) h6 r4 (e5'.z.tr e6) m6⟩)
      by_cases ic : isC (tkk t n p1.1 p1.2)
      · have S60 := sgz (p := p1) (c := 60) tw (by decide) (by decide)
        have S61 := sgz (p := p1) (c := 61) tw (by decide) (by decide)
        have S62 := sgz (p := p1) (c := 62) tw (by decide) (by decide)
        rcases ic with z | z | z
        · rw [S60.mpr z]
          exact bY rfl (sec 60 (Or.inl rfl) z _ (fun h4 x g => ⟨rfl, x, bY' rfl g⟩))
        · rw [S61.mpr z]
          exact bN (by decide) (bN (by decide) (bY rfl (sec 61 (Or.inr (Or.inl rfl)) z _ (fun h4 x g => ⟨rfl, x, bN' (by decide) (bN' (by decide) g)⟩))))
        · rw [S62.mpr z]
          exact bN (by decide) (bY rfl (sec 62 (Or.inr (Or.inr rfl)) z _ (fun h4 x g => ⟨rfl, x, bN' (by decide) (bY' rfl g)⟩)))
      · have S60 : ¬ (if p1.1 < n then nI (t p1.1) else -1) = 60 := fun z => ic (Or.inl ((sgz (p := p1) (c := 60) tw (by decide) (by decide)).mp z))
        have S61 : ¬ (if p1.1 < n then nI (t p1.1) else -1) = 61 := fun z => ic (Or.inr (Or.inl ((sgz (p := p1) (c := 61) tw (by decide) (by decide)).mp z)))
        have S62 : ¬ (if p1.1 < n then nI (t p1.1) else -1) = 62 := fun z => ic (Or.inr (Or.inr ((sgz (p := p1) (c := 62) tw (by decide) (by decide)).mp z)))
        have ro : out = .error (1, p1.1) := by
          rcases r2 with r2 | r2
          · exact r2.2
          · exact absurd r2.1 ic
        refine bN S60 (bN S62 (bN S61 ?_))
        rw [a3]
        exact m_fail (f := 1) hw3 k3.2.2.2.1 (fun h4 e4 => ⟨rfl, e4.1.2, hf 1 p1.1 h4 ro (by decide) (by decide) (e3'.fl (e4.qx (m3.bd tw))).e⟩)
end MT2
