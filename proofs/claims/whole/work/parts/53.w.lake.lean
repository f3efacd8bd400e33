section MW
variable {l : Launch} {G : gG} {d : Nat} {Q : Option Value → gH → Prop} {h h1 h2 : gH} {lk sp : Nat} {cd : Option Nat} {t : Nat → Nat} {n s i f q c b w z : Nat} {u : Bool} {L : qL} {a1 a2 : Int32} {out : sOut}
theorem m_kindM {x : Nat} (hw : gWf h lk sp cd) (hx : x < 256) (hq : Q (some (.int (if kdl x = 0 then -1 else nI (mkd (kdl x - 1))))) h) : gC l G d MX12_kindOf [.int (nI x)] h Q := by
  have E : ∀ y, y < 256 → (nI x = nI y ↔ x = y) := fun y hy => nI_eq (by omega) (by omega)
  refine eX12_kindOf hw ⟨fun e => ?_, fun e => ?_, fun e => ?_, fun e => ?_, fun e => ?_, fun n1 n2 n3 n4 n5 => ?_⟩
  · rw [(E 100 (by decide)).mp e] at hq; exact hq
  · rw [(E 104 (by decide)).mp e] at hq; exact hq
  · rw [(E 108 (by decide)).mp e] at hq; exact hq
  · rw [(E 115 (by decide)).mp e] at hq; exact hq
  · rw [(E 119 (by decide)).mp e] at hq; exact hq
  · have : kdl x = 0 := by
      have m1 : x ≠ 100 := fun y => n1 ((E 100 (by decide)).mpr y)
      have m2 : x ≠ 104 := fun y => n2 ((E 104 (by decide)).mpr y)
      have m3 : x ≠ 108 := fun y => n3 ((E 108 (by decide)).mpr y)
      have m4 : x ≠ 115 := fun y => n4 ((E 115 (by decide)).mpr y)
      have m5 : x ≠ 119 := fun y => n5 ((E 119 (by decide)).mpr y)
      unfold kdl
      rw [if_neg m2, if_neg m4, if_neg m1, if_neg m5, if_neg m3]
    rw [if_pos this] at hq
    exact hq
/-- the model is told of a row -/
theorem m_rowTold (hw : gWf h lk sp cd) (tw : TWf t n) (tp : TPm t h) (k : MTk t n (nx t n s) (nj t n s) h) (lm : LMp L h) (g : qG L.1) (hC : 3 ≤ qC L.1) (r : (qR L.1 = 6 ∧ out = .error (5, s)) ∨ (qR L.1 ≠ 6 ∧ roR t n L (s, u) out))
    (hy : ∀ L' p' h', out = .ok (L', p') → MPs h h' → MTk t n p'.1 p'.2 h' → LMp L' h' → Q none h')
    (hn : ∀ f q h', out = .error (f, q) → 1 ≤ f ∧ f ≤ 5 → MPf f q h h' → Q none h') : gC l G (d + 2) MX12_rowTold [.ref 82, .int (nI s)] h Q := by
  have n16 := tw.1
  have C8 := g.C8
  have R6 := g.R6
  refine eX12_rowTold hw (fun p e s9 m args below meth cc => m_isFull (d := d) (k := 1) (m := 6) hw k.2.2.2.1 (by decide) lm.2.1 (by omega) (by decide) (fun h1 v6 e1 => ⟨_, rfl, e1.1.2, bN (by decide) (hn 5 s h1 ?_ (by decide) e1.px)⟩) (fun v6 => ⟨_, rfl, rfl, bY rfl ?_⟩))
  · rcases r with r | r
    · exact r.2
    · exact absurd v6 r.1
  have r : roR t n L (s, u) out := by
    rcases r with r | r
    · exact absurd r.1 v6
    · exact r.2
  have R5 : qR L.1 < 6 := by omega
  refine m_look hw tw tp k (fun h2 e2 k2 a2' => ⟨_, rfl, e2.1.2, ?_⟩)
  generalize hs1 : nx t n s = s1 at *
  generalize hu1 : nj t n s = u1 at *
  have hw2 := hw.eq e2.1
  have sn := k2.1
  have tp2 := tp.ml e2.1
  obtain ⟨e9, e9l, e9h, e9b⟩ := k2.at a2'
  have lm2 := lm.ml e2
  have le := rn_le (t := t) (n := n) (q := 1) s1
  have ln := rn_len (t := t) (q := 1) s1 sn
  have bad : ∀ h', gWf h' lk sp cd → MPs h h' → h'.1 82 5 = 0 → ¬ (tkk t n s1 u1 = 1001 ∧ tks t n s1 - s1 = qC L.1 ∧ ∀ i, i < qC L.1 → kdl (t (s1 + i)) ≠ 0) → gC l G (d + 1) MX12_fail [.ref 82, .int 1, .int (nI s1)] h' (rV fun h1 => h1.2.2 = h'.2.2 ∧ Q none h1) := fun h' hw' e' z5 no =>
    m_fail (f := 1) hw' z5 (fun h3 e3 => ⟨rfl, e3.1.2, hn 1 s1 h3 (by
      rcases r with ⟨_, ro⟩ | ⟨y, _⟩
      · rw [hs1] at ro; exact ro
      · rw [hs1, hu1] at y; exact absurd y no) (by decide) (e'.fl e3.px)⟩)
  have H : ∀ r i x4 h', i + r = rn t n 1 s1 - s1 → gWf h' lk sp cd → gEq [82, 121] h2 h' → (∀ j, j ≠ 2 → h'.1 82 j = h2.1 82 j) → h'.2.1 82 = h2.2.1 82 → h'.1 82 2 = nI (s1 + i) → (∀ y, 8 * qR L.1 ≤ y → y < 8 * qR L.1 + qC L.1 ∨ h'.1 121 y = h2.1 121 y) → (∀ y, y < 8 * qR L.1 → h'.1 121 y = h2.1 121 y) → ((x4 = (0 : Int32) ∧ ¬ (tkk t n s1 u1 = 1001 ∧ tks t n s1 - s1 = qC L.1 ∧ ∀ i, i < qC L.1 → kdl (t (s1 + i)) ≠ 0)) ∨ (x4 = 1 ∧ u1 = false ∧ i ≤ qC L.1 ∧ ∀ j, j < i → kdl (t (s1 + j)) ≠ 0 ∧ h'.1 121 (8 * qR L.1 + j) = nI (mkd (kdl (t (s1 + j)) - 1)))) → gg p l e s9 m args below meth cc G (d + 2) MX12_rowTold Q 52 [some (.ref 82), some (.int (nI s)), some (.int (nI s1)), some (.int (nI i)), some (.int x4)] [] h' := by
    have GE : tkk t n s1 u1 = 1001 → tks t n s1 = rn t n 1 s1 := fun kw => by
      obtain ⟨z1, z2, -⟩ := (tkk_w.mp ⟨kw, tw.2⟩).1
      unfold tks
      rw [if_neg (by omega), if_pos z2]
    have EP : ∀ h', gEq [82, 121] h2 h' → (∀ j, j ≠ 2 → h'.1 82 j = h2.1 82 j) → h'.2.1 82 = h2.2.1 82 → (∀ y, 8 * qR L.1 ≤ y → y < 8 * qR L.1 + qC L.1 ∨ h'.1 121 y = h2.1 121 y) → MPs h h' := fun h' b1 b2 b3 b4 => e2.px.tr ⟨⟨b1.mono (fun x hx => by simp at hx ⊢; omega), fun j hj => b2 j (fun y => hj (by rw [y]; decide)), b3, fun a x y i hi => by
      by_cases q : a = 121
      · subst q
        have hi : 48 ≤ i := hi
        refine ⟨?_, fun z => absurd z (by decide)⟩
        rcases b4 i (by omega) with z | z
        · omega
        · exact z
      · have := b1.1 a (by simp; omega)
        exact ⟨by rw [this.1], fun _ => by rw [this.2]⟩⟩, b2 6 (by decide)⟩
    intro r9
    induction r9 with
    | zero =>
      intro i x4 h' hi hw' b1 b2 b3 b5 b4 b6 b7
      have z5 : h'.1 82 5 = 0 := (b2 5 (by decide)).trans k2.2.2.2.1
      have z3 : h'.1 82 3 = nI n := (b2 3 (by decide)).trans k2.2.2.1
      have E19 : h'.1 119 = h2.1 119 := (b1.1 119 (by decide)).1
      have E' := EP h' b1 b2 b3 b4
      have fin : (x4 = 0 → gC l G (d + 1) MX12_fail [.ref 82, .int 1, .int (nI s1)] h' (rV fun h1 => h1.2.2 = h'.2.2 ∧ Q none h1)) ∧ (¬ x4 = 0 → ((nI i = h'.1 119 0 → Q none (sI (sI h' 82 4 (h'.1 82 2)) 119 1 ((h'.1 119 1) + 1))) ∧ (¬ nI i = h'.1 119 0 → gC l G (d + 1) MX12_fail [.ref 82, .int 1, .int (nI s1)] h' (rV fun h2 => h2.2.2 = h'.2.2 ∧ Q none h2)))) := by
        rcases b7 with ⟨x0, no⟩ | ⟨x1, uf, iC, st⟩
        · exact bY x0 (bad h' hw' E' z5 no)
        · refine bN (by rw [x1]; decide) ?_
          rw [E19, lm2.1, lm2.2.1, nI_eq (by omega) (by omega), b5, nI_1]
          refine ⟨fun ic => ?_, fun ic => bad h' hw' E' z5 (fun y => ic (by have := GE y.1; omega))⟩
          obtain ⟨z1, z2⟩ := rn_in (t := t) (n := n) (q := 1) s1 s1 (Nat.le_refl _) (by omega)
          have kw : tkk t n s1 u1 = 1001 := (tkk_w.mpr ⟨⟨z1, z2, uf⟩, tw.2⟩).1
          have tk := GE kw
          have ro : out = .ok ((rowA t L.1 s1, L.2), (nx t n s1, nj t n s1)) := by
            rcases r with ⟨y, _⟩ | ⟨_, ro⟩
            · rw [hs1, hu1] at y
              exact absurd ⟨kw, by omega, fun j hj => (st j (by omega)).1⟩ y
            · rw [hs1] at ro; exact ro
          have e82 : ∀ j, j ≠ 4 → (sI (sI h' 82 4 (nI (s1 + i))) 119 1 (nI (qR L.1 + 1))).1 82 j = h'.1 82 j := fun j hj => by rw [sI_ne (by decide), sI_nb hj]
          refine hy _ _ _ ro ⟨(E'.1.si82 (by decide)).sx (by decide) (by decide) (by decide), by rw [e82 6 (by decide)]; exact E'.2⟩ (MTk.nxt z1 (Or.inl z2) (by rw [e82 3 (by decide)]; exact z3) (by rw [e82 5 (by decide)]; exact z5) (by rw [e82 2 (by decide), b5, tk]; congr 1; omega) (by rw [sI_ne (by decide), sI_s, tk]; congr 1; omega)) ?_
          have T : ∀ a, a ≠ 82 → a ≠ 119 → a ≠ 121 → (sI (sI h' 82 4 (nI (s1 + i))) 119 1 (nI (qR L.1 + 1))).1 a = h2.1 a := fun a x1 x2 x3 => by rw [sI_na x2, sI_na x1, (b1.1 a (by simp; omega)).1]
          have T9 : ∀ j, j ≠ 1 → (sI (sI h' 82 4 (nI (s1 + i))) 119 1 (nI (qR L.1 + 1))).1 119 j = h2.1 119 j := fun j hj => by rw [sI_nb hj, sI_ne (by decide), E19]
          have T120 : (sI (sI h' 82 4 (nI (s1 + i))) 119 1 (nI (qR L.1 + 1))).2.1 120 = h2.2.1 120 := (b1.1 120 (by decide)).2
          obtain ⟨a1, a2, a3, a4, a5, a6, a7, a8, a9, a10, a11, a12, a13, a14⟩ := lm2
          refine ⟨(T9 0 (by decide)).trans a1, sI_s _ _ _ _, (T9 2 (by decide)).trans a3, (T9 3 (by decide)).trans a4, (T9 4 (by decide)).trans a5, ?_, fun x hx => ?_, fun x hx => ?_, fun x hx => ?_, fun x hx => ?_, fun x hx => ?_, fun x hx => ?_, ?_, fun x hx => ?_⟩
          · rw [T 126 (by decide) (by decide) (by decide)]; exact a6
          · have hx : x < qC L.1 * (qR L.1 + 1) := hx
            rw [Nat.mul_add, Nat.mul_one] at hx
            show (sI (sI h' 82 4 (nI (s1 + i))) 119 1 (nI (qR L.1 + 1))).1 121 (8 * (x / qC L.1) + x % qC L.1) = nI (mkd (if qN L.1 ≤ x then kdl (t (s1 + (x - qN L.1))) - 1 else qkd L.1 x))
            rw [sI_ne (by decide), sI_ne (by decide)]
            have md := Nat.mod_lt x (show 0 < qC L.1 by omega)
            by_cases y : qN L.1 ≤ x
            · rw [if_pos y]
              obtain ⟨j, rfl⟩ : ∃ j, x = qC L.1 * qR L.1 + j := ⟨x - qN L.1, by have : qN L.1 = qC L.1 * qR L.1 := rfl; omega⟩
              have hj : j < qC L.1 := by omega
              have dv : (qC L.1 * qR L.1 + j) / qC L.1 = qR L.1 := by rw [Nat.mul_add_div (by omega), Nat.div_eq_of_lt hj, Nat.add_zero]
              have md : (qC L.1 * qR L.1 + j) % qC L.1 = j := by rw [Nat.mul_add_mod]; exact Nat.mod_eq_of_lt hj
              have sb : qC L.1 * qR L.1 + j - qN L.1 = j := by have : qN L.1 = qC L.1 * qR L.1 := rfl; omega
              rw [dv, md, sb]
              exact (st j (by omega)).2
            · rw [if_neg y]
              have y : x < qN L.1 := by omega
              have dv : x / qC L.1 < qR L.1 := Nat.div_lt_of_lt_mul y
              rw [b6 _ (by omega)]
              exact a7 x y
          · rw [T 122 (by decide) (by decide) (by decide), T120]; exact a8 x hx
          · rw [T 123 (by decide) (by decide) (by decide), T120]; exact a9 x hx
          · rw [T 124 (by decide) (by decide) (by decide)]; exact a10 x hx
          · rw [T 125 (by decide) (by decide) (by decide)]; exact a11 x hx
          · rw [T 127 (by decide) (by decide) (by decide), T 128 (by decide) (by decide) (by decide)]; exact a12 x hx
          · rw [e82 60 (by decide), b2 60 (by decide)]; exact a13
          · rw [T 129 (by decide) (by decide) (by decide)]; exact a14 x hx
      have en := rn_end (t := t) (n := n) (q := 1) s1
      refine wX12_rowTold_52 hw'.1 hw'.2.1 hw'.2.2.1 ⟨fun _ => fin, fun lt => ?_⟩
      rw [z3, b5, nI_leI (by omega) (by omega)] at lt
      have es : s1 + i = rn t n 1 s1 := by omega
      have tb := tw.2 (s1 + i)
      rw [b5, nI_clamp (by omega), (b1.1 83 (by decide)).1, tp2.1 _ (by omega)]
      refine ⟨vp_in_nI (by omega) (by decide), m_isLetter hw' (fun c ec cl => ?_) (fun _ => ⟨_, rfl, rfl, bY rfl fin⟩)⟩
      have c1 := cls1.mp cl
      have : t (s1 + i) = c := (nI_eq (by omega) (by omega)).mp ec
      rw [es] at this
      exact absurd ⟨by omega, by rw [this]; exact cl⟩ en
    | succ r9 ih =>
      intro i x4 h' hi hw' b1 b2 b3 b5 b4 b6 b7
      have z5 : h'.1 82 5 = 0 := (b2 5 (by decide)).trans k2.2.2.2.1
      have z3 : h'.1 82 3 = nI n := (b2 3 (by decide)).trans k2.2.2.1
      have E19 : h'.1 119 = h2.1 119 := (b1.1 119 (by decide)).1
      have E83 : h'.1 83 = h2.1 83 := (b1.1 83 (by decide)).1
      obtain ⟨z1, z2⟩ := rn_in (t := t) (n := n) (q := 1) s1 (s1 + i) (by omega) (by omega)
      have ei : nI i + 1 = nI (i + 1) := by rw [nI_1]
      have es : nI (s1 + i) + 1 = nI (s1 + i + 1) := by rw [nI_1]
      have tb := tw.2 (s1 + i)
      have nxt0 : ¬ (tkk t n s1 u1 = 1001 ∧ tks t n s1 - s1 = qC L.1 ∧ ∀ i, i < qC L.1 → kdl (t (s1 + i)) ≠ 0) → gg p l e s9 m args below meth cc G (d + 2) MX12_rowTold Q 52 [some (.ref 82), some (.int (nI s)), some (.int (nI s1)), some (.int (nI (i + 1))), some (.int 0)] [] (sI h' 82 2 (nI (s1 + i + 1))) := fun no =>
        ih (i + 1) 0 _ (by omega) (hw'.eq (gEq.sI _ _ _ _)) (gE1 (by decide) b1) (fun j hj => by rw [sI_nb hj]; exact b2 j hj) b3 (by rw [sI_s]; rfl) (fun y hy => by rw [sI_ne (by decide)]; exact b4 y hy) (fun y hy => by rw [sI_ne (by decide)]; exact b6 y hy) (Or.inl ⟨rfl, no⟩)
      refine wX12_rowTold_52 hw'.1 hw'.2.1 hw'.2.2.1 (bN (by rw [z3, b5]; exact nI_ge z1 (by omega)) ?_)
      rw [b5, nI_clamp (n := s1 + i) (by omega), E83, tp2.1 _ (by omega)]
      refine ⟨vp_in_nI (by omega) (by decide), m_isLetter hw' (fun c ec cl => ⟨_, rfl, rfl, bN (by decide) ?_⟩) (fun no => absurd z2 (no (t (s1 + i)) tb rfl))⟩
      rw [b5, E19, lm2.1, ei, es, nI_clamp (n := s1 + i) (by omega), E83, tp2.1 _ (by omega)]
      rcases b7 with ⟨x0, no⟩ | ⟨x1, uf, iC, st⟩
      · exact bY x0 (nxt0 no)
      · refine bN (by rw [x1]; decide) ?_
        rw [nI_leI (by omega) (by omega)]
        refine ⟨fun ci => nxt0 (fun y => by have := GE y.1; omega), fun ci => ⟨vp_in_nI (by omega) (by decide), m_kindM hw' tb ⟨_, rfl, rfl, ?_⟩⟩⟩
        rw [b5, es, nI_clamp (n := s1 + i) (by omega), E83, tp2.1 _ (by omega), E19, lm2.2.1]
        have kb := kdl_b (t (s1 + i))
        by_cases k0 : kdl (t (s1 + i)) = 0
        · rw [if_pos k0]
          exact bY rfl (nxt0 (fun y => y.2.2 i (by omega) k0))
        · have mb : mkd (kdl (t (s1 + i)) - 1) < 10 := by unfold mkd; split <;> omega
          rw [if_neg k0]
          refine bN (i_nm1 (by omega)) ⟨vp_in_nI (by omega) (by decide), m_kindM hw' tb ⟨_, rfl, rfl, ?_⟩⟩
          have e8 : 8 * nI (qR L.1) + nI i = nI (8 * qR L.1 + i) := by rw [lit 8, pk_mul, nI_add]
          rw [b5, es, e8, nI_clamp (n := 8 * qR L.1 + i) (by omega), if_neg k0]
          refine ⟨vp_in_nI (by omega) (by decide), ih (i + 1) 1 _ (by omega) ((hw'.eq (gEq.sI _ _ _ _)).eq (gEq.sI _ _ _ _)) (gE1 (by decide) (gE1 (by decide) b1)) (fun j hj => by rw [sI_nb hj, sI_ne (by decide)]; exact b2 j hj) b3 (by rw [sI_s]; rfl) (fun y hy => ?_) (fun y hy => by rw [sI_ne (by decide), sI_nb (by omega)]; exact b6 y hy) (Or.inr ⟨rfl, uf, by omega, fun j hj => ?_⟩)⟩
          · by_cases q : y = 8 * qR L.1 + i
            · exact Or.inl (by omega)
            · rw [sI_ne (by decide), sI_nb q]; exact b4 y hy
          · by_cases q : j = i
            · rw [q, sI_ne (by decide), sI_s]; exact ⟨k0, rfl⟩
            · rw [sI_ne (by decide), sI_nb (by omega)]; exact st j (by omega)
  have Z : ∀ x4, (x4 = (0 : Int32) ∧ u1 = true ∨ x4 = 1 ∧ u1 = false) → gg p l e s9 m args below meth cc G (d + 2) MX12_rowTold Q 52 [some (.ref 82), some (.int (nI s)), some (.int (nI s1)), some (.int 0), some (.int x4)] [] h2 := fun x4 hx =>
    H (rn t n 1 s1 - s1) 0 x4 h2 (by omega) hw2 (gEq.rf _ _) (fun _ _ => rfl) rfl a2' (fun _ _ => Or.inr rfl) (fun _ _ => rfl) (by
      rcases hx with ⟨x0, ut⟩ | ⟨x1, uf⟩
      · refine Or.inl ⟨x0, fun y => ?_⟩
        have := (tkk_w.mp ⟨y.1, tw.2⟩).1.2.2
        rw [ut] at this
        cases this
      · exact Or.inr ⟨x1, uf, by omega, fun _ y => absurd y (Nat.not_lt_zero _)⟩)
  have q24 : nI s1 = nI e9 - 1 ↔ u1 = true := ⟨fun q => e9b.mpr ((i_eqs (by omega) (by omega)).mp q.symm), fun q => ((i_eqs (by omega) (by omega)).mpr (e9b.mp q)).symm⟩
  have uf : ¬ u1 = true → u1 = false := fun q => by cases u1 <;> simp_all
  rw [a2', e9h, k2.2.2.1, q24]
  by_cases z : s1 < n
  · have tb := tw.2 s1
    rw [if_pos z]
    exact bN' (i_nm1 (by omega)) ⟨fun q => Z 0 (Or.inl ⟨rfl, q⟩), fun q => Z 1 (Or.inr ⟨rfl, uf q⟩)⟩
  · rw [if_neg z, show n = s1 by omega]
    exact bY' rfl ⟨fun q => Z 0 (Or.inl ⟨rfl, q⟩), fun q => Z 1 (Or.inr ⟨rfl, uf q⟩)⟩
end MW
