section LM2
variable {l : Launch} {G : gG} {d : Nat} {Q : Option Value → gH → Prop} {h h0 : gH} {lk sp : Nat} {cd : Option Nat} {t : Nat → Nat} {n s k c i f w : Nat} {b B : Bool}
theorem nj_t : nj t n s = true ↔ s < n ∧ (cls (t s) = 1 ∨ cls (t s) = 2) ∧ nx t n s = tks t n s := by unfold nj; rw [decide_eq_true_iff]
/-- it reads on behind a word, behind digits -/
theorem MTk.nxt (hs : s < n) (hc : cls (t s) = 1 ∨ cls (t s) = 2) (h3 : h.1 82 3 = nI n) (h5 : h.1 82 5 = 0) (h2 : h.1 82 2 = nI (tks t n s)) (h4 : h.1 82 4 = nI (tks t n s)) : MTk t n (nx t n s) (nj t n s) h := by
  have a := skp_le (t := t) (n := n) (p := tks t n s)
  have e : nx t n s = skp t n (tks t n s) := rfl
  refine ⟨nx_le (by omega), nx_s, h3, h5, tks t n s, tks t n s + 1, a, rfl, by omega, h2, by rw [i_s1]; exact h4, ?_⟩
  rw [nj_t]
  constructor
  · rintro ⟨_, _, q⟩; omega
  · intro q; exact ⟨hs, hc, by omega⟩
theorem m_takes (hw : gWf h lk sp cd) (tw : TWf t n) (tp : TPm t h) (k : MTk t n s b h) (hi : i < 40) (hs : gSH[w]? = some (22, wln i)) (w82 : w ≠ 82) (hl : ∀ j, j < wln i → h.1 w j = nI (96 + wlt i j)) (hy : ∀ h', isW t n i (s, b) → MLx h h' → MTk t n (nx t n s) (nj t n s) h' → Q (some (.int 1)) h') (hn : ∀ h', ¬ isW t n i (s, b) → MLx h h' → MTk t n s b h' → h'.1 82 2 = nI s → Q (some (.int 0)) h') : gC l G (d + 2) MX12_takes [.ref 82, .ref w] h Q := by
  have n16 := tw.1
  refine eX12_takes hw hs (m_isHere hw tw tp k hi hs w82 hl (fun h1 e1 k1 a1 z => ⟨_, rfl, e1.1.2, bN' (by decide) (hy _ z ((e1.si (by decide)).si (by decide)) ?_)⟩) (fun h1 e1 k1 a1 z => ⟨_, rfl, e1.1.2, bY' rfl (hn h1 z e1 k1 a1)⟩))
  have q : s < n ∧ cls (t s) = 1 ∧ b = false := (tkk_w.mp ⟨z.1, tw.2⟩).1
  have hg := tks_gt (t := t) q.1
  have zl : tks t n s - s = wln i := z.2.1
  have e9 : nI s + Int32.ofNat (wln i) = nI (tks t n s) := by
    rw [show Int32.ofNat (wln i) = nI (wln i) from rfl, nI_add, show s + wln i = tks t n s by omega]
  rw [a1, e9]
  exact MTk.nxt q.1 (Or.inl q.2.1) (by rw [sI_nb (by decide), sI_nb (by decide)]; exact k1.2.2.1) (by rw [sI_nb (by decide), sI_nb (by decide)]; exact k1.2.2.2.1) (by rw [sI_nb (by decide), sI_s]) (sI_s _ _ _ _)
theorem m_asks (hw : gWf h lk sp cd) (tw : TWf t n) (tp : TPm t h) (k : MTk t n s b h) (hi : i < 40) (hs : gSH[w]? = some (22, wln i)) (w82 : w ≠ 82) (hl : ∀ j, j < wln i → h.1 w j = nI (96 + wlt i j)) (hy : ∀ p' h', wdF t n i (s, b) = .ok p' → MLx h h' → MTk t n p'.1 p'.2 h' → Q none h') (hn : ∀ f q h', wdF t n i (s, b) = .error (f, q) → MFl f q h h' → Q none h') : gC l G (d + 3) MX12_asks [.ref 82, .ref w] h Q := by
  refine eX12_asks hw hs (bY' k.2.2.2.1 (m_takes hw tw tp k hi hs w82 hl (fun h1 z e1 k1 => ⟨_, rfl, e1.1.2, bN' (by decide) (hy (nx t n s, nj t n s) h1 (if_pos z) e1 k1)⟩) (fun h1 z e1 k1 a1 => ⟨_, rfl, e1.1.2, bY' rfl ?_⟩)))
  rw [a1]
  exact m_fail (f := 1) (hw.eq e1.1) k1.2.2.2.1 (fun h2 e2 => ⟨rfl, e2.1.2, hn 1 s h2 (if_neg z) (e1.fl e2)⟩)
theorem m_takesSign (hw : gWf h lk sp cd) (tw : TWf t n) (tp : TPm t h) (k : MTk t n s b h) (hc : cls c = 3) (hc2 : c < 256) (hy : ∀ h', tkk t n s b = c → MLx h h' → MTk t n (nx t n s) (nj t n s) h' → h'.1 82 2 = nI (s + 1) → Q (some (.int 1)) h') (hn : ∀ h', tkk t n s b ≠ c → MLx h h' → MTk t n s b h' → h'.1 82 2 = nI s → Q (some (.int 0)) h') : gC l G (d + 1) MX12_takesSign [.ref 82, .int (nI c)] h Q := by
  have n16 := tw.1
  have ts := tw.2 s
  refine eX12_takesSign hw (bY' k.2.2.2.1 (m_look hw tw tp k (fun h1 e1 k1 a1 => ⟨_, rfl, e1.1.2, ?_⟩)))
  have zc : (if s < n then nI (t s) else -1) = nI c ↔ tkk t n s b = c := by
    rw [tkk_c hc hc2]
    by_cases z : s < n
    · rw [if_pos z, nI_eq (by omega) (by omega)]; exact ⟨fun q => ⟨z, q⟩, fun q => q.2⟩
    · rw [if_neg z]; exact ⟨fun q => absurd q.symm (i_nm1 (by omega)), fun q => absurd q.1 z⟩
  rw [zc, a1, nI_1]
  refine ⟨fun z => hy _ z (e1.si (by decide)) ?_ (sI_s _ _ _ _), fun z => hn h1 z e1 k1 a1⟩
  obtain ⟨z1, z2⟩ := (tkk_c hc hc2).mp z
  have etk : tks t n s = s + 1 := by unfold tks; rw [if_neg (by omega), if_neg (by rw [z2]; omega), if_neg (by rw [z2]; omega)]
  obtain ⟨e9, e9l, e9h, e9b⟩ := k1.at a1
  have a := skp_le (t := t) (n := n) (p := tks t n s)
  have e : nx t n s = skp t n (tks t n s) := rfl
  refine ⟨nx_le (by omega), nx_s, by rw [sI_nb (by decide)]; exact k1.2.2.1, by rw [sI_nb (by decide)]; exact k1.2.2.2.1, s + 1, e9, by omega, by rw [e, etk], by omega, sI_s _ _ _ _, by rw [sI_nb (by decide)]; exact e9h, ?_⟩
  rw [nj_t]
  constructor
  · rintro ⟨_, q, _⟩; rw [z2] at q; omega
  · intro q; omega
theorem m_asksSign (hw : gWf h lk sp cd) (tw : TWf t n) (tp : TPm t h) (k : MTk t n s b h) (hc : cls c = 3) (hc2 : c < 256) (hy : ∀ p' h', sgF t n c (s, b) = .ok p' → MLx h h' → MTk t n p'.1 p'.2 h' → Q none h') (hn : ∀ f q h', sgF t n c (s, b) = .error (f, q) → MFl f q h h' → Q none h') : gC l G (d + 2) MX12_asksSign [.ref 82, .int (nI c)] h Q := by
  refine eX12_asksSign hw (bY' k.2.2.2.1 (m_takesSign hw tw tp k hc hc2 (fun h1 z e1 k1 _ => ⟨_, rfl, e1.1.2, bN' (by decide) (hy (nx t n s, nj t n s) h1 (if_pos z) e1 k1)⟩) (fun h1 z e1 k1 a1 => ⟨_, rfl, e1.1.2, bY' rfl ?_⟩)))
  rw [a1]
  exact m_fail (f := 1) (hw.eq e1.1) k1.2.2.2.1 (fun h2 e2 => ⟨rfl, e2.1.2, hn 1 s h2 (if_neg z) (e1.fl e2)⟩)
theorem m_number {lo hi : Nat} (hw : gWf h lk sp cd) (tw : TWf t n) (tp : TPm t h) (k : MTk t n s b h) (hlo : lo < 2 ^ 29) (hhi : hi < 2 ^ 29) (hy : ∀ v p' h', numF t n lo hi (s, b) = .ok (v, p') → MLx h h' → MTk t n p'.1 p'.2 h' → h'.1 82 10 = nI s → Q (some (.int (nI v))) h') (hn : ∀ f q h' x, numF t n lo hi (s, b) = .error (f, q) → MFl f q h h' → Q (some (.int x)) h') : gC l G (d + 1) MX12_number [.ref 82, .int (nI lo), .int (nI hi - 1)] h Q := by
  have n16 := tw.1
  unfold numF at hy hn
  refine eX12_number hw (fun p9 e9 s9 m9 args9 below9 meth9 cc9 => bY k.2.2.2.1 (m_look hw tw tp k (fun h1 e1 k1 a1 => ⟨_, rfl, e1.1.2, ?_⟩)))
  have hw1 := hw.eq e1.1
  have tp1 := tp.ml e1.1
  have b1 := k1.2.2.2.1
  have a3 := k1.2.2.1
  have sn := k1.1
  obtain ⟨e0, e0l, e0h, e0b⟩ := k1.at a1
  refine m_digitS hw1 tw (fun z1 z2 => ⟨_, rfl, rfl, bN (by decide) ?_⟩) (fun z => ⟨_, rfl, rfl, bY rfl ?_⟩)
  · rw [a1, e0h, show nI s = nI e0 - 1 ↔ e0 = s + 1 from ⟨fun q => (i_eqs (by omega) (by omega)).mp q.symm, fun q => ((i_eqs (by omega) (by omega)).mpr q).symm⟩]
    refine ⟨fun y => ?_, fun y => ?_⟩
    · have bf : b = false := by
        cases hb : b with
        | false => rfl
        | true => exact absurd (e0b.mp hb) y
      have kd : tkk t n s b = 1002 := (tkk_d.mpr ⟨⟨z1, z2, bf⟩, tw.2⟩).1
      rw [if_pos kd] at hy hn
      have etk : tks t n s = rn t n 2 s := by unfold tks; rw [if_neg (by omega), if_neg (by omega), if_pos z2]
      have tl := tks_le (t := t) k1.1
      have hg := tks_gt (t := t) z1
      have dg9 : ∀ j, j < tks t n s - s → cls (t (s + j)) = 2 := fun j hj => (rn_in (t := t) (n := n) (q := 2) s (s + j) (by omega) (by omega)).2
      -- the end of the digits
      have fin : ∀ h' j, j ≤ 4 → tks t n s = s + j → MLx h h' → h'.1 82 2 = nI (s + j) → gC l G d MX12_isIn [.long (nI (nvl t s j)).toInt64, .long (nI lo).toInt64, .long (nI hi - 1).toInt64] (sI (sI h' 82 4 (h'.1 82 2)) 82 10 (nI s)) (rI fun v1 h1 => h1.2.2 = (sI (sI h' 82 4 (h'.1 82 2)) 82 10 (nI s)).2.2 ∧ ((¬ v1 = 0 → Q (some (.int (nI (nvl t s j)))) h1) ∧ (v1 = 0 → gC l G d MX12_fail [.ref 82, .int 2, .int (nI s)] h1 (rV fun h2 => h2.2.2 = h1.2.2 ∧ Q (some (.int (nI (nvl t s j)))) h2)))) := fun h' j j4 ej e2 a2 => by
        have tj : tks t n s - s = j := by omega
        rw [tj] at hy hn
        rw [if_pos j4] at hy hn
        have vl := nvl_lt (t := t) (s := s) j (fun i hi => dg9 i (by omega))
        have p4 : 10 ^ j ≤ 10 ^ 4 := Nat.pow_le_pow_right (by decide) j4
        rw [a2]
        have e3 : MLx h (sI (sI h' 82 4 (nI (s + j))) 82 10 (nI s)) := (e2.si (by decide)).si (by decide)
        have m3 : (sI (sI h' 82 4 (nI (s + j))) 82 10 (nI s)).1 82 5 = 0 := (e3.2.1 5 (by decide)).trans k.2.2.2.1
        have hy := hy (nvl t s j) (nx t n s, nj t n s) (sI (sI h' 82 4 (nI (s + j))) 82 10 (nI s))
        have hn := hn 2 s
        refine c_isInI (nI lo) (nI hi - 1) (hw.eq e3.1) (fun q1 q2 => ⟨_, rfl, rfl, bN' (by decide) (hy ?_ e3 (MTk.nxt z1 (Or.inr z2) ((e3.2.1 3 (by decide)).trans k.2.2.1) m3 ?_ ?_) (sI_s _ _ _ _))⟩) (fun q => ⟨_, rfl, rfl, bY' rfl (m_fail (f := 2) (hw.eq e3.1) m3 (fun h2 e4 => ⟨rfl, e4.1.2, hn h2 _ ?_ (e3.fl e4)⟩))⟩)
        · rw [nI_leI (by omega) (by omega)] at q1
          rw [i_le1 (by omega) (by omega)] at q2
          have : lo ≤ nvl t (s, b).1 j ∧ nvl t (s, b).1 j < hi := ⟨q1, q2⟩
          rw [if_pos this]
        · rw [sI_nb (by decide), sI_nb (by decide), a2, ej]
        · rw [sI_nb (by decide), sI_s, ej]
        · have : ¬ (lo ≤ nvl t (s, b).1 j ∧ nvl t (s, b).1 j < hi) := fun w => q ⟨(nI_leI (by omega) (by omega)).mpr w.1, (i_le1 (by have : nvl t s j < hi := w.2; omega) (by omega)).mpr w.2⟩
          rw [if_neg this]
      have step : ∀ j h', j ≤ 4 → s + j ≤ tks t n s → MLx h h' → h'.1 82 2 = nI (s + j) → ∀ (nxt : s + j < tks t n s → j < 4 → gg p9 l e9 s9 m9 args9 below9 meth9 cc9 G (d + 1) MX12_number Q 49 [some (.ref 82), some (.int (nI lo)), some (.int (nI hi - 1)), some (.int (nI s)), some (.int (nI (nvl t s (j + 1))))] [] (sI h' 82 2 (nI (s + (j + 1))))), gg p9 l e9 s9 m9 args9 below9 meth9 cc9 G (d + 1) MX12_number Q 49 [some (.ref 82), some (.int (nI lo)), some (.int (nI hi - 1)), some (.int (nI s)), some (.int (nI (nvl t s j)))] [] h' := fun j h' hr hj e2 a2 nxt => by
        have hwh := hw.eq e2.1
        have tph := tp.ml e2.1
        have a3' : h'.1 82 3 = nI n := (e2.2.1 3 (by decide)).trans k.2.2.1
        have b5' : h'.1 82 5 = 0 := (e2.2.1 5 (by decide)).trans k.2.2.2.1
        have endj : ¬ (s + j < n ∧ cls (t (s + j)) = 2) → tks t n s = s + j := fun z => by
          have : rn t n 2 s = rn t n 2 (s + j) := rn_fix s (s + j) (by omega) (fun x x1 x2 => rn_in (t := t) (n := n) (q := 2) s x x1 (by omega))
          rw [etk, this, rn_n z]
        refine wX12_number_49 hwh.1 hwh.2.1 hwh.2.2.1 ?_
        by_cases z : s + j < n
        · have tj := tw.2 (s + j)
          refine bN (by rw [a3', a2]; exact nI_ge z (by omega)) ?_
          rw [a2]
          refine ⟨vp_in_nI (by omega) (by decide), ?_⟩
          rw [nI_clamp (by omega), tph.1 _ (by omega)]
          refine m_isDigit hwh (fun c e q => ⟨_, rfl, rfl, bN (by decide) ?_⟩) (fun q => ⟨_, rfl, rfl, bY rfl (fin h' j (by omega) (endj (fun v => q (t (s + j)) tj rfl v.2)) e2 a2)⟩)
          have c9 := cls2.mp q
          have : t (s + j) = c := (nI_eq (by omega) (by omega)).mp e
          subst this
          have lj : s + j < tks t n s := by
            rcases Nat.lt_or_ge (s + j) (tks t n s) with w | w
            · exact w
            · have : tks t n s = s + j := by omega
              have er := rn_end (t := t) (n := n) (q := 2) s
              rw [← etk, this] at er
              exact absurd ⟨z, q⟩ er
          have z4 : nI (s + j) - nI s = 4 ↔ j = 4 := by rw [pk_sub (by omega)]; exact (nI_eq (b := 4) (by omega) (by decide)).trans (by omega)
          have vl := nvl_lt (t := t) (s := s) j (fun i hi => dg9 i (by omega))
          have p4 : 10 ^ j ≤ 10 ^ 4 := Nat.pow_le_pow_right (by decide) (by omega)
          rw [a2, z4, nI_clamp (by omega), tph.1 _ (by omega), nI_1]
          refine ⟨fun w => ⟨vp_in_nI (by omega) (by decide), ?_⟩, fun w => m_fail (f := 1) hwh b5' (fun h2 e4 => ⟨rfl, e4.1.2, hn 1 (s + j) h2 0 ?_ (e2.fl e4)⟩)⟩
          · have ev : (10 : Int32) * nI (nvl t s j) + nI (t (s + j)) - 48 = nI (nvl t s (j + 1)) := by
              rw [lit 10, pk_mul, nI_add, lit 48, pk_sub (by omega)]
              congr 1
              show _ = 10 * nvl t s j + (t (s + j) - 48)
              omega
            rw [ev]
            exact nxt lj (by omega)
          · rw [if_neg (show ¬ tks t n (s, b).1 - (s, b).1 ≤ 4 by show ¬ tks t n s - s ≤ 4; omega), w]
        · exact bY (by rw [a3', a2]; exact nI_le (by omega) (by omega)) (fin h' j (by omega) (endj (fun v => z v.1)) e2 a2)
      suffices H : ∀ r j h', j + r = 4 → s + j ≤ tks t n s → MLx h h' → h'.1 82 2 = nI (s + j) → gg p9 l e9 s9 m9 args9 below9 meth9 cc9 G (d + 1) MX12_number Q 49 [some (.ref 82), some (.int (nI lo)), some (.int (nI hi - 1)), some (.int (nI s)), some (.int (nI (nvl t s j)))] [] h' from H 4 0 h1 (by omega) (by omega) e1 a1
      intro r
      induction r with
      | zero => exact fun j h' hr hj e2 a2 => step j h' (by omega) hj e2 a2 (fun _ w => by omega)
      | succ r ih => exact fun j h' hr hj e2 a2 => step j h' (by omega) hj e2 a2 (fun lj _ => ih (j + 1) _ (by omega) (by omega) (e2.si (by decide)) (sI_s _ _ _ _))
    · have kd : tkk t n s b ≠ 1002 := fun q => by
        have := (tkk_d.mp ⟨q, tw.2⟩).1.2.2
        rw [e0b.mpr y] at this
        exact absurd this (by decide)
      rw [if_neg kd] at hn
      exact m_fail (f := 1) hw1 b1 (fun h2 e2 => ⟨rfl, e2.1.2, hn 1 s h2 0 rfl (e1.fl e2)⟩)
  · have kd : tkk t n s b ≠ 1002 := fun q => by
      have := (tkk_d.mp ⟨q, tw.2⟩).1
      exact z ⟨this.1, this.2.1⟩
    rw [if_neg kd] at hn
    rw [a1]
    exact m_fail (f := 1) hw1 b1 (fun h2 e2 => ⟨rfl, e2.1.2, hn 1 s h2 0 rfl (e1.fl e2)⟩)
end LM2
