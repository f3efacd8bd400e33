/-- what the words of sums tell -/
def vals (A F : qT) (b c bo fe : Nat) (u : Nat) : Nat := if u = 16 then qdp A c else if u = 17 then qwr A c else if u = 18 then qhm A c (qN A) else if u = 19 then (qsky A (fH F) (qK A)).2 else if u = 20 then fb F b else if u = 6 then qsx A (fh F b) else if u = 21 then (if bo = 0 then 0 else 1) else if u = 22 then bo - 1 else if u = 3 then ft F b else if u = 23 then fe else 0
theorem gE1 {L : List Nat} {k i : Nat} {x : Int32} {h h' : gH} (hk : k ∈ L) (e : gEq L h h') : gEq L h (sI h' k i x) :=
  (e.tr (gEq.sI h' k i x)).mono (fun y hy => by
    simp only [List.mem_append, List.mem_singleton] at hy
    rcases hy with hy | hy
    · exact hy
    · rw [hy]; exact hk)
section FE
variable {l : Launch} {G : gG} {d : Nat} {Q : Option Value → gH → Prop} {h h0 : gH} {lk sp : Nat} {cd : Option Nat} {A F : qT} {T b c bo fe : Nat}
theorem qdp_le (g : qG A) : qdp A c ≤ 2 := by unfold qdp; split; omega; omega
theorem qwr_le : qwr A c ≤ 1 := by unfold qwr; split <;> omega
theorem qsx_le (g : qG A) {x : Nat} (hx : x ≤ qH A) : qsx A x ≤ 9 := by
  unfold qsx
  split
  · omega
  · exact g.sk _ (by omega)
theorem vals_le (g : qG A) (hf : fG A F) (hb : b < qB A) (hbo : bo ≤ 100) (hfe : fe ≤ 99) (u : Nat) : vals A F b c bo fe u ≤ 99 := by
  have h1 := qdp_le (c := c) g
  have h2 := qwr_le (A := A) (c := c)
  have h3 := qhm_lt (A := A) c (qN A)
  have h4 := (qsky_lt g (fH F) (qK A) (Nat.le_refl _)).2
  obtain ⟨-, -, h5, h6, h7⟩ := hf.2.2.2.1 b hb
  have h8 := qsx_le g h7
  unfold vals
  repeat' split
  all_goals omega
theorem vals_m (g : qG A) (hf : fG A F) (hb : b < qB A) (hbo : bo ≤ 100) (hfe : fe ≤ 99) (u : Nat) : mil (vals A F b c bo fe u : Nat) := by
  have := vals_le (c := c) g hf hb hbo hfe u
  constructor <;> omega
theorem c_look (hw : gWf h lk sp cd) (k : KC A F T lk h) (hb : b < qB A) (hc : c < qN A) (hbo : bo ≤ 100) (hq : ∀ h', gEq [46] h h' → (∀ fe u, u ∈ [16, 17, 18, 19, 20, 6, 21, 22] → h'.1 46 u = nI (vals A F b c bo fe u)) → Q none h') : gC l G (d + 3) MX9_look [.ref 29, .int (nI b), .int (nI c), .int (nI bo - 1)] h Q := by
  have kk : ∀ {h'}, gEq [46] h h' → KC A F T lk h' := fun e => k.eq hw e (fun x hx => by simp at hx; omega)
  have ww : ∀ {h'}, gEq [46] h h' → gWf h' lk sp cd := fun e => hw.eq e
  have g := k.g
  have e0 : gEq [46] h h := gEq.rf _ _
  refine eX9_look hw (c_depthOf hw g k.l hc ⟨_, rfl, rfl, ?_⟩)
  have e1 := gE1 (i := 16) (x := nI (qdp A c)) (List.mem_singleton.mpr rfl) e0
  refine c_wreckIn (ww e1) g (kk e1).l hc ⟨_, rfl, rfl, ?_⟩
  have e2 := gE1 (i := 17) (x := nI (qwr A c)) (List.mem_singleton.mpr rfl) e1
  refine c_homeOf (ww e2) g (kk e2).l hc ⟨_, rfl, rfl, ?_⟩
  have e3 := gE1 (i := 18) (x := nI (qhm A c (qN A))) (List.mem_singleton.mpr rfl) e2
  refine c_hour (ww e3) (kk e3) ⟨_, rfl, rfl, c_skyAt (ww e3) g (kk e3).l k.f.1 ⟨_, rfl, rfl, ?_⟩⟩
  have e4 := gE1 (i := 19) (x := nI (qsky A (fH F) (qK A)).2) (List.mem_singleton.mpr rfl) e3
  refine c_balksOf (ww e4) (kk e4) hb ⟨_, rfl, rfl, ?_⟩
  have e5 := gE1 (i := 20) (x := nI (fb F b)) (List.mem_singleton.mpr rfl) e4
  refine c_handOf (ww e5) (kk e5) hb ⟨_, rfl, rfl, c_skillOf (ww e5) g (kk e5).l (k.f.2.2.2.1 b hb).2.2.2.2 ⟨_, rfl, rfl, ?_⟩⟩
  have fin : ∀ x y : Int32, x = nI (if bo = 0 then 0 else 1) → y = nI (bo - 1) → Q none (sI (sI (sI (sI (sI (sI (sI (sI h 46 16 (nI (qdp A c))) 46 17 (nI (qwr A c))) 46 18 (nI (qhm A c (qN A)))) 46 19 (nI (qsky A (fH F) (qK A)).2)) 46 20 (nI (fb F b))) 46 6 (nI (qsx A (fh F b)))) 46 21 x) 46 22 y) := fun x y hx hy => by
    refine hq _ ?_ (fun fe u hu => ?_)
    · exact gE1 (by decide) (gE1 (by decide) (gE1 (by decide) e5))
    · simp only [List.mem_cons, List.not_mem_nil, or_false] at hu
      rcases hu with hu | hu | hu | hu | hu | hu | hu | hu <;> subst hu
      · rw [sI_nb (by decide), sI_nb (by decide), sI_nb (by decide), sI_nb (by decide), sI_nb (by decide), sI_nb (by decide), sI_nb (by decide), sI_s]; rfl
      · rw [sI_nb (by decide), sI_nb (by decide), sI_nb (by decide), sI_nb (by decide), sI_nb (by decide), sI_nb (by decide), sI_s]; rfl
      · rw [sI_nb (by decide), sI_nb (by decide), sI_nb (by decide), sI_nb (by decide), sI_nb (by decide), sI_s]; rfl
      · rw [sI_nb (by decide), sI_nb (by decide), sI_nb (by decide), sI_nb (by decide), sI_s]; rfl
      · rw [sI_nb (by decide), sI_nb (by decide), sI_nb (by decide), sI_s]; rfl
      · rw [sI_nb (by decide), sI_nb (by decide), sI_s]; rfl
      · rw [sI_nb (by decide), sI_s]; exact hx
      · rw [sI_s]; exact hy
  have bz : nI bo - 1 = -1 ↔ bo = 0 := by rw [← i_m1, i_eq1 (by omega) (by decide)]
  have by1 : bo ≠ 0 → nI bo - 1 = nI (bo - 1) := fun z => pk_sub (b := 1) (by omega)
  refine ⟨fun z => ⟨fun _ => fin _ _ ?_ ?_, fun z2 => absurd z2 z⟩, fun z => ⟨fun z2 => absurd z z2, fun _ => fin _ _ ?_ ?_⟩⟩
  · rw [if_neg (mt bz.mpr z)]; rfl
  · exact by1 (mt bz.mpr z)
  · rw [if_pos (bz.mp z)]; rfl
  · rw [bz.mp z]; rfl
theorem m_asksOf (hw : gWf h lk sp cd) (k : KM A F h) (hb : b < qB A) (hc : qW A c) (hbo : bo ≤ 100) (hq : ∀ h', gEq [132] h h' → (∀ fe t, 7 ≤ t → t ≤ 15 → h'.1 132 (t - 7) = nI (vals A F b c bo fe (twd t))) → Q none h') : gC l G (d + 4) MX12_asksOf [.ref 82, .int (nI b), .int (nI c), .int (nI bo - 1)] h Q := by
  have kk : ∀ {h'}, gEq [132] h h' → KM A F h' := fun e => k.eq e (fun x hx => by simp at hx; omega) (by rw [(e.1 82 (by decide)).1])
  have ww : ∀ {h'}, gEq [132] h h' → gWf h' lk sp cd := fun e => hw.eq e
  have g := k.g
  have hH := g.H6
  have hcl := (k.f.2.2.2.1 b hb).2.2.2.2
  have e0 : gEq [132] h h := gEq.rf _ _
  have bz : nI bo - 1 = -1 ↔ bo = 0 := by rw [← i_m1, i_eq1 (by omega) (by decide)]
  have by1 : bo ≠ 0 → nI bo - 1 = nI (bo - 1) := fun z => pk_sub (b := 1) (by omega)
  have hz : nI (fh F b) - 1 = -1 ↔ fh F b = 0 := by rw [← i_m1, i_eq1 (by omega) (by decide)]
  have fin : ∀ w s x y : Int32, w = nI (qwr A c) → s = nI (qsx A (fh F b)) → x = nI (if bo = 0 then 0 else 1) → y = nI (bo - 1) → Q none (sI (sI (sI (sI (sI (sI (sI (sI (sI h 132 0 (nI (qdp A c))) 132 1 w) 132 2 (nI (qhm A c (qN A)))) 132 3 (nI (qsky A (fH F) (qK A)).2)) 132 4 (nI (fb F b))) 132 5 s) 132 6 x) 132 7 y) 132 8 (nI (ft F b))) := fun w s x y hw1 hs1 hx hy => by
    refine hq _ ?_ (fun fe t h7 h15 => ?_)
    · repeat (refine gE1 (by decide) ?_)
      exact e0
    · have : t = 7 ∨ t = 8 ∨ t = 9 ∨ t = 10 ∨ t = 11 ∨ t = 12 ∨ t = 13 ∨ t = 14 ∨ t = 15 := by omega
      rcases this with hu | hu | hu | hu | hu | hu | hu | hu | hu <;> subst hu
      · rw [sI_nb (by decide), sI_nb (by decide), sI_nb (by decide), sI_nb (by decide), sI_nb (by decide), sI_nb (by decide), sI_nb (by decide), sI_nb (by decide), sI_s]; rfl
      · rw [sI_nb (by decide), sI_nb (by decide), sI_nb (by decide), sI_nb (by decide), sI_nb (by decide), sI_nb (by decide), sI_nb (by decide), sI_s, hw1]; rfl
      · rw [sI_nb (by decide), sI_nb (by decide), sI_nb (by decide), sI_nb (by decide), sI_nb (by decide), sI_nb (by decide), sI_s]; rfl
      · rw [sI_nb (by decide), sI_nb (by decide), sI_nb (by decide), sI_nb (by decide), sI_nb (by decide), sI_s]; rfl
      · rw [sI_nb (by decide), sI_nb (by decide), sI_nb (by decide), sI_nb (by decide), sI_s]; rfl
      · rw [sI_nb (by decide), sI_nb (by decide), sI_nb (by decide), sI_s, hs1]; rfl
      · rw [sI_nb (by decide), sI_nb (by decide), sI_s, hx]; rfl
      · rw [sI_nb (by decide), sI_s, hy]; rfl
      · rw [sI_s]; rfl
  have hx1 : bo ≠ 0 → (1 : Int32) = nI (if bo = 0 then 0 else 1) := fun z => by rw [if_neg z]; rfl
  have hx0 : bo = 0 → (0 : Int32) = nI (if bo = 0 then 0 else 1) := fun z => by rw [if_pos z]; rfl
  have hy0 : bo = 0 → (0 : Int32) = nI (bo - 1) := fun z => by rw [z]; rfl
  refine eX12_asksOf hw (m_depthOf hw g k.l hc ⟨_, rfl, rfl, ?_⟩)
  have e1 := gE1 (i := 0) (x := nI (qdp A c)) (List.mem_singleton.mpr rfl) e0
  refine m_isWreck (ww e1) g (kk e1).l hc.1 (fun q3 => ⟨_, rfl, rfl, bN (by decide) ?_⟩) (fun q3 => ⟨_, rfl, rfl, bY rfl ?_⟩)
  · have w1 : (1 : Int32) = nI (qwr A c) := by unfold qwr; rw [if_pos q3]; rfl
    have e2 := gE1 (i := 1) (x := (1 : Int32)) (List.mem_singleton.mpr rfl) e1
    refine m_homeOf (ww e2) g (kk e2).l hc.1 ⟨_, rfl, rfl, ?_⟩
    have e3 := gE1 (i := 2) (x := nI (qhm A c (qN A))) (List.mem_singleton.mpr rfl) e2
    have y0 : (sI (sI h 132 0 (nI (qdp A c))) 132 1 1).1 133 0 = nI (fH F) := (kk e2).y.1
    rw [y0]
    refine m_skyIn (ww e3) g (kk e3).l k.f.1 ⟨_, rfl, rfl, ?_⟩
    have e4 := gE1 (i := 3) (x := nI (qsky A (fH F) (qK A)).2) (List.mem_singleton.mpr rfl) e3
    refine m_balksOf (ww e4) (kk e4) hb ⟨_, rfl, rfl, ?_⟩
    have e5 := gE1 (i := 4) (x := nI (fb F b)) (List.mem_singleton.mpr rfl) e4
    refine m_handOf (ww e5) (kk e5) hb ⟨_, rfl, rfl, fun zh => ?_, fun zh => ?_⟩
    · have hh : fh F b ≠ 0 := mt hz.mpr zh
      refine m_handOf (ww e5) (kk e5) hb ⟨_, rfl, rfl, ?_⟩
      have es : (6 : Int32) + (nI (fh F b) - 1) = nI (6 + (fh F b - 1)) := by rw [show nI (fh F b) - 1 = nI (fh F b - 1) from pk_sub (b := 1) (by omega)]; exact nI_add 6 _
      have sv := (kk e5).l.sk (fh F b - 1) (by omega)
      rw [es, nI_clamp (by omega), sv]
      have s1 : nI (qsk A (fh F b - 1)) = nI (qsx A (fh F b)) := by unfold qsx; rw [if_neg hh]
      have e6 := gE1 (i := 5) (x := nI (qsk A (fh F b - 1))) (List.mem_singleton.mpr rfl) e5
      refine ⟨vp_in_nI (by omega) (by decide), fun z => ⟨fun _ => ?_, fun z2 => absurd z2 z⟩, fun z => ⟨fun z2 => absurd z z2, fun _ => ?_⟩⟩
      · have e8 := gE1 (i := 7) (x := nI bo - 1) (List.mem_singleton.mpr rfl) (gE1 (i := 6) (x := (1 : Int32)) (List.mem_singleton.mpr rfl) e6)
        exact m_trustOf (ww e8) (kk e8) hb ⟨_, rfl, rfl, fin _ _ _ _ w1 s1 (hx1 (mt bz.mpr z)) (by1 (mt bz.mpr z))⟩
      · have e8 := gE1 (i := 7) (x := (0 : Int32)) (List.mem_singleton.mpr rfl) (gE1 (i := 6) (x := (0 : Int32)) (List.mem_singleton.mpr rfl) e6)
        exact m_trustOf (ww e8) (kk e8) hb ⟨_, rfl, rfl, fin _ _ _ _ w1 s1 (hx0 (bz.mp z)) (hy0 (bz.mp z))⟩
    · have s1 : (0 : Int32) = nI (qsx A (fh F b)) := by rw [hz.mp zh]; rfl
      have e6 := gE1 (i := 5) (x := (0 : Int32)) (List.mem_singleton.mpr rfl) e5
      refine ⟨fun z => ⟨fun _ => ?_, fun z2 => absurd z2 z⟩, fun z => ⟨fun z2 => absurd z z2, fun _ => ?_⟩⟩
      · have e8 := gE1 (i := 7) (x := nI bo - 1) (List.mem_singleton.mpr rfl) (gE1 (i := 6) (x := (1 : Int32)) (List.mem_singleton.mpr rfl) e6)
        exact m_trustOf (ww e8) (kk e8) hb ⟨_, rfl, rfl, fin _ _ _ _ w1 s1 (hx1 (mt bz.mpr z)) (by1 (mt bz.mpr z))⟩
      · have e8 := gE1 (i := 7) (x := (0 : Int32)) (List.mem_singleton.mpr rfl) (gE1 (i := 6) (x := (0 : Int32)) (List.mem_singleton.mpr rfl) e6)
        exact m_trustOf (ww e8) (kk e8) hb ⟨_, rfl, rfl, fin _ _ _ _ w1 s1 (hx0 (bz.mp z)) (hy0 (bz.mp z))⟩
  · have w1 : (0 : Int32) = nI (qwr A c) := by unfold qwr; rw [if_neg q3]; rfl
    have e2 := gE1 (i := 1) (x := (0 : Int32)) (List.mem_singleton.mpr rfl) e1
    refine m_homeOf (ww e2) g (kk e2).l hc.1 ⟨_, rfl, rfl, ?_⟩
    have e3 := gE1 (i := 2) (x := nI (qhm A c (qN A))) (List.mem_singleton.mpr rfl) e2
    have y0 : (sI (sI h 132 0 (nI (qdp A c))) 132 1 0).1 133 0 = nI (fH F) := (kk e2).y.1
    rw [y0]
    refine m_skyIn (ww e3) g (kk e3).l k.f.1 ⟨_, rfl, rfl, ?_⟩
    have e4 := gE1 (i := 3) (x := nI (qsky A (fH F) (qK A)).2) (List.mem_singleton.mpr rfl) e3
    refine m_balksOf (ww e4) (kk e4) hb ⟨_, rfl, rfl, ?_⟩
    have e5 := gE1 (i := 4) (x := nI (fb F b)) (List.mem_singleton.mpr rfl) e4
    refine m_handOf (ww e5) (kk e5) hb ⟨_, rfl, rfl, fun zh => ?_, fun zh => ?_⟩
    · have hh : fh F b ≠ 0 := mt hz.mpr zh
      refine m_handOf (ww e5) (kk e5) hb ⟨_, rfl, rfl, ?_⟩
      have es : (6 : Int32) + (nI (fh F b) - 1) = nI (6 + (fh F b - 1)) := by rw [show nI (fh F b) - 1 = nI (fh F b - 1) from pk_sub (b := 1) (by omega)]; exact nI_add 6 _
      have sv := (kk e5).l.sk (fh F b - 1) (by omega)
      rw [es, nI_clamp (by omega), sv]
      have s1 : nI (qsk A (fh F b - 1)) = nI (qsx A (fh F b)) := by unfold qsx; rw [if_neg hh]
      have e6 := gE1 (i := 5) (x := nI (qsk A (fh F b - 1))) (List.mem_singleton.mpr rfl) e5
      refine ⟨vp_in_nI (by omega) (by decide), fun z => ⟨fun _ => ?_, fun z2 => absurd z2 z⟩, fun z => ⟨fun z2 => absurd z z2, fun _ => ?_⟩⟩
      · have e8 := gE1 (i := 7) (x := nI bo - 1) (List.mem_singleton.mpr rfl) (gE1 (i := 6) (x := (1 : Int32)) (List.mem_singleton.mpr rfl) e6)
        exact m_trustOf (ww e8) (kk e8) hb ⟨_, rfl, rfl, fin _ _ _ _ w1 s1 (hx1 (mt bz.mpr z)) (by1 (mt bz.mpr z))⟩
      · have e8 := gE1 (i := 7) (x := (0 : Int32)) (List.mem_singleton.mpr rfl) (gE1 (i := 6) (x := (0 : Int32)) (List.mem_singleton.mpr rfl) e6)
        exact m_trustOf (ww e8) (kk e8) hb ⟨_, rfl, rfl, fin _ _ _ _ w1 s1 (hx0 (bz.mp z)) (hy0 (bz.mp z))⟩
    · have s1 : (0 : Int32) = nI (qsx A (fh F b)) := by rw [hz.mp zh]; rfl
      have e6 := gE1 (i := 5) (x := (0 : Int32)) (List.mem_singleton.mpr rfl) e5
      refine ⟨fun z => ⟨fun _ => ?_, fun z2 => absurd z2 z⟩, fun z => ⟨fun z2 => absurd z z2, fun _ => ?_⟩⟩
      · have e8 := gE1 (i := 7) (x := nI bo - 1) (List.mem_singleton.mpr rfl) (gE1 (i := 6) (x := (1 : Int32)) (List.mem_singleton.mpr rfl) e6)
        exact m_trustOf (ww e8) (kk e8) hb ⟨_, rfl, rfl, fin _ _ _ _ w1 s1 (hx1 (mt bz.mpr z)) (by1 (mt bz.mpr z))⟩
      · have e8 := gE1 (i := 7) (x := (0 : Int32)) (List.mem_singleton.mpr rfl) (gE1 (i := 6) (x := (0 : Int32)) (List.mem_singleton.mpr rfl) e6)
        exact m_trustOf (ww e8) (kk e8) hb ⟨_, rfl, rfl, fin _ _ _ _ w1 s1 (hx0 (bz.mp z)) (hy0 (bz.mp z))⟩
end FE
