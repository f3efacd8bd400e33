section ML
variable {l : Launch} {G : gG} {d : Nat} {Q : Option Value → gH → Prop} {h h1 h2 : gH} {lk sp : Nat} {cd : Option Nat} {t : Nat → Nat} {n s i f q c b w z : Nat} {u : Bool} {L : qL} {out : sOut} {o : lOut}
theorem qC_sum (A : qT) (z : Nat) (C C' : List Nat) : qC (sumA A z C C') = qC A := by
  unfold qC sumA fupd
  rw [if_neg (by omega)]
  unfold frw
  rw [if_neg (by omega)]
/-- nothing but the first statement tells columns -/
theorem bdR_qC {α : Type} {x : Except (Nat × Nat) α} {R : α → sOut → Prop} {L' : qL} {p' : Nat × Bool} {k : Nat} (r : bdR x R (.ok (L', p'))) (hR : ∀ a, R a (.ok (L', p')) → qC L'.1 = k) : qC L'.1 = k := by
  cases hx : x with
  | error f => rw [hx] at r; exact absurd r (by intro y; cases y)
  | ok a => rw [hx] at r; exact hR a r
theorem StI_qC {p p' : Nat × Bool} {L' : qL} (r : StI t n L p (.ok (L', p'))) (n0 : ¬ isW t n 0 p) : qC L'.1 = qC L.1 := by
  have done : ∀ {X : qL} {y : Nat × Bool}, (Except.ok (L', p') : sOut) = .ok (X, y) → qC X.1 = qC L.1 → qC L'.1 = qC L.1 := fun e e' => by cases e; exact e'
  rcases r with ⟨a, b⟩ | ⟨a, b⟩ | ⟨a, b⟩ | ⟨a, b⟩ | ⟨a, b⟩ | ⟨j, hj, a, b⟩ | ⟨j, hj, a, b⟩ | ⟨a, b⟩ | ⟨a, b⟩
  · exact absurd a n0
  · rcases b with ⟨_, b⟩ | ⟨_, b⟩
    · cases b
    · rcases b with ⟨_, b⟩ | ⟨_, b⟩
      · cases b
      · exact done b rfl
  · rcases b with ⟨_, b⟩ | ⟨_, b⟩
    · cases b
    · exact bdR_qC b (fun _ b => bdR_qC b (fun _ b => bdR_qC b (fun _ b => bdR_qC b (fun _ b => bdR_qC b (fun _ b => bdR_qC b (fun _ b => by
        rcases b with ⟨_, b⟩ | ⟨_, b⟩
        · cases b
        · exact done b rfl))))))
  · rcases b with ⟨_, b⟩ | ⟨_, b⟩
    · cases b
    · exact bdR_qC b (fun _ b => bdR_qC b (fun _ b => bdR_qC b (fun _ b => done b rfl)))
  · obtain ⟨o1, _, b⟩ := b
    exact bdR_qC b (fun _ b => by
      obtain ⟨o2, _, b⟩ := b
      exact bdR_qC b (fun _ b => bdR_qC b (fun _ b => done b rfl)))
  · rcases b with ⟨_, b⟩ | ⟨_, b⟩
    · cases b
    · exact bdR_qC b (fun _ b => bdR_qC b (fun _ b => by
        rcases b with ⟨_, b⟩ | ⟨_, b⟩
        · cases b
        · exact done b rfl))
  · rcases b with ⟨_, b⟩ | ⟨_, b⟩
    · cases b
    · obtain ⟨o1, _, b⟩ := b
      exact bdR_qC b (fun _ b => done b.2 (qC_sum _ _ _ _))
  · exact bdR_qC b (fun _ b => done b rfl)
  · cases b
/-- the model's frame while a lake is told -/
def MK (h h' : gH) : Prop := gEq [82, 119, 120, 121, 122, 123, 124, 125, 126, 127, 128, 129, 130] h h' ∧ (∀ j, j ∉ [1, 2, 3, 4, 5, 6, 7, 8, 10, 45, 56, 57, 60, 62, 63, 64] → h'.1 82 j = h.1 82 j) ∧ h'.2.1 82 = h.2.1 82 ∧ ∀ a, 119 ≤ a → a ≤ 129 → ∀ i, mlo a ≤ i → h'.1 a i = h.1 a i ∧ (a = 120 → h'.2.1 a i = h.2.1 a i)
theorem MK.rf : MK h h := ⟨gEq.rf _ _, fun _ _ => rfl, rfl, fun _ _ _ _ _ => ⟨rfl, fun _ => rfl⟩⟩
theorem MK.px (a : MK h h1) (e : MPx h1 h2) : MK h h2 := ⟨(a.1.tr e.1).mono (fun x hx => by rcases List.mem_append.mp hx with z | z <;> exact z), fun j hj => (e.2.1 j (fun z => hj (by simp at z ⊢; omega))).trans (a.2.1 j hj), e.2.2.1.trans a.2.2.1, fun k x y i hi => ⟨(e.2.2.2 k x y i hi).1.trans (a.2.2.2 k x y i hi).1, fun z => ((e.2.2.2 k x y i hi).2 z).trans ((a.2.2.2 k x y i hi).2 z)⟩⟩
theorem MK.s82 {j : Nat} {x : Int32} (e : MK h h1) (hj : j ∈ [1, 2, 3, 4, 5, 6, 7, 8, 10, 45, 56, 57, 60, 62, 63, 64]) : MK h (sI h1 82 j x) := ⟨gE1 (by decide) e.1, fun i hi => by rw [sI_nb (fun z => hi (by rw [z]; exact hj))]; exact e.2.1 i hi, e.2.2.1, fun a y w i hi => ⟨by rw [sI_ne (by omega)]; exact (e.2.2.2 a y w i hi).1, (e.2.2.2 a y w i hi).2⟩⟩
theorem MK.sx {k j : Nat} {x : Int32} (e : MK h h1) (h1' : 119 ≤ k) (h2' : k ≤ 129) (hj : j < mlo k) : MK h (sI h1 k j x) := by
  refine ⟨gE1 (by simp; omega) e.1, fun i hi => ?_, e.2.2.1, fun a y w i hi => ⟨?_, (e.2.2.2 a y w i hi).2⟩⟩
  · rw [sI_ne (by omega)]; exact e.2.1 i hi
  · by_cases q : a = k
    · rw [q, sI_nb (fun z => by rw [q, z] at hi; omega)]; rw [q] at hi y w; exact (e.2.2.2 k y w i hi).1
    · rw [sI_ne q]; exact (e.2.2.2 a y w i hi).1
theorem MK.tp (e : MK h h1) (tp : TPm t h) : TPm t h1 := ⟨fun i hi => by rw [(e.1.1 83 (by decide)).1]; exact tp.1 i hi, fun i hi j hj => by rw [(e.1.1 (85 + i) (by simp; omega)).1]; exact tp.2.1 i hi j hj, fun i hi j hj => by rw [(e.1.1 (143 + i) (by simp; omega)).1]; exact tp.2.2 i hi j hj⟩
/-- the lake that stands is kept -/
theorem MK.lm {A : qT} (e : MK h h1) (q : LM A h) : LM A h1 := by
  have X : ∀ a i, 119 ≤ a → a ≤ 129 → mlo a ≤ i → h1.1 a i = h.1 a i := fun a i x y z => (e.2.2.2 a x y i z).1
  have Y : ∀ i, 12 ≤ i → h1.2.1 120 i = h.2.1 120 i := fun i z => (e.2.2.2 120 (by decide) (by decide) i z).2 rfl
  obtain ⟨a1, a2, a3, a4, a5, a6, a7, a8, a9, a10, a11, a12, a13, a14, a15, a16⟩ := q
  refine ⟨(X 119 5 (by decide) (by decide) (by decide)).trans a1, (X 119 6 (by decide) (by decide) (by decide)).trans a2, (X 119 7 (by decide) (by decide) (by decide)).trans a3, (X 119 8 (by decide) (by decide) (by decide)).trans a4, (X 119 9 (by decide) (by decide) (by decide)).trans a5, (X 126 1 (by decide) (by decide) (by decide)).trans a6, fun c hc => ?_, fun b hb => (Y _ (by omega)).trans (a8 b hb), fun b hb => ?_, fun j hj => (Y _ (by omega)).trans (a10 j hj), fun j hj => ?_, fun b j hb hj => ?_, fun j hj => ?_, fun j hj => ?_, fun p hp => ?_, (e.2.1 58 (by decide)).trans a16⟩
  · exact (X 121 _ (by decide) (by decide) (show 48 ≤ _ by omega)).trans (a7 c hc)
  · exact (X 122 _ (by decide) (by decide) (show 12 ≤ _ by omega)).trans (a9 b hb)
  · exact (X 123 _ (by decide) (by decide) (show 6 ≤ _ by omega)).trans (a11 j hj)
  · exact (X 124 _ (by decide) (by decide) (show 36 ≤ _ by omega)).trans (a12 b j hb hj)
  · exact (X 125 _ (by decide) (by decide) (show 20 ≤ _ by omega)).trans (a13 j hj)
  · exact (X 125 _ (by decide) (by decide) (show 20 ≤ _ by omega)).trans (a14 j hj)
  · have b12 := a15 p hp
    by_cases y : qsl A p = 0
    · rw [if_pos y] at b12 ⊢
      exact (X 127 _ (by decide) (by decide) (show 3 ≤ _ by omega)).trans b12
    · rw [if_neg y] at b12 ⊢
      obtain ⟨o, o1, o2, o3, o4⟩ := b12
      exact ⟨o, o1, (X 127 _ (by decide) (by decide) (show 3 ≤ _ by omega)).trans o2, (X 128 _ (by decide) (by decide) (show 3 ≤ _ by omega)).trans o3, fun i hi => (X 129 _ (by decide) (by decide) (show 1600 ≤ _ by omega)).trans (o4 i hi)⟩
theorem LkR_1st {p : Nat × Bool} (r : LkR t n 61 0 L p o) : ∃ x, StR t n (0 = 0) L p x ∧ (match x with
    | .error f => o = .error f
    | .ok (L', p') => qP L' p'.1 ∧ p.1 < p'.1 ∧ (match sgF t n 59 p' with
      | .error f => o = .error f
      | .ok p'' => LkR t n 60 1 L' p'' o)) := by
  have r : (if tkk t n p.1 p.2 = 1000 then (if 0 = 0 then o = .error (1, p.1) else o = .ok (L, 0)) else if 0 = 60 then o = .error (5, p.1) else ∃ x, StR t n (0 = 0) L p x ∧ (match x with
    | .error f => o = .error f
    | .ok (L', p') => qP L' p'.1 ∧ p.1 < p'.1 ∧ (match sgF t n 59 p' with
      | .error f => o = .error f
      | .ok p'' => LkR t n 60 1 L' p'' o))) := r
  split at r
  · rename_i y
    rw [if_pos rfl] at r
    refine ⟨.error (1, p.1), ?_, r⟩
    unfold StR
    rw [if_pos (by omega)]
  · rw [if_neg (by decide)] at r
    exact r
theorem m_lake (hw : gWf h lk sp cd) (tw : TWf t n) (tp : TPm t h) (h1n : h.1 82 1 = nI n) (r : LkR t n 61 0 Lz (skp t n 0, false) o)
    (hy : ∀ L c h1 h', o = .ok (L, c) → MK h h1 → h1.1 82 1 = 0 → h1.1 82 7 = 0 → h1.1 82 8 = -1 → h1.1 82 56 = nI c → qP L n → 3 ≤ qC L.1 → MSn h1 h' → LM L.1 h' → FM (qB L.1) (Fz L.1) (h'.1 133) → h'.1 82 76 = 0 → h'.1 82 80 = 0 → Q (some (.int (nI c))) h')
    (hn : ∀ f q h1, o = .error (f, q) → MK h h1 → h1.1 82 1 = 0 → h1.1 82 7 = nI f → h1.1 82 8 = nI q → Q (some (.int (-1))) (sI h1 84 1 (h.1 84 1 + 1))) : gC l G (d + 8) MX12_lake [.ref 82] h Q := by
  have n16 := tw.1
  refine eX12_lake hw (fun p e s9 m args below meth cc => ?_)
  rw [h1n]
  have K0 : MK h (sI (sI (sI (sI (sI (sI (sI h 82 3 (nI n)) 82 1 0) 82 2 0) 82 4 (-1)) 82 5 0) 82 6 (-1)) 82 60 0) := (((((((MK.rf (h := h)).s82 (by decide)).s82 (by decide)).s82 (by decide)).s82 (by decide)).s82 (by decide)).s82 (by decide)).s82 (by decide)
  have x3 : (sI (sI (sI (sI (sI (sI (sI h 82 3 (nI n)) 82 1 0) 82 2 0) 82 4 (-1)) 82 5 0) 82 6 (-1)) 82 60 0).1 82 3 = nI n := by
    rw [sI_nb (by decide), sI_nb (by decide), sI_nb (by decide), sI_nb (by decide), sI_nb (by decide), sI_nb (by decide), sI_s]
  have x1 : (sI (sI (sI (sI (sI (sI (sI h 82 3 (nI n)) 82 1 0) 82 2 0) 82 4 (-1)) 82 5 0) 82 6 (-1)) 82 60 0).1 82 1 = 0 := by
    rw [sI_nb (by decide), sI_nb (by decide), sI_nb (by decide), sI_nb (by decide), sI_nb (by decide), sI_s]
  have x2 : (sI (sI (sI (sI (sI (sI (sI h 82 3 (nI n)) 82 1 0) 82 2 0) 82 4 (-1)) 82 5 0) 82 6 (-1)) 82 60 0).1 82 2 = 0 := by
    rw [sI_nb (by decide), sI_nb (by decide), sI_nb (by decide), sI_nb (by decide), sI_s]
  have x4 : (sI (sI (sI (sI (sI (sI (sI h 82 3 (nI n)) 82 1 0) 82 2 0) 82 4 (-1)) 82 5 0) 82 6 (-1)) 82 60 0).1 82 4 = -1 := by
    rw [sI_nb (by decide), sI_nb (by decide), sI_nb (by decide), sI_s]
  have x5 : (sI (sI (sI (sI (sI (sI (sI h 82 3 (nI n)) 82 1 0) 82 2 0) 82 4 (-1)) 82 5 0) 82 6 (-1)) 82 60 0).1 82 5 = 0 := by
    rw [sI_nb (by decide), sI_nb (by decide), sI_s]
  have x6 : (sI (sI (sI (sI (sI (sI (sI h 82 3 (nI n)) 82 1 0) 82 2 0) 82 4 (-1)) 82 5 0) 82 6 (-1)) 82 60 0).1 82 6 = -1 := by
    rw [sI_nb (by decide), sI_s]
  have x60 : (sI (sI (sI (sI (sI (sI (sI h 82 3 (nI n)) 82 1 0) 82 2 0) 82 4 (-1)) 82 5 0) 82 6 (-1)) 82 60 0).1 82 60 = 0 := sI_s _ _ _ _
  generalize (sI (sI (sI (sI (sI (sI (sI h 82 3 (nI n)) 82 1 0) 82 2 0) 82 4 (-1)) 82 5 0) 82 6 (-1)) 82 60 0) = h0 at K0 x1 x2 x3 x4 x5 x6 x60 ⊢
  -- the ends
  have EndF : ∀ f q h1, o = .error (f, q) → MK h h1 → h1.1 82 1 = 0 → h1.1 82 5 = nI f → h1.1 82 6 = nI q → Q (some (.int (-1))) (sI (sI (sI h1 82 7 (h1.1 82 5)) 82 8 (h1.1 82 6)) 84 1 (h1.1 84 1 + 1)) := fun f q h1 ro k a1 a5 a6 => by
    have z := hn f q (sI (sI h1 82 7 (h1.1 82 5)) 82 8 (h1.1 82 6)) ro ((k.s82 (by decide)).s82 (by decide)) (by rw [sI_nb (by decide), sI_nb (by decide)]; exact a1) (by rw [sI_nb (by decide), sI_s]; exact a5) (by rw [sI_s]; exact a6)
    rw [(k.1.1 84 (by decide)).1]
    exact z
  have L115F : ∀ f q h1 x, 1 ≤ f ∧ f < 10 → o = .error (f, q) → MK h h1 → h1.1 82 1 = 0 → h1.1 82 5 = nI f → h1.1 82 6 = nI q → gg p l e s9 m args below meth cc G (d + 8) MX12_lake Q 115 [some (.ref 82), some (.int x)] [] h1 := fun f q h1 x ff ro k a1 a5 a6 => by
    have hw1 := hw.eq k.1
    have n5 : ¬ h1.1 82 5 = 0 := by
      rw [a5]
      intro y
      have : f = 0 := (nI_eq (b := 0) (by omega) (by decide)).mp y
      omega
    exact wX12_lake_115 hw1.1 hw1.2.1 hw1.2.2.1 (bN' n5 (bN n5 (EndF f q h1 ro k a1 a5 a6)))
  have L115 : ∀ k c L s u h1 x, MK h h1 → h1.1 82 1 = 0 → h1.1 82 6 = -1 → h1.1 82 56 = nI c → c ≠ 0 → c ≤ 60 → MTk t n s u h1 → LMp L h1 → qP L s → 3 ≤ qC L.1 → LkR t n k c L (s, u) o → gg p l e s9 m args below meth cc G (d + 8) MX12_lake Q 115 [some (.ref 82), some (.int x)] [] h1 := by
    intro k
    induction k with
    | zero => intro c L s u h1 x K a1 a6 a56 c0 c60 mt lm qp hC r; exact absurd r (fun z => z)
    | succ k ih =>
      intro c L s u h1 x K a1 a6 a56 c0 c60 mt lm qp hC r
      have hw1 := hw.eq K.1
      have tp1 := K.tp tp
      have a5 : h1.1 82 5 = 0 := mt.2.2.2.1
      have r : (if tkk t n s u = 1000 then (if c = 0 then o = .error (1, s) else o = .ok (L, c)) else if c = 60 then o = .error (5, s) else ∃ x, StR t n (c = 0) L (s, u) x ∧ (match x with
        | .error f => o = .error f
        | .ok (L', p') => qP L' p'.1 ∧ s < p'.1 ∧ (match sgF t n 59 p' with
          | .error f => o = .error f
          | .ok p'' => LkR t n k (c + 1) L' p'' o))) := r
      refine wX12_lake_115 hw1.1 hw1.2.1 hw1.2.2.1 (bY' a5 (m_look (d := d + 7) hw1 tw tp1 mt (fun h2 e2 mt2 s2 => ⟨_, rfl, e2.1.2, ?_⟩)))
      have K2 : MK h h2 := K.px e2.px.1
      have hw2 := hw.eq K2.1
      have b1 : h2.1 82 1 = 0 := by rw [e2.2.1 1 (by decide)]; exact a1
      have b6 : h2.1 82 6 = -1 := by rw [e2.2.1 6 (by decide)]; exact a6
      have b56 : h2.1 82 56 = nI c := by rw [e2.2.1 56 (by decide)]; exact a56
      have b5 : h2.1 82 5 = 0 := mt2.2.2.2.1
      by_cases sn : s < n
      · rw [if_pos sn]
        have ts := tw.2 s
        have tk : tkk t n s u ≠ 1000 := by
          unfold tkk
          rw [if_neg (by omega)]
          split
          · split <;> omega
          · split
            · split <;> omega
            · omega
        rw [if_neg tk] at r
        refine bN (i_nm1 (by omega)) ?_
        by_cases c6 : c = 60
        · rw [if_pos c6] at r
          refine eX12_statementTold (d := d + 6) hw2 (fun p' e' s' m' args' below' meth' cc' => bY' (by rw [b56, c6]; rfl) ?_)
          rw [s2]
          refine m_fail (f := 5) (q := s) hw2 b5 (fun h3 e3 => ⟨rfl, e3.1.2, rfl, e3.1.2, ?_⟩)
          have K3 := K2.px e3.px.1
          exact L115F 5 s h3 x (by decide) r K3 (by rw [e3.2.1 1 (by decide)]; exact b1) e3.2.2.2.1 e3.2.2.2.2
        · rw [if_neg c6] at r
          obtain ⟨y, rs, rm⟩ := r
          have kS : ∀ h3 v, MPx h2 h3 → MK h (sI h3 82 56 v) ∧ (sI h3 82 56 v).1 82 1 = 0 := fun h3 v e3 => ⟨(K2.px e3).s82 (by decide), by rw [sI_nb (by decide), e3.2.1 1 (by decide)]; exact b1⟩
          refine m_statementTold (d := d) hw2 tw (K2.tp tp) mt2 s2 (lm.ml e2) qp hC b56 c0 (by omega) rs (fun L' p' p'' h3 q1 q2 e3 k3 l3 => ⟨rfl, e3.1.1.2, ?_⟩) (fun f q h3 q1 ff e3 => ⟨rfl, e3.1.1.2, ?_⟩)
          · subst q1
            obtain ⟨qp', _, rm⟩ := rm
            rw [q2] at rm
            have g := sgF_ok q2
            have gl : p'.1 ≤ p''.1 := by rw [g.2]; exact nx_ge
            have qc : qC L'.1 = qC L.1 := by
              rcases StR_c c0 rs with ⟨_, y⟩ | ⟨_, n0, y⟩
              · cases y
              · exact StI_qC y n0
            exact ih (c + 1) L' p''.1 p''.2 _ x (kS h3 _ e3.1).1 (kS h3 _ e3.1).2 (by rw [sI_nb (by decide), e3.2]; exact b6) (sI_s _ _ _ _) (by omega) (by omega) k3 l3 (qp'.mono gl) (by omega) rm
          · have ro : o = .error (f, q) := by
              rcases q1 with q1 | ⟨L', p', q1, q2⟩
              · subst q1; exact rm
              · subst q1
                have := rm.2.2
                rw [q2] at this
                exact this
            exact L115F f q _ x ff ro (kS h3 _ e3.1).1 (kS h3 _ e3.1).2 (by rw [sI_nb (by decide)]; exact e3.2.1) (by rw [sI_nb (by decide)]; exact e3.2.2)
      · rw [if_neg sn]
        have tk : tkk t n s u = 1000 := by unfold tkk; rw [if_pos (by omega)]
        rw [if_pos tk, if_neg c0] at r
        refine bY rfl (bY b5 ?_)
        rw [b5, b6]
        have sn' : s = n := by have := mt.1; omega
        have K4 : MK h (sI (sI h2 82 7 0) 82 8 (-1)) := (K2.s82 (by decide)).s82 (by decide)
        have lm4 : LMp L (sI (sI h2 82 7 0) 82 8 (-1)) := by
          have lm2 := lm.ml e2
          unfold LMp at lm2 ⊢
          have E : ∀ a, a ≠ 82 → (sI (sI h2 82 7 0) 82 8 (-1)).1 a = h2.1 a := fun a ha => by rw [sI_na ha, sI_na ha]
          rw [E 119 (by decide), E 121 (by decide), E 122 (by decide), E 123 (by decide), E 124 (by decide), E 125 (by decide), E 126 (by decide), E 127 (by decide), E 128 (by decide), E 129 (by decide), sI_nb (by decide), sI_nb (by decide)]
          exact lm2
        have f56 : (sI (sI h2 82 7 0) 82 8 (-1)).1 82 56 = nI c := by rw [sI_nb (by decide), sI_nb (by decide)]; exact b56
        refine m_stands (hw.eq K4.1) lm4 qp (by omega) hC (fun h5 e5 lM fM y76 y80 => ⟨rfl, e5.1.2, ?_⟩)
        rw [e5.2.1 56 (by decide), f56]
        exact hy L c _ h5 r K4 (by rw [sI_nb (by decide), sI_nb (by decide)]; exact b1) (by rw [sI_nb (by decide), sI_s]) (sI_s _ _ _ _) f56 (sn' ▸ qp) hC e5 lM fM y76 y80
  -- the scratch is cleared
  have H81 : ∀ r x h', x + r = 3 → MK h h' → h'.1 82 = h0.1 82 → (∀ i, i < 5 → h'.1 119 i = 0) → (∀ i, i < 36 → h'.1 124 i = 0) → (∀ i, i < x → h'.1 127 i = -1) → gg p l e s9 m args below meth cc G (d + 8) MX12_lake Q 81 [some (.ref 82), some (.int (nI x))] [] h' := by
    intro r'
    induction r' with
    | zero =>
      intro x h' hx K' a82 a119 a124 a127
      have hx' : x = 3 := hx
      subst hx'
      have hw' := hw.eq K'.1
      refine wX12_lake_81 hw'.1 hw'.2.1 hw'.2.2.1 (bY (by decide) ?_)
      have K1 : MK h (sI h' 126 0 5) := K'.sx (by decide) (by decide) (by decide)
      have e82 : (sI h' 126 0 5).1 82 = h0.1 82 := by rw [sI_na (by decide)]; exact a82
      have lm1 : LMp Lz (sI h' 126 0 5) := by
        have z : ∀ x, ¬ x < qN Lz.1 := fun x hx => absurd hx (Nat.not_lt_zero _)
        refine ⟨?_, ?_, ?_, ?_, ?_, sI_s _ _ _ _, fun x hx => absurd hx (Nat.not_lt_zero _), fun x hx => absurd hx (Nat.not_lt_zero _), fun x hx => absurd hx (Nat.not_lt_zero _), fun i hi => ?_, fun x hx => absurd hx (Nat.not_lt_zero _), fun z hz => ?_, ?_, fun x hx => absurd hx (Nat.not_lt_zero _)⟩
        · rw [sI_ne (by decide)]; exact a119 0 (by decide)
        · rw [sI_ne (by decide)]; exact a119 1 (by decide)
        · rw [sI_ne (by decide)]; exact a119 2 (by decide)
        · rw [sI_ne (by decide)]; exact a119 3 (by decide)
        · rw [sI_ne (by decide)]; exact a119 4 (by decide)
        · rw [sI_ne (by decide)]; exact a124 i hi
        · rw [if_pos (show qsl Lz.1 z = 0 from rfl), sI_ne (by decide)]; exact a127 z hz
        · rw [e82]; exact x60
      have mt1 : MTk t n (skp t n 0) false (sI h' 126 0 5) := ⟨skp_n (Nat.zero_le _), skp_s, by rw [e82]; exact x3, by rw [e82]; exact x5, 0, 0, Nat.zero_le _, rfl, Nat.zero_le _, by rw [e82]; exact x2, by rw [e82]; exact x4, by simp⟩
      have c1 : (sI h' 126 0 5).1 82 1 = 0 := by rw [e82]; exact x1
      have c6 : (sI h' 126 0 5).1 82 6 = -1 := by rw [e82]; exact x6
      obtain ⟨y, rs, rm⟩ := LkR_1st r
      have kS : ∀ h3 v, MPx (sI h' 126 0 5) h3 → MK h (sI h3 82 56 v) ∧ (sI h3 82 56 v).1 82 1 = 0 := fun h3 v e3 => ⟨(K1.px e3).s82 (by decide), by rw [sI_nb (by decide), e3.2.1 1 (by decide)]; exact c1⟩
      refine m_lakeTold (d := d + 3) (c := 0) (hw.eq K1.1) tw (K1.tp tp) mt1 lm1 rfl rfl rs (fun L' p' p'' h3 q1 q2 hC e3 k3 l3 => ⟨rfl, e3.1.1.2, ?_⟩) (fun f q h3 q1 ff e3 => ⟨rfl, e3.1.1.2, ?_⟩)
      · subst q1
        obtain ⟨qp', _, rm⟩ := rm
        rw [q2] at rm
        have g := sgF_ok q2
        have gl : p'.1 ≤ p''.1 := by rw [g.2]; exact nx_ge
        have lm3 : LMp L' (sI h3 82 56 1) := by
          unfold LMp at l3 ⊢
          have E : ∀ a, a ≠ 82 → (sI h3 82 56 1).1 a = h3.1 a := fun a ha => sI_na ha
          rw [E 119 (by decide), E 121 (by decide), E 122 (by decide), E 123 (by decide), E 124 (by decide), E 125 (by decide), E 126 (by decide), E 127 (by decide), E 128 (by decide), E 129 (by decide), sI_nb (by decide)]
          exact l3
        exact L115 60 1 L' p''.1 p''.2 _ _ (kS h3 _ e3.1).1 (kS h3 _ e3.1).2 (by rw [sI_nb (by decide), e3.2]; exact c6) (sI_s _ _ _ _) (by decide) (by decide) (k3.gx (by decide)) lm3 (qp'.mono gl) hC rm
      · have ro : o = .error (f, q) := by
          rcases q1 with q1 | ⟨L', p', q1, q2⟩
          · subst q1; exact rm
          · subst q1
            have := rm.2.2
            rw [q2] at this
            exact this
        exact L115F f q _ _ ff ro (kS h3 _ e3.1).1 (kS h3 _ e3.1).2 (by rw [sI_nb (by decide)]; exact e3.2.1) (by rw [sI_nb (by decide)]; exact e3.2.2)
    | succ r' ih =>
      intro x h' hx K' a82 a119 a124 a127
      have hw' := hw.eq K'.1
      have ej : nI x + 1 = nI (x + 1) := by rw [nI_1]
      refine wX12_lake_81 hw'.1 hw'.2.1 hw'.2.2.1 (bN (nI_ge (b := 3) (by omega) (by decide)) ⟨vp_in_nI (by omega) (by decide), ?_⟩)
      rw [ej, nI_clamp (n := x) (by omega)]
      refine ih (x + 1) _ (by omega) (K'.sx (by decide) (by decide) (show x < 3 by omega)) (by rw [sI_na (by decide)]; exact a82) (fun i hi => by rw [sI_ne (by decide)]; exact a119 i hi) (fun i hi => by rw [sI_ne (by decide)]; exact a124 i hi) (fun i hi => ?_)
      by_cases y : i = x
      · rw [y]; exact sI_s _ _ _ _
      · rw [sI_nb y]; exact a127 i (by omega)
  have H60 : ∀ r x h', x + r = 36 → MK h h' → h'.1 82 = h0.1 82 → (∀ i, i < 5 → h'.1 119 i = 0) → (∀ i, i < x → h'.1 124 i = 0) → gg p l e s9 m args below meth cc G (d + 8) MX12_lake Q 60 [some (.ref 82), some (.int (nI x))] [] h' := by
    intro r'
    induction r' with
    | zero =>
      intro x h' hx K' a82 a119 a124
      have hx' : x = 36 := hx
      subst hx'
      have hw' := hw.eq K'.1
      exact wX12_lake_60 hw'.1 hw'.2.1 hw'.2.2.1 (bY (by decide) (H81 3 0 h' rfl K' a82 a119 a124 (fun i hi => absurd hi (Nat.not_lt_zero _))))
    | succ r' ih =>
      intro x h' hx K' a82 a119 a124
      have hw' := hw.eq K'.1
      have ej : nI x + 1 = nI (x + 1) := by rw [nI_1]
      refine wX12_lake_60 hw'.1 hw'.2.1 hw'.2.2.1 (bN (nI_ge (b := 36) (by omega) (by decide)) ⟨vp_in_nI (by omega) (by decide), ?_⟩)
      rw [ej, nI_clamp (n := x) (by omega)]
      refine ih (x + 1) _ (by omega) (K'.sx (by decide) (by decide) (show x < 36 by omega)) (by rw [sI_na (by decide)]; exact a82) (fun i hi => by rw [sI_ne (by decide)]; exact a119 i hi) (fun i hi => ?_)
      by_cases y : i = x
      · rw [y]; exact sI_s _ _ _ _
      · rw [sI_nb y]; exact a124 i (by omega)
  have H40 : ∀ r x h', x + r = 5 → MK h h' → h'.1 82 = h0.1 82 → (∀ i, i < x → h'.1 119 i = 0) → gg p l e s9 m args below meth cc G (d + 8) MX12_lake Q 40 [some (.ref 82), some (.int (nI x))] [] h' := by
    intro r'
    induction r' with
    | zero =>
      intro x h' hx K' a82 a119
      have hx' : x = 5 := hx
      subst hx'
      have hw' := hw.eq K'.1
      exact wX12_lake_40 hw'.1 hw'.2.1 hw'.2.2.1 (bY (by decide) (H60 36 0 h' rfl K' a82 a119 (fun i hi => absurd hi (Nat.not_lt_zero _))))
    | succ r' ih =>
      intro x h' hx K' a82 a119
      have hw' := hw.eq K'.1
      have ej : nI x + 1 = nI (x + 1) := by rw [nI_1]
      refine wX12_lake_40 hw'.1 hw'.2.1 hw'.2.2.1 (bN (nI_ge (b := 5) (by omega) (by decide)) ⟨vp_in_nI (by omega) (by decide), ?_⟩)
      rw [ej, nI_clamp (n := x) (by omega)]
      refine ih (x + 1) _ (by omega) (K'.sx (by decide) (by decide) (show x < 5 by omega)) (by rw [sI_na (by decide)]; exact a82) (fun i hi => ?_)
      by_cases y : i = x
      · rw [y]; exact sI_s _ _ _ _
      · rw [sI_nb y]; exact a119 i (by omega)
  exact H40 5 0 h0 rfl K0 rfl (fun i hi => absurd hi (Nat.not_lt_zero _))
end ML
