section MW
variable {l : Launch} {G : gG} {d : Nat} {Q : Option Value → gH → Prop} {h h0 h1 h2 : gH} {lk sp : Nat} {cd : Option Nat} {t : Nat → Nat} {n s i f q u x tb ob : Nat} {b : Bool} {p : Nat × Bool} {S C : List Nat}
/-- which words of a question are parts -/
def qwd (k : Nat) : Nat := [24, 25, 26, 16, 17, 18, 12, 3, 27].getD k 0
theorem m_qWordHere (hw : gWf h lk sp cd) (tw : TWf t n) (tp : TPm t h) (k : MTk t n s b h)
    (hy : ∀ j h', j < 9 → isW t n (qwd j) (s, b) → MLx h h' → MTk t n s b h' → h'.1 82 2 = nI s → Q (some (.int (nI j))) h')
    (hn : ∀ h', (∀ j, j < 9 → ¬ isW t n (qwd j) (s, b)) → MLx h h' → MTk t n s b h' → h'.1 82 2 = nI s → Q (some (.int (-1))) h') : gC l G (d + 2) MX12_qWordHere [.ref 82] h Q := by
  have H : ∀ j, j < 9 → ∀ h1, MLx h h1 → MTk t n s b h1 → ∀ Q' : Option Value → gH → Prop, (∀ h', isW t n (qwd j) (s, b) → MLx h h' → MTk t n s b h' → h'.1 82 2 = nI s → h'.2.2 = h1.2.2 → Q' (some (.int 1)) h') → (∀ h', ¬ isW t n (qwd j) (s, b) → MLx h h' → MTk t n s b h' → h'.1 82 2 = nI s → h'.2.2 = h1.2.2 → Q' (some (.int 0)) h') → gC l G (d + 1) MX12_isHere [.ref 82, .ref (155 + j)] h1 Q' := fun j hj h1 e1 k1 Q' y1 n1 => by
    have hs : ∀ j, j < 9 → gSH[155 + j]? = some (22, wln (qwd j)) := by decide
    have hq : ∀ j, j < 9 → qwd j = wqt (12 + j) := by decide
    have h40 : ∀ j, j < 9 → qwd j < 40 := by decide
    have tp1 := tp.ml e1.1
    exact m_isHere (d := d) (i := qwd j) (w := 155 + j) (hw.eq e1.1) tw tp1 k1 (h40 j hj) (hs j hj) (by omega) (fun x hx => by rw [hq j hj] at hx ⊢; rw [show 155 + j = 143 + (12 + j) by omega]; exact tp1.2.2 (12 + j) (by omega) x hx) (fun h2 e2 k2 a2 z => y1 h2 z (e1.tr e2) k2 a2 e2.1.2) (fun h2 e2 k2 a2 z => n1 h2 z (e1.tr e2) k2 a2 e2.1.2)
  refine eX12_qWordHere hw ?_
  refine H 0 (by decide) h MLx.rf k _ (fun h0y z e1 k1 a1 r1 => ⟨_, rfl, r1, bN (by decide) (hy 0 h0y (by decide) z e1 k1 a1)⟩) (fun g0 z0 e0 k0 a0 r0 => ⟨_, rfl, r0, bY rfl ?_⟩)
  refine H 1 (by decide) g0 e0 k0 _ (fun h1y z e1 k1 a1 r1 => ⟨_, rfl, r1, bN (by decide) (hy 1 h1y (by decide) z e1 k1 a1)⟩) (fun g1 z1 e1 k1 a1 r1 => ⟨_, rfl, r1, bY rfl ?_⟩)
  refine H 2 (by decide) g1 e1 k1 _ (fun h2y z e1 k1 a1 r1 => ⟨_, rfl, r1, bN (by decide) (hy 2 h2y (by decide) z e1 k1 a1)⟩) (fun g2 z2 e2 k2 a2 r2 => ⟨_, rfl, r2, bY rfl ?_⟩)
  refine H 3 (by decide) g2 e2 k2 _ (fun h3y z e1 k1 a1 r1 => ⟨_, rfl, r1, bN (by decide) (hy 3 h3y (by decide) z e1 k1 a1)⟩) (fun g3 z3 e3 k3 a3 r3 => ⟨_, rfl, r3, bY rfl ?_⟩)
  refine H 4 (by decide) g3 e3 k3 _ (fun h4y z e1 k1 a1 r1 => ⟨_, rfl, r1, bN (by decide) (hy 4 h4y (by decide) z e1 k1 a1)⟩) (fun g4 z4 e4 k4 a4 r4 => ⟨_, rfl, r4, bY rfl ?_⟩)
  refine H 5 (by decide) g4 e4 k4 _ (fun h5y z e1 k1 a1 r1 => ⟨_, rfl, r1, bN (by decide) (hy 5 h5y (by decide) z e1 k1 a1)⟩) (fun g5 z5 e5 k5 a5 r5 => ⟨_, rfl, r5, bY rfl ?_⟩)
  refine H 6 (by decide) g5 e5 k5 _ (fun h6y z e1 k1 a1 r1 => ⟨_, rfl, r1, bN (by decide) (hy 6 h6y (by decide) z e1 k1 a1)⟩) (fun g6 z6 e6 k6 a6 r6 => ⟨_, rfl, r6, bY rfl ?_⟩)
  refine H 7 (by decide) g6 e6 k6 _ (fun h7y z e1 k1 a1 r1 => ⟨_, rfl, r1, bN (by decide) (hy 7 h7y (by decide) z e1 k1 a1)⟩) (fun g7 z7 e7 k7 a7 r7 => ⟨_, rfl, r7, bY rfl ?_⟩)
  refine H 8 (by decide) g7 e7 k7 _ (fun h8y z e1 k1 a1 r1 => ⟨_, rfl, r1, bN (by decide) (hy 8 h8y (by decide) z e1 k1 a1)⟩) (fun g8 z8 e8 k8 a8 r8 => ⟨_, rfl, r8, bY rfl ?_⟩)
  refine hn g8 (fun j hj => ?_) e8 k8 a8
  have : j = 0 ∨ j = 1 ∨ j = 2 ∨ j = 3 ∨ j = 4 ∨ j = 5 ∨ j = 6 ∨ j = 7 ∨ j = 8 := by omega
  rcases this with y | y | y | y | y | y | y | y | y <;> subst y
  · exact z0
  · exact z1
  · exact z2
  · exact z3
  · exact z4
  · exact z5
  · exact z6
  · exact z7
  · exact z8
theorem m_qWordOf {lo hi : Nat} (hw : gWf h lk sp cd) (tw : TWf t n) (tp : TPm t h) (k : MTk t n s b h) (hlo : lo < 100) (hhi : hi < 100)
    (hy : ∀ j h', j < 9 → lo ≤ j → j < hi → isW t n (qwd j) (s, b) → MLx h h' → MTk t n s b h' → h'.1 82 2 = nI s → Q (some (.int (nI j))) h')
    (hn : ∀ h', (∀ j, j < 9 → lo ≤ j → j < hi → ¬ isW t n (qwd j) (s, b)) → MLx h h' → MTk t n s b h' → h'.1 82 2 = nI s → Q (some (.int (-1))) h') : gC l G (d + 3) MX12_qWordOf [.ref 82, .int (nI lo), .int (nI hi)] h Q := by
  refine eX12_qWordOf hw (m_qWordHere (d := d) hw tw tp k (fun j h' hj z e1 k1 a1 => ⟨_, rfl, e1.1.2, ?_⟩) (fun h' z e1 k1 a1 => ⟨_, rfl, e1.1.2, ?_⟩))
  · have U : ∀ i, i < 9 → isW t n (qwd i) (s, b) → i = j := fun i hi y => by
      have h40 : ∀ j, j < 9 → qwd j < 40 := by decide
      have e := wat_u (h40 i hi) (h40 j hj) y.2 z.2
      have inj : ∀ i, i < 9 → ∀ j, j < 9 → qwd i = qwd j → i = j := by decide
      exact inj i hi j hj e
    have l1 : nI j < nI lo ↔ j < lo := nI_ltI (by omega) (by omega)
    have l2 : nI hi ≤ nI j ↔ hi ≤ j := nI_leI (by omega) (by omega)
    rw [l1, l2]
    exact ⟨fun y => hn h' (fun i hi' a b w => by have := U i hi' w; omega) e1 k1 a1, fun y => ⟨fun y2 => hn h' (fun i hi' a b w => by have := U i hi' w; omega) e1 k1 a1, fun y2 => hy j h' hj (by omega) (by omega) z e1 k1 a1⟩⟩
  · have lt : (-1 : Int32) < nI lo := by
      rw [Int32.lt_iff_toInt_lt, nI_toInt (by omega)]
      show (-1 : Int) < _
      omega
    exact bY lt (hn h' (fun i hi' _ _ => z i hi') e1 k1 a1)
theorem m_qAsksWord {j : Nat} (hw : gWf h lk sp cd) (tw : TWf t n) (tp : TPm t h) (k : MTk t n s b h) (hj : j < 9) (w : isW t n (qwd j) (s, b)) (hy : ∀ h', MLx h h' → MTk t n (nx t n s) (nj t n s) h' → Q none h') : gC l G (d + 4) MX12_qAsksWord [.ref 82, .int (nI j)] h Q := by
  have A : ∀ i, i < 9 → isW t n (qwd i) (s, b) → gC l G (d + 3) MX12_asks [.ref 82, .ref (155 + i)] h (rV fun h1 => h1.2.2 = h.2.2 ∧ Q none h1) := fun i hi w => by
    have hs : ∀ j, j < 9 → gSH[155 + j]? = some (22, wln (qwd j)) := by decide
    have hq : ∀ j, j < 9 → qwd j = wqt (12 + j) := by decide
    have h40 : ∀ j, j < 9 → qwd j < 40 := by decide
    have ok : wdF t n (qwd i) (s, b) = .ok (nx t n s, nj t n s) := if_pos w
    refine m_asks (d := d) (i := qwd i) (w := 155 + i) hw tw tp k (h40 i hi) (hs i hi) (by omega) (fun x hx => by rw [hq i hi] at hx ⊢; rw [show 155 + i = 143 + (12 + i) by omega]; exact tp.2.2 (12 + i) (by omega) x hx) (fun p' h5 q5 e5 k5 => ⟨rfl, e5.1.2, ?_⟩) (fun f q h5 q5 e5 => ?_)
    · have pe : (nx t n s, nj t n s) = p' := Except.ok.inj (ok.symm.trans q5)
      subst pe
      exact hy h5 e5 k5
    · exact absurd (ok.symm.trans q5) (by intro z; cases z)
  refine eX12_qAsksWord hw ?_
  have E : ∀ c : Nat, c < 9 → (nI j = nI c ↔ j = c) := fun c hc => nI_eq (by omega) (by omega)
  refine ⟨fun z => ?_, fun z => ?_, fun z => ?_, fun z => ?_, fun z => ?_, fun z => ?_, fun z => ?_, fun z => ?_, fun z0 z1 z2 z3 z4 z5 z6 z7 => ?_⟩
  · have : j = 0 := (E 0 (by decide)).mp z
    subst this; exact A 0 (by decide) w
  · have : j = 1 := (E 1 (by decide)).mp z
    subst this; exact A 1 (by decide) w
  · have : j = 2 := (E 2 (by decide)).mp z
    subst this; exact A 2 (by decide) w
  · have : j = 3 := (E 3 (by decide)).mp z
    subst this; exact A 3 (by decide) w
  · have : j = 4 := (E 4 (by decide)).mp z
    subst this; exact A 4 (by decide) w
  · have : j = 5 := (E 5 (by decide)).mp z
    subst this; exact A 5 (by decide) w
  · have : j = 6 := (E 6 (by decide)).mp z
    subst this; exact A 6 (by decide) w
  · have : j = 7 := (E 7 (by decide)).mp z
    subst this; exact A 7 (by decide) w
  · have : j = 8 := by
      have e0 : j ≠ 0 := fun y => z0 ((E 0 (by decide)).mpr y)
      have e1 : j ≠ 1 := fun y => z1 ((E 1 (by decide)).mpr y)
      have e2 : j ≠ 2 := fun y => z2 ((E 2 (by decide)).mpr y)
      have e3 : j ≠ 3 := fun y => z3 ((E 3 (by decide)).mpr y)
      have e4 : j ≠ 4 := fun y => z4 ((E 4 (by decide)).mpr y)
      have e5 : j ≠ 5 := fun y => z5 ((E 5 (by decide)).mpr y)
      have e6 : j ≠ 6 := fun y => z6 ((E 6 (by decide)).mpr y)
      have e7 : j ≠ 7 := fun y => z7 ((E 7 (by decide)).mpr y)
      omega
    subst this; exact A 8 (by decide) w
theorem m_qAsksWord_f {j : Nat} (hw : gWf h lk sp cd) (h5 : h.1 82 5 ≠ 0) (hq : Q none h) : gC l G (d + 2) MX12_qAsksWord [.ref 82, .int (nI j)] h Q :=
  eX12_qAsksWord hw ⟨fun _ => m_asks_f (d := d) hw rfl h5 ⟨rfl, rfl, hq⟩, fun _ => m_asks_f (d := d) hw rfl h5 ⟨rfl, rfl, hq⟩, fun _ => m_asks_f (d := d) hw rfl h5 ⟨rfl, rfl, hq⟩, fun _ => m_asks_f (d := d) hw rfl h5 ⟨rfl, rfl, hq⟩, fun _ => m_asks_f (d := d) hw rfl h5 ⟨rfl, rfl, hq⟩, fun _ => m_asks_f (d := d) hw rfl h5 ⟨rfl, rfl, hq⟩, fun _ => m_asks_f (d := d) hw rfl h5 ⟨rfl, rfl, hq⟩, fun _ => m_asks_f (d := d) hw rfl h5 ⟨rfl, rfl, hq⟩, fun _ _ _ _ _ _ _ _ => m_asks_f (d := d) hw rfl h5 ⟨rfl, rfl, hq⟩⟩
end MW
