/-- how much of the model's tables is for what is read -/
def mlo (a : Nat) : Nat := if a = 119 then 5 else if a = 120 then 12 else if a = 121 then 48 else if a = 122 then 12 else if a = 123 then 6 else if a = 124 then 36 else if a = 125 then 20 else if a = 126 then 1 else if a = 127 then 3 else if a = 128 then 3 else if a = 129 then 1600 else 0
/-- of the model nothing has changed but where it reads and what it reads -/
def MPx (h h' : gH) : Prop := gEq [82, 119, 120, 121, 122, 123, 124, 125, 126, 127, 128, 129, 130] h h' ∧ (∀ j, j ∉ [2, 4, 5, 6, 10, 45, 57, 60, 62, 63, 64] → h'.1 82 j = h.1 82 j) ∧ h'.2.1 82 = h.2.1 82 ∧ ∀ a, 119 ≤ a → a ≤ 129 → ∀ i, mlo a ≤ i → h'.1 a i = h.1 a i ∧ (a = 120 → h'.2.1 a i = h.2.1 a i)
def MPs (h h' : gH) : Prop := MPx h h' ∧ h'.1 82 6 = h.1 82 6
def MPf (f q : Nat) (h h' : gH) : Prop := MPx h h' ∧ h'.1 82 5 = nI f ∧ h'.1 82 6 = nI q
section MP
variable {l : Launch} {G : gG} {d : Nat} {Q : Option Value → gH → Prop} {h h1 h2 : gH} {lk sp : Nat} {cd : Option Nat} {t : Nat → Nat} {n s i f q c b w z : Nat} {u : Bool} {L : qL} {a1 a2 : Int32}
theorem MPx.rf : MPx h h := ⟨gEq.rf _ _, fun _ _ => rfl, rfl, fun _ _ _ _ _ => ⟨rfl, fun _ => rfl⟩⟩
theorem MPs.rf : MPs h h := ⟨MPx.rf, rfl⟩
theorem MPx.tr (a : MPx h h1) (e : MPx h1 h2) : MPx h h2 := ⟨(a.1.tr e.1).mono (fun x hx => by rcases List.mem_append.mp hx with z | z <;> exact z), fun j hj => (e.2.1 j hj).trans (a.2.1 j hj), e.2.2.1.trans a.2.2.1, fun k x y i hi => ⟨(e.2.2.2 k x y i hi).1.trans (a.2.2.2 k x y i hi).1, fun z => ((e.2.2.2 k x y i hi).2 z).trans ((a.2.2.2 k x y i hi).2 z)⟩⟩
theorem MPs.tr (a : MPs h h1) (e : MPs h1 h2) : MPs h h2 := ⟨a.1.tr e.1, e.2.trans a.2⟩
theorem MPs.fl (a : MPs h h1) (e : MPf f q h1 h2) : MPf f q h h2 := ⟨a.1.tr e.1, e.2⟩
theorem MLx.px (e : MLx h h1) : MPs h h1 := ⟨⟨e.1.mono (fun x hx => by simp at hx; simp [hx]), fun j hj => e.2.1 j (fun z => hj (by simp at z ⊢; omega)), e.2.2, fun a x y i _ => ⟨by rw [(e.1.1 a (by simp; omega)).1], fun _ => by rw [(e.1.1 a (by simp; omega)).2]⟩⟩, e.2.1 6 (by decide)⟩
theorem MFl.px (e : MFl f q h h1) : MPf f q h h1 := ⟨⟨e.1.mono (fun x hx => by simp at hx; simp [hx]), fun j hj => e.2.1 j (fun z => hj (by simp at z ⊢; omega)), e.2.2.1, fun a x y i _ => ⟨by rw [(e.1.1 a (by simp; omega)).1], fun _ => by rw [(e.1.1 a (by simp; omega)).2]⟩⟩, e.2.2.2⟩
theorem MPs.si {k j : Nat} {x : Int32} (e : MPs h h1) (h1' : 119 ≤ k) (h2' : k ≤ 129) (hj : j < mlo k) : MPs h (sI h1 k j x) := by
  refine ⟨⟨gE1 (by simp; omega) e.1.1, fun i hi => ?_, e.1.2.2.1, fun a y w i hi => ⟨?_, (e.1.2.2.2 a y w i hi).2⟩⟩, ?_⟩
  · rw [sI_ne (by omega)]; exact e.1.2.1 i hi
  · by_cases q : a = k
    · rw [q, sI_nb (fun z => by rw [q, z] at hi; omega)]; rw [q] at hi y w; exact (e.1.2.2.2 k y w i hi).1
    · rw [sI_ne q]; exact (e.1.2.2.2 a y w i hi).1
  · rw [sI_ne (by omega)]; exact e.2
theorem MPs.sl {j : Nat} {x : Int64} (e : MPs h h1) (hj : j < 12) : MPs h (sL h1 120 j x) := by
  refine ⟨⟨⟨fun a ha => ?_, e.1.1.2⟩, e.1.2.1, ?_, fun a y w i hi => ⟨(e.1.2.2.2 a y w i hi).1, ?_⟩⟩, e.2⟩
  · have q := e.1.1.1 a ha
    refine ⟨q.1, ?_⟩
    rw [sL_na (fun z => ha (by rw [z]; decide))]
    exact q.2
  · rw [sL_na (by decide)]; exact e.1.2.2.1
  · intro q
    rw [q] at hi ⊢
    have : 12 ≤ i := hi
    rw [sL_nb (by omega)]; exact (e.1.2.2.2 120 (by decide) (by decide) i hi).2 rfl
theorem LMp.ml (k : LMp L h) (e : MLx h h1) : LMp L h1 := by
  unfold LMp at k ⊢
  have E : ∀ a, a ≠ 82 → h1.1 a = h.1 a := fun a ha => (e.1.1 a (by simpa using ha)).1
  rw [E 119 (by decide), E 121 (by decide), E 122 (by decide), E 123 (by decide), E 124 (by decide), E 125 (by decide), E 126 (by decide), E 127 (by decide), E 128 (by decide), E 129 (by decide), (e.1.1 120 (by decide)).2, e.2.1 60 (by decide)]
  exact k
theorem m_isFull {k m v pl : Nat} (hw : gWf h lk sp cd) (h5 : h.1 82 5 = 0) (hk : k < 10) (hv : h.1 119 k = nI v) (v2 : v < 2 ^ 20) (m2 : m < 2 ^ 20) (hy : ∀ h', v = m → MFl 5 pl h h' → Q (some (.int 1)) h') (hn : v ≠ m → Q (some (.int 0)) h) : gC l G (d + 1) MX12_isFull [.ref 82, .int (nI k), .int (nI m), .int (nI pl)] h Q := by
  refine eX12_isFull hw (bY' h5 ⟨vp_in_nI hk (by decide), ?_⟩)
  rw [nI_clamp (by omega), hv, nI_eq (by omega) (by omega)]
  refine ⟨fun z => bY h5 (hn z), fun z => m_fail (f := 5) hw h5 (fun h1 e1 => ⟨rfl, e1.1.2, ?_⟩)⟩
  rw [e1.2.2.2.1]
  exact bN (by decide) (hy h1 z e1)
theorem m_nameOf {k : Nat} {v : Int64} (hw : gWf h lk sp cd) (hz : z < 2) (hk : h.1 119 (2 + z) = nI k) (k6 : k ≤ 6) (hy : ∀ j, j < k → h.2.1 120 (6 * z + j) = v → (∀ j', j' < j → h.2.1 120 (6 * z + j') ≠ v) → Q (some (.int (nI j))) h) (hn : (∀ j, j < k → h.2.1 120 (6 * z + j) ≠ v) → Q (some (.int (-1))) h) : gC l G d MX12_nameOf [.ref 82, .int (nI z), .long v] h Q := by
  refine eX12_nameOf hw (fun p e s m args below meth cc => ?_)
  have e2 : 2 + nI z = nI (2 + z) := by rw [lit 2, nI_add]
  have H : ∀ r j, j + r = k → (∀ j', j' < j → h.2.1 120 (6 * z + j') ≠ v) → gg p l e s m args below meth cc G d MX12_nameOf Q 3 [some (.ref 82), some (.int (nI z)), some (.long v), none, some (.int (nI j))] [] h := by
    intro r
    induction r with
    | zero =>
      intro j hj a
      have : j = k := by omega
      subst this
      refine wX12_nameOf_3 hw.1 hw.2.1 hw.2.2.1 ?_
      rw [e2, nI_clamp (by omega), hk]
      exact ⟨vp_in_nI (by omega) (by decide), bY (nI_le (Nat.le_refl _) (by omega)) (hn a)⟩
    | succ r ih =>
      intro j hj a
      have e6 : 6 * nI z + nI j = nI (6 * z + j) := by rw [lit 6, pk_mul, nI_add]
      refine wX12_nameOf_3 hw.1 hw.2.1 hw.2.2.1 ?_
      rw [e2, nI_clamp (by omega), hk, e6, nI_clamp (by omega), lg_cmp_eq, nI_1]
      refine ⟨vp_in_nI (by omega) (by decide), bN (nI_ge (by omega) (by omega)) ⟨vp_in_nI (by omega) (by decide), fun y => ih (j + 1) (by omega) (fun j' hj' => ?_), fun y => hy j (by omega) y a⟩⟩
      by_cases x : j' = j
      · rw [x]; exact y
      · exact a j' (by omega)
  exact H k 0 (by omega) (fun _ y => absurd y (Nat.not_lt_zero _))
end MP
