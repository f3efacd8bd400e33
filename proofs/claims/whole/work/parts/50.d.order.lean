/-- the rest is kept, though the model's row of now is laid anew -/
theorem Rst_cg7 {n : Nat} {h h' : gH} (er : h'.2.2 = h.2.2) (e : ∀ k, k ∈ gRc → k ≠ 133 → h'.1 k = h.1 k ∧ h'.2.1 k = h.2.1 k) (e7 : ∀ j, j < 187 → h'.1 133 j = h.1 133 j) (es : ∀ j, j ∈ gRs → h'.1 82 j = h.1 82 j) (e3 : h'.1 58 3 = h.1 58 3) (e4 : h'.1 58 4 = h.1 58 4) (q : Rst n h) : Rst (n + 1) h' := by
  obtain ⟨lk, sp, cd, A, F, hw, g1, g2, g3, g4, ⟨T, hT, g5⟩, g6, g7, g8, g9⟩ := q
  have e7' := (e 7 (by decide) (by decide)).1
  have e6 := (e 6 (by decide) (by decide)).1
  refine ⟨lk, sp, cd, A, F, ⟨er.trans hw.1, hw.2⟩, g1, g2.cg (fun j hj => ?_), g3.cg (fun k hk => ?_) (es 58 (by decide)), g4, ⟨T, by omega, by rw [e7']; exact g5⟩, g6.cg7 g1.B6 g4.2.2.1 e7, by rw [e6]; exact g7, g8.cg e6 (fun j hj => ?_) (e 142 (by decide) (by decide)).1 (es 80 (by decide)) (es 81 (by decide)), g9.cg e3 e4 (e 59 (by decide) (by decide)).1 (e 60 (by decide) (by decide)).1 (e 141 (by decide) (by decide)).1 (es 76 (by decide)) (es 77 (by decide)) (fun k hk => (e k (gWds_c k hk) (gWds_n k hk).2.2.2.2.1).1)⟩
  · have : ∀ k, k = 30 ∨ k = 67 → ∀ j, j < 15 → k + j ∈ gRc ∧ k + j ≠ 133 := by
      rintro k (rfl | rfl) <;> decide
    have := this lk hw.2.1 j hj
    exact (e (lk + j) this.1 this.2).1
  · have : ∀ k, k ∈ [119, 120, 121, 122, 123, 124, 125, 126, 127, 128, 129] → k ∈ gRc ∧ k ≠ 133 := by decide
    exact e k (this k hk).1 (this k hk).2
  · have : ∀ j, j < 20 → 9 + j ∈ gRc ∧ 9 + j ≠ 133 := by decide
    exact (e (9 + j) (this j hj).1 (this j hj).2).1
def OS (h0 h : gH) : Prop := MG [82, 131, 132, 133, 134, 137, 138] h0 h ∧ (∀ j, j < 187 → h.1 133 j = h0.1 133 j) ∧ (∀ j, j < 187 → h.1 134 j = h0.1 133 j)
section OR4
variable {l : Launch} {G : gG} {d : Nat} {Q : Option Value → gH → Prop} {h h0 : gH} {lk sp : Nat} {cd : Option Nat} {A F F' : qT} {T n b c M bo go g p v : Nat}
theorem OS.km (k : KM A F h0) (o : OS h0 h) : KM A F h := by
  refine ⟨k.g, k.l.cg (fun x hx => o.1.1.1 x (fun z => ?_)) (o.1.2.1 58 (by decide)), k.f, k.y.cg7 k.g.B6 k.f.2.2.1 o.2.1⟩
  simp at hx z
  omega
theorem OS.row (o : OS h0 h) {h' : gH} (e : gEq [137] h h') : OS h0 h' := ⟨⟨(o.1.1.tr e).mono (fun x hx => by simp at hx ⊢; omega), fun j hj => by rw [(e.1 82 (by decide)).1]; exact o.1.2.1 j hj, by rw [(e.1 82 (by decide)).2]; exact o.1.2.2⟩, fun j hj => by rw [(e.1 133 (by decide)).1]; exact o.2.1 j hj, fun j hj => by rw [(e.1 134 (by decide)).1]; exact o.2.2 j hj⟩
theorem OS.best (o : OS h0 h) {h' : gH} (e : gEq [138] h h') : OS h0 h' := ⟨⟨(o.1.1.tr e).mono (fun x hx => by simp at hx ⊢; omega), fun j hj => by rw [(e.1 82 (by decide)).1]; exact o.1.2.1 j hj, by rw [(e.1 82 (by decide)).2]; exact o.1.2.2⟩, fun j hj => by rw [(e.1 133 (by decide)).1]; exact o.2.1 j hj, fun j hj => by rw [(e.1 134 (by decide)).1]; exact o.2.2 j hj⟩
theorem OS.back (o : OS h0 h) {h1 h2 : gH} (e : MT h h1) (e2 : gEq [133] h1 h2) (v : ∀ j, j < 187 → h2.1 133 j = h1.1 134 j) : OS h0 h2 := by
  refine ⟨⟨((o.1.1.tr e.1).tr e2).mono (fun x hx => by simp at hx ⊢; omega), fun j hj => ?_, ?_⟩, fun j hj => ?_, fun j hj => ?_⟩
  · rw [(e2.1 82 (by decide)).1, e.2.1 j hj]; exact o.1.2.1 j hj
  · rw [(e2.1 82 (by decide)).2, e.2.2]; exact o.1.2.2
  · rw [v j hj, (e.1.1 134 (by decide)).1]; exact o.2.2 j hj
  · rw [(e2.1 134 (by decide)).1, (e.1.1 134 (by decide)).1]; exact o.2.2 j hj
theorem m_orderL {p9 : Program} {e9 : Env} {s9 : State} {m9 : MethodId} {args9 : Array Value} {below9 : List Frame} {meth9 : Method} {cc9 : Code} {a : Int32} (hw : gWf h0 lk sp cd) (k : KM A F h0) (hc : qW A c) (hM : M < 2 ^ qB A) (hn : n = pcn M)
    (hq : ∀ h' g p, OS h0 h' → g ≤ 7 → (g ≠ 0 → ∀ i, i < n → h'.1 138 i = nI (dg n p i)) → Bst A F M n c (6 ^ n) g p → ((¬ a = (-1) → (vp_in a 6 ∧ Q (some (.int (h'.1 138 a.toNatClampNeg))) h')) ∧ (a = (-1) → Q (some (.int (nI g - 1))) h'))) :
    ∀ r v g p h, v + r = 6 ^ n → OS h0 h → g ≤ 7 → (g ≠ 0 → ∀ i, i < n → h.1 138 i = nI (dg n p i)) → Bst A F M n c v g p → gg p9 l e9 s9 m9 args9 below9 meth9 cc9 G (d + 8 + 1) MX12_order Q 66 [some (.ref 82), some (.int (nI M)), some (.int (nI c)), some (.int a), some (.int (nI n)), some (.int (nI (6 ^ n))), some (.int (nI g - 1)), some (.int (nI v)), none, none] [] h := by
  have h6 := k.g.B6
  have p64 : 2 ^ qB A ≤ 2 ^ 6 := Nat.pow_le_pow_right (by decide) h6
  have n6 : n ≤ 6 := by rw [hn]; exact pcn_6 M (by omega)
  have p6 : 6 ^ n ≤ 6 ^ 6 := Nat.pow_le_pow_right (by decide) n6
  intro r
  induction r with
  | zero =>
    intro v g p h hr o g7 u B
    have : v = 6 ^ n := by omega
    subst this
    have hwh := hw.eq o.1.1
    exact wX12_order_66 hwh.1 hwh.2.1 hwh.2.2.1 (bY (Int32.le_refl _) (hq h g p o g7 u B))
  | succ r ih =>
    intro v g p h hr o g7 u B
    have hwh := hw.eq o.1.1
    have sk : ∀ h', OS h0 h' → (g ≠ 0 → ∀ i, i < n → h'.1 138 i = nI (dg n p i)) → (vld M n v → ocn A F c n v < g) → gg p9 l e9 s9 m9 args9 below9 meth9 cc9 G (d + 8 + 1) MX12_order Q 66 [some (.ref 82), some (.int (nI M)), some (.int (nI c)), some (.int a), some (.int (nI n)), some (.int (nI (6 ^ n))), some (.int (nI g - 1)), some (.int (nI v + 1)), none, none] [] h' := fun h' o' u' q => by
      rw [nI_1]
      refine ih (v + 1) g p h' (by omega) o' g7 u' (B.skip (by omega) (fun x x1 x2 x3 => ?_))
      have : x = v := by omega
      subst this
      exact q x3
    refine wX12_order_66 hwh.1 hwh.2.1 hwh.2.2.1 (bN (nI_ge (by omega) (by omega)) (m_isRow hwh (by omega) n6 (by omega) (fun h1 e1 v1 => ⟨fun hv => ⟨_, rfl, e1.2, bN' (by decide) ?_⟩, fun hv => ⟨_, rfl, e1.2, bY' rfl ?_⟩⟩)))
    · have o1 := o.row e1
      have k1 := o1.km k
      have hw1 := hw.eq o1.1.1
      have oc : (flr A (dg n v) c n 0 (F, 0, 0)).2 = smr A F c (dg n v) n := by
        have := flr_smr (A := A) (F := F) (c := c) (t := dg n v) n 0 (F, 0, 0) (fun i j x y => vld_inj hn hv x (by omega)) rfl (fun i _ _ => ⟨rfl, rfl, rfl⟩) rfl
        rw [Nat.zero_add] at this
        exact this
      refine m_files hw1 k1 n6 hc (fun i hi => ⟨v1 i hi, bin_lt hM (vld_in hv hi)⟩) (fun h2 e2 _ => ⟨_, rfl, e2.1.2, m_takesBack (hw1.eq e2.1) (fun h3 e3 v3 => ⟨rfl, e3.2, ?_⟩)⟩)
      have o3 := o1.back e2 e3 v3
      have hw3 := hw.eq o3.1.1
      have s6 := smr_0 (A := A) (F := F) (c := c) (r := dg n v) n
      have eo : ocn A F c n v = (smr A F c (dg n v) n).2 := rfl
      rw [oc, ← eo]
      rw [← eo] at s6
      have lt : nI g - 1 < nI (ocn A F c n v) ↔ g ≤ ocn A F c n v := by
        rw [Int32.lt_iff_toInt_lt, nI_toInt (by omega), show (1 : Int32) = nI 1 from rfl, pk_sub_toInt (by omega) (by omega)]
        omega
      rw [lt]
      have u3 : ∀ i, h3.1 138 i = h.1 138 i := fun i => by rw [(e3.1 138 (by decide)).1, (e2.1.1 138 (by decide)).1, (e1.1 138 (by decide)).1]
      refine ⟨fun z => ?_, fun z => sk h3 o3 (fun g0 i hi => by rw [u3]; exact u g0 i hi) (fun _ => by omega)⟩
      have w3 : ∀ i, i < n → h3.1 137 i = nI (dg n v i) := fun i hi => by rw [(e3.1 137 (by decide)).1, (e2.1.1 137 (by decide)).1]; exact v1 i hi
      suffices H : ∀ r i h', i + r = n → gEq [138] h3 h' → (∀ j, j < i → h'.1 138 j = nI (dg n v j)) → gg p9 l e9 s9 m9 args9 below9 meth9 cc9 G (d + 8 + 1) MX12_order Q 118 [some (.ref 82), some (.int (nI M)), some (.int (nI c)), some (.int a), some (.int (nI n)), some (.int (nI (6 ^ n))), some (.int (nI (ocn A F c n v))), some (.int (nI v)), some (.int (nI (ocn A F c n v))), some (.int (nI i))] [] h' from H n 0 h3 (by omega) (gEq.rf _ _) (fun j hj => absurd hj (Nat.not_lt_zero _))
      intro r'
      induction r' with
      | zero =>
        intro i h' hi e4 v4
        have hw4 := hw3.eq e4
        refine wX12_order_118 hw4.1 hw4.2.1 hw4.2.2.1 (bY (nI_le (by omega) (by omega)) ?_)
        have := ih (v + 1) (ocn A F c n v + 1) v h' (by omega) (o3.best e4) (by omega) (fun _ j hj => v4 j (by omega)) (B.take hv z)
        rw [i_s1] at this
        rw [nI_1]
        exact this
      | succ r' ih' =>
        intro i h' hi e4 v4
        have hw4 := hw3.eq e4
        refine wX12_order_118 hw4.1 hw4.2.1 hw4.2.2.1 (bN (nI_ge (by omega) (by omega)) ⟨vp_in_nI (by omega) (by decide), vp_in_nI (by omega) (by decide), ?_⟩)
        rw [nI_clamp (by omega), nI_1]
        refine ih' (i + 1) _ (by omega) (gE1 (by decide) e4) (fun j hj => ?_)
        by_cases e : j = i
        · subst e; rw [sI_s, (e4.1 137 (by decide)).1]; exact w3 j (by omega)
        · rw [sI_nb e]; exact v4 j (by omega)
    · exact sk h1 (o.row e1) (fun g0 i hi => by rw [(e1.1 138 (by decide)).1]; exact u g0 i hi) (fun q => absurd q hv)
theorem st_order : gStepI l G (gInv Rst) MX11_order MX12_order 3 := by
  intro n9 h av hn9 hl hi
  obtain ⟨a, b, c, rfl⟩ := three_of hl
  obtain ⟨lk, sp, cd, A, F, T, hw, k, m, -, -⟩ := hi.2.2.2.2.2.2.k hn9
  have hm := gInv.mono Rst_cg n9 h hi
  have h6 := k.g.B6
  have h48 := k.g.N48
  have hp : 2 ^ qB A ≤ 2 ^ 6 := Nat.pow_le_pow_right (by decide) h6
  refine eX11_order (d := 899) hw (c_canTry hw k (fun M x ea eb q => ⟨_, rfl, rfl, bN (by decide) ?_⟩) (fun no => ⟨_, rfl, rfl, bY rfl ⟨_, rfl, ?_⟩⟩))
  · subst ea eb
    have hM := q.2.1
    have hq := q
    obtain ⟨-, -, f, -, -, hx⟩ := q
    have n6 := pcn_6 M (by omega)
    refine ⟨fun c1 => ?_, fun c1 => ⟨_, rfl, ?_⟩⟩
    · have srt : ∀ Q : Option Value → gH → Prop, (∀ h' g p, gEq [45, 46, 48, 53, 54, 55] h h' → g ≤ 7 → g ≠ 0 → (∀ i, i < pcn M → h'.1 55 i = nI (dg (pcn M) p i)) → Bst A F M (pcn M) x (6 ^ pcn M) g p → Q (some (.int (nI g - 1))) h') → gC l G 899 MX1_sort [.ref 53, .int (nI M), .int (nI x)] h Q := fun Q hq => by
        have := c_sort (l := l) (G := G) (d := 893 - pcn M) (Q := Q) hw k hx.1.1 hM hq
        rw [show 893 - pcn M + pcn M + 6 = 899 by omega] at this
        exact this
      refine srt _ (fun h1 g p e1 g7 g0 v1 B1 => ⟨_, rfl, e1.2, ?_⟩)
      have hw1 := hw.eq e1
      have m1 : KM A F h1 := m.eq e1 (fun x hx => by simp at hx; omega) (by rw [(e1.1 82 (by decide)).1])
      have fin : ∀ h2, OS h1 h2 → gInv Rst (n9 + 1) h2 := fun h2 e2 => by
        have rc : ∀ y, y ∈ gRc → y ≠ 133 → y ∉ [45, 46, 48, 53, 54, 55] ∧ y ∉ [82, 131, 132, 133, 134, 137, 138] := by decide +kernel
        refine inv_mk hi (Rst_cg7 (e2.1.1.2.trans e1.2) (fun y hy h133 => ?_) (fun j hj => ?_) (fun j hj => ?_) ?_ ?_ hi.2.2.2.2.2.2) (e2.1.1.2.trans e1.2) (fun y hy => ?_) ?_ ?_ (fun j hj => ?_) ?_ ?_
        · obtain ⟨r1, r2⟩ := rc y hy h133
          exact ⟨(e2.1.1.1 y r2).1.trans (e1.1 y r1).1, (e2.1.1.1 y r2).2.trans (e1.1 y r1).2⟩
        · rw [e2.2.1 j hj, (e1.1 133 (by decide)).1]
        · rw [e2.1.2.1 j (fun z => by subst z; revert hj; decide), (e1.1 82 (by decide)).1]
        · rw [(e2.1.1.1 58 (by decide)).1, (e1.1 58 (by decide)).1]
        · rw [(e2.1.1.1 58 (by decide)).1, (e1.1 58 (by decide)).1]
        · have : ∀ y, y ∈ [0, 2, 65, 66, 83, 84, 167] → y ∉ [45, 46, 48, 53, 54, 55] ∧ y ∉ [82, 131, 132, 133, 134, 137, 138] := by decide +kernel
          obtain ⟨r1, r2⟩ := this y hy
          exact ⟨(e2.1.1.1 y r2).1.trans (e1.1 y r1).1, (e2.1.1.1 y r2).2.trans (e1.1 y r1).2⟩
        · rw [(e2.1.1.1 1 (by decide)).1, (e1.1 1 (by decide)).1]
        · rw [(e2.1.1.1 1 (by decide)).1, (e1.1 1 (by decide)).1]
        · rw [e2.1.2.1 j (fun z => by subst z; revert hj; decide), (e1.1 82 (by decide)).1]
        · rw [e2.1.2.2, (e1.1 82 (by decide)).2]
        · rw [(e2.1.1.1 1 (by decide)).1, (e1.1 1 (by decide)).1, e2.1.2.1 1 (by decide), (e1.1 82 (by decide)).1]
          exact hi.2.2.2.2.1.1
      have f1 : gInv Rst (n9 + 1) h1 := inv_read hi e1 (by decide) (fun j _ => by rw [(e1.1 82 (by decide)).1]) (by rw [(e1.1 82 (by decide)).2]) (by rw [(e1.1 58 (by decide)).1]) (by rw [(e1.1 58 (by decide)).1])
      have mdl : ∀ w : Int32, (c = -1 → w = nI g - 1) → (¬ c < nI (pcn M) → w = -1) → (∀ K, c = nI K → K < pcn M → w = nI (dg (pcn M) p K)) → gC l G 900 MX12_order [.ref 82, .int (nI M), .int (nI x), .int c] h1 (fun r h' => ∃ v'', r = some (.int v'') ∧ w = v'' ∧ gInv Rst (n9 + 1) h') := fun w q0 q1 q2 => by
        refine eX12_order (d := 899) hw1 (fun p9 e9 s9 m9 args9 below9 meth9 cc9 => m_canFile hw1 m1 (fun _ _ _ _ _ => ⟨_, rfl, rfl, bN (by decide) (bN (Int32.not_lt.mpr c1) (m_bits hw1 (by omega) ⟨_, rfl, rfl, fun z => m_bits hw1 (by omega) ⟨_, rfl, rfl, ?_⟩, fun z => ⟨_, rfl, q1 z, f1⟩⟩))⟩) (fun no => absurd rfl (no M x hq rfl)))
        suffices H : ∀ r i, i + r = pcn M → gg p9 l e9 s9 m9 args9 below9 meth9 cc9 G 900 MX12_order (fun r h' => ∃ v'', r = some (.int v'') ∧ w = v'' ∧ gInv Rst (n9 + 1) h') 36 [some (.ref 82), some (.int (nI M)), some (.int (nI x)), some (.int c), some (.int (nI (pcn M))), some (.int (nI (6 ^ i))), some (.int (nI i)), none, none, none] [] h1 from H (pcn M) 0 (by omega)
        intro r
        induction r with
        | zero =>
          intro i hi'
          have : i = pcn M := by omega
          subst this
          refine wX12_order_36 (d := 899) hw1.1 hw1.2.1 hw1.2.2.1 (bY (Int32.le_refl _) (m_putsAside hw1 (fun h2 e2 v2 => ⟨rfl, e2.2, ?_⟩)))
          have o2 : OS h1 h2 := ⟨⟨e2.mono (fun x hx => by simp at hx ⊢; omega), fun j _ => by rw [(e2.1 82 (by decide)).1], by rw [(e2.1 82 (by decide)).2]⟩, fun j _ => by rw [(e2.1 133 (by decide)).1], v2⟩
          exact m_orderL (l := l) (G := G) (d := 891) (p9 := p9) (e9 := e9) (s9 := s9) (m9 := m9) (args9 := args9) (below9 := below9) (meth9 := meth9) (cc9 := cc9) (a := c) (F := F) (Q := fun r h' => ∃ v'', r = some (.int v'') ∧ w = v'' ∧ gInv Rst (n9 + 1) h') hw1 m1 hx.1 hM rfl (fun h3 g3 p3 o3 g73 v3 B3 => by
            obtain ⟨rfl, rfl⟩ := B1.u B3 g0
            refine ⟨fun z2 => ?_, fun z2 => ⟨_, rfl, q0 z2, fin h3 o3⟩⟩
            have cp : ¬ c < 0 := fun q => z2 (by
              rw [Int32.le_iff_toInt_le, show (-1 : Int32).toInt = -1 by decide] at c1
              rw [Int32.lt_iff_toInt_lt, show (0 : Int32).toInt = 0 by decide] at q
              refine Int32.toInt_inj.mp ?_
              rw [show (-1 : Int32).toInt = -1 by decide]
              omega)
            obtain ⟨K, hK, rfl⟩ := nI_of cp
            rw [nI_ltI hK (by omega)] at z
            refine ⟨vp_in_nI (by omega) (by decide), _, rfl, ?_, fin h3 o3⟩
            rw [nI_clamp hK, v3 g0 K z]
            exact q2 K rfl z) (6 ^ pcn M) 0 0 0 h2 (by omega) o2 (by omega) (fun q => absurd rfl q) Bst.zero
        | succ r ih =>
          intro i hi'
          refine wX12_order_36 (d := 899) hw1.1 hw1.2.1 hw1.2.2.1 (bN (nI_ge (by omega) (by omega)) ?_)
          rw [nI_1, lit 6, pk_mul, ← Nat.pow_succ]
          exact ih (i + 1) (by omega)
      refine ⟨fun y => c_bitCount hw1 (by omega) ⟨_, rfl, rfl, fun y2 => ⟨_, rfl, mdl _ (fun z => absurd z y) (fun _ => rfl) (fun K z z2 => ?_)⟩, fun y2 => ?_⟩, fun y => ⟨_, rfl, mdl _ (fun _ => rfl) (fun z => absurd ?_ z) (fun K z _ => ?_)⟩⟩
      · subst z
        exact absurd y2 (nI_ge z2 (by omega))
      · have cp : ¬ c < 0 := fun q => y (by
          rw [Int32.le_iff_toInt_le, show (-1 : Int32).toInt = -1 by decide] at c1
          rw [Int32.lt_iff_toInt_lt, show (0 : Int32).toInt = 0 by decide] at q
          refine Int32.toInt_inj.mp ?_
          rw [show (-1 : Int32).toInt = -1 by decide]
          omega)
        obtain ⟨K, hK, rfl⟩ := nI_of cp
        rw [nI_leI (by omega) hK] at y2
        refine bN (nI_ge (b := 6) (by omega) (by decide)) ⟨vp_in_nI (by omega) (by decide), _, rfl, ?_⟩
        rw [nI_clamp hK, v1 K (by omega)]
        refine mdl _ (fun z => absurd z y) (fun z => absurd (nI_lt (by omega) (by omega)) z) (fun K' z z2 => ?_)
        rw [(nI_eq hK (by omega)).mp z]
      · rw [y, Int32.lt_iff_toInt_lt, nI_toInt (by omega), show (-1 : Int32).toInt = -1 by decide]
        omega
      · rw [y] at z
        exact absurd z.symm (i_nm1 (by omega))
    · exact eX12_order (d := 899) hw (fun p9 e9 s9 m9 args9 below9 meth9 cc9 => m_canFile hw m (fun _ _ _ _ _ => ⟨_, rfl, rfl, bN (by decide) (bY (Int32.not_le.mp c1) ⟨_, rfl, rfl, hm⟩)⟩) (fun no => absurd rfl (no M x hq rfl)))
  · exact eX12_order (d := 899) hw (fun p9 e9 s9 m9 args9 below9 meth9 cc9 => m_canFile hw m (fun M x ea eb q => absurd eb (no M x q ea)) (fun _ => ⟨_, rfl, rfl, bY rfl ⟨_, rfl, rfl, hm⟩⟩))
end OR4
