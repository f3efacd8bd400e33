def qdp (A : qT) (c : Nat) : Nat := if qkd A c = 4 then 0 else min 2 (qkd A c)
def qwr (A : qT) (c : Nat) : Nat := if qkd A c = 3 then 1 else 0
/-- the skill of a hand, told by it and 1 -/
def qsx (A : qT) (x : Nat) : Nat := if x = 0 then 0 else qsk A (x - 1)
section CL
variable {l : Launch} {G : gG} {d : Nat} {Q : Option Value → gH → Prop} {h : gH} {lk sp : Nat} {cd : Option Nat} {A F : qT} {T : Nat}
theorem c_isBoat_y {j : Nat} (hw : gWf h lk sp cd) (g : qG A) (k : LC A lk h) (hj : j < qB A) (hq : Q (some (.int 1)) h) : gC l G d MX4_isBoat [.ref lk, .int (nI j)] h Q := by
  have := g.B6
  refine eX4_isBoat hw hw.2.1 (bN (nI_pos (by omega)) (bN ?_ (bN (nI_ge (b := 6) (by omega) (by decide)) hq)))
  rw [k.B]
  exact nI_ge hj (by omega)
theorem c_isBoat_n {a : Int32} (hw : gWf h lk sp cd) (g : qG A) (k : LC A lk h) (hn : ∀ j, j < qB A → a ≠ nI j) (hq : Q (some (.int 0)) h) : gC l G d MX4_isBoat [.ref lk, .int a] h Q := by
  have := g.B6
  refine eX4_isBoat hw hw.2.1 ?_
  by_cases q : a < 0
  · exact bY q hq
  · refine bN q (bY ?_ hq)
    rw [k.B]
    exact (ixn (by omega) hn).resolve_left q
theorem c_isHand_y {j : Nat} (hw : gWf h lk sp cd) (g : qG A) (k : LC A lk h) (hj : j < qH A) (hq : Q (some (.int 1)) h) : gC l G d MX4_isHand [.ref lk, .int (nI j)] h Q := by
  have := g.H6
  refine eX4_isHand hw hw.2.1 (bN (nI_pos (by omega)) (bN ?_ (bN (nI_ge (b := 6) (by omega) (by decide)) hq)))
  rw [k.H]
  exact nI_ge hj (by omega)
theorem c_isHand_n {a : Int32} (hw : gWf h lk sp cd) (g : qG A) (k : LC A lk h) (hn : ∀ j, j < qH A → a ≠ nI j) (hq : Q (some (.int 0)) h) : gC l G d MX4_isHand [.ref lk, .int a] h Q := by
  have := g.H6
  refine eX4_isHand hw hw.2.1 ?_
  by_cases q : a < 0
  · exact bY q hq
  · refine bN q (bY ?_ hq)
    rw [k.H]
    exact (ixn (by omega) hn).resolve_left q
theorem c_isCell_y {j : Nat} (hw : gWf h lk sp cd) (g : qG A) (k : LC A lk h) (hj : j < qN A) (hq : Q (some (.int 1)) h) : gC l G d MX4_isCell [.ref lk, .int (nI j)] h Q := by
  have := g.N48
  refine eX4_isCell hw hw.2.1 (bN (nI_pos (by omega)) (bN (nI_ge (b := 48) (by omega) (by decide)) (bN ?_ hq)))
  rw [k.N]
  exact nI_ge hj (by omega)
theorem c_isCell_n {a : Int32} (hw : gWf h lk sp cd) (g : qG A) (k : LC A lk h) (hn : ∀ j, j < qN A → a ≠ nI j) (hq : Q (some (.int 0)) h) : gC l G d MX4_isCell [.ref lk, .int a] h Q := by
  have := g.N48
  refine eX4_isCell hw hw.2.1 ?_
  by_cases q : a < 0
  · exact bY q hq
  · refine bN q ⟨fun _ => hq, fun _ => bY ?_ hq⟩
    rw [k.N]
    exact (ixn (by omega) hn).resolve_left q
theorem c_isLand {j : Nat} (hw : gWf h lk sp cd) (g : qG A) (k : LC A lk h) (hj : j < qN A) (hy : qkd A j = 4 → Q (some (.int 1)) h) (hn : qkd A j ≠ 4 → Q (some (.int 0)) h) : gC l G (d + 1) MX4_isLand [.ref lk, .int (nI j)] h Q := by
  have := g.N48
  have h4 := g.kd j hj
  refine eX4_isLand hw hw.2.1 (c_isCell_y hw g k hj ⟨_, rfl, rfl, bN (by decide) ⟨vp_in_nI (by omega) (by decide), ?_⟩⟩)
  rw [nI_clamp (by omega), k.kd j hj]
  exact ⟨fun z => hn (fun e => z (by rw [e]; rfl)), fun z => hy ((nI_eq (b := 4) (by omega) (by decide)).mp z)⟩
theorem c_isWater_y {j : Nat} (hw : gWf h lk sp cd) (g : qG A) (k : LC A lk h) (hj : qW A j) (hq : Q (some (.int 1)) h) : gC l G (d + 1) MX4_isWater [.ref lk, .int (nI j)] h Q := by
  have := g.N48
  obtain ⟨hj, hk⟩ := hj
  have h4 := g.kd j hj
  refine eX4_isWater hw hw.2.1 (c_isCell_y hw g k hj ⟨_, rfl, rfl, bN (by decide) ⟨vp_in_nI (by omega) (by decide), bN ?_ hq⟩⟩)
  rw [nI_clamp (by omega), k.kd j hj]
  exact fun z => hk ((nI_eq (b := 4) (by omega) (by decide)).mp z)
theorem c_isWater_n {a : Int32} (hw : gWf h lk sp cd) (g : qG A) (k : LC A lk h) (hn : ∀ j, qW A j → a ≠ nI j) (hq : Q (some (.int 0)) h) : gC l G (d + 1) MX4_isWater [.ref lk, .int a] h Q := by
  have := g.N48
  refine eX4_isWater hw hw.2.1 ?_
  rcases ixd a (qN A) (by omega) with ⟨j, hj, rfl⟩ | hc
  · have e4 : qkd A j = 4 := Decidable.byContradiction (fun e => hn j ⟨hj, e⟩ rfl)
    refine c_isCell_y hw g k hj ⟨_, rfl, rfl, bN (by decide) ⟨vp_in_nI (by omega) (by decide), bY ?_ hq⟩⟩
    rw [nI_clamp (by omega), k.kd j hj, e4]
    rfl
  · exact c_isCell_n hw g k hc ⟨_, rfl, rfl, bY rfl hq⟩
theorem c_depthOf {j : Nat} (hw : gWf h lk sp cd) (g : qG A) (k : LC A lk h) (hj : j < qN A) (hq : Q (some (.int (nI (qdp A j)))) h) : gC l G (d + 2) MX4_depthOf [.ref lk, .int (nI j)] h Q := by
  have := g.N48
  have h4 := g.kd j hj
  refine eX4_depthOf hw hw.2.1 ?_
  unfold qdp at hq
  by_cases e : qkd A j = 4
  · rw [if_pos e] at hq
    refine c_isWater_n hw g k (fun i hi z => ?_) ⟨_, rfl, rfl, bY rfl hq⟩
    rw [(nI_eq (by omega) (by have := hi.1; omega)).mp z] at e
    exact hi.2 e
  · rw [if_neg e] at hq
    refine c_isWater_y hw g k ⟨hj, e⟩ ⟨_, rfl, rfl, bN (by decide) ⟨vp_in_nI (by omega) (by decide), ?_⟩⟩
    rw [nI_clamp (by omega), k.kd j hj]
    by_cases e2 : qkd A j < 2
    · rw [if_pos (show nI (qkd A j) < 2 from nI_lt (b := 2) e2 (by decide))]
      rw [Nat.min_eq_right (by omega)] at hq
      exact hq
    · rw [if_neg (show ¬ nI (qkd A j) < 2 from nI_nlt (b := 2) (by omega) (by omega))]
      rw [Nat.min_eq_left (by omega)] at hq
      exact hq
theorem c_wreckIn {j : Nat} (hw : gWf h lk sp cd) (g : qG A) (k : LC A lk h) (hj : j < qN A) (hq : Q (some (.int (nI (qwr A j)))) h) : gC l G (d + 1) MX4_wreckIn [.ref lk, .int (nI j)] h Q := by
  have := g.N48
  have h4 := g.kd j hj
  refine eX4_wreckIn hw hw.2.1 (c_isCell_y hw g k hj ⟨_, rfl, rfl, bN (by decide) ⟨vp_in_nI (by omega) (by decide), ?_⟩⟩)
  rw [nI_clamp (by omega), k.kd j hj]
  unfold qwr at hq
  refine ⟨fun z => ?_, fun z => ?_⟩
  · rw [if_neg (fun e => z (by rw [e]; rfl))] at hq
    exact hq
  · rw [if_pos ((nI_eq (b := 3) (by omega) (by decide)).mp z)] at hq
    exact hq
theorem c_homeOf {j : Nat} (hw : gWf h lk sp cd) (g : qG A) (k : LC A lk h) (hj : j < qN A) (hq : Q (some (.int (nI (qhm A j (qN A))))) h) : gC l G (d + 1) MX4_homeOf [.ref lk, .int (nI j)] h Q := by
  have := g.N48
  refine eX4_homeOf hw hw.2.1 (c_isCell_y hw g k hj ⟨_, rfl, rfl, bN (by decide) ⟨vp_in_nI (by omega) (by decide), ?_⟩⟩)
  rw [nI_clamp (by omega), k.hm j hj]
  exact hq
theorem c_skillOf {x : Nat} (hw : gWf h lk sp cd) (g : qG A) (k : LC A lk h) (hx : x ≤ qH A) (hq : Q (some (.int (nI (qsx A x)))) h) : gC l G (d + 1) MX4_skillOf [.ref lk, .int (nI x - 1)] h Q := by
  have := g.H6
  refine eX4_skillOf hw hw.2.1 ?_
  unfold qsx at hq
  cases x with
  | zero =>
    refine c_isHand_n hw g k (fun j hj z => ?_) ⟨_, rfl, rfl, bY rfl hq⟩
    rw [i_m1] at z
    exact i_nm1 (by omega) z.symm
  | succ x =>
    rw [i_s1]
    rw [if_neg (by omega)] at hq
    refine c_isHand_y hw g k (by omega) ⟨_, rfl, rfl, bN (by decide) ⟨vp_in_nI (by omega) (by decide), ?_⟩⟩
    rw [nI_clamp (by omega), k.sk x (by omega)]
    exact hq
theorem c_likingOf {b j : Nat} (hw : gWf h lk sp cd) (g : qG A) (k : LC A lk h) (hb : b < qB A) (hj : j < qH A) (hq : Q (some (.int (nI (qlk A b j)))) h) : gC l G (d + 1) MX4_likingOf [.ref lk, .int (nI b), .int (nI j)] h Q := by
  have := g.H6
  have := g.B6
  refine eX4_likingOf hw hw.2.1 (c_isBoat_y hw g k hb ⟨_, rfl, rfl, bN (by decide) (c_isHand_y hw g k hj ⟨_, rfl, rfl, bN (by decide) ?_⟩)⟩)
  have e : nI b * 6 + nI j = nI (6 * b + j) := by
    rw [show (6 : Int32) = nI 6 from rfl, pk_mul, nI_add, Nat.mul_comm]
  rw [e, nI_clamp (by omega), k.lk b j hb hj]
  exact ⟨vp_in_nI (by omega) (by decide), hq⟩
theorem c_cells (hw : gWf h lk sp cd) (g : qG A) (k : LC A lk h) (hq : Q (some (.int (nI (qN A)))) h) : gC l G (d + 1) MX4_cells [.ref lk] h Q := by
  have := g.N48
  refine eX4_cells hw hw.2.1 ?_
  have e9 := k.N
  generalize h.1 lk 11 * h.1 lk 12 = x at e9 ⊢
  subst e9
  rw [lit 48, i_min (by omega) (by decide), Nat.min_eq_left this]
  exact hq
theorem c_isNone (hw : gWf h lk sp cd) (g : qG A) (k : LC A lk h) (hy : qC A = 0 → Q (some (.int 1)) h) (hn : qC A ≠ 0 → Q (some (.int 0)) h) : gC l G d MX4_isNone [.ref lk] h Q := by
  have := g.C8
  refine eX4_isNone hw hw.2.1 ?_
  rw [k.C]
  exact ⟨fun z => hn (fun e => z (by rw [e]; rfl)), fun z => hy ((nI_eq (b := 0) (by omega) (by decide)).mp z)⟩
theorem c_skyAt {t : Nat} (hw : gWf h lk sp cd) (g : qG A) (k : LC A lk h) (ht : t ≤ 999) (hq : Q (some (.int (nI (qsky A t (qK A)).2))) h) : gC l G d MX4_skyAt [.ref lk, .int (nI t)] h Q := by
  have h10 := g.K10
  refine eX4_skyAt hw hw.2.1 (fun p e s m args below meth c => ?_)
  suffices H : ∀ r i, i + r = qK A → gg p l e s m args below meth c G d MX4_skyAt Q 7 [some (.ref lk), some (.int (nI t)), some (.int (nI (qsky A t i).1 - 1)), some (.int (nI (qsky A t i).2)), some (.int (nI i))] [] h from H (qK A) 0 (by omega)
  intro r
  induction r with
  | zero =>
    intro i hi
    have hi : i = qK A := by omega
    subst hi
    refine wX4_skyAt_7 hw.1 hw.2.1 hw.2.2.1 hw.2.1 (bY ?_ hq)
    rw [k.K]
    exact Int32.le_refl _
  | succ r ih =>
    intro i hi
    have b1 := qsky_lt g t i (by omega)
    have b2 := g.sh i (by omega)
    have e := ih (i + 1) (by omega)
    have cl : (nI i).toNatClampNeg = i := nI_clamp (by omega)
    refine wX4_skyAt_7 hw.1 hw.2.1 hw.2.2.1 hw.2.1 (bN (by rw [k.K]; exact nI_ge (by omega) (by omega)) (bN (nI_ge (b := 10) (by omega) (by decide)) ⟨vp_in_nI (by omega) (by decide), ?_⟩))
    rw [cl, k.sh i (by omega), k.sq i (by omega), nI_1]
    unfold qsky at e
    refine ⟨fun z => ?_, fun z => ⟨vp_in_nI (by omega) (by decide), fun z2 => ?_, fun z2 => ⟨vp_in_nI (by omega) (by decide), vp_in_nI (by omega) (by decide), ?_⟩⟩⟩
    · rw [nI_ltI (by omega) (by omega)] at z
      rw [if_neg (by omega)] at e
      exact e
    · rw [i_le1 (by omega) (by omega)] at z2
      rw [if_neg (by omega)] at e
      exact e
    · rw [nI_ltI (by omega) (by omega)] at z
      rw [i_le1 (by omega) (by omega)] at z2
      rw [if_pos ⟨by omega, by omega⟩, i_s1] at e
      exact e
theorem c_isBoat2_y {j : Nat} (hw : gWf h lk sp cd) (k : KC A F T lk h) (hj : j < qB A) (hq : Q (some (.int 1)) h) : gC l G d MX2_isBoat [.ref 6, .int (nI j)] h Q := by
  have := k.g.B6
  refine eX2_isBoat hw (bN (nI_pos (by omega)) (bN ?_ (bN (nI_ge (b := 6) (by omega) (by decide)) hq)))
  rw [k.b]
  exact nI_ge hj (by omega)
theorem c_isBoat2_n {a : Int32} (hw : gWf h lk sp cd) (k : KC A F T lk h) (hn : ∀ j, j < qB A → a ≠ nI j) (hq : Q (some (.int 0)) h) : gC l G d MX2_isBoat [.ref 6, .int a] h Q := by
  have := k.g.B6
  refine eX2_isBoat hw ?_
  by_cases q : a < 0
  · exact bY q hq
  · refine bN q (bY ?_ hq)
    rw [k.b]
    exact (ixn (by omega) hn).resolve_left q
theorem c_hour (hw : gWf h lk sp cd) (k : KC A F T lk h) (hq : Q (some (.int (nI (fH F)))) h) : gC l G d MX2_hour [.ref 6] h Q := eX2_hour hw (by rw [k.x.1]; exact hq)
theorem c_coins (hw : gWf h lk sp cd) (k : KC A F T lk h) (hq : Q (some (.int (nI (fP F)))) h) : gC l G d MX2_coins [.ref 6] h Q := eX2_coins hw (by rw [k.x.2.1]; exact hq)
theorem FC.bt {B T : Nat} {F : qT} {x : Nat → Int32} (q : FC B F T x) : ∀ b, b < B → x (3 + b) = nI (fc F b) ∧ x (9 + b) = nI (ft F b) ∧ x (15 + b) = nI (fb F b) ∧ x (21 + b) = nI (fh F b) - 1 := q.2.2.2.2.1
theorem FM.bt {B : Nat} {F : qT} {y : Nat → Int32} (q : FM B F y) : ∀ b, b < B → y (2 + 4 * b) = nI (fc F b) ∧ y (2 + 4 * b + 1) = nI (ft F b) ∧ y (2 + 4 * b + 2) = nI (fb F b) ∧ y (2 + 4 * b + 3) = nI (fh F b) - 1 := q.2.2.2.1
theorem c_cellOf {b : Nat} (hw : gWf h lk sp cd) (k : KC A F T lk h) (hb : b < qB A) (hq : Q (some (.int (nI (fc F b)))) h) : gC l G (d + 1) MX2_cellOf [.ref 6, .int (nI b)] h Q := by
  have := k.g.B6
  refine eX2_cellOf hw (c_isBoat2_y hw k hb ⟨_, rfl, rfl, bN (by decide) ?_⟩)
  rw [show (3 : Int32) + nI b = nI (3 + b) from nI_add 3 b, nI_clamp (by omega), (k.x.bt b hb).1]
  exact ⟨vp_in_nI (by omega) (by decide), hq⟩
theorem c_trustOf {b : Nat} (hw : gWf h lk sp cd) (k : KC A F T lk h) (hb : b < qB A) (hq : Q (some (.int (nI (ft F b)))) h) : gC l G (d + 1) MX2_trustOf [.ref 6, .int (nI b)] h Q := by
  have := k.g.B6
  refine eX2_trustOf hw (c_isBoat2_y hw k hb ⟨_, rfl, rfl, bN (by decide) ?_⟩)
  rw [show (9 : Int32) + nI b = nI (9 + b) from nI_add 9 b, nI_clamp (by omega), (k.x.bt b hb).2.1]
  exact ⟨vp_in_nI (by omega) (by decide), hq⟩
theorem c_balksOf {b : Nat} (hw : gWf h lk sp cd) (k : KC A F T lk h) (hb : b < qB A) (hq : Q (some (.int (nI (fb F b)))) h) : gC l G (d + 1) MX2_balksOf [.ref 6, .int (nI b)] h Q := by
  have := k.g.B6
  refine eX2_balksOf hw (c_isBoat2_y hw k hb ⟨_, rfl, rfl, bN (by decide) ?_⟩)
  rw [show (15 : Int32) + nI b = nI (15 + b) from nI_add 15 b, nI_clamp (by omega), (k.x.bt b hb).2.2.1]
  exact ⟨vp_in_nI (by omega) (by decide), hq⟩
theorem c_handOf {b : Nat} (hw : gWf h lk sp cd) (k : KC A F T lk h) (hb : b < qB A) (hq : Q (some (.int (nI (fh F b) - 1))) h) : gC l G (d + 1) MX2_handOf [.ref 6, .int (nI b)] h Q := by
  have := k.g.B6
  refine eX2_handOf hw (c_isBoat2_y hw k hb ⟨_, rfl, rfl, bN (by decide) ?_⟩)
  rw [show (21 : Int32) + nI b = nI (21 + b) from nI_add 21 b, nI_clamp (by omega), (k.x.bt b hb).2.2.2]
  exact ⟨vp_in_nI (by omega) (by decide), hq⟩
theorem c_boatOf {v : Int32} (hw : gWf h lk sp cd) (k : KC A F T lk h) (hq : Q (some (.int (fwh F v (qB A) 0))) h) : gC l G (d + 2) MX2_boatOf [.ref 6, .int v] h Q := by
  have h6 := k.g.B6
  refine eX2_boatOf hw (fun p e s m args below meth c => ?_)
  suffices H : ∀ r i, i + r = qB A → Q (some (.int (fwh F v r i))) h → gg p l e s m args below meth c G (d + 1 + 1) MX2_boatOf Q 2 [some (.ref 6), some (.int v), some (.int (nI i))] [] h from H (qB A) 0 (by omega) hq
  intro r
  induction r with
  | zero =>
    intro i hi hq
    refine wX2_boatOf_2 hw.1 hw.2.1 hw.2.2.1 (bY ?_ hq)
    rw [k.b]
    exact nI_le (by omega) (by omega)
  | succ r ih =>
    intro i hi hq
    refine wX2_boatOf_2 hw.1 hw.2.1 hw.2.2.1 (bN (by rw [k.b]; exact nI_ge (by omega) (by omega)) (c_handOf hw k (by omega) ⟨_, rfl, rfl, fun z => ?_, fun z => ?_⟩))
    · unfold fwh at hq
      rw [if_neg z] at hq
      rw [nI_1]
      exact ih (i + 1) (by omega) hq
    · unfold fwh at hq
      rw [if_pos z] at hq
      exact hq
theorem c_bitsIn {v : Int32} (hw : gWf h lk sp cd) (k : KC A F T lk h) (hq : Q (some (.int (fbt F v (qB A)))) h) : gC l G (d + 2) MX2_bitsIn [.ref 6, .int v] h Q := by
  have h6 := k.g.B6
  refine eX2_bitsIn hw (fun p e s m args below meth c => ?_)
  suffices H : ∀ r i, i + r = qB A → gg p l e s m args below meth c G (d + 1 + 1) MX2_bitsIn Q 4 [some (.ref 6), some (.int v), some (.int (fbt F v i)), some (.int (nI i))] [] h from H (qB A) 0 (by omega)
  intro r
  induction r with
  | zero =>
    intro i hi
    rw [show i = qB A by omega]
    refine wX2_bitsIn_4 hw.1 hw.2.1 hw.2.2.1 (bY ?_ hq)
    rw [k.b]
    exact Int32.le_refl _
  | succ r ih =>
    intro i hi
    have e9 := ih (i + 1) (by omega)
    unfold fbt at e9
    refine wX2_bitsIn_4 hw.1 hw.2.1 hw.2.2.1 (bN (by rw [k.b]; exact nI_ge (by omega) (by omega)) (c_cellOf hw k (by omega) ⟨_, rfl, rfl, fun z => ?_, fun z => ?_⟩))
    · rw [if_neg z] at e9
      rw [nI_1]
      exact e9
    · rw [if_pos z] at e9
      rw [nI_1]
      exact e9
theorem c_allTrust (hw : gWf h lk sp cd) (k : KC A F T lk h) (hq : Q (some (.int (fst_ F (qB A)))) h) : gC l G (d + 2) MX2_allTrust [.ref 6] h Q := by
  have h6 := k.g.B6
  refine eX2_allTrust hw (fun p e s m args below meth c => ?_)
  suffices H : ∀ r i, i + r = qB A → gg p l e s m args below meth c G (d + 1 + 1) MX2_allTrust Q 4 [some (.ref 6), some (.int (fst_ F i)), some (.int (nI i))] [] h from H (qB A) 0 (by omega)
  intro r
  induction r with
  | zero =>
    intro i hi
    rw [show i = qB A by omega]
    refine wX2_allTrust_4 hw.1 hw.2.1 hw.2.2.1 (bY ?_ hq)
    rw [k.b]
    exact Int32.le_refl _
  | succ r ih =>
    intro i hi
    have e9 := ih (i + 1) (by omega)
    unfold fst_ at e9
    refine wX2_allTrust_4 hw.1 hw.2.1 hw.2.2.1 (bN (by rw [k.b]; exact nI_ge (by omega) (by omega)) (c_trustOf hw k (by omega) ⟨_, rfl, rfl, ?_⟩))
    rw [nI_1]
    exact e9
theorem c_allBalks (hw : gWf h lk sp cd) (k : KC A F T lk h) (hq : Q (some (.int (fsb F (qB A)))) h) : gC l G (d + 2) MX2_allBalks [.ref 6] h Q := by
  have h6 := k.g.B6
  refine eX2_allBalks hw (fun p e s m args below meth c => ?_)
  suffices H : ∀ r i, i + r = qB A → gg p l e s m args below meth c G (d + 1 + 1) MX2_allBalks Q 4 [some (.ref 6), some (.int (fsb F i)), some (.int (nI i))] [] h from H (qB A) 0 (by omega)
  intro r
  induction r with
  | zero =>
    intro i hi
    rw [show i = qB A by omega]
    refine wX2_allBalks_4 hw.1 hw.2.1 hw.2.2.1 (bY ?_ hq)
    rw [k.b]
    exact Int32.le_refl _
  | succ r ih =>
    intro i hi
    have e9 := ih (i + 1) (by omega)
    unfold fsb at e9
    refine wX2_allBalks_4 hw.1 hw.2.1 hw.2.2.1 (bN (by rw [k.b]; exact nI_ge (by omega) (by omega)) (c_balksOf hw k (by omega) ⟨_, rfl, rfl, ?_⟩))
    rw [nI_1]
    exact e9
theorem c_tellable (hw : gWf h lk sp cd) (k : KC A F T lk h) (hq : Q (some (.int (nI (fN F)))) h) : gC l G (d + 1) MX2_tellable [.ref 6] h Q := by
  have ht := k.t
  refine eX2_tellable hw ?_
  have e9 := k.x.2.2.1
  generalize h.1 7 2 = x at e9 ⊢
  subst e9
  rw [lit 40, i_min (by omega) (by decide), Nat.min_comm, ← k.x.2.2.2.1]
  exact hq
end CL
