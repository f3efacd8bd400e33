section LM3
variable {l : Launch} {G : gG} {d : Nat} {Q : Option Value → gH → Prop} {h h0 : gH} {lk sp : Nat} {cd : Option Nat} {t : Nat → Nat} {n s k c i f w : Nat} {b B : Bool}
theorem m_isOwnHere (hw : gWf h lk sp cd) (tw : TWf t n) (tp : TPm t h) (k : MTk t n s b h) (hy : ∀ h', MLx h h' → MTk t n s b h' → h'.1 82 2 = nI s → (∃ i, i < 34 ∧ isW t n i (s, b)) → Q (some (.int 1)) h') (hn : ∀ h', MLx h h' → MTk t n s b h' → h'.1 82 2 = nI s → (∀ i, i < 34 → ¬ isW t n i (s, b)) → Q (some (.int 0)) h') : gC l G (d + 2) MX12_isOwnHere [.ref 82] h Q := by
  refine eX12_isOwnHere hw (fun p e s9 m args below meth cc => ?_)
  have ih : ∀ h', MLx h h' → MTk t n s b h' → ∀ i, i < 34 → ∀ Q' : Option Value → gH → Prop, (∀ h2, MLx h h2 → MTk t n s b h2 → h2.1 82 2 = nI s → h2.2.2 = h'.2.2 → isW t n i (s, b) → Q' (some (.int 1)) h2) → (∀ h2, MLx h h2 → MTk t n s b h2 → h2.1 82 2 = nI s → h2.2.2 = h'.2.2 → ¬ isW t n i (s, b) → Q' (some (.int 0)) h2) → gC l G (d + 1) MX12_isHere [.ref 82, .ref (85 + i)] h' Q' := fun h' e1 k1 i hi Q' y1 n1 => by
    have hs : ∀ i, i < 34 → gSH[85 + i]? = some (22, wln i) := by decide
    exact m_isHere (hw.eq e1.1) tw (tp.ml e1.1) k1 (by omega) (hs i hi) (by omega) (fun j hj => (tp.ml e1.1).2.1 i hi j hj) (fun h2 e2 k2 a2 z => y1 h2 (e1.tr e2) k2 a2 e2.1.2 z) (fun h2 e2 k2 a2 z => n1 h2 (e1.tr e2) k2 a2 e2.1.2 z)
  have S429 : ∀ h' (x y : Int32), MLx h h' → MTk t n s b h' → h'.1 82 2 = nI s → (y = 0 ∧ (∀ i, i < 34 → ¬ isW t n i (s, b))) ∨ (y = 1 ∧ ∃ i, i < 34 ∧ isW t n i (s, b)) → gg p l e s9 m args below meth cc G (d + 1 + 1) MX12_isOwnHere Q 429 [some (.ref 82), some (.int x)] [.int y] h' := fun h' x y e1 k1 a1 q => by
    have hwh := hw.eq e1.1
    rcases q with ⟨rfl, q⟩ | ⟨rfl, q⟩
    · exact wX12_isOwnHere_429 hwh.1 hwh.2.1 hwh.2.2.1 ⟨Or.inl rfl, hn h' e1 k1 a1 q⟩
    · exact wX12_isOwnHere_429 hwh.1 hwh.2.1 hwh.2.2.1 ⟨Or.inr rfl, hy h' e1 k1 a1 q⟩
  have S375 : ∀ h' (x y : Int32), MLx h h' → MTk t n s b h' → h'.1 82 2 = nI s → (y = 0 ∧ (∀ i, i < 30 → ¬ isW t n i (s, b))) ∨ (y = 1 ∧ ∃ i, i < 34 ∧ isW t n i (s, b)) → gg p l e s9 m args below meth cc G (d + 1 + 1) MX12_isOwnHere Q 375 [some (.ref 82), some (.int x)] [.int y] h' := fun h' x y e1 k1 a1 q => by
    have yes : ∀ h2 (y : Int32), MLx h h2 → MTk t n s b h2 → h2.1 82 2 = nI s → (∃ i, i < 34 ∧ isW t n i (s, b)) → gg p l e s9 m args below meth cc G (d + 1 + 1) MX12_isOwnHere Q 424 [some (.ref 82), some (.int y)] [] h2 := fun h2 y e2 k2 a2 q => by
      have hw2 := hw.eq e2.1
      exact wX12_isOwnHere_424 hw2.1 hw2.2.1 hw2.2.2.1 (S429 h2 y 1 e2 k2 a2 (Or.inr ⟨rfl, q⟩))
    have hwh := hw.eq e1.1
    refine wX12_isOwnHere_375 hwh.1 hwh.2.1 hwh.2.2.1 ?_
    rcases q with ⟨rfl, q⟩ | ⟨rfl, q⟩
    · refine bY' rfl ?_
      refine ih h' e1 k1 30 (by decide) _ (fun g0 eg0 kg0 ag0 rg0 zg0 => ⟨_, rfl, rg0, bN' (by decide) (yes g0 _ eg0 kg0 ag0 ⟨30, by decide, zg0⟩)⟩) (fun g0 eg0 kg0 ag0 rg0 zg0 => ⟨_, rfl, rg0, bY' rfl ?_⟩)
      refine ih g0 eg0 kg0 31 (by decide) _ (fun g1 eg1 kg1 ag1 rg1 zg1 => ⟨_, rfl, rg1, bN' (by decide) (yes g1 _ eg1 kg1 ag1 ⟨31, by decide, zg1⟩)⟩) (fun g1 eg1 kg1 ag1 rg1 zg1 => ⟨_, rfl, rg1, bY' rfl ?_⟩)
      refine ih g1 eg1 kg1 32 (by decide) _ (fun g2 eg2 kg2 ag2 rg2 zg2 => ⟨_, rfl, rg2, bN' (by decide) (yes g2 _ eg2 kg2 ag2 ⟨32, by decide, zg2⟩)⟩) (fun g2 eg2 kg2 ag2 rg2 zg2 => ⟨_, rfl, rg2, bY' rfl ?_⟩)
      refine ih g2 eg2 kg2 33 (by decide) _ (fun g3 eg3 kg3 ag3 rg3 zg3 => ⟨_, rfl, rg3, bN (by decide) (yes g3 _ eg3 kg3 ag3 ⟨33, by decide, zg3⟩)⟩) (fun g3 eg3 kg3 ag3 rg3 zg3 => ⟨_, rfl, rg3, bY rfl (S429 g3 _ 0 eg3 kg3 ag3 (Or.inl ⟨rfl, fun i9 hi9 => ?_⟩))⟩)
      rcases Nat.lt_or_ge i9 30 with y9 | y9
      · exact q i9 y9
      · have : i9 = 30 ∨ i9 = 31 ∨ i9 = 32 ∨ i9 = 33 := by omega
        rcases this with rfl | rfl | rfl | rfl
        · exact zg0
        · exact zg1
        · exact zg2
        · exact zg3
    · exact bN' (by decide) (yes h' _ e1 k1 a1 q)
  have S299 : ∀ h' (x y : Int32), MLx h h' → MTk t n s b h' → h'.1 82 2 = nI s → (y = 0 ∧ (∀ i, i < 24 → ¬ isW t n i (s, b))) ∨ (y = 1 ∧ ∃ i, i < 34 ∧ isW t n i (s, b)) → gg p l e s9 m args below meth cc G (d + 1 + 1) MX12_isOwnHere Q 299 [some (.ref 82), some (.int x)] [.int y] h' := fun h' x y e1 k1 a1 q => by
    have yes : ∀ h2 (y : Int32), MLx h h2 → MTk t n s b h2 → h2.1 82 2 = nI s → (∃ i, i < 34 ∧ isW t n i (s, b)) → gg p l e s9 m args below meth cc G (d + 1 + 1) MX12_isOwnHere Q 370 [some (.ref 82), some (.int y)] [] h2 := fun h2 y e2 k2 a2 q => by
      have hw2 := hw.eq e2.1
      exact wX12_isOwnHere_370 hw2.1 hw2.2.1 hw2.2.2.1 (S375 h2 y 1 e2 k2 a2 (Or.inr ⟨rfl, q⟩))
    have hwh := hw.eq e1.1
    refine wX12_isOwnHere_299 hwh.1 hwh.2.1 hwh.2.2.1 ?_
    rcases q with ⟨rfl, q⟩ | ⟨rfl, q⟩
    · refine bY' rfl ?_
      refine ih h' e1 k1 24 (by decide) _ (fun g0 eg0 kg0 ag0 rg0 zg0 => ⟨_, rfl, rg0, bN' (by decide) (yes g0 _ eg0 kg0 ag0 ⟨24, by decide, zg0⟩)⟩) (fun g0 eg0 kg0 ag0 rg0 zg0 => ⟨_, rfl, rg0, bY' rfl ?_⟩)
      refine ih g0 eg0 kg0 25 (by decide) _ (fun g1 eg1 kg1 ag1 rg1 zg1 => ⟨_, rfl, rg1, bN' (by decide) (yes g1 _ eg1 kg1 ag1 ⟨25, by decide, zg1⟩)⟩) (fun g1 eg1 kg1 ag1 rg1 zg1 => ⟨_, rfl, rg1, bY' rfl ?_⟩)
      refine ih g1 eg1 kg1 26 (by decide) _ (fun g2 eg2 kg2 ag2 rg2 zg2 => ⟨_, rfl, rg2, bN' (by decide) (yes g2 _ eg2 kg2 ag2 ⟨26, by decide, zg2⟩)⟩) (fun g2 eg2 kg2 ag2 rg2 zg2 => ⟨_, rfl, rg2, bY' rfl ?_⟩)
      refine ih g2 eg2 kg2 27 (by decide) _ (fun g3 eg3 kg3 ag3 rg3 zg3 => ⟨_, rfl, rg3, bN' (by decide) (yes g3 _ eg3 kg3 ag3 ⟨27, by decide, zg3⟩)⟩) (fun g3 eg3 kg3 ag3 rg3 zg3 => ⟨_, rfl, rg3, bY' rfl ?_⟩)
      refine ih g3 eg3 kg3 28 (by decide) _ (fun g4 eg4 kg4 ag4 rg4 zg4 => ⟨_, rfl, rg4, bN' (by decide) (yes g4 _ eg4 kg4 ag4 ⟨28, by decide, zg4⟩)⟩) (fun g4 eg4 kg4 ag4 rg4 zg4 => ⟨_, rfl, rg4, bY' rfl ?_⟩)
      refine ih g4 eg4 kg4 29 (by decide) _ (fun g5 eg5 kg5 ag5 rg5 zg5 => ⟨_, rfl, rg5, bN (by decide) (yes g5 _ eg5 kg5 ag5 ⟨29, by decide, zg5⟩)⟩) (fun g5 eg5 kg5 ag5 rg5 zg5 => ⟨_, rfl, rg5, bY rfl (S375 g5 _ 0 eg5 kg5 ag5 (Or.inl ⟨rfl, fun i9 hi9 => ?_⟩))⟩)
      rcases Nat.lt_or_ge i9 24 with y9 | y9
      · exact q i9 y9
      · have : i9 = 24 ∨ i9 = 25 ∨ i9 = 26 ∨ i9 = 27 ∨ i9 = 28 ∨ i9 = 29 := by omega
        rcases this with rfl | rfl | rfl | rfl | rfl | rfl
        · exact zg0
        · exact zg1
        · exact zg2
        · exact zg3
        · exact zg4
        · exact zg5
    · exact bN' (by decide) (yes h' _ e1 k1 a1 q)
  have S223 : ∀ h' (x y : Int32), MLx h h' → MTk t n s b h' → h'.1 82 2 = nI s → (y = 0 ∧ (∀ i, i < 18 → ¬ isW t n i (s, b))) ∨ (y = 1 ∧ ∃ i, i < 34 ∧ isW t n i (s, b)) → gg p l e s9 m args below meth cc G (d + 1 + 1) MX12_isOwnHere Q 223 [some (.ref 82), some (.int x)] [.int y] h' := fun h' x y e1 k1 a1 q => by
    have yes : ∀ h2 (y : Int32), MLx h h2 → MTk t n s b h2 → h2.1 82 2 = nI s → (∃ i, i < 34 ∧ isW t n i (s, b)) → gg p l e s9 m args below meth cc G (d + 1 + 1) MX12_isOwnHere Q 294 [some (.ref 82), some (.int y)] [] h2 := fun h2 y e2 k2 a2 q => by
      have hw2 := hw.eq e2.1
      exact wX12_isOwnHere_294 hw2.1 hw2.2.1 hw2.2.2.1 (S299 h2 y 1 e2 k2 a2 (Or.inr ⟨rfl, q⟩))
    have hwh := hw.eq e1.1
    refine wX12_isOwnHere_223 hwh.1 hwh.2.1 hwh.2.2.1 ?_
    rcases q with ⟨rfl, q⟩ | ⟨rfl, q⟩
    · refine bY' rfl ?_
      refine ih h' e1 k1 18 (by decide) _ (fun g0 eg0 kg0 ag0 rg0 zg0 => ⟨_, rfl, rg0, bN' (by decide) (yes g0 _ eg0 kg0 ag0 ⟨18, by decide, zg0⟩)⟩) (fun g0 eg0 kg0 ag0 rg0 zg0 => ⟨_, rfl, rg0, bY' rfl ?_⟩)
      refine ih g0 eg0 kg0 19 (by decide) _ (fun g1 eg1 kg1 ag1 rg1 zg1 => ⟨_, rfl, rg1, bN' (by decide) (yes g1 _ eg1 kg1 ag1 ⟨19, by decide, zg1⟩)⟩) (fun g1 eg1 kg1 ag1 rg1 zg1 => ⟨_, rfl, rg1, bY' rfl ?_⟩)
      refine ih g1 eg1 kg1 20 (by decide) _ (fun g2 eg2 kg2 ag2 rg2 zg2 => ⟨_, rfl, rg2, bN' (by decide) (yes g2 _ eg2 kg2 ag2 ⟨20, by decide, zg2⟩)⟩) (fun g2 eg2 kg2 ag2 rg2 zg2 => ⟨_, rfl, rg2, bY' rfl ?_⟩)
      refine ih g2 eg2 kg2 21 (by decide) _ (fun g3 eg3 kg3 ag3 rg3 zg3 => ⟨_, rfl, rg3, bN' (by decide) (yes g3 _ eg3 kg3 ag3 ⟨21, by decide, zg3⟩)⟩) (fun g3 eg3 kg3 ag3 rg3 zg3 => ⟨_, rfl, rg3, bY' rfl ?_⟩)
      refine ih g3 eg3 kg3 22 (by decide) _ (fun g4 eg4 kg4 ag4 rg4 zg4 => ⟨_, rfl, rg4, bN' (by decide) (yes g4 _ eg4 kg4 ag4 ⟨22, by decide, zg4⟩)⟩) (fun g4 eg4 kg4 ag4 rg4 zg4 => ⟨_, rfl, rg4, bY' rfl ?_⟩)
      refine ih g4 eg4 kg4 23 (by decide) _ (fun g5 eg5 kg5 ag5 rg5 zg5 => ⟨_, rfl, rg5, bN (by decide) (yes g5 _ eg5 kg5 ag5 ⟨23, by decide, zg5⟩)⟩) (fun g5 eg5 kg5 ag5 rg5 zg5 => ⟨_, rfl, rg5, bY rfl (S299 g5 _ 0 eg5 kg5 ag5 (Or.inl ⟨rfl, fun i9 hi9 => ?_⟩))⟩)
      rcases Nat.lt_or_ge i9 18 with y9 | y9
      · exact q i9 y9
      · have : i9 = 18 ∨ i9 = 19 ∨ i9 = 20 ∨ i9 = 21 ∨ i9 = 22 ∨ i9 = 23 := by omega
        rcases this with rfl | rfl | rfl | rfl | rfl | rfl
        · exact zg0
        · exact zg1
        · exact zg2
        · exact zg3
        · exact zg4
        · exact zg5
    · exact bN' (by decide) (yes h' _ e1 k1 a1 q)
  have S147 : ∀ h' (x y : Int32), MLx h h' → MTk t n s b h' → h'.1 82 2 = nI s → (y = 0 ∧ (∀ i, i < 12 → ¬ isW t n i (s, b))) ∨ (y = 1 ∧ ∃ i, i < 34 ∧ isW t n i (s, b)) → gg p l e s9 m args below meth cc G (d + 1 + 1) MX12_isOwnHere Q 147 [some (.ref 82), some (.int x)] [.int y] h' := fun h' x y e1 k1 a1 q => by
    have yes : ∀ h2 (y : Int32), MLx h h2 → MTk t n s b h2 → h2.1 82 2 = nI s → (∃ i, i < 34 ∧ isW t n i (s, b)) → gg p l e s9 m args below meth cc G (d + 1 + 1) MX12_isOwnHere Q 218 [some (.ref 82), some (.int y)] [] h2 := fun h2 y e2 k2 a2 q => by
      have hw2 := hw.eq e2.1
      exact wX12_isOwnHere_218 hw2.1 hw2.2.1 hw2.2.2.1 (S223 h2 y 1 e2 k2 a2 (Or.inr ⟨rfl, q⟩))
    have hwh := hw.eq e1.1
    refine wX12_isOwnHere_147 hwh.1 hwh.2.1 hwh.2.2.1 ?_
    rcases q with ⟨rfl, q⟩ | ⟨rfl, q⟩
    · refine bY' rfl ?_
      refine ih h' e1 k1 12 (by decide) _ (fun g0 eg0 kg0 ag0 rg0 zg0 => ⟨_, rfl, rg0, bN' (by decide) (yes g0 _ eg0 kg0 ag0 ⟨12, by decide, zg0⟩)⟩) (fun g0 eg0 kg0 ag0 rg0 zg0 => ⟨_, rfl, rg0, bY' rfl ?_⟩)
      refine ih g0 eg0 kg0 13 (by decide) _ (fun g1 eg1 kg1 ag1 rg1 zg1 => ⟨_, rfl, rg1, bN' (by decide) (yes g1 _ eg1 kg1 ag1 ⟨13, by decide, zg1⟩)⟩) (fun g1 eg1 kg1 ag1 rg1 zg1 => ⟨_, rfl, rg1, bY' rfl ?_⟩)
      refine ih g1 eg1 kg1 14 (by decide) _ (fun g2 eg2 kg2 ag2 rg2 zg2 => ⟨_, rfl, rg2, bN' (by decide) (yes g2 _ eg2 kg2 ag2 ⟨14, by decide, zg2⟩)⟩) (fun g2 eg2 kg2 ag2 rg2 zg2 => ⟨_, rfl, rg2, bY' rfl ?_⟩)
      refine ih g2 eg2 kg2 15 (by decide) _ (fun g3 eg3 kg3 ag3 rg3 zg3 => ⟨_, rfl, rg3, bN' (by decide) (yes g3 _ eg3 kg3 ag3 ⟨15, by decide, zg3⟩)⟩) (fun g3 eg3 kg3 ag3 rg3 zg3 => ⟨_, rfl, rg3, bY' rfl ?_⟩)
      refine ih g3 eg3 kg3 16 (by decide) _ (fun g4 eg4 kg4 ag4 rg4 zg4 => ⟨_, rfl, rg4, bN' (by decide) (yes g4 _ eg4 kg4 ag4 ⟨16, by decide, zg4⟩)⟩) (fun g4 eg4 kg4 ag4 rg4 zg4 => ⟨_, rfl, rg4, bY' rfl ?_⟩)
      refine ih g4 eg4 kg4 17 (by decide) _ (fun g5 eg5 kg5 ag5 rg5 zg5 => ⟨_, rfl, rg5, bN (by decide) (yes g5 _ eg5 kg5 ag5 ⟨17, by decide, zg5⟩)⟩) (fun g5 eg5 kg5 ag5 rg5 zg5 => ⟨_, rfl, rg5, bY rfl (S223 g5 _ 0 eg5 kg5 ag5 (Or.inl ⟨rfl, fun i9 hi9 => ?_⟩))⟩)
      rcases Nat.lt_or_ge i9 12 with y9 | y9
      · exact q i9 y9
      · have : i9 = 12 ∨ i9 = 13 ∨ i9 = 14 ∨ i9 = 15 ∨ i9 = 16 ∨ i9 = 17 := by omega
        rcases this with rfl | rfl | rfl | rfl | rfl | rfl
        · exact zg0
        · exact zg1
        · exact zg2
        · exact zg3
        · exact zg4
        · exact zg5
    · exact bN' (by decide) (yes h' _ e1 k1 a1 q)
  have S71 : ∀ h' (y : Int32), MLx h h' → MTk t n s b h' → h'.1 82 2 = nI s → (y = 0 ∧ (∀ i, i < 6 → ¬ isW t n i (s, b))) ∨ (y = 1 ∧ ∃ i, i < 34 ∧ isW t n i (s, b)) → gg p l e s9 m args below meth cc G (d + 1 + 1) MX12_isOwnHere Q 71 [some (.ref 82), none] [.int y] h' := fun h' y e1 k1 a1 q => by
    have yes : ∀ h2 (y : Int32), MLx h h2 → MTk t n s b h2 → h2.1 82 2 = nI s → (∃ i, i < 34 ∧ isW t n i (s, b)) → gg p l e s9 m args below meth cc G (d + 1 + 1) MX12_isOwnHere Q 142 [some (.ref 82), some (.int y)] [] h2 := fun h2 y e2 k2 a2 q => by
      have hw2 := hw.eq e2.1
      exact wX12_isOwnHere_142 hw2.1 hw2.2.1 hw2.2.2.1 (S147 h2 y 1 e2 k2 a2 (Or.inr ⟨rfl, q⟩))
    have hwh := hw.eq e1.1
    refine wX12_isOwnHere_71 hwh.1 hwh.2.1 hwh.2.2.1 ?_
    rcases q with ⟨rfl, q⟩ | ⟨rfl, q⟩
    · refine bY' rfl ?_
      refine ih h' e1 k1 6 (by decide) _ (fun g0 eg0 kg0 ag0 rg0 zg0 => ⟨_, rfl, rg0, bN' (by decide) (yes g0 _ eg0 kg0 ag0 ⟨6, by decide, zg0⟩)⟩) (fun g0 eg0 kg0 ag0 rg0 zg0 => ⟨_, rfl, rg0, bY' rfl ?_⟩)
      refine ih g0 eg0 kg0 7 (by decide) _ (fun g1 eg1 kg1 ag1 rg1 zg1 => ⟨_, rfl, rg1, bN' (by decide) (yes g1 _ eg1 kg1 ag1 ⟨7, by decide, zg1⟩)⟩) (fun g1 eg1 kg1 ag1 rg1 zg1 => ⟨_, rfl, rg1, bY' rfl ?_⟩)
      refine ih g1 eg1 kg1 8 (by decide) _ (fun g2 eg2 kg2 ag2 rg2 zg2 => ⟨_, rfl, rg2, bN' (by decide) (yes g2 _ eg2 kg2 ag2 ⟨8, by decide, zg2⟩)⟩) (fun g2 eg2 kg2 ag2 rg2 zg2 => ⟨_, rfl, rg2, bY' rfl ?_⟩)
      refine ih g2 eg2 kg2 9 (by decide) _ (fun g3 eg3 kg3 ag3 rg3 zg3 => ⟨_, rfl, rg3, bN' (by decide) (yes g3 _ eg3 kg3 ag3 ⟨9, by decide, zg3⟩)⟩) (fun g3 eg3 kg3 ag3 rg3 zg3 => ⟨_, rfl, rg3, bY' rfl ?_⟩)
      refine ih g3 eg3 kg3 10 (by decide) _ (fun g4 eg4 kg4 ag4 rg4 zg4 => ⟨_, rfl, rg4, bN' (by decide) (yes g4 _ eg4 kg4 ag4 ⟨10, by decide, zg4⟩)⟩) (fun g4 eg4 kg4 ag4 rg4 zg4 => ⟨_, rfl, rg4, bY' rfl ?_⟩)
      refine ih g4 eg4 kg4 11 (by decide) _ (fun g5 eg5 kg5 ag5 rg5 zg5 => ⟨_, rfl, rg5, bN (by decide) (yes g5 _ eg5 kg5 ag5 ⟨11, by decide, zg5⟩)⟩) (fun g5 eg5 kg5 ag5 rg5 zg5 => ⟨_, rfl, rg5, bY rfl (S147 g5 _ 0 eg5 kg5 ag5 (Or.inl ⟨rfl, fun i9 hi9 => ?_⟩))⟩)
      rcases Nat.lt_or_ge i9 6 with y9 | y9
      · exact q i9 y9
      · have : i9 = 6 ∨ i9 = 7 ∨ i9 = 8 ∨ i9 = 9 ∨ i9 = 10 ∨ i9 = 11 := by omega
        rcases this with rfl | rfl | rfl | rfl | rfl | rfl
        · exact zg0
        · exact zg1
        · exact zg2
        · exact zg3
        · exact zg4
        · exact zg5
    · exact bN' (by decide) (yes h' _ e1 k1 a1 q)
  have yes : ∀ h2, MLx h h2 → MTk t n s b h2 → h2.1 82 2 = nI s → (∃ i, i < 34 ∧ isW t n i (s, b)) → gg p l e s9 m args below meth cc G (d + 1 + 1) MX12_isOwnHere Q 66 [some (.ref 82), none] [] h2 := fun h2 e2 k2 a2 q => by
    have hw2 := hw.eq e2.1
    exact wX12_isOwnHere_66 hw2.1 hw2.2.1 hw2.2.2.1 (S71 h2 1 e2 k2 a2 (Or.inr ⟨rfl, q⟩))
  refine ih h MLx.rf k 0 (by decide) _ (fun g0 eg0 kg0 ag0 rg0 zg0 => ⟨_, rfl, rg0, bN' (by decide) (yes g0 eg0 kg0 ag0 ⟨0, by decide, zg0⟩)⟩) (fun g0 eg0 kg0 ag0 rg0 zg0 => ⟨_, rfl, rg0, bY' rfl ?_⟩)
  refine ih g0 eg0 kg0 1 (by decide) _ (fun g1 eg1 kg1 ag1 rg1 zg1 => ⟨_, rfl, rg1, bN' (by decide) (yes g1 eg1 kg1 ag1 ⟨1, by decide, zg1⟩)⟩) (fun g1 eg1 kg1 ag1 rg1 zg1 => ⟨_, rfl, rg1, bY' rfl ?_⟩)
  refine ih g1 eg1 kg1 2 (by decide) _ (fun g2 eg2 kg2 ag2 rg2 zg2 => ⟨_, rfl, rg2, bN' (by decide) (yes g2 eg2 kg2 ag2 ⟨2, by decide, zg2⟩)⟩) (fun g2 eg2 kg2 ag2 rg2 zg2 => ⟨_, rfl, rg2, bY' rfl ?_⟩)
  refine ih g2 eg2 kg2 3 (by decide) _ (fun g3 eg3 kg3 ag3 rg3 zg3 => ⟨_, rfl, rg3, bN' (by decide) (yes g3 eg3 kg3 ag3 ⟨3, by decide, zg3⟩)⟩) (fun g3 eg3 kg3 ag3 rg3 zg3 => ⟨_, rfl, rg3, bY' rfl ?_⟩)
  refine ih g3 eg3 kg3 4 (by decide) _ (fun g4 eg4 kg4 ag4 rg4 zg4 => ⟨_, rfl, rg4, bN' (by decide) (yes g4 eg4 kg4 ag4 ⟨4, by decide, zg4⟩)⟩) (fun g4 eg4 kg4 ag4 rg4 zg4 => ⟨_, rfl, rg4, bY' rfl ?_⟩)
  refine ih g4 eg4 kg4 5 (by decide) _ (fun g5 eg5 kg5 ag5 rg5 zg5 => ⟨_, rfl, rg5, bN (by decide) (yes g5 eg5 kg5 ag5 ⟨5, by decide, zg5⟩)⟩) (fun g5 eg5 kg5 ag5 rg5 zg5 => ⟨_, rfl, rg5, bY rfl (S71 g5 0 eg5 kg5 ag5 (Or.inl ⟨rfl, fun i9 hi9 => ?_⟩))⟩)
  have : i9 = 0 ∨ i9 = 1 ∨ i9 = 2 ∨ i9 = 3 ∨ i9 = 4 ∨ i9 = 5 := by omega
  rcases this with rfl | rfl | rfl | rfl | rfl | rfl
  · exact zg0
  · exact zg1
  · exact zg2
  · exact zg3
  · exact zg4
  · exact zg5
theorem m_name (hw : gWf h lk sp cd) (tw : TWf t n) (tp : TPm t h) (k : MTk t n s b h) (hy : ∀ h', nmF t n (s, b) = .ok () → MLx h h' → MTk t n (nx t n s) (nj t n s) h' → h'.1 82 45 = nI s → Q (some (.long (lN (p27 (ltr t n s) 6)))) h') (hn : ∀ f q h', nmF t n (s, b) = .error (f, q) → MFl f q h h' → Q (some (.long 0)) h') : gC l G (d + 3) MX12_name [.ref 82] h Q := by
  have n16 := tw.1
  unfold nmF at hy hn
  refine eX12_name hw (fun p9 e9 s9 m9 args9 below9 meth9 cc9 => bY k.2.2.2.1 (m_look hw tw tp k (fun h1 e1 k1 a1 => ⟨_, rfl, e1.1.2, ?_⟩)))
  have hw1 := hw.eq e1.1
  have tp1 := tp.ml e1.1
  have b1 := k1.2.2.2.1
  have sn := k1.1
  obtain ⟨e0, e0l, e0h, e0b⟩ := k1.at a1
  refine m_letterS hw1 tw (fun z1 z2 => ⟨_, rfl, rfl, bN (by decide) ?_⟩) (fun z => ⟨_, rfl, rfl, bY rfl ?_⟩)
  · rw [a1, e0h, show nI s = nI e0 - 1 ↔ e0 = s + 1 from ⟨fun q => (i_eqs (by omega) (by omega)).mp q.symm, fun q => ((i_eqs (by omega) (by omega)).mpr q).symm⟩]
    refine ⟨fun y => ?_, fun y => ?_⟩
    · have kd : tkk t n s b ≠ 1001 := fun q => by
        have := (tkk_w.mp ⟨q, tw.2⟩).1.2.2
        rw [e0b.mpr y] at this
        exact absurd this (by decide)
      rw [if_neg kd] at hn
      exact m_fail (f := 1) hw1 b1 (fun h2 e2 => ⟨rfl, e2.1.2, hn 1 s h2 rfl (e1.fl e2)⟩)
    · have bf : b = false := by
        cases hb : b with
        | false => rfl
        | true => exact absurd (e0b.mp hb) y
      have kw : tkk t n s b = 1001 := (tkk_w.mpr ⟨⟨z1, z2, bf⟩, tw.2⟩).1
      have iw : ∀ i, isW t n i (s, b) ↔ wat t n s i := fun i => ⟨fun q => q.2, fun q => ⟨kw, q⟩⟩
      rw [if_pos kw] at hy hn
      have etk : tks t n s = rn t n 1 s := by unfold tks; rw [if_neg (by omega), if_pos z2]
      have tl := tks_le (t := t) k1.1
      have hg := tks_gt (t := t) z1
      have lb := ltr_b z1 z2
      refine m_isOwnHere hw1 tw tp1 k1 (fun h2 e2 k2 a2 ⟨i, i1, i2⟩ => ⟨_, rfl, e2.1.2, bN (by decide) ?_⟩) (fun h2 e2 k2 a2 no => ⟨_, rfl, e2.1.2, bY rfl ?_⟩)
      · have wi := (iw i).mp i2
        have l6 : tks t n (s, b).1 - (s, b).1 ≤ 6 := by have := (wln_b i (by omega)).2.1; have := wi.1; show tks t n s - s ≤ 6; omega
        rw [if_pos l6] at hn
        rw [a2]
        exact m_fail (f := 1) (hw1.eq e2.1) k2.2.2.2.1 (fun h3 e3 => ⟨rfl, e3.1.2, hn 1 s h3 (if_pos ⟨i, i1, wi⟩) ((e1.tr e2).fl e3)⟩)
      · have ex := e1.tr e2
        rw [a2]
        have fin : ∀ h' j, j ≤ 6 → tks t n s = s + j → MLx h h' → h'.1 82 2 = nI (s + j) → h'.1 82 45 = nI s → Q (some (.long (lN (p27 (ltr t n s) j)))) (sI h' 82 4 (h'.1 82 2)) := fun h' j j6 ej e3 a3 a45 => by
          rw [if_pos (show tks t n (s, b).1 - (s, b).1 ≤ 6 by show tks t n s - s ≤ 6; omega)] at hy
          have e4 : MLx h (sI h' 82 4 (h'.1 82 2)) := e3.si (by decide)
          have := hy (sI h' 82 4 (h'.1 82 2)) (if_neg (fun ⟨i, i1, i2⟩ => no i i1 ((iw i).mpr i2))) e4 (MTk.nxt z1 (Or.inl z2) ((e4.2.1 3 (by decide)).trans k.2.2.1) ((e4.2.1 5 (by decide)).trans k.2.2.2.1) (by rw [sI_nb (by decide), a3, ej]) (by rw [sI_s, a3, ej])) (by rw [sI_nb (by decide)]; exact a45)
          have pt := p27_tail (f := ltr t n s) (n := j) (fun i h1 h2 => (lb i).2 (by omega)) (6 - j) (by omega)
          rw [show j + (6 - j) = 6 by omega] at pt
          rw [pt] at this
          exact this
        have step : ∀ j h', j ≤ 6 → s + j ≤ tks t n s → MLx h h' → h'.1 82 2 = nI (s + j) → h'.1 82 45 = nI s → ∀ (nxt : s + j < tks t n s → j < 6 → gg p9 l e9 s9 m9 args9 below9 meth9 cc9 G (d + 2 + 1) MX12_name Q 58 [some (.ref 82), some (.long (lN (p27 (ltr t n s) (j + 1)))), none] [] (sI h' 82 2 (nI (s + (j + 1))))), gg p9 l e9 s9 m9 args9 below9 meth9 cc9 G (d + 2 + 1) MX12_name Q 58 [some (.ref 82), some (.long (lN (p27 (ltr t n s) j))), none] [] h' := fun j h' hr hj e3 a3 a45 nxt => by
          have hwh := hw.eq e3.1
          have tph := tp.ml e3.1
          have a3' : h'.1 82 3 = nI n := (e3.2.1 3 (by decide)).trans k.2.2.1
          have b5' : h'.1 82 5 = 0 := (e3.2.1 5 (by decide)).trans k.2.2.2.1
          have endj : ¬ (s + j < n ∧ cls (t (s + j)) = 1) → tks t n s = s + j := fun z => by
            have : rn t n 1 s = rn t n 1 (s + j) := rn_fix s (s + j) (by omega) (fun x x1 x2 => rn_in (t := t) (n := n) (q := 1) s x x1 (by omega))
            rw [etk, this, rn_n z]
          refine wX12_name_58 hwh.1 hwh.2.1 hwh.2.2.1 ?_
          by_cases z : s + j < n
          · have tj := tw.2 (s + j)
            refine bN (by rw [a3', a3]; exact nI_ge z (by omega)) ?_
            have fin' := fin h' j hr
            rw [a3] at fin' ⊢
            refine ⟨vp_in_nI (by omega) (by decide), ?_⟩
            rw [nI_clamp (by omega), tph.1 _ (by omega)]
            refine m_isLetter hwh (fun c e q => ⟨_, rfl, rfl, bN (by decide) ?_⟩) (fun q => ⟨_, rfl, rfl, bY rfl (by rw [a3]; exact fin' (endj (fun v => q (t (s + j)) tj rfl v.2)) e3 rfl a45)⟩)
            have c9 := cls1.mp q
            have : t (s + j) = c := (nI_eq (by omega) (by omega)).mp e
            subst this
            have lj : s + j < tks t n s := by
              rcases Nat.lt_or_ge (s + j) (tks t n s) with w | w
              · exact w
              · have : tks t n s = s + j := by omega
                have er := rn_end (t := t) (n := n) (q := 1) s
                rw [← etk, this] at er
                exact absurd ⟨z, q⟩ er
            have z6 : nI (s + j) - nI s = 6 ↔ j = 6 := by rw [pk_sub (by omega)]; exact (nI_eq (b := 6) (by omega) (by decide)).trans (by omega)
            rw [a3, a45, z6, nI_clamp (by omega), tph.1 _ (by omega), nI_1]
            refine ⟨fun w => ⟨vp_in_nI (by omega) (by decide), ?_⟩, fun w => m_fail (f := 1) hwh b5' (fun h4 e4 => ⟨rfl, e4.1.2, hn 1 (s + j) h4 ?_ (e3.fl e4)⟩)⟩
            · have lj2 := (lb j).1 lj
              have el : ltr t n s j = t (s + j) - 96 := by unfold ltr; rw [if_pos lj]
              have ep : p27 (ltr t n s) (j + 1) = 27 * p27 (ltr t n s) j + ltr t n s j := by
                show (if ltr t n s j = 0 then _ else _) = _
                rw [if_neg (by omega)]
              have ev : ((27 : Int64) * lN (p27 (ltr t n s) j) + (nI (t (s + j))).toInt64 - 97) + 1 = lN (p27 (ltr t n s) (j + 1)) := by
                rw [nI_l (by omega), show (27 : Int64) = lN 27 from rfl, lN_mul, lN_add, show (97 : Int64) = lN 97 from rfl, lN_sub (by omega), lN_1, ep]
                congr 1
                omega
              rw [ev]
              exact nxt lj (by omega)
            · rw [if_neg (show ¬ tks t n (s, b).1 - (s, b).1 ≤ 6 by show ¬ tks t n s - s ≤ 6; omega), w]
          · exact bY (by rw [a3', a3]; exact nI_le (by omega) (by omega)) (fin h' j hr (endj (fun v => z v.1)) e3 a3 a45)
        suffices H : ∀ r j h', j + r = 6 → s + j ≤ tks t n s → MLx h h' → h'.1 82 2 = nI (s + j) → h'.1 82 45 = nI s → gg p9 l e9 s9 m9 args9 below9 meth9 cc9 G (d + 2 + 1) MX12_name Q 58 [some (.ref 82), some (.long (lN (p27 (ltr t n s) j))), none] [] h' from H 6 0 _ (by omega) (by omega) (ex.si (by decide)) (by rw [sI_nb (by decide)]; exact a2) (sI_s _ _ _ _)
        intro r
        induction r with
        | zero => exact fun j h' hr hj e2 a2 a45 => step j h' (by omega) hj e2 a2 a45 (fun _ w => by omega)
        | succ r ih => exact fun j h' hr hj e2 a2 a45 => step j h' (by omega) hj e2 a2 a45 (fun lj _ => ih (j + 1) _ (by omega) (by omega) (e2.si (by decide)) (sI_s _ _ _ _) (by rw [sI_nb (by decide)]; exact a45))
  · have kd : tkk t n s b ≠ 1001 := fun q => by
      have := (tkk_w.mp ⟨q, tw.2⟩).1
      exact z ⟨this.1, this.2.1⟩
    rw [if_neg kd] at hn
    rw [a1]
    exact m_fail (f := 1) hw1 b1 (fun h2 e2 => ⟨rfl, e2.1.2, hn 1 s h2 rfl (e1.fl e2)⟩)
end LM3
