/-! boats ask, hands keep: whoever asks first, all end alike -/
def pfb (A : qT) (b h h' : Nat) : Prop := qlk A b h' < qlk A b h ∨ (qlk A b h = qlk A b h' ∧ h < h')
def pfh (F : qT) (b b' : Nat) : Prop := ft F b' < ft F b ∨ (ft F b = ft F b' ∧ b < b')
/-- no boat and no hand would rather have each other -/
def Stb (A F : qT) (u : Nat → Nat) : Prop := (∀ b, b < qB A → u b ≤ qH A) ∧ (∀ b b', b < qB A → b' < qB A → u b = u b' → u b ≠ 0 → b = b') ∧ ∀ b h, b < qB A → h < qH A → (u b = 0 ∨ pfb A b h (u b - 1)) → ∃ b', b' < qB A ∧ u b' = h + 1 ∧ pfh F b' b
def DA (A F : qT) (K : Nat → Nat) (rj : Nat → Nat → Prop) : Prop := (∀ h, h < qH A → K h ≤ qB A) ∧ (∀ h b, h < qH A → K h = b + 1 → ¬ rj b h ∧ ∀ h', h' < qH A → ¬ rj b h' → h' = h ∨ pfb A b h h') ∧ (∀ b h, b < qB A → h < qH A → rj b h → ∃ b', K h = b' + 1 ∧ pfh F b' b) ∧ ∀ u, Stb A F u → ∀ b h, b < qB A → h < qH A → rj b h → u b ≠ h + 1
def dFin (A : qT) (K : Nat → Nat) (rj : Nat → Nat → Prop) : Prop := ∀ b, b < qB A → (∃ h, h < qH A ∧ K h = b + 1) ∨ ∀ h, h < qH A → rj b h
/-- the first hand that b holds, and 1 -/
def hhb (K : Nat → Nat) (b : Nat) : Nat → Nat
  | 0 => 0
  | n + 1 => if hhb K b n ≠ 0 then hhb K b n else if K n = b + 1 then n + 1 else 0
/-- the hand that b would ask, and 1 -/
def bst (A : qT) (b X : Nat) : Nat → Nat
  | 0 => 0
  | h + 1 => if X / 2 ^ h % 2 = 1 then bst A b X h else if bst A b X h = 0 then h + 1 else if qlk A b h ≤ qlk A b (bst A b X h - 1) then bst A b X h else h + 1
section MT1
variable {A F : qT} {K K' : Nat → Nat} {rj rj' : Nat → Nat → Prop} {b b0 h n X : Nat}
theorem hhb_s : ∀ n {h : Nat}, hhb K b n = h + 1 → h < n ∧ K h = b + 1
  | 0, h, e => absurd e (by unfold hhb; omega)
  | n + 1, h, e => by
    unfold hhb at e
    split at e
    · have := hhb_s n e
      exact ⟨by omega, this.2⟩
    · split at e
      · rename_i q
        have : n = h := by omega
        subst this
        exact ⟨by omega, q⟩
      · omega
theorem hhb_0 : ∀ n, hhb K b n = 0 → ∀ h, h < n → K h ≠ b + 1
  | 0, _, h, hh => absurd hh (Nat.not_lt_zero _)
  | n + 1, e, h, hh => by
    unfold hhb at e
    split at e
    · rename_i q; exact absurd e q
    · rename_i q
      have q : hhb K b n = 0 := by omega
      split at e
      · omega
      · rename_i q2
        by_cases eh : h = n
        · subst eh; exact q2
        · exact hhb_0 n q h (by omega)
theorem bst_lt : ∀ n, bst A b X n ≤ n
  | 0 => Nat.le_refl _
  | n + 1 => by
    have := bst_lt n
    unfold bst
    split
    · omega
    · split
      · omega
      · split <;> omega
theorem bst_0 : ∀ n, bst A b X n = 0 → ∀ h, h < n → bin X h
  | 0, _, h, hh => absurd hh (Nat.not_lt_zero _)
  | n + 1, e, h, hh => by
    unfold bst at e
    split at e
    · rename_i q
      by_cases eh : h = n
      · subst eh; exact q
      · exact bst_0 n e h (by omega)
    · split at e
      · omega
      · split at e
        · rename_i q _; exact absurd e q
        · omega
theorem bst_s : ∀ n {x : Nat}, bst A b X n = x + 1 → x < n ∧ ¬ bin X x ∧ ∀ h, h < n → ¬ bin X h → h = x ∨ pfb A b x h
  | 0, x, e => absurd e (by unfold bst; omega)
  | n + 1, x, e => by
    unfold bst at e
    split at e
    · rename_i q
      obtain ⟨i1, i2, i3⟩ := bst_s n e
      refine ⟨by omega, i2, fun h hh hb => ?_⟩
      by_cases eh : h = n
      · subst eh; exact absurd q hb
      · exact i3 h (by omega) hb
    · rename_i q
      split at e
      · rename_i q2
        have : n = x := by omega
        subst this
        refine ⟨by omega, q, fun h hh hb => ?_⟩
        by_cases eh : h = n
        · exact Or.inl eh
        · exact absurd (bst_0 n q2 h (by omega)) hb
      · rename_i q2
        obtain ⟨y, hy⟩ : ∃ y, bst A b X n = y + 1 := ⟨bst A b X n - 1, by omega⟩
        obtain ⟨i1, i2, i3⟩ := bst_s n hy
        rw [hy, Nat.add_sub_cancel] at e
        split at e
        · rename_i q3
          have : y = x := by omega
          subst this
          refine ⟨by omega, i2, fun h hh hb => ?_⟩
          by_cases eh : h = n
          · subst eh
            refine Or.inr ?_
            unfold pfb
            omega
          · exact i3 h (by omega) hb
        · rename_i q3
          have : n = x := by omega
          subst this
          refine ⟨by omega, q, fun h hh hb => ?_⟩
          by_cases eh : h = n
          · exact Or.inl eh
          · refine Or.inr ?_
            have := i3 h (by omega) hb
            unfold pfb at this ⊢
            rcases this with z | z
            · subst z; omega
            · omega
theorem DA.one (d : DA A F K rj) {h h' : Nat} (hh : h < qH A) (hh' : h' < qH A) (e : K h = b + 1) (e' : K h' = b + 1) : h = h' := by
  have a1 := (d.2.1 h b hh e).2 h' hh' (d.2.1 h' b hh' e').1
  have a2 := (d.2.1 h' b hh' e').2 h hh (d.2.1 h b hh e).1
  rcases a1 with z | z
  · exact z.symm
  · rcases a2 with y | y
    · exact y
    · unfold pfb at z y; omega
/-- how a stable match treats a boat whose best open hand is h -/
theorem DA.st (d : DA A F K rj) {u : Nat → Nat} (hu : Stb A F u) (hb : b < qB A) (hh : h < qH A) (hbest : ∀ h', h' < qH A → ¬ rj b h' → h' = h ∨ pfb A b h h') (hne : u b ≠ h + 1) : ∃ b', b' < qB A ∧ u b' = h + 1 ∧ pfh F b' b := by
  refine hu.2.2 b h hb hh ?_
  by_cases z : u b = 0
  · exact Or.inl z
  · refine Or.inr ?_
    obtain ⟨y, hy⟩ : ∃ y, u b = y + 1 := ⟨u b - 1, by omega⟩
    have hl := hu.1 b hb
    have nr : ¬ rj b y := fun q => d.2.2.2 u hu b y hb (by omega) q hy
    rw [hy, Nat.add_sub_cancel]
    rcases hbest y (by omega) nr with q | q
    · subst q; exact absurd hy hne
    · exact q
theorem DA.fill (d : DA A F K rj) (hb : b < qB A) (hh : h < qH A) (fr : ∀ h, h < qH A → K h ≠ b + 1) (nr : ¬ rj b h) (hbest : ∀ h', h' < qH A → ¬ rj b h' → h' = h ∨ pfb A b h h') (k0 : K h = 0) (hr : ∀ b2 h2, b2 < qB A → h2 < qH A → (rj' b2 h2 ↔ rj b2 h2)) : DA A F (upn K h (b + 1)) rj' := by
  obtain ⟨d1, d2, d3, d4⟩ := id d
  refine ⟨fun h2 hh2 => ?_, fun h2 b2 hh2 e => ?_, fun b2 h2 hb2 hh2 r => ?_, fun u hu b2 h2 hb2 hh2 r => d4 u hu b2 h2 hb2 hh2 ((hr b2 h2 hb2 hh2).mp r)⟩
  · by_cases z : h2 = h
    · subst z; rw [upn_s]; omega
    · rw [upn_n z]; exact d1 h2 hh2
  · by_cases z : h2 = h
    · subst z
      rw [upn_s] at e
      have : b2 = b := by omega
      subst this
      exact ⟨fun q => nr ((hr b2 h2 hb hh).mp q), fun h' hh' q => hbest h' hh' (fun q2 => q ((hr b2 h' hb hh').mpr q2))⟩
    · rw [upn_n z] at e
      have hl := d1 h2 hh2
      obtain ⟨a1, a2⟩ := d2 h2 b2 hh2 e
      exact ⟨fun q => a1 ((hr b2 h2 (by omega) hh2).mp q), fun h' hh' q => a2 h' hh' (fun q2 => q ((hr b2 h' (by omega) hh').mpr q2))⟩
  · obtain ⟨b', e1, e2⟩ := d3 b2 h2 hb2 hh2 ((hr b2 h2 hb2 hh2).mp r)
    have z : h2 ≠ h := fun z => by subst z; omega
    exact ⟨b', by rw [upn_n z]; exact e1, e2⟩
theorem DA.win (d : DA A F K rj) (hb : b < qB A) (hh : h < qH A) (fr : ∀ h, h < qH A → K h ≠ b + 1) (nr : ¬ rj b h) (hbest : ∀ h', h' < qH A → ¬ rj b h' → h' = h ∨ pfb A b h h') (k0 : K h = b0 + 1) (w : pfh F b b0) (hr : ∀ b2 h2, b2 < qB A → h2 < qH A → (rj' b2 h2 ↔ rj b2 h2 ∨ (b2 = b0 ∧ h2 = h))) : DA A F (upn K h (b + 1)) rj' := by
  obtain ⟨d1, d2, d3, d4⟩ := id d
  have hl0 := d1 h hh
  have ne : b ≠ b0 := fun z => fr h hh (by rw [z]; exact k0)
  refine ⟨fun h2 hh2 => ?_, fun h2 b2 hh2 e => ?_, fun b2 h2 hb2 hh2 r => ?_, fun u hu b2 h2 hb2 hh2 r => ?_⟩
  · by_cases z : h2 = h
    · subst z; rw [upn_s]; omega
    · rw [upn_n z]; exact d1 h2 hh2
  · by_cases z : h2 = h
    · subst z
      rw [upn_s] at e
      have : b2 = b := by omega
      subst this
      exact ⟨fun q => ((hr b2 h2 hb hh).mp q).elim nr (fun q => ne q.1), fun h' hh' q => hbest h' hh' (fun q2 => q ((hr b2 h' hb hh').mpr (Or.inl q2)))⟩
    · rw [upn_n z] at e
      have hl := d1 h2 hh2
      obtain ⟨a1, a2⟩ := d2 h2 b2 hh2 e
      have n0 : b2 ≠ b0 := fun q => by subst q; exact z (d.one hh2 hh e k0)
      exact ⟨fun q => ((hr b2 h2 (by omega) hh2).mp q).elim a1 (fun q => n0 q.1), fun h' hh' q => a2 h' hh' (fun q2 => q ((hr b2 h' (by omega) hh').mpr (Or.inl q2)))⟩
  · rcases (hr b2 h2 hb2 hh2).mp r with r | ⟨r1, r2⟩
    · obtain ⟨b', e1, e2⟩ := d3 b2 h2 hb2 hh2 r
      by_cases z : h2 = h
      · subst z
        refine ⟨b, upn_s, ?_⟩
        have : b' = b0 := by omega
        subst this
        unfold pfh at w e2 ⊢
        omega
      · exact ⟨b', by rw [upn_n z]; exact e1, e2⟩
    · subst r1; subst r2; exact ⟨b, upn_s, w⟩
  · rcases (hr b2 h2 hb2 hh2).mp r with r | ⟨r1, r2⟩
    · exact d4 u hu b2 h2 hb2 hh2 r
    · subst r1; subst r2
      intro q
      obtain ⟨b', x1, x2, x3⟩ := d.st hu hb hh hbest (fun q2 => ne (hu.2.1 b b2 hb hb2 (q2.trans q.symm) (by omega)))
      have := hu.2.1 b' b2 x1 hb2 (x2.trans q.symm) (by omega)
      subst this
      unfold pfh at w x3
      omega
theorem DA.lose (d : DA A F K rj) (hb : b < qB A) (hh : h < qH A) (fr : ∀ h, h < qH A → K h ≠ b + 1) (k0 : K h = b0 + 1) (w : ¬ pfh F b b0) (hr : ∀ b2 h2, b2 < qB A → h2 < qH A → (rj' b2 h2 ↔ rj b2 h2 ∨ (b2 = b ∧ h2 = h))) : DA A F K rj' := by
  obtain ⟨d1, d2, d3, d4⟩ := id d
  have hl0 := d1 h hh
  have ne : b ≠ b0 := fun z => fr h hh (by rw [z]; exact k0)
  have w' : pfh F b0 b := by unfold pfh at w ⊢; omega
  refine ⟨d1, fun h2 b2 hh2 e => ?_, fun b2 h2 hb2 hh2 r => ?_, fun u hu b2 h2 hb2 hh2 r => ?_⟩
  · have hl := d1 h2 hh2
    obtain ⟨a1, a2⟩ := d2 h2 b2 hh2 e
    have n0 : b2 ≠ b := fun q => by subst q; exact fr h2 hh2 e
    exact ⟨fun q => ((hr b2 h2 (by omega) hh2).mp q).elim a1 (fun q => n0 q.1), fun h' hh' q => a2 h' hh' (fun q2 => q ((hr b2 h' (by omega) hh').mpr (Or.inl q2)))⟩
  · rcases (hr b2 h2 hb2 hh2).mp r with r | ⟨r1, r2⟩
    · exact d3 b2 h2 hb2 hh2 r
    · subst r1; subst r2; exact ⟨b0, k0, w'⟩
  · rcases (hr b2 h2 hb2 hh2).mp r with r | ⟨r1, r2⟩
    · exact d4 u hu b2 h2 hb2 hh2 r
    · subst r1; subst r2
      intro q
      have hb0 : b0 < qB A := by omega
      obtain ⟨b', x1, x2, x3⟩ := d.st hu hb0 hh (d2 h2 b0 hh k0).2 (fun q2 => ne (hu.2.1 b2 b0 hb hb0 (q.trans q2.symm) (by omega)))
      have := hu.2.1 b' b2 x1 hb (x2.trans q.symm) (by omega)
      subst this
      exact w x3
theorem DA.stb (d : DA A F K rj) (fi : dFin A K rj) : Stb A F (fun b => hhb K b (qH A)) := by
  obtain ⟨d1, d2, d3, d4⟩ := id d
  refine ⟨fun b hb => ?_, fun b b' hb hb' e n0 => ?_, fun b h hb hh q => ?_⟩
  · show hhb K b (qH A) ≤ qH A
    cases z : hhb K b (qH A) with
    | zero => omega
    | succ y => have := (hhb_s _ z).1; omega
  · have e : hhb K b (qH A) = hhb K b' (qH A) := e
    have n0 : hhb K b (qH A) ≠ 0 := n0
    obtain ⟨y, hy⟩ : ∃ y, hhb K b (qH A) = y + 1 := ⟨hhb K b (qH A) - 1, by omega⟩
    have a1 := (hhb_s _ hy).2
    have a2 := (hhb_s _ (e ▸ hy)).2
    omega
  · have q : hhb K b (qH A) = 0 ∨ pfb A b h (hhb K b (qH A) - 1) := q
    have r : rj b h := by
      rcases fi b hb with ⟨h1, x1, x2⟩ | r
      · apply Classical.byContradiction
        intro nr
        have n0 : hhb K b (qH A) ≠ 0 := fun z => hhb_0 _ z h1 x1 x2
        obtain ⟨y, hy⟩ : ∃ y, hhb K b (qH A) = y + 1 := ⟨hhb K b (qH A) - 1, by omega⟩
        obtain ⟨y1, y2⟩ := hhb_s _ hy
        rw [hy, Nat.add_sub_cancel] at q
        rcases (d2 y b y1 y2).2 h hh nr with z | z
        · subst z; unfold pfb at q; omega
        · unfold pfb at z q; omega
      · exact r h hh
    obtain ⟨b', e1, e2⟩ := d3 b h hb hh r
    have hl := d1 h hh
    refine ⟨b', by omega, ?_, e2⟩
    show hhb K b' (qH A) = h + 1
    cases z : hhb K b' (qH A) with
    | zero => exact absurd e1 (hhb_0 _ z h hh)
    | succ y =>
      obtain ⟨y1, y2⟩ := hhb_s _ z
      rw [d.one y1 hh y2 e1]
theorem DA.le (d : DA A F K rj) (fi : dFin A K rj) (d' : DA A F K' rj') (fi' : dFin A K' rj') (hb : b < qB A) {h : Nat} (e : hhb K b (qH A) = h + 1) : ∃ h', hhb K' b (qH A) = h' + 1 ∧ (h = h' ∨ pfb A b h' h) := by
  have s := d.stb fi
  obtain ⟨e1, e2⟩ := hhb_s _ e
  have nr : ¬ rj' b h := fun q => d'.2.2.2 _ s b h hb e1 q e
  rcases fi' b hb with ⟨h1, x1, x2⟩ | r
  · have n0 : hhb K' b (qH A) ≠ 0 := fun z => hhb_0 _ z h1 x1 x2
    obtain ⟨y, hy⟩ : ∃ y, hhb K' b (qH A) = y + 1 := ⟨hhb K' b (qH A) - 1, by omega⟩
    obtain ⟨y1, y2⟩ := hhb_s _ hy
    exact ⟨y, hy, (d'.2.1 y b y1 y2).2 h e1 nr⟩
  · exact absurd (r h e1) nr
theorem DA.same (d : DA A F K rj) (fi : dFin A K rj) (d' : DA A F K' rj') (fi' : dFin A K' rj') (hb : b < qB A) : hhb K b (qH A) = hhb K' b (qH A) := by
  cases e : hhb K b (qH A) with
  | zero =>
    cases e' : hhb K' b (qH A) with
    | zero => rfl
    | succ y =>
      obtain ⟨x, x1, -⟩ := d'.le fi' d fi hb e'
      omega
  | succ y =>
    obtain ⟨x, x1, x2⟩ := d.le fi d' fi' hb e
    obtain ⟨z, z1, z2⟩ := d'.le fi' d fi hb x1
    have : z = y := by omega
    subst this
    rw [x1]
    unfold pfb at x2 z2
    omega
/-- at the start nobody has asked -/
theorem DA.zero (hr : ∀ b h, b < qB A → h < qH A → ¬ rj b h) (hK : ∀ h, h < qH A → K h = 0) : DA A F K rj := ⟨fun h hh => by rw [hK h hh]; omega, fun h b hh e => by have := hK h hh; omega, fun b h hb hh r => absurd r (hr b h hb hh), fun u _ b h hb hh r => absurd r (hr b h hb hh)⟩
end MT1
