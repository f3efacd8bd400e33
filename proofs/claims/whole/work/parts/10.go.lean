/-! the judgement Go: one activation over an abstract heap (numbers, longs, references by cell and place), cells at base + k -/
abbrev gH : Type := (Nat → Nat → Int32) × (Nat → Nat → Int64) × (Nat → Nat → Option Nat)
abbrev gG : Type := va_G × (ClassId × ClassId × ClassId × ClassId) × Nat × (Nat → Nat) × (Nat → Nat) × Value
abbrev gS : Type := List (Nat × Nat)
abbrev gLs : Type := List (Option Value)
def ga (G : gG) (k : Nat) : Nat := if k < 1000000 then G.2.2.1 + k else if k < 2000000 then G.2.2.2.1 (k - 1000000) else G.2.2.2.2.1 (k - 2000000)
def gv (G : gG) (v : Value) : Value := match v with
  | .ref k => .ref (ga G k)
  | v => v
def gfv (G : gG) (h : gH) (k : Nat) (t : FieldType) (j : Nat) : Value := match t with
  | .long => .long (h.2.1 k j)
  | .object _ => va_rf ((h.2.2 k j).map (ga G))
  | .array _ => va_rf ((h.2.2 k j).map (ga G))
  | _ => .int (h.1 k j)
def gob (G : gG) (h : gH) (k c n : Nat) : List Value := (List.range n).map (fun j => gfv G h k (gty c j) j)
def gce (G : gG) (h : gH) (k : Nat) (q : Nat × Nat) : va_E :=
  if q.1 = 20 then .inl (G.2.1.1, q.2, .inl (h.1 k)) else if q.1 = 21 then .inl (G.2.1.2.1, q.2, .inr (.inl (h.2.1 k))) else if q.1 = 22 then .inl (G.2.1.2.2.1, q.2, .inl (h.1 k))
  else if q.1 = 23 then .inl (G.2.1.2.2.2, q.2, .inr (.inr (.inr (.inr (fun i => (h.2.2 k i).map (ga G)))))) else .inr (q.1, gob G h k q.1 q.2)
def gwd (G : gG) (sh : gS) (h : gH) : va_W := sh.mapIdx (fun k q => (G.2.2.1 + k, gce G h k q))
theorem gwd_at {G : gG} {sh : gS} {h : gH} {k : Nat} {q : Nat × Nat} (hq : sh[k]? = some q) : (gwd G sh h)[k]? = some (G.2.2.1 + k, gce G h k q) := by
  unfold gwd
  rw [List.getElem?_mapIdx, hq]
  rfl
theorem gwd_of {G : gG} {sh : gS} {h : gH} {k : Nat} {x : Nat × va_E} (hx : (gwd G sh h)[k]? = some x) : ∃ q, sh[k]? = some q ∧ x = (G.2.2.1 + k, gce G h k q) := by
  unfold gwd at hx
  rw [List.getElem?_mapIdx] at hx
  cases hq : sh[k]? with
  | none => rw [hq] at hx; cases hx
  | some q => rw [hq] at hx; exact ⟨q, rfl, (Option.some.inj hx).symm⟩
def gA (G : gG) : Nat → Prop := fun q => G.2.2.1 ≤ q
theorem gwd_D (G : gG) (sh : gS) (h : gH) : va_D (gA G) (gwd G sh h) := by
  refine ⟨fun i j p q hi hj e => ?_, fun k q hk => ?_⟩
  · obtain ⟨_, _, rfl⟩ := gwd_of hi
    obtain ⟨_, _, rfl⟩ := gwd_of hj
    exact Nat.add_left_cancel e
  · obtain ⟨_, _, rfl⟩ := gwd_of hk
    exact Nat.le_add_right _ _
def gRel (G : gG) (sh : gS) (h : gH) (H : Heap) : Prop := va_P G.1 vwCl (gwd G sh h) H ∧ H.size = G.2.2.1 + sh.length ∧ sh.length ≤ 1000000
theorem ga_lt {G : gG} {k : Nat} (h : k < 1000000) : ga G k = G.2.2.1 + k := if_pos h
theorem gRel.ga {G : gG} {sh : gS} {h : gH} {H : Heap} (r : gRel G sh h H) {k : Nat} {q : Nat × Nat} (hq : sh[k]? = some q) : ga G k = G.2.2.1 + k :=
  ga_lt (Nat.lt_of_lt_of_le (List.getElem?_eq_some_iff.mp hq).1 r.2.2)
/-- the locals -/
def gL (G : gG) (ls : Array Slot) (n : Nat) (l : gLs) : Prop := ls.size = n ∧ l.length = n ∧ lv_wf ls ∧ ∀ (i : Nat) (v : Value), l[i]? = some (some v) → ls[i]? = some (.val (gv G v))
def g2 (o : Option Value) : Bool := match o with
  | some (.long _) => true
  | some (.double _) => true
  | _ => false
/-- a store of a value of one word; of two -/
def gs1 : gLs → Nat → Value → gLs
  | [], _, _ => []
  | _ :: r, 0, v => some v :: r
  | a :: r, 1, v => (match a with
    | some (.long _) => none
    | some (.double _) => none
    | o => o) :: gs1 r 0 v
  | a :: r, n + 2, v => a :: gs1 r (n + 1) v
def gs2 (l : gLs) (i : Nat) (v : Value) : gLs := (gs1 l i v).set (i + 1) none
theorem gs1_len : ∀ (l : gLs) (i : Nat) (v : Value), (gs1 l i v).length = l.length
  | [], _, _ => rfl
  | _ :: _, 0, _ => rfl
  | _ :: r, 1, v => by unfold gs1; rw [List.length_cons, List.length_cons, gs1_len r 0 v]
  | _ :: r, n + 2, v => by unfold gs1; rw [List.length_cons, List.length_cons, gs1_len r (n + 1) v]
theorem gs1_at : ∀ (l : gLs) (i : Nat) (v : Value) (j : Nat) (w : Value), (gs1 l i v)[j]? = some (some w) → (j = i ∧ w = v) ∨ (j ≠ i ∧ l[j]? = some (some w) ∧ ¬ (j + 1 = i ∧ w.category = 2))
  | [], _, _, j, w, h => by simp [gs1] at h
  | a :: r, 0, v, j, w, h => by
    unfold gs1 at h
    cases j with
    | zero => exact Or.inl ⟨rfl, by simpa using h.symm⟩
    | succ j => exact Or.inr ⟨by omega, by simpa using h, by omega⟩
  | a :: r, 1, v, j, w, h => by
    unfold gs1 at h
    cases j with
    | zero =>
      refine Or.inr ⟨by omega, ?_, ?_⟩
      · cases a with
        | none => simp at h
        | some x => cases x <;> simp_all
      · rintro ⟨-, h2⟩
        cases a with
        | none => simp at h
        | some x => cases x <;> simp_all <;> (subst h; simp [Value.category] at h2)
    | succ j =>
      have h' : (gs1 r 0 v)[j]? = some (some w) := by simpa using h
      rcases gs1_at r 0 v j w h' with ⟨rfl, rfl⟩ | ⟨h1, h2, h3⟩
      · exact Or.inl ⟨rfl, rfl⟩
      · exact Or.inr ⟨by omega, by simpa using h2, by omega⟩
  | a :: r, n + 2, v, j, w, h => by
    unfold gs1 at h
    cases j with
    | zero => exact Or.inr ⟨by omega, by simpa using h, by omega⟩
    | succ j =>
      have h' : (gs1 r (n + 1) v)[j]? = some (some w) := by simpa using h
      rcases gs1_at r (n + 1) v j w h' with ⟨rfl, rfl⟩ | ⟨h1, h2, h3⟩
      · exact Or.inl ⟨rfl, rfl⟩
      · exact Or.inr ⟨by omega, by simpa using h2, fun q => h3 ⟨by omega, q.2⟩⟩
theorem gv_cat (G : gG) (v : Value) : (gv G v).category = v.category := by cases v <;> rfl
/-- the pairs that the kit's rows list -/
def gpr (G : gG) (l : gLs) : List (Nat × Value) := (List.range l.length).filterMap (fun i => match l[i]? with
  | some (some v) => some (i, gv G v)
  | _ => none)
theorem gpr_mem {G : gG} {l : gLs} {q : Nat × Value} : q ∈ gpr G l ↔ ∃ v, l[q.1]? = some (some v) ∧ q.2 = gv G v := by
  unfold gpr
  rw [List.mem_filterMap]
  constructor
  · rintro ⟨i, hi, h⟩
    cases hl : l[i]? with
    | none => rw [hl] at h; cases h
    | some o =>
      cases o with
      | none => rw [hl] at h; cases h
      | some v =>
        rw [hl] at h
        have h := Option.some.inj h
        subst h
        exact ⟨v, hl, rfl⟩
  · rintro ⟨v, h1, h2⟩
    refine ⟨q.1, List.mem_range.mpr (List.getElem?_eq_some_iff.mp h1).1, ?_⟩
    rw [h1]
    show some (q.1, gv G v) = some q
    rw [← h2]
theorem gL.has {G : gG} {ls : Array Slot} {n : Nat} {l : gLs} (h : gL G ls n l) : lv_has ls n (gpr G l) := by
  refine ⟨h.1, h.2.2.1, fun q hq => ?_⟩
  obtain ⟨v, h1, h2⟩ := gpr_mem.mp hq
  rw [h2]
  exact h.2.2.2 _ _ h1
theorem gL.st1 {G : gG} {ls ls' : Array Slot} {n i : Nat} {l : gLs} {v : Value} (h : gL G ls n l) (h' : lv_has ls' n ((i, gv G v) :: (gpr G l).filter (fun q => !(q.1 == i) && !(q.1 + 1 == i && q.2.category == 2)))) : gL G ls' n (gs1 l i v) := by
  refine ⟨h'.1, by rw [gs1_len]; exact h.2.1, h'.2.1, fun j w hw => ?_⟩
  rcases gs1_at l i v j w hw with ⟨rfl, rfl⟩ | ⟨h1, h2, h3⟩
  · exact h'.2.2 (j, gv G w) List.mem_cons_self
  · refine h'.2.2 (j, gv G w) (List.mem_cons_of_mem _ (List.mem_filter.mpr ⟨gpr_mem.mpr ⟨w, h2, rfl⟩, ?_⟩))
    simp only [gv_cat, Bool.and_eq_true, Bool.not_eq_true', beq_eq_false_iff_ne, Bool.and_eq_false_iff]
    refine ⟨h1, ?_⟩
    by_cases hj : j + 1 = i
    · exact Or.inr fun hc => h3 ⟨hj, hc⟩
    · exact Or.inl hj
theorem gL.st2 {G : gG} {ls ls' : Array Slot} {n i : Nat} {l : gLs} {v : Value} (h : gL G ls n l) (h' : lv_has ls' n ((i, gv G v) :: (gpr G l).filter (fun q => !(q.1 == i) && (!(q.1 == i + 1) && !(q.1 + 1 == i && q.2.category == 2))))) : gL G ls' n (gs2 l i v) := by
  refine ⟨h'.1, by unfold gs2; rw [List.length_set, gs1_len]; exact h.2.1, h'.2.1, fun j w hw => ?_⟩
  unfold gs2 at hw
  by_cases hj1 : j = i + 1
  · subst hj1
    rw [List.getElem?_set] at hw
    simp at hw
  · rw [List.getElem?_set_ne (Ne.symm hj1)] at hw
    rcases gs1_at l i v j w hw with ⟨rfl, rfl⟩ | ⟨h1, h2, h3⟩
    · exact h'.2.2 (j, gv G w) List.mem_cons_self
    · refine h'.2.2 (j, gv G w) (List.mem_cons_of_mem _ (List.mem_filter.mpr ⟨gpr_mem.mpr ⟨w, h2, rfl⟩, ?_⟩))
      simp only [gv_cat, Bool.and_eq_true, Bool.not_eq_true', beq_eq_false_iff_ne, Bool.and_eq_false_iff]
      refine ⟨h1, hj1, ?_⟩
      by_cases hj : j + 1 = i
      · exact Or.inr fun hc => h3 ⟨hj, hc⟩
      · exact Or.inl hj
/-- the locals at a method's entry -/
def gen (av : List Value) : gLs := av.flatMap (fun v => if v.category = 2 then [some v, none] else [some v])
