section RK
variable {l : Launch} {G : gG} {d : Nat} {Q : Option Value → gH → Prop} {h h0 : gH} {lk sp : Nat} {cd : Option Nat}
theorem c_push {v : Int32} {n : Nat} (hw : gWf h lk sp cd) (hn : n < 64) (h3 : h.1 45 3 = nI n) (hq : Q none (sI (sI h 48 n v) 45 3 (nI (n + 1)))) : gC l G d MX6_push [.ref 45, .int v] h Q := by
  refine eX6_push hw ?_
  rw [h3, nI_clamp (by omega), nI_1]
  exact bN (nI_pos (by omega)) (bN (nI_ge (b := 64) hn (by decide)) ⟨vp_in_nI hn (by decide), hq⟩)
theorem c_pop {n : Nat} (hw : gWf h lk sp cd) (hn : n < 64) (h3 : h.1 45 3 = nI (n + 1)) (hq : Q (some (.int (h.1 48 n))) (sI h 45 3 (nI n))) : gC l G d MX6_pop [.ref 45] h Q := by
  refine eX6_pop hw ?_
  rw [h3, i_s1, nI_clamp (by omega)]
  exact bN (nI_nlt (b := 1) (by omega) (by omega)) (bY (nI_le (b := 64) (by omega) (by decide)) ⟨vp_in_nI hn (by decide), hq⟩)
theorem c_join {u : Nat} {a b : Int} (hw : gWf h lk sp cd) (hu : u ∈ [28, 29, 32, 33, 42, 43, 45, 47, 60, 61, 62]) (ha : mil a) (hb : mil b) (hq : Q (some (.int (iI (jn u a b)))) h) : gC l G (d + 1) MX6_join [.int (nI u), .int (iI a), .int (iI b)] h Q := by
  have ma := ha
  have mb := hb
  unfold mil at ha hb
  have hu62 : u ≤ 62 := by simp at hu; omega
  have L : ∀ x : Int, mil x → (iI x).toInt64 = lI x := fun x hx => by unfold mil at hx; exact iI_l (by omega) (by omega)
  have e0 : (0 : Int64) = lI 0 := by decide
  have e1 : (1 : Int64) = lI 1 := by decide
  refine eX6_join hw (fun p e s m args below meth c => ?_)
  have k : ∀ y, -10000000000000 ≤ y → y ≤ 10000000000000 → jn u a b = clp y → gg p l e s m args below meth c G (d + 1) MX6_join Q 260 [some (.int (nI u)), some (.int (iI a)), some (.int (iI b)), some (.long (lI y)), none] [] h := fun y h1 h2 q => by
    refine wX6_join_260 hw.1 hw.2.1 hw.2.2.1 ?_
    rw [clp_c (by omega) (by omega), ← q]
    exact hq
  have kmin : jn u a b = (if b < a then b else a) → gg p l e s m args below meth c G (d + 1) MX6_join Q 201 [some (.int (nI u)), some (.int (iI a)), some (.int (iI b)), some (.long 0), none] [] h := fun q => by
    refine wX6_join_201 hw.1 hw.2.1 hw.2.2.1 ?_
    have e : (if iI b < iI a then iI b else iI a) = iI (if b < a then b else a) := by
      by_cases z : b < a
      · rw [if_pos z, if_pos ((iI_lt (by omega) (by omega) (by omega) (by omega)).mpr z)]
      · rw [if_neg z, if_neg (mt (iI_lt (by omega) (by omega) (by omega) (by omega)).mp z)]
    have m1 : mil (if b < a then b else a) := by split <;> assumption
    rw [e, L _ m1]
    refine k _ ?_ ?_ (by rw [clp_id m1]; exact q) <;> (unfold mil at m1; omega)
  have kmax : jn u a b = (if a < b then b else a) → gg p l e s m args below meth c G (d + 1) MX6_join Q 211 [some (.int (nI u)), some (.int (iI a)), some (.int (iI b)), some (.long 0), none] [] h := fun q => by
    refine wX6_join_211 hw.1 hw.2.1 hw.2.2.1 ?_
    have e : (if iI a < iI b then iI b else iI a) = iI (if a < b then b else a) := by
      by_cases z : a < b
      · rw [if_pos z, if_pos ((iI_lt (by omega) (by omega) (by omega) (by omega)).mpr z)]
      · rw [if_neg z, if_neg (mt (iI_lt (by omega) (by omega) (by omega) (by omega)).mp z)]
    have m1 : mil (if a < b then b else a) := by split <;> assumption
    rw [e, L _ m1]
    refine k _ ?_ ?_ (by rw [clp_id m1]; exact q) <;> (unfold mil at m1; omega)
  have ku : ∀ n : Nat, n < 100 → nI u = nI n → u = n := fun n hn q => (nI_eq (by omega) (by omega)).mp q
  have m0 : mil 0 := ⟨by decide, by decide⟩
  have m1 : mil 1 := ⟨by decide, by decide⟩
  rw [L a ma, L b mb, lI_mul, lI_add, lI_sub]
  have hab : -1000000000000 ≤ a * b ∧ a * b ≤ 1000000000000 := by
    have h1 : (a * b).natAbs ≤ 1000000 * 1000000 := by rw [Int.natAbs_mul]; exact Nat.mul_le_mul (by omega) (by omega)
    omega
  refine ⟨fun q => ?_, fun q => ?_, fun q => ?_, fun q => ?_, fun q => ?_, fun q => ?_, fun q => ?_, fun q => ?_, fun q => ?_, fun q => ?_, fun q1 q2 q3 q4 q5 q6 q7 q8 q9 q10 => ?_⟩
  · have := ku 28 (by decide) q; subst this; exact kmax rfl
  · have := ku 29 (by decide) q; subst this; exact kmin rfl
  · have := ku 32 (by decide) q; subst this; exact kmin rfl
  · have := ku 33 (by decide) q; subst this; exact kmax rfl
  · have := ku 42 (by decide) q; subst this; exact k _ (by omega) (by omega) rfl
  · have := ku 43 (by decide) q; subst this; exact k _ (by omega) (by omega) rfl
  · have := ku 45 (by decide) q; subst this; exact k _ (by omega) (by omega) rfl
  · have := ku 47 (by decide) q; subst this
    have z0 : iI b = 0 ↔ b = 0 := by rw [show (0 : Int32) = iI 0 by decide, iI_eq (by omega) (by omega) (by omega) (by omega)]
    refine ⟨fun z => ⟨z, ?_⟩, fun z => ?_⟩
    · have m2 : mil (fdi a b) := fdi_m ma
      rw [fdv_i ma mb (mt z0.mpr z), L _ m2]
      refine k _ ?_ ?_ (by rw [clp_id m2]; rfl) <;> (unfold mil at m2; omega)
    · rw [e0]
      refine k 0 (by decide) (by decide) ?_
      show fdi a b = clp 0
      rw [clp_id m0]
      unfold fdi
      rw [if_pos (z0.mp z)]
  · have := ku 60 (by decide) q; subst this
    refine ⟨fun z => ?_, fun z => ?_⟩
    · rw [iI_le (by omega) (by omega) (by omega) (by omega)] at z
      rw [e0]
      refine k 0 (by decide) (by decide) ?_
      show (if a < b then (1 : Int) else 0) = _
      rw [if_neg (by omega), clp_id m0]
    · rw [iI_le (by omega) (by omega) (by omega) (by omega)] at z
      rw [e1]
      refine k 1 (by decide) (by decide) ?_
      show (if a < b then (1 : Int) else 0) = _
      rw [if_pos (by omega), clp_id m1]
  · have := ku 62 (by decide) q; subst this
    refine ⟨fun z => ?_, fun z => ?_⟩
    · rw [iI_le (by omega) (by omega) (by omega) (by omega)] at z
      rw [e0]
      refine k 0 (by decide) (by decide) ?_
      show (if b < a then (1 : Int) else 0) = _
      rw [if_neg (by omega), clp_id m0]
    · rw [iI_le (by omega) (by omega) (by omega) (by omega)] at z
      rw [e1]
      refine k 1 (by decide) (by decide) ?_
      show (if b < a then (1 : Int) else 0) = _
      rw [if_pos (by omega), clp_id m1]
  · have hu61 : u = 61 := by
      have n1 : u ≠ 28 := fun e => q1 (by rw [e]; rfl)
      have n2 : u ≠ 29 := fun e => q2 (by rw [e]; rfl)
      have n3 : u ≠ 32 := fun e => q3 (by rw [e]; rfl)
      have n4 : u ≠ 33 := fun e => q4 (by rw [e]; rfl)
      have n5 : u ≠ 42 := fun e => q5 (by rw [e]; rfl)
      have n6 : u ≠ 43 := fun e => q6 (by rw [e]; rfl)
      have n7 : u ≠ 45 := fun e => q7 (by rw [e]; rfl)
      have n8 : u ≠ 47 := fun e => q8 (by rw [e]; rfl)
      have n9 : u ≠ 60 := fun e => q9 (by rw [e]; rfl)
      have n10 : u ≠ 62 := fun e => q10 (by rw [e]; rfl)
      simp at hu
      omega
    subst hu61
    refine wX6_join_249 hw.1 hw.2.1 hw.2.2.1 ⟨fun z => ?_, fun z => ?_⟩
    · rw [iI_eq (by omega) (by omega) (by omega) (by omega)] at z
      rw [e0]
      refine k 0 (by decide) (by decide) ?_
      show (if a = b then (1 : Int) else 0) = _
      rw [if_neg z, clp_id m0]
    · rw [iI_eq (by omega) (by omega) (by omega) (by omega)] at z
      rw [e1]
      refine k 1 (by decide) (by decide) ?_
      show (if a = b then (1 : Int) else 0) = _
      rw [if_pos z, clp_id m1]
theorem unc : ∀ u, u < 63 → ((-1 - nI u) ^^^ (-1) = nI u ∧ -1 - nI u < 0) := by decide
theorem gp2 {L : List Nat} (e : gEq L h0 h) (h48 : 48 ∈ L) (h45 : 45 ∈ L) (n m : Nat) (v : Int32) : gEq L h0 (sI (sI h 48 n v) 45 3 (nI m)) :=
  ((e.tr (gEq.sI h 48 n v)).tr (gEq.sI _ 45 3 (nI m))).mono (fun x hx => by
    simp only [List.mem_append, List.mem_singleton] at hx
    rcases hx with (hx | hx) | hx
    · exact hx
    · rw [hx]; exact h48
    · rw [hx]; exact h45)
/-- the pile behind i tokens -/
def PC (V : Nat → Int) (C : Int → Int) (f : Nat → Nat) (h0 : gH) (i : Nat) (h : gH) : Prop := gEq [45, 48] h0 h ∧ h.1 45 3 = nI (dpu f i) ∧ ∀ j, j < dpu f i → h.1 48 j = iI (evS V C f i j)
theorem c_tok {V : Nat → Int} {C : Int → Int} {f : Nat → Nat} {i n : Nat} (hw : gWf h0 lk sp cd) (hf : uwf f n) (hi : i < n) (hV : ∀ i, i < n → f i < 27 → mil (V (f i)) ∧ h0.1 46 (f i) = iI (V (f i))) (hC : ∀ i, i < n → f i = 27 → (∀ c : Nat, c < 48 → h0.1 47 c = iI (C c)) ∧ (∀ x : Int, x < 0 ∨ 48 ≤ x → C x = 0) ∧ ∀ x, mil (C x)) (t : PC V C f h0 i h) (hu : f i < 1000) (hq : ∀ h', PC V C f h0 (i + 1) h' → Q none h') : gC l G (d + 2) MX6_apply [.ref 45, .int (nI (f i))] h Q := by
  obtain ⟨t1, t2, t3⟩ := t
  have hwh := hw.eq t1
  obtain ⟨f1, f2, f3, f4⟩ := hf.1 i hi
  have hm := evS_m hf (fun i hi q => (hV i hi q).1) (fun i hi q => (hC i hi q).2.2) i (by omega)
  have d9 : dpu f i ≤ 64 := by
    cases i with
    | zero => exact Nat.zero_le _
    | succ i => exact (hf.1 i (by omega)).2.2.2
  refine eX6_apply hwh (bN (nI_pos (by omega)) ?_)
  by_cases p1 : f i < 27
  · refine bN (nI_ge (b := 27) p1 (by decide)) ⟨vp_in_nI (by omega) (by decide), ?_⟩
    have ed : dpu f (i + 1) = dpu f i + 1 := by
      show (if psh (f i) then _ else _) = _
      rw [if_pos (Or.inl p1)]
    rw [ed] at f4
    rw [nI_clamp (by omega)]
    refine c_push hwh (by omega) t2 ⟨rfl, rfl, hq _ ⟨gp2 t1 (by decide) (by decide) _ _ _, ?_, fun j hj => ?_⟩⟩
    · rw [ed, sI_s]
    · rw [ed] at hj
      rw [sI_ne (by decide)]
      show _ = iI (if psh (f i) then _ else _)
      rw [if_pos (Or.inl p1)]
      by_cases e : j = dpu f i
      · rw [if_pos e, if_pos p1, e, sI_s, (t1.1 46 (by decide)).1]
        exact (hV i hi p1).2
      · rw [if_neg e, sI_nb e]
        exact t3 j (by omega)
  · have np : ¬ psh (f i) := fun q => by rcases q with q | q <;> omega
    refine bY (nI_le (a := 27) (by omega) (by omega)) ?_
    by_cases p2 : una (f i)
    · have f2 := f2 p2
      obtain ⟨k, hk⟩ : ∃ k, dpu f i = k + 1 := ⟨dpu f i - 1, by omega⟩
      have ed : dpu f (i + 1) = k + 1 := by
        show (if psh (f i) then _ else _) = _
        rw [if_neg np, if_pos p2, hk]
      have es : ∀ j, evS V C f (i + 1) j = if j = k then un C (f i) (evS V C f i k) else evS V C f i j := fun j => by
        show (if psh (f i) then _ else _) = _
        rw [if_neg np, if_pos p2, hk, Nat.add_sub_cancel]
      have fin : ∀ v : Int32, v = iI (un C (f i) (evS V C f i k)) → Q none (sI (sI (sI h 45 3 (nI k)) 48 k v) 45 3 (nI (k + 1))) := fun v hv => by
        refine hq _ ⟨?_, ?_, fun j hj => ?_⟩
        · exact gp2 (L := [45, 48]) ((t1.tr (gEq.sI h 45 3 (nI k))).mono (fun x hx => by simp at hx ⊢; omega)) (by decide) (by decide) _ _ _
        · rw [ed, sI_s]
        · rw [ed] at hj
          rw [sI_ne (by decide), es]
          by_cases e : j = k
          · rw [e, sI_s, if_pos rfl, hv]
          · rw [sI_nb e, if_neg e, sI_ne (by decide)]
            exact t3 j (by omega)
      refine c_pop (n := k) hwh (by omega) (by rw [t2, hk]) ⟨_, rfl, rfl, ?_⟩
      have hwk := hwh.eq (gEq.sI h 45 3 (nI k))
      have s3 : (sI h 45 3 (nI k)).1 45 3 = nI k := sI_s _ _ _ _
      have mk := hm k (by omega)
      rw [t3 k (by omega)]
      by_cases p3 : f i = 27
      · obtain ⟨c1, c2, c3⟩ := hC i hi p3
        have mk2 := mk
        unfold mil at mk2
        rw [p3]
        refine bY' (by rfl) (eX6_crowdOf hwk ?_)
        have hx : ∀ x, un C (f i) x = C x := fun x => by unfold un; rw [if_pos p3]
        have e0 : iI (evS V C f i k) < 0 ↔ evS V C f i k < 0 := by rw [show (0 : Int32) = iI 0 by decide]; exact iI_lt (by omega) (by omega) (by omega) (by omega)
        have e48 : 48 ≤ iI (evS V C f i k) ↔ 48 ≤ evS V C f i k := by rw [show (48 : Int32) = iI 48 by decide]; exact iI_le (by omega) (by omega) (by omega) (by omega)
        refine ⟨fun z => ⟨_, rfl, rfl, c_push hwk (by omega) s3 ⟨rfl, rfl, fin _ ?_⟩⟩, fun z => ⟨fun z2 => ⟨_, rfl, rfl, c_push hwk (by omega) s3 ⟨rfl, rfl, fin _ ?_⟩⟩, fun z2 => ?_⟩⟩
        · rw [hx, c2 _ (Or.inl (e0.mp z))]; decide
        · rw [hx, c2 _ (Or.inr (e48.mp z2))]; decide
        · have z := mt e0.mpr z
          have z2 := mt e48.mpr z2
          obtain ⟨w, hw1⟩ : ∃ w : Nat, evS V C f i k = w := ⟨(evS V C f i k).toNat, by omega⟩
          have hw2 : w < 48 := by omega
          rw [hw1, ← iI_nat (by omega)]
          refine ⟨vp_in_nI hw2 (by decide), _, rfl, rfl, c_push hwk (by omega) s3 ⟨rfl, rfl, fin _ ?_⟩⟩
          rw [hx, hw1, nI_clamp (by omega), sI_ne (by decide), (t1.1 47 (by decide)).1]
          exact c1 w hw2
      · have p4 : f i = 30 := by rcases p2 with p2 | p2; exact absurd p2 p3; exact p2
        have mk2 := mk
        unfold mil at mk2
        rw [p4]
        have hx : ∀ x, un C (f i) x = if x = 0 then 1 else 0 := fun x => by unfold un; rw [if_neg p3]
        have e0 : iI (evS V C f i k) = 0 ↔ evS V C f i k = 0 := by rw [show (0 : Int32) = iI 0 by decide]; exact iI_eq (by omega) (by omega) (by omega) (by omega)
        refine bN' (by decide) (bY' (by rfl) ⟨fun z => c_push hwk (by omega) s3 ⟨rfl, rfl, fin _ ?_⟩, fun z => c_push hwk (by omega) s3 ⟨rfl, rfl, fin _ ?_⟩⟩)
        · rw [hx, if_neg (mt e0.mpr z)]; decide
        · rw [hx, if_pos (e0.mp z)]; decide
    · have f3 := f3 np p2
      obtain ⟨k, hk⟩ : ∃ k, dpu f i = k + 2 := ⟨dpu f i - 2, by omega⟩
      have ed : dpu f (i + 1) = k + 1 := by
        show (if psh (f i) then _ else _) = _
        rw [if_neg np, if_neg p2, hk]
        rfl
      have es : ∀ j, evS V C f (i + 1) j = if j = k then jn (f i) (evS V C f i k) (evS V C f i (k + 1)) else evS V C f i j := fun j => by
        show (if psh (f i) then _ else _) = _
        rw [if_neg np, if_neg p2, hk, Nat.add_sub_cancel]
        rfl
      have m1 : f i ≠ 27 := fun e => p2 (Or.inl e)
      have m2 : f i ≠ 30 := fun e => p2 (Or.inr e)
      refine c_pop (n := k + 1) hwh (by omega) (by rw [t2, hk]) ⟨_, rfl, rfl, bN' (fun q => m1 ((nI_eq (b := 27) (by omega) (by decide)).mp q)) (bN' (fun q => m2 ((nI_eq (b := 30) (by omega) (by decide)).mp q)) ?_)⟩
      have hwk := hwh.eq (gEq.sI h 45 3 (nI (k + 1)))
      refine c_pop (n := k) hwk (by omega) (sI_s _ _ _ _) ⟨_, rfl, rfl, ?_⟩
      have hwk2 := hwk.eq (gEq.sI (sI h 45 3 (nI (k + 1))) 45 3 (nI k))
      rw [sI_ne (by decide), t3 (k + 1) (by omega), t3 k (by omega)]
      refine c_join hwk2 ?_ (hm k (by omega)) (hm (k + 1) (by omega)) ⟨_, rfl, rfl, c_push hwk2 (by omega) (sI_s _ _ _ _) ⟨rfl, rfl, hq _ ⟨?_, ?_, fun j hj => ?_⟩⟩⟩
      · rcases f1 with f1 | f1 | f1
        · have : f i = 28 ∨ f i = 29 := by omega
          rcases this with e | e <;> rw [e] <;> decide
        · revert f1
          simp
          omega
        · omega
      · exact gp2 (L := [45, 48]) (((t1.tr (gEq.sI h 45 3 (nI (k + 1)))).tr (gEq.sI _ 45 3 (nI k))).mono (fun x hx => by simp at hx ⊢; omega)) (by decide) (by decide) _ _ _
      · rw [ed, sI_s]
      · rw [ed] at hj
        rw [sI_ne (by decide), es]
        by_cases e : j = k
        · rw [e, sI_s, if_pos rfl]
        · rw [sI_nb e, if_neg e, sI_ne (by decide), sI_ne (by decide)]
          exact t3 j (by omega)
theorem c_reckon {V : Nat → Int} {C : Int → Int} {f : Nat → Nat} {cc q o n : Nat} (hw : gWf h lk sp cd) (hcc : cc = 41 ∨ cc = 61 ∨ cc = 78) (hp : q < 3) (h2 : h.1 (cc + 2) q = nI o) (h3 : h.1 (cc + 3) q = nI (o + n)) (hn : 0 < n) (hb : o + n ≤ 1600) (hr : ∀ i, i < n → h.1 (cc + 1) (o + i) = ucc (f i)) (hf : uwf f n) (hV : ∀ i, i < n → f i < 27 → mil (V (f i)) ∧ h.1 46 (f i) = iI (V (f i))) (hC : ∀ i, i < n → f i = 27 → (∀ c : Nat, c < 48 → h.1 47 c = iI (C c)) ∧ (∀ x : Int, x < 0 ∨ 48 ≤ x → C x = 0) ∧ ∀ x, mil (C x)) (hq : ∀ h', gEq [45, 48] h h' → Q (some (.int (iI (evS V C f n 0)))) h') : gC l G (d + 3) MX6_reckon [.ref 45, .ref cc, .int (nI q)] h Q := by
  have cn : ∀ j, j < 4 → cc + j ∉ [45, 48] := fun j hj z => by simp at z; omega
  have cl : (nI q).toNatClampNeg = q := nI_clamp (by omega)
  have e0 : gEq [45, 48] h (sI h 45 3 0) := (gEq.sI h 45 3 0).mono (fun x hx => by simp at hx ⊢; omega)
  refine eX6_reckon hw hcc (fun p e s m args below meth c => eX0_isTold (hw.eq e0) hcc (bN (nI_pos (by omega)) (bN (nI_ge (b := 3) hp (by decide)) ⟨vp_in_nI hp (by decide), vp_in_nI hp (by decide), bN ?_ ⟨_, rfl, rfl, bN' (by decide) ⟨vp_in_nI hp (by decide), ?_⟩⟩⟩)))
  · rw [cl, (e0.1 _ (cn 3 (by decide))).1, (e0.1 _ (cn 2 (by decide))).1, h2, h3]
    exact nI_ge (by omega) (by omega)
  rw [cl, (e0.1 _ (cn 2 (by decide))).1, h2]
  suffices H : ∀ r i h', i + r = n → PC V C f h i h' → gg p l e s m args below meth c G (d + 1 + 1 + 1) MX6_reckon Q 22 [some (.ref 45), some (.ref cc), some (.int (nI q)), some (.int (nI (o + i))), none] [] h' from H n 0 _ (by omega) ⟨e0, sI_s _ _ _ _, fun j hj => absurd hj (Nat.not_lt_zero _)⟩
  intro r
  induction r with
  | zero =>
    intro i h' hi t
    have hi : i = n := by omega
    subst hi
    obtain ⟨t1, t2, t3⟩ := t
    have hwh := hw.eq t1
    have d1 := hf.2 hn
    refine wX6_reckon_22 hwh.1 hwh.2.1 hwh.2.2.1 hcc (bN (nI_pos (by omega)) ⟨vp_in_nI hp (by decide), bY ?_ (c_pop (n := 0) hwh (by decide) (by rw [t2, d1]) ⟨_, rfl, rfl, ?_⟩)⟩)
    · rw [cl, (t1.1 _ (cn 3 (by decide))).1, h3]
      exact Int32.le_refl _
    · rw [t3 0 (by omega)]
      exact hq _ ((t1.tr (gEq.sI h' 45 3 (nI 0))).mono (fun x hx => by simp at hx ⊢; omega))
  | succ r ih =>
    intro i h' hi t
    have tt := t
    obtain ⟨t1, t2, t3⟩ := t
    have hwh := hw.eq t1
    have hin : i < n := by omega
    have ix : h'.1 (cc + 1) (nI (o + i)).toNatClampNeg = ucc (f i) := by rw [nI_clamp (by omega), (t1.1 _ (cn 1 (by decide))).1, hr i hin]
    refine wX6_reckon_22 hwh.1 hwh.2.1 hwh.2.2.1 hcc (bN (nI_pos (by omega)) ⟨vp_in_nI hp (by decide), bN ?_ (bN (nI_ge (b := 1600) (by omega) (by decide)) ⟨vp_in_nI (by omega) (by decide), ?_⟩)⟩)
    · rw [cl, (t1.1 _ (cn 3 (by decide))).1, h3]
      exact nI_ge (by omega) (by omega)
    rw [ix, nI_1, Nat.add_assoc]
    obtain ⟨f1, f2, f3, f4⟩ := hf.1 i hin
    unfold ucc
    by_cases hu : 1000 ≤ f i
    · have f9 : f i ≤ 10999 := by
        rcases f1 with f1 | f1 | f1
        · omega
        · simp at f1; omega
        · exact f1.2
      rw [if_pos hu]
      have ps : psh (f i) := Or.inr hu
      have ed : dpu f (i + 1) = dpu f i + 1 := by
        show (if psh (f i) then _ else _) = _
        rw [if_pos ps]
      rw [ed] at f4
      refine bN (nI_pos (by omega)) (c_push hwh (by omega) t2 ⟨rfl, rfl, ih (i + 1) _ (by omega) ⟨gp2 t1 (by decide) (by decide) _ _ _, ?_, fun j hj => ?_⟩⟩)
      · rw [ed, sI_s]
      · rw [ed] at hj
        rw [sI_ne (by decide)]
        show _ = iI (if psh (f i) then _ else _)
        rw [if_pos ps]
        by_cases e9 : j = dpu f i
        · rw [if_pos e9, if_neg (by omega), e9, sI_s, iI_nat (by omega)]
        · rw [if_neg e9, sI_nb e9]
          exact t3 j (by omega)
    · have u63 : f i < 63 := by
        rcases f1 with f1 | f1 | f1
        · omega
        · simp at f1; omega
        · omega
      rw [if_neg hu, (unc _ u63).1]
      exact bY (unc _ u63).2 (c_tok hw hf hin hV hC tt (by omega) (fun h2' q => ⟨rfl, q.1.2.trans t1.2.symm, ih (i + 1) h2' (by omega) q⟩))
end RK
