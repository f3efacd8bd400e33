/-! what the statements leave keeps -/
theorem getD_al {C e : List Nat} {i : Nat} (hi : i < C.length) : (C ++ e).getD i 0 = C.getD i 0 := by simp [List.getD, List.getElem?_append_left hi]
theorem getD_ar {C e : List Nat} {i : Nat} : (C ++ e).getD (C.length + i) 0 = e.getD i 0 := by simp [List.getD, List.getElem?_append_right (Nat.le_add_right C.length i)]
theorem getD_m : ∀ {e : List Nat} {i : Nat}, i < e.length → e.getD i 0 ∈ e
  | [], _, h => absurd h (Nat.not_lt_zero _)
  | _ :: _, 0, _ => List.mem_cons_self
  | _ :: e, i + 1, h => List.mem_cons_of_mem _ (getD_m (e := e) (i := i) (Nat.lt_of_succ_lt_succ h))
theorem knT_u : ∀ u, u < 40 → knT false u = true → tok (utd u) ∧ 7 ≤ utd u ∧ psh u := by
  intro u hu
  have : ∀ u, u < 40 → knT false u = true → (1 ≤ utd u ∧ utd u ≤ 16) ∧ 7 ≤ utd u ∧ u < 27 := by decide
  intro h
  obtain ⟨a, b, c⟩ := this u hu h
  exact ⟨Or.inl a, b, Or.inl c⟩
theorem knT_tf : ∀ u, u < 40 → knT true u = true → knT false u = true ∧ utd u ≠ 15 ∧ utd u ≠ 16 := by decide
theorem alw_tf {dr : Bool} {u : Nat} (h : alw (knT dr) u) : alw (knT false) u := by
  cases dr with
  | false => exact h
  | true =>
    rcases h with h | h
    · exact Or.inl ⟨h.1, (knT_tf u h.1 h.2).1⟩
    · exact Or.inr h
theorem alw_d {u : Nat} (h : alw (knT true) u) : utd u ≠ 15 ∧ utd u ≠ 16 := by
  rcases h with h | h | h
  · exact (knT_tf u h.1 h.2).2
  · have : ∀ u, u ∈ [32, 33, 42, 43, 45, 47] → utd u ≠ 15 ∧ utd u ≠ 16 := by decide
    exact this u h
  · unfold utd
    rw [if_pos h.1]
    omega
theorem alw_u {u : Nat} (h : alw (knT false) u) : tok (utd u) ∧ (utd u < 7 ↔ ¬ psh u) ∧ ¬ una u := by
  rcases h with h | h | h
  · obtain ⟨a, b, c⟩ := knT_u u h.1 h.2
    refine ⟨a, ⟨fun z => by omega, fun z => absurd c z⟩, fun z => ?_⟩
    have : u < 27 := by rcases c with c | c <;> omega
    rcases z with z | z <;> omega
  · have : ∀ u, u ∈ [32, 33, 42, 43, 45, 47] → (1 ≤ utd u ∧ utd u ≤ 6) ∧ 27 ≤ u ∧ u < 1000 ∧ u ≠ 27 ∧ u ≠ 30 := by decide
    obtain ⟨a, b, c, d, e⟩ := this u h
    exact ⟨Or.inl (by omega), ⟨fun _ z => by rcases z with z | z <;> omega, fun _ => by omega⟩, fun z => by rcases z with z | z <;> omega⟩
  · have e : utd u = u := by unfold utd; rw [if_pos h.1]
    rw [e]
    exact ⟨Or.inr h, ⟨fun z => by omega, fun z => absurd (Or.inr h.1) z⟩, fun z => by rcases z with z | z <;> omega⟩
theorem twl {H : Nat} {f : Nat → Nat} : ∀ (e : List Nat) (m k : Nat), (∀ i, i < e.length → f (k + i) = utd (e.getD i 0)) → dep f k = m → okl H m e → (∀ u, u ∈ e → alw (knT false) u) → (∀ i, i < e.length → tok (f (k + i)) ∧ (f (k + i) < 7 → 2 ≤ dep f (k + i)) ∧ dep f (k + i + 1) ≤ H) ∧ dep f (k + e.length) = dpl m e
  | [], m, k, _, hd, _, _ => ⟨fun i hi => absurd hi (Nat.not_lt_zero _), hd⟩
  | u :: r, m, k, hf, hd, ⟨o1, o2, o3, o4, o5⟩, ha => by
    have f0 : f k = utd u := hf 0 (by simp)
    obtain ⟨x1, x2, x3⟩ := alw_u (ha u List.mem_cons_self)
    have d1 : dep f (k + 1) = ndp m u := by
      show (if f k < 7 then dep f k - 1 else dep f k + 1) = if psh u then m + 1 else if una u then m else m - 1
      rw [f0, hd]
      by_cases y : psh u
      · rw [if_pos y, if_neg (fun z => x2.mp z y)]
      · rw [if_neg y, if_neg x3, if_pos (x2.mpr y)]
    obtain ⟨i1, i2⟩ := twl r (ndp m u) (k + 1) (fun i hi => by
      have := hf (i + 1) (by simp; omega)
      rw [show k + 1 + i = k + (i + 1) by omega, this]
      rfl) d1 o5 (fun v hv => ha v (List.mem_cons_of_mem _ hv))
    refine ⟨fun i hi => ?_, ?_⟩
    · cases i with
      | zero => exact ⟨by rw [Nat.add_zero, f0]; exact x1, fun z => by rw [Nat.add_zero, f0] at z; rw [Nat.add_zero, hd]; exact o3 (x2.mp z) x3, by rw [Nat.add_zero, d1]; exact o4⟩
      | succ i =>
        have := i1 i (by simp at hi; omega)
        rw [show k + 1 + i = k + (i + 1) by omega] at this
        exact this
    · rw [show k + (u :: r).length = k + 1 + r.length by simp; omega]
      exact i2
theorem twf_e {f : Nat → Nat} {e : List Nat} (hf : ∀ i, i < e.length → f i = utd (e.getD i 0)) (he : WE 22 e) (ha : ∀ u, u ∈ e → alw (knT false) u) : twf f e.length := by
  obtain ⟨a1, a2⟩ := twl (f := f) e 0 0 (fun i hi => by rw [Nat.zero_add]; exact hf i hi) rfl (he 0).2 ha
  refine ⟨fun i hi => ?_, fun _ => ?_⟩
  · have := a1 i hi
    rw [Nat.zero_add] at this
    exact ⟨this.1, this.2.1, by omega⟩
  · rw [Nat.zero_add, (he 0).1] at a2
    exact a2
section QS
variable {t : Nat → Nat} {n s s' z w : Nat} {L : qL} {A : qT} {C e : List Nat}
theorem sumA_sl {x : Nat} : qsl (sumA A z C (C ++ e)) x = if x = z then e.length else qsl A x := by
  show fupd (frw A (10 + z) _) 8 z _ 8 x = _
  rw [fupd_r, List.length_append, Nat.add_sub_cancel_left, frw_n (by omega)]
  rfl
theorem sumA_st {x i : Nat} : qst (sumA A z C (C ++ e)) x i = if x = z then utd (e.getD i 0) else qst A x i := by
  show fupd (frw A (10 + z) _) 8 z _ (10 + x) i = _
  rw [fupd_i (by omega)]
  by_cases y : x = z
  · rw [if_pos y, y, frw_s, getD_ar]
  · rw [if_neg y, frw_n (by omega)]; rfl
theorem sumA_o {a x : Nat} (ha : a < 8 ∨ a = 9) : sumA A z C (C ++ e) a x = A a x := (fupd_i (by omega)).trans (frw_n (by omega))
theorem qP.sum (h : qP L s) (hz : z < 3) (hl : s + e.length ≤ s') (hs' : s' ≤ 1600) (he : WE 22 e) (ha : ∀ u, u ∈ e → alw (knT (decide (z = 0))) u) : qP (sumA L.1 z L.2.1 (L.2.1 ++ e), L.2.1 ++ e, fun y => if y = z then L.2.1.length else L.2.2 y) s' := by
  obtain ⟨⟨g1, g2, g3, g4, g5, g6, g7, g8, g9, g10, g11, g12, g13, g14⟩, p2, p3, p4, p5⟩ := h
  have ha' : ∀ u, u ∈ e → alw (knT false) u := fun u hu => alw_tf (ha u hu)
  have G : qG (sumA L.1 z L.2.1 (L.2.1 ++ e)) := by
    refine ⟨?_, ?_, ?_, ?_, ?_, ?_, ?_, ?_, ?_, ?_, ?_, ?_, ?_, fun x hx => ?_⟩
    · unfold qC qR; rw [sumA_o (by omega), sumA_o (by omega)]; exact g1
    · unfold qB; rw [sumA_o (by omega)]; exact g2
    · unfold qH; rw [sumA_o (by omega)]; exact g3
    · unfold qK; rw [sumA_o (by omega)]; exact g4
    · unfold qQ; rw [sumA_o (by omega)]; exact g5
    · unfold qQ; rw [sumA_o (by omega)]; exact g6
    · unfold qN qC qR; intro c; rw [sumA_o (by omega), sumA_o (by omega)]; unfold qkd; rw [sumA_o (by omega)]; exact g7 c
    · unfold qB; intro c; rw [sumA_o (by omega)]; unfold qft; rw [sumA_o (by omega)]; exact g8 c
    · unfold qH; intro c; rw [sumA_o (by omega)]; unfold qsk; rw [sumA_o (by omega)]; exact g9 c
    · unfold qB qH; intro c k; rw [sumA_o (by omega), sumA_o (by omega)]; unfold qlk; rw [sumA_o (by omega)]; exact g10 c k
    · unfold qK; intro c; rw [sumA_o (by omega)]; unfold qsh qsq; rw [sumA_o (by omega), sumA_o (by omega)]; exact g11 c
    · unfold qB; intro c hc; rw [sumA_o (by omega)] at hc; exact nwf_cg (fun j _ => sumA_o (by omega)) (g12 c hc)
    · unfold qH; intro c hc; rw [sumA_o (by omega)] at hc; exact nwf_cg (fun j _ => sumA_o (by omega)) (g13 c hc)
    · show qsl (sumA L.1 z L.2.1 (L.2.1 ++ e)) x ≤ 1600 ∧ twf (qst (sumA L.1 z L.2.1 (L.2.1 ++ e)) x) (qsl (sumA L.1 z L.2.1 (L.2.1 ++ e)) x) ∧ (x = 0 → ∀ i, i < qsl (sumA L.1 z L.2.1 (L.2.1 ++ e)) x → qst (sumA L.1 z L.2.1 (L.2.1 ++ e)) x i ≠ 15 ∧ qst (sumA L.1 z L.2.1 (L.2.1 ++ e)) x i ≠ 16)
      rw [sumA_sl]
      by_cases y : x = z
      · rw [if_pos y]
        have ft : ∀ i, qst (sumA L.1 z L.2.1 (L.2.1 ++ e)) x i = utd (e.getD i 0) := fun i => by rw [sumA_st, if_pos y]
        refine ⟨by omega, twf_e (fun i _ => ft i) he ha', fun x0 i hi => ?_⟩
        rw [ft]
        have := ha _ (getD_m hi)
        rw [decide_eq_true (by omega : z = 0)] at this
        exact alw_d this
      · rw [if_neg y]
        have ft : qst (sumA L.1 z L.2.1 (L.2.1 ++ e)) x = qst L.1 x := funext fun i => by rw [sumA_st, if_neg y]
        rw [ft]
        exact g14 x hx
  refine ⟨G, ?_, ?_, ?_, fun x hx => ?_⟩
  · intro b hb
    have hb : b < qB (sumA L.1 z L.2.1 (L.2.1 ++ e)) := hb
    unfold qB at hb
    rw [sumA_o (by omega)] at hb
    have e9 : qfc (sumA L.1 z L.2.1 (L.2.1 ++ e)) b = qfc L.1 b := sumA_o (by omega)
    have eN : qN (sumA L.1 z L.2.1 (L.2.1 ++ e)) = qN L.1 := by unfold qN qC qR; rw [sumA_o (by omega), sumA_o (by omega)]
    have e1 : ∀ c, qkd (sumA L.1 z L.2.1 (L.2.1 ++ e)) c = qkd L.1 c := fun c => sumA_o (by omega)
    show qfc (sumA L.1 z L.2.1 (L.2.1 ++ e)) b < qN (sumA L.1 z L.2.1 (L.2.1 ++ e)) ∧ qkd (sumA L.1 z L.2.1 (L.2.1 ++ e)) (qfc (sumA L.1 z L.2.1 (L.2.1 ++ e)) b) = 0
    rw [e9, eN, e1]
    exact p2 b hb
  · intro i hi
    show sumA L.1 z L.2.1 (L.2.1 ++ e) 4 i ≤ 99
    rw [sumA_o (by omega)]
    exact p3 i hi
  · show (L.2.1 ++ e).length ≤ s'
    rw [List.length_append]
    omega
  · show (if x = z then L.2.1.length else L.2.2 x) + qsl (sumA L.1 z L.2.1 (L.2.1 ++ e)) x ≤ (L.2.1 ++ e).length ∧ ∀ i, i < qsl (sumA L.1 z L.2.1 (L.2.1 ++ e)) x → qst (sumA L.1 z L.2.1 (L.2.1 ++ e)) x i = utd ((L.2.1 ++ e).getD ((if x = z then L.2.1.length else L.2.2 x) + i) 0) ∧ alw (knT false) ((L.2.1 ++ e).getD ((if x = z then L.2.1.length else L.2.2 x) + i) 0)
    rw [sumA_sl, List.length_append]
    by_cases y : x = z
    · rw [if_pos y, if_pos y]
      refine ⟨by omega, fun i hi => ?_⟩
      rw [sumA_st, if_pos y, getD_ar]
      exact ⟨rfl, ha' _ (getD_m hi)⟩
    · rw [if_neg y, if_neg y]
      obtain ⟨q1, q2⟩ := p5 x hx
      refine ⟨by omega, fun i hi => ?_⟩
      rw [sumA_st, if_neg y, getD_al (by omega)]
      exact q2 i hi
end QS
