/-- of the class nothing has changed but its reader, what it reads with, and the lake at b -/
def CK4 (b : Nat) (h h' : gH) : Prop := (∀ a, a ∉ [1, 4, b, b + 1, b + 3, b + 4, b + 5, b + 6, b + 7, b + 8, b + 9, b + 10, b + 11, b + 12, b + 13, b + 14] → h'.1 a = h.1 a ∧ h'.2.1 a = h.2.1 a) ∧ h'.1 1 2 = h.1 1 2
def CK4s (b : Nat) (h h' : gH) : Prop := CK4 b h h' ∧ h'.1 1 8 = h.1 1 8 ∧ h'.1 1 9 = h.1 1 9
def CK4f (b f q : Nat) (h h' : gH) : Prop := CK4 b h h' ∧ h'.1 1 8 = nI f ∧ h'.1 1 9 = nI q
section SG
variable {t : Nat → Nat} {n s s' z w i : Nat} {L L' : qL} {A : qT} {p p' : Nat × Bool}
theorem tkk_n1 {b : Bool} (h : tkk t n s b ≠ 1000) : s < n := Decidable.byContradiction (fun q => h (by unfold tkk; rw [if_pos (by omega)]))
theorem numF_g {lo hi v : Nat} (h : numF t n lo hi p = .ok (v, p')) : p.1 < p'.1 := by
  obtain ⟨_, _, a, b⟩ := numF_b h
  rw [b]
  exact nx_gt (tkk_n1 (t := t) (b := p.2) (by omega))
theorem wdF_g (h : wdF t n i p = .ok p') : p.1 < p'.1 := by
  unfold wdF at h
  split at h
  · rename_i y
    cases h
    exact nx_gt (tkk_n1 (t := t) (b := p.2) (by have := y.1; omega))
  · cases h
theorem nmF_w (h : nmF t n p = .ok ()) : tkk t n p.1 p.2 = 1001 := by
  unfold nmF at h
  split at h
  · rename_i y; exact y
  · cases h
theorem nnF_g (h : nnF t n A p = .ok p') : p.1 < p'.1 ∧ nmF t n p = .ok () := by
  unfold nnF at h
  split at h
  · cases h
  · rename_i y
    split at h
    · cases h
    · cases h
      exact ⟨nx_gt (tkk_n1 (t := t) (b := p.2) (by have := nmF_w y; omega)), y⟩
theorem knR_g {k : Nat} {a : Nat × (Nat × Bool)} (h : knR t n A z k p (.ok a)) : a.1 < k ∧ p.1 < a.2.1 := by
  rcases h with ⟨f, _, h⟩ | ⟨y, ⟨w, hw, _, _, h⟩ | ⟨_, h⟩⟩
  · cases h
  · cases h
    exact ⟨hw, nx_gt (tkk_n1 (t := t) (b := p.2) (by have := nmF_w y; omega))⟩
  · cases h
theorem bdR_i {α : Type} {o : Except (Nat × Nat) α} {R : α → sOut → Prop} {x : qL × (Nat × Bool)} (h : bdR o R (.ok x)) : ∃ a, o = .ok a ∧ R a (.ok x) := by
  cases o with
  | error f => cases h
  | ok a => exact ⟨a, rfl, h⟩
theorem boR_q (tw : TWf t n) (hp : p.1 < nx t n p.1) (r : boR t n L p (.ok (L', p'))) (q : qP L p.1) (h6 : qB L.1 ≠ 6) : qP L' p'.1 ∧ p.1 < p'.1 := by
  obtain ⟨p1, q1, r⟩ := bdR_i r
  obtain ⟨p2, q2, r⟩ := bdR_i r
  obtain ⟨a3, q3, r⟩ := bdR_i r
  obtain ⟨p4, q4, r⟩ := bdR_i r
  obtain ⟨a5, q5, r⟩ := bdR_i r
  obtain ⟨a6, q6, r⟩ := bdR_i r
  have g1 := nnF_g q1
  have g2 := wdF_g q2
  have g3 := numF_g q3
  have g4 := wdF_g q4
  have g5 := numF_g q5
  have g6 := numF_g q6
  rcases r with ⟨_, r⟩ | ⟨kd, r⟩
  · cases r
  · cases r
    have b5 := (numF_b q5).2.1
    have b6 := (numF_b q6).2.1
    have lt : qC L.1 * a6.1 + a5.1 < qN L.1 := by
      have : qC L.1 * (a6.1 + 1) ≤ qC L.1 * qR L.1 := Nat.mul_le_mul_left _ b6
      rw [Nat.mul_add, Nat.mul_one] at this
      show _ < qC L.1 * qR L.1
      omega
    have hl : p.1 < a6.2.1 := by
      have g1' : nx t n p.1 < p1.1 := g1.1
      omega
    exact ⟨q.boat h6 (nwf_ltr (b := nj t n p.1) tw g1.2).1 (by have := (numF_b q3).2.1; omega) lt kd (by omega), hl⟩
theorem haR_q (tw : TWf t n) (hp : p.1 < nx t n p.1) (r : haR t n L p (.ok (L', p'))) (q : qP L p.1) (h6 : qH L.1 ≠ 6) : qP L' p'.1 ∧ p.1 < p'.1 := by
  obtain ⟨p1, q1, r⟩ := bdR_i r
  obtain ⟨p2, q2, r⟩ := bdR_i r
  obtain ⟨a3, q3, r⟩ := bdR_i r
  have g1 := nnF_g q1
  have g2 := wdF_g q2
  have g3 := numF_g q3
  cases r
  have hl : p.1 < a3.2.1 := by
    have g1' : nx t n p.1 < p1.1 := g1.1
    omega
  exact ⟨q.hand h6 (nwf_ltr (b := nj t n p.1) tw g1.2).1 (by have := (numF_b q3).2.1; omega) (by omega), hl⟩
theorem liR_q (hp : p.1 < nx t n p.1) (r : liR t n L p (.ok (L', p'))) (q : qP L p.1) : qP L' p'.1 ∧ p.1 < p'.1 := by
  obtain ⟨o1, q1, r1⟩ := r
  obtain ⟨a1, z1, o2, q2, r2⟩ := bdR_i r1
  rw [z1] at q1
  obtain ⟨a2, z2, r3⟩ := bdR_i r2
  rw [z2] at q2
  obtain ⟨a3, q3, r⟩ := bdR_i r3
  have g1 := knR_g q1
  have g2 := knR_g q2
  have g3 := numF_g q3
  cases r
  have hB := q.1.2.1
  have hH := q.1.2.2.1
  have hl : p.1 < a3.2.1 := by
    have g1' : nx t n p.1 < a1.2.1 := g1.2
    omega
  exact ⟨q.like (by omega) (by have := (numF_b q3).2.1; omega) (by omega), hl⟩
theorem skR_q {k : Nat} (hp : p.1 < nx t n p.1) (r : skR t n L p k (.ok (L', p'))) (q : qP L p.1) (h10 : qK L.1 ≠ 10) (hk : k < 4) : qP L' p'.1 ∧ p.1 < p'.1 := by
  obtain ⟨p1, q1, r⟩ := bdR_i r
  obtain ⟨a2, q2, r⟩ := bdR_i r
  have g1 := wdF_g q1
  have g2 := numF_g q2
  rcases r with ⟨_, r⟩ | ⟨kd, r⟩
  · cases r
  · cases r
    have hl : p.1 < a2.2.1 := by
      have g1' : nx t n p.1 < p1.1 := g1
      omega
    exact ⟨q.sky h10 (by have := (numF_b q2).2.1; omega) (by omega) (by omega), hl⟩
theorem roR_q (tw : TWf t n) (hp : p.1 < nx t n p.1) (r : roR t n L p (.ok (L', p'))) (q : qP L p.1) (h6 : qR L.1 ≠ 6) : qP L' p'.1 ∧ p.1 < p'.1 := by
  rcases r with ⟨_, r⟩ | ⟨⟨k1, k2, k3⟩, r⟩
  · cases r
  · cases r
    have lt := tkk_n1 (t := t) (n := n) (s := nx t n p.1) (b := nj t n p.1) (by omega)
    have g1 := nx_gt (t := t) lt
    have g2 := tks_gt (t := t) lt
    have hC : 3 ≤ qC L.1 := by rcases q.1.1 with y | y <;> omega
    have hl : p.1 < nx t n (nx t n p.1) := by omega
    exact ⟨q.row hC h6 k3 (by show p.1 ≤ nx t n (nx t n p.1); omega), hl⟩
end SG
section CI
variable {l : Launch} {G : gG} {d : Nat} {Q : Option Value → gH → Prop} {h h1 h2 : gH} {lk sp : Nat} {cd : Option Nat} {t : Nat → Nat} {n s i f q c b w z : Nat} {u : Bool} {L : qL}
theorem CKs.k4 (a : CKs b h h1) : CK4s b h h1 := ⟨⟨fun k hk => a.1.1.1 k (fun y => hk (by simp at y ⊢; omega)), a.1.2⟩, a.2⟩
theorem CKf.k4 (a : CKf b f q h h1) : CK4f b f q h h1 := ⟨⟨fun k hk => a.1.1.1 k (fun y => hk (by simp at y ⊢; omega)), a.1.2⟩, a.2⟩
theorem CK4.tr (a : CK4 b h h1) (e : CK4 b h1 h2) : CK4 b h h2 := ⟨fun k hk => ⟨(e.1 k hk).1.trans (a.1 k hk).1, (e.1 k hk).2.trans (a.1 k hk).2⟩, e.2.trans a.2⟩
theorem CK4s.tr (a : CK4s b h h1) (e : CK4s b h1 h2) : CK4s b h h2 := ⟨a.1.tr e.1, e.2.1.trans a.2.1, e.2.2.trans a.2.2⟩
theorem CK4s.fl (a : CK4s b h h1) (e : CK4f b f q h1 h2) : CK4f b f q h h2 := ⟨a.1.tr e.1, e.2.1, e.2.2⟩
theorem CK4s.rf : CK4s b h h := ⟨⟨fun _ _ => ⟨rfl, rfl⟩, rfl⟩, rfl, rfl⟩
theorem CK4s.tp (hb : b = 30 ∨ b = 67) (a : CK4s b h h1) (tp : TPc t n h) : TPc t n h1 := by
  have e2 := (a.1.1 2 (by simp; omega)).1
  have e3 := (a.1.1 3 (by simp; omega)).1
  exact ⟨by rw [a.1.2]; exact tp.1, fun i hi => by rw [e2]; exact tp.2.1 i hi, fun i hi => by rw [e3]; exact tp.2.2 i hi⟩
theorem mkS_l : ∀ a : List Nat, (∀ x, x ∈ a → x = 42 ∨ x = 47 ∨ x = 43 ∨ x = 45) → mkS (a ++ []) = 0
  | [], _ => rfl
  | x :: a, h => by
    have := h x List.mem_cons_self
    show (if 100 ≤ x then x else mkS (a ++ [])) = 0
    rw [if_neg (by omega)]
    exact mkS_l a (fun y hy => h y (List.mem_cons_of_mem _ hy))
def knA (z : Nat) : Int64 := if z = 0 then 8323136 else 16711752
theorem knA_l {h : gH} (e : h.2.1 4 2 = knA z) : knL (knT (decide (z = 0))) h := by
  have a0 : ∀ i, i < 40 → (lg_cmp (((8323136 : Int64) >>> ((nI i).toInt64 &&& 63)) &&& 1) 0 = 0 ↔ knT true i = false) := by decide
  have a1 : ∀ i, i < 40 → (lg_cmp (((16711752 : Int64) >>> ((nI i).toInt64 &&& 63)) &&& 1) 0 = 0 ↔ knT false i = false) := by decide
  intro i hi
  rw [e]
  unfold knA
  by_cases y : z = 0
  · rw [if_pos y, decide_eq_true y]; exact a0 i hi
  · rw [if_neg y, decide_eq_false y]; exact a1 i hi
end CI
