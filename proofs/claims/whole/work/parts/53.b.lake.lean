section QP
variable {t : Nat → Nat} {n s s' z w : Nat} {L : qL} {A : qT} {C C' : List Nat}
theorem frw_s {A : qT} {i b : Nat} {g : Nat → Nat} : frw A i g i b = g b := if_pos rfl
theorem frw_n {A : qT} {i a b : Nat} {g : Nat → Nat} (h : a ≠ i) : frw A i g a b = A a b := if_neg h
theorem fupd_r {F : qT} {i j v b : Nat} : fupd F i j v i b = if b = j then v else F i b := by
  by_cases e : b = j
  · rw [if_pos e, e, fupd_s]
  · rw [if_neg e, fupd_j e]
theorem kdl_b (c : Nat) : kdl c ≤ 5 := by
  unfold kdl
  repeat' split
  all_goals omega
/-- the two sums of a table told alike -/
theorem sG_cg {A A' : qT} (h : ∀ a b, 8 ≤ a → a ≠ 9 → A' a b = A a b) (q : ∀ p, p < 3 → qsl A p ≤ 1600 ∧ twf (qst A p) (qsl A p) ∧ (p = 0 → ∀ i, i < qsl A p → qst A p i ≠ 15 ∧ qst A p i ≠ 16)) : ∀ p, p < 3 → qsl A' p ≤ 1600 ∧ twf (qst A' p) (qsl A' p) ∧ (p = 0 → ∀ i, i < qsl A' p → qst A' p i ≠ 15 ∧ qst A' p i ≠ 16) := by
  intro p hp
  have e1 : qsl A' p = qsl A p := h 8 p (by omega) (by omega)
  have e2 : qst A' p = qst A p := funext fun i => h (10 + p) i (by omega) (by omega)
  rw [e1, e2]
  exact q p hp
theorem sP_cg {A A' : qT} {C : List Nat} {o : Nat → Nat} (h : ∀ a b, 8 ≤ a → a ≠ 9 → A' a b = A a b) (q : ∀ z, z < 3 → o z + qsl A z ≤ C.length ∧ ∀ i, i < qsl A z → qst A z i = utd (C.getD (o z + i) 0) ∧ alw (knT false) (C.getD (o z + i) 0)) : ∀ z, z < 3 → o z + qsl A' z ≤ C.length ∧ ∀ i, i < qsl A' z → qst A' z i = utd (C.getD (o z + i) 0) ∧ alw (knT false) (C.getD (o z + i) 0) := by
  intro p hp
  have e1 : qsl A' p = qsl A p := h 8 p (by omega) (by omega)
  have e2 : qst A' p = qst A p := funext fun i => h (10 + p) i (by omega) (by omega)
  rw [e1, e2]
  exact q p hp
theorem qP.mono (h : qP L s) (hs : s ≤ s') : qP L s' := ⟨h.1, h.2.1, h.2.2.1, by have := h.2.2.2.1; omega, h.2.2.2.2⟩
theorem qP.cols {v : Nat} (h : qP L s) (h3 : 3 ≤ v) (h8 : v ≤ 8) (hR : qR L.1 = 0) (hB : qB L.1 = 0) (hs : s ≤ s') : qP (fupd L.1 0 0 v, L.2) s' := by
  obtain ⟨⟨g1, g2, g3, g4, g5, g6, g7, g8, g9, g10, g11, g12, g13, g14⟩, p2, p3, p4, p5⟩ := h
  have n0 : qN (fupd L.1 0 0 v) = 0 := by
    show v * qR L.1 = 0
    rw [hR, Nat.mul_zero]
  refine ⟨⟨Or.inr ⟨h3, h8, by show qR L.1 ≤ 6; omega⟩, g2, g3, g4, g5, g6, fun c hc => ?_, g8, g9, g10, g11, g12, g13, sG_cg (fun a b h1 h2 => fupd_i (by omega)) g14⟩, fun b hb => ?_, p3, by show L.2.1.length ≤ s'; omega, sP_cg (fun a b h1 h2 => fupd_i (by omega)) p5⟩
  · have hc : c < qN (fupd L.1 0 0 v) := hc
    omega
  · have hb : b < qB L.1 := hb
    omega
theorem qP.coin {v : Nat} (h : qP L s) (h1 : 1 ≤ v) (h2 : v ≤ 99) (hs : s ≤ s') : qP (fupd L.1 0 5 v, L.2) s' := by
  obtain ⟨⟨g1, g2, g3, g4, g5, g6, g7, g8, g9, g10, g11, g12, g13, g14⟩, p2, p3, p4, p5⟩ := h
  exact ⟨⟨g1, g2, g3, g4, h1, h2, g7, g8, g9, g10, g11, g12, g13, sG_cg (fun a b h1 h2 => fupd_i (by omega)) g14⟩, p2, p3, by show L.2.1.length ≤ s'; omega, sP_cg (fun a b h1 h2 => fupd_i (by omega)) p5⟩
theorem qP.row (h : qP L s) (hC : 3 ≤ qC L.1) (h6 : qR L.1 ≠ 6) (hk : ∀ i, i < qC L.1 → kdl (t (w + i)) ≠ 0) (hs : s ≤ s') : qP (rowA t L.1 w, L.2) s' := by
  obtain ⟨⟨g1, g2, g3, g4, g5, g6, g7, g8, g9, g10, g11, g12, g13, g14⟩, p2, p3, p4, p5⟩ := h
  have eN : qN (rowA t L.1 w) = qN L.1 + qC L.1 := by
    show qC L.1 * (qR L.1 + 1) = qC L.1 * qR L.1 + qC L.1
    rw [Nat.mul_add, Nat.mul_one]
  have ek : ∀ c, qkd (rowA t L.1 w) c = if qN L.1 ≤ c then kdl (t (w + (c - qN L.1))) - 1 else qkd L.1 c := fun c => rfl
  refine ⟨⟨?_, g2, g3, g4, g5, g6, fun c hc => ?_, g8, g9, g10, g11, g12, g13, sG_cg (fun a b h1 h2 => (fupd_i (by omega)).trans (frw_n (by omega))) g14⟩, fun b hb => ?_, p3, by show L.2.1.length ≤ s'; omega, sP_cg (fun a b h1 h2 => (fupd_i (by omega)).trans (frw_n (by omega))) p5⟩
  · refine Or.inr ⟨hC, ?_, ?_⟩
    · show qC L.1 ≤ 8
      rcases g1 with z | z <;> omega
    · show qR L.1 + 1 ≤ 6
      rcases g1 with z | z <;> omega
  · have hc : c < qN (rowA t L.1 w) := hc
    show qkd (rowA t L.1 w) c ≤ 4
    rw [ek]
    by_cases y : qN L.1 ≤ c
    · rw [if_pos y]
      have := kdl_b (t (w + (c - qN L.1)))
      omega
    · rw [if_neg y]; exact g7 c (by omega)
  · have hb : b < qB L.1 := hb
    obtain ⟨a1, a2⟩ := p2 b hb
    show qfc L.1 b < qN (rowA t L.1 w) ∧ qkd (rowA t L.1 w) (qfc L.1 b) = 0
    rw [ek, if_neg (by omega)]
    exact ⟨by omega, a2⟩
theorem nwf_ltr (tw : TWf t n) {b : Bool} (hk : nmF t n (w, b) = .ok ()) : nwf (ltr t n w) ∧ tks t n w - w ≤ 6 ∧ tkk t n w b = 1001 := by
  unfold nmF at hk
  split at hk
  · rename_i k1
    split at hk
    · rename_i k2
      obtain ⟨h1, h2, -⟩ := (tkk_w.mp ⟨k1, tw.2⟩).1
      have h1 : w < n := h1
      have h2 : cls (t w) = 1 := h2
      have lb := ltr_b h1 h2
      have hg := tks_gt (t := t) h1
      refine ⟨⟨fun j hj => ?_, ?_, fun j hj q => ?_⟩, k2, k1⟩
      · rcases Nat.lt_or_ge (w + j) (tks t n w) with z | z
        · exact ((lb j).1 z).2
        · rw [(lb j).2 z]; omega
      · have := ((lb 0).1 (by omega)).1
        omega
      · rcases Nat.lt_or_ge (w + j) (tks t n w) with z | z
        · have := ((lb j).1 z).1; omega
        · exact (lb (j + 1)).2 (by omega)
    · cases hk
  · cases hk
theorem nmA_nm {z' w' j : Nat} (hw' : w' < 6) (hw : w < 6) (hz : z < 2) (hz' : z' < 2) (hj : j < 6) : qnm (nmA t n A z w s) z' w' j = if z' = z ∧ w' = w then ltr t n s j else qnm A z' w' j := by
  show (if 36 * z + 6 * w ≤ 36 * z' + 6 * w' + j ∧ 36 * z' + 6 * w' + j < 36 * z + 6 * w + 6 then ltr t n s (36 * z' + 6 * w' + j - (36 * z + 6 * w)) else A 7 (36 * z' + 6 * w' + j)) = _
  by_cases e : z' = z ∧ w' = w
  · obtain ⟨e1, e2⟩ := e
    subst e1; subst e2
    rw [if_pos (by omega), if_pos ⟨rfl, rfl⟩]
    congr 1
    omega
  · rw [if_neg (by omega), if_neg e]
    rfl
theorem nwf_cg {f g : Nat → Nat} (h : ∀ j, j < 6 → f j = g j) (q : nwf g) : nwf f := by
  obtain ⟨q1, q2, q3⟩ := q
  refine ⟨fun j hj => by rw [h j hj]; exact q1 j hj, by rw [h 0 (by decide)]; exact q2, fun j hj => by rw [h j (by omega), h (j + 1) (by omega)]; exact q3 j hj⟩
theorem qP.boat {tr c : Nat} (h : qP L s) (h6 : qB L.1 ≠ 6) (hn : nwf (ltr t n w)) (ht : tr ≤ 99) (hc : c < qN L.1) (hk : qkd L.1 c = 0) (hs : s ≤ s') : qP (boatA t n L.1 w tr c, L.2) s' := by
  obtain ⟨⟨g1, g2, g3, g4, g5, g6, g7, g8, g9, g10, g11, g12, g13, g14⟩, p2, p3, p4, p5⟩ := h
  have B6 : qB L.1 < 6 := by omega
  have enm : ∀ z' w' j, w' < 6 → z' < 2 → j < 6 → qnm (boatA t n L.1 w tr c) z' w' j = if z' = 0 ∧ w' = qB L.1 then ltr t n w j else qnm L.1 z' w' j := fun z' w' j a b d => nmA_nm (A := L.1) (t := t) (n := n) (s := w) (z := 0) (w := qB L.1) a B6 (by decide) b d
  have eft : ∀ b, qft (boatA t n L.1 w tr c) b = if b = qB L.1 then tr else qft L.1 b := fun b => by
    show boatA t n L.1 w tr c 2 b = _
    unfold boatA; rw [fupd_i (by decide), fupd_i (by decide), fupd_r]; rfl
  have efc : ∀ b, qfc (boatA t n L.1 w tr c) b = if b = qB L.1 then c else qfc L.1 b := fun b => by
    show boatA t n L.1 w tr c 9 b = _
    unfold boatA; rw [fupd_i (by decide), fupd_r]; rfl
  refine ⟨⟨g1, by show qB L.1 + 1 ≤ 6; omega, g3, g4, g5, g6, g7, fun b hb => ?_, g9, fun b k hb hk => ?_, g11, fun b hb => ?_, fun k hk => ?_, sG_cg (fun a b h1 h2 => (fupd_i (by omega)).trans ((fupd_i (by omega)).trans ((fupd_i (by omega)).trans (frw_n (by omega))))) g14⟩, fun b hb => ?_, p3, by show L.2.1.length ≤ s'; omega, sP_cg (fun a b h1 h2 => (fupd_i (by omega)).trans ((fupd_i (by omega)).trans ((fupd_i (by omega)).trans (frw_n (by omega))))) p5⟩
  · have hb : b < qB L.1 + 1 := hb
    show qft (boatA t n L.1 w tr c) b ≤ 99
    rw [eft]
    split
    · exact ht
    · exact g8 b (by omega)
  · have hb : b < qB L.1 + 1 := hb
    have hk : k < qH L.1 := hk
    exact p3 (6 * b + k) (by omega)
  · have hb : b < qB L.1 + 1 := hb
    by_cases e : b = qB L.1
    · exact nwf_cg (fun j hj => by rw [enm 0 b j (by omega) (by decide) hj, if_pos ⟨rfl, e⟩]) hn
    · exact nwf_cg (fun j hj => by rw [enm 0 b j (by omega) (by decide) hj, if_neg (by omega)]) (g12 b (by omega))
  · have hk : k < qH L.1 := hk
    exact nwf_cg (fun j hj => by rw [enm 1 k j (by omega) (by decide) hj, if_neg (by omega)]) (g13 k hk)
  · have hb : b < qB L.1 + 1 := hb
    show qfc (boatA t n L.1 w tr c) b < qN L.1 ∧ qkd L.1 (qfc (boatA t n L.1 w tr c) b) = 0
    rw [efc]
    by_cases e : b = qB L.1
    · rw [if_pos e]; exact ⟨hc, hk⟩
    · rw [if_neg e]; exact p2 b (by omega)
theorem qP.hand {k : Nat} (h : qP L s) (h6 : qH L.1 ≠ 6) (hn : nwf (ltr t n w)) (hk : k ≤ 9) (hs : s ≤ s') : qP (handA t n L.1 w k, L.2) s' := by
  obtain ⟨⟨g1, g2, g3, g4, g5, g6, g7, g8, g9, g10, g11, g12, g13, g14⟩, p2, p3, p4, p5⟩ := h
  have B6 : qH L.1 < 6 := by omega
  have enm : ∀ z' w' j, w' < 6 → z' < 2 → j < 6 → qnm (handA t n L.1 w k) z' w' j = if z' = 1 ∧ w' = qH L.1 then ltr t n w j else qnm L.1 z' w' j := fun z' w' j a b d => nmA_nm (A := L.1) (t := t) (n := n) (s := w) (z := 1) (w := qH L.1) a B6 (by decide) b d
  have esk : ∀ b, qsk (handA t n L.1 w k) b = if b = qH L.1 then k else qsk L.1 b := fun b => by
    show handA t n L.1 w k 3 b = _
    unfold handA; rw [fupd_i (by decide), fupd_r]; rfl
  refine ⟨⟨g1, g2, by show qH L.1 + 1 ≤ 6; omega, g4, g5, g6, g7, g8, fun b hb => ?_, fun b k hb hk => ?_, g11, fun b hb => ?_, fun k hk => ?_, sG_cg (fun a b h1 h2 => (fupd_i (by omega)).trans ((fupd_i (by omega)).trans (frw_n (by omega)))) g14⟩, p2, p3, by show L.2.1.length ≤ s'; omega, sP_cg (fun a b h1 h2 => (fupd_i (by omega)).trans ((fupd_i (by omega)).trans (frw_n (by omega)))) p5⟩
  · have hb : b < qH L.1 + 1 := hb
    show qsk (handA t n L.1 w k) b ≤ 9
    rw [esk]
    split
    · exact hk
    · exact g9 b (by omega)
  · have hb : b < qB L.1 := hb
    have hk : k < qH L.1 + 1 := hk
    exact p3 (6 * b + k) (by omega)
  · have hb : b < qB L.1 := hb
    exact nwf_cg (fun j hj => by rw [enm 0 b j (by omega) (by decide) hj, if_neg (by omega)]) (g12 b hb)
  · have hk : k < qH L.1 + 1 := hk
    by_cases e : k = qH L.1
    · exact nwf_cg (fun j hj => by rw [enm 1 k j (by omega) (by decide) hj, if_pos ⟨rfl, e⟩]) hn
    · exact nwf_cg (fun j hj => by rw [enm 1 k j (by omega) (by decide) hj, if_neg (by omega)]) (g13 k (by omega))
theorem qP.like {i v : Nat} (h : qP L s) (hi : i < 36) (hv : v ≤ 99) (hs : s ≤ s') : qP (fupd L.1 4 i v, L.2) s' := by
  obtain ⟨⟨g1, g2, g3, g4, g5, g6, g7, g8, g9, g10, g11, g12, g13, g14⟩, p2, p3, p4, p5⟩ := h
  have e4 : ∀ x, fupd L.1 4 i v 4 x = if x = i then v else L.1 4 x := fun x => fupd_r
  have a4 : ∀ x, x < 36 → fupd L.1 4 i v 4 x ≤ 99 := fun x hx => by
    rw [e4]
    split
    · exact hv
    · exact p3 x hx
  refine ⟨⟨g1, g2, g3, g4, g5, g6, g7, g8, g9, fun b k hb hk => ?_, g11, g12, g13, sG_cg (fun a b h1 h2 => fupd_i (by omega)) g14⟩, p2, a4, by show L.2.1.length ≤ s'; omega, sP_cg (fun a b h1 h2 => fupd_i (by omega)) p5⟩
  have hb : b < qB L.1 := hb
  have hk : k < qH L.1 := hk
  exact a4 (6 * b + k) (by omega)
theorem qP.sky {hr k : Nat} (h : qP L s) (h10 : qK L.1 ≠ 10) (hh : hr ≤ 99) (hk : k ≤ 3) (hs : s ≤ s') : qP (skyA L.1 hr k, L.2) s' := by
  obtain ⟨⟨g1, g2, g3, g4, g5, g6, g7, g8, g9, g10, g11, g12, g13, g14⟩, p2, p3, p4, p5⟩ := h
  refine ⟨⟨g1, g2, g3, by show qK L.1 + 1 ≤ 10; omega, g5, g6, g7, g8, g9, g10, fun w hw => ?_, g12, g13, sG_cg (fun a b h1 h2 => (fupd_i (by omega)).trans ((fupd_i (by omega)).trans (fupd_i (by omega)))) g14⟩, p2, p3, by show L.2.1.length ≤ s'; omega, sP_cg (fun a b h1 h2 => (fupd_i (by omega)).trans ((fupd_i (by omega)).trans (fupd_i (by omega)))) p5⟩
  have hw : w < qK L.1 + 1 := hw
  have e5 : qsh (skyA L.1 hr k) w = if w = qK L.1 then hr else qsh L.1 w := by
    show skyA L.1 hr k 5 w = _
    unfold skyA; rw [fupd_i (by decide), fupd_i (by decide), fupd_r]; rfl
  have e6 : qsq (skyA L.1 hr k) w = if w = qK L.1 then k else qsq L.1 w := by
    show skyA L.1 hr k 6 w = _
    unfold skyA; rw [fupd_i (by decide), fupd_r]; rfl
  rw [e5, e6]
  by_cases e : w = qK L.1
  · rw [if_pos e, if_pos e]; exact ⟨hh, hk⟩
  · rw [if_neg e, if_neg e]; exact g11 w (by omega)
end QP
