/-- of the class nothing has changed but its reader, what it reads with, and the lake at b -/
def CKl (b : Nat) (h h' : gH) : Prop := (∀ a, a ≠ 1 → a ≠ 4 → (a < b ∨ b + 14 < a) → h'.1 a = h.1 a ∧ h'.2.1 a = h.2.1 a) ∧ h'.1 1 2 = h.1 1 2
section CV
variable {l : Launch} {G : gG} {d : Nat} {Q : Option Value → gH → Prop} {h h1 h2 : gH} {lk sp : Nat} {cd : Option Nat} {t : Nat → Nat} {n s i f q c b w z : Nat} {u : Bool} {L : qL} {o : lOut}
theorem CKl.tr (a : CKl b h h1) (e : CKl b h1 h2) : CKl b h h2 := ⟨fun k x y w => ⟨(e.1 k x y w).1.trans (a.1 k x y w).1, (e.1 k x y w).2.trans (a.1 k x y w).2⟩, e.2.trans a.2⟩
theorem CK4.kl (a : CK4 b h h1) : CKl b h h1 := ⟨fun k x y w => a.1 k (by simp; omega), a.2⟩
theorem CKl.eq {X : List Nat} (e : gEq X h h1) (hX : ∀ k, k ∈ X → b ≤ k ∧ k ≤ b + 14) (hb : b = 30 ∨ b = 67) : CKl b h h1 := ⟨fun k x y w => e.1 k (fun z => by have := hX k z; omega), by rw [(e.1 1 (fun z => by have := hX 1 z; omega)).1]⟩
theorem CKl.tp (hb : b = 30 ∨ b = 67) (a : CKl b h h1) (tp : TPc t n h) : TPc t n h1 := by
  have e2 := (a.1 2 (by decide) (by decide) (by omega)).1
  have e3 := (a.1 3 (by decide) (by decide) (by omega)).1
  exact ⟨by rw [a.2]; exact tp.1, fun i hi => by rw [e2]; exact tp.2.1 i hi, fun i hi => by rw [e3]; exact tp.2.2 i hi⟩
theorem LkR_0 {k : Nat} {p : Nat × Bool} (h : tkk t n p.1 p.2 = 1000) (hc : c = 0) : LkR t n (k + 1) c L p (.error (1, p.1)) := by
  show (if tkk t n p.1 p.2 = 1000 then _ else _)
  rw [if_pos h, if_pos hc]
theorem LkR_1 {k : Nat} {p : Nat × Bool} (h : tkk t n p.1 p.2 = 1000) (hc : c ≠ 0) : LkR t n (k + 1) c L p (.ok (L, c)) := by
  show (if tkk t n p.1 p.2 = 1000 then _ else _)
  rw [if_pos h, if_neg hc]
theorem LkR_60 {k : Nat} {p : Nat × Bool} (h : tkk t n p.1 p.2 ≠ 1000) (hc : c = 60) : LkR t n (k + 1) c L p (.error (5, p.1)) := by
  show (if tkk t n p.1 p.2 = 1000 then _ else _)
  rw [if_neg h, if_pos hc]
theorem LkR_f {k : Nat} {p : Nat × Bool} {f : Nat × Nat} (h : tkk t n p.1 p.2 ≠ 1000) (hc : c ≠ 60) (r : StR t n (c = 0) L p (.error f)) : LkR t n (k + 1) c L p (.error f) := by
  show (if tkk t n p.1 p.2 = 1000 then _ else _)
  rw [if_neg h, if_neg hc]
  exact ⟨_, r, rfl⟩
theorem LkR_s {k : Nat} {p p' : Nat × Bool} {L' : qL} {f : Nat × Nat} (h : tkk t n p.1 p.2 ≠ 1000) (hc : c ≠ 60) (r : StR t n (c = 0) L p (.ok (L', p'))) (qp : qP L' p'.1) (hg : p.1 < p'.1) (e : sgF t n 59 p' = .error f) : LkR t n (k + 1) c L p (.error f) := by
  show (if tkk t n p.1 p.2 = 1000 then _ else _)
  rw [if_neg h, if_neg hc]
  refine ⟨_, r, qp, hg, ?_⟩
  rw [e]
theorem LkR_g {k : Nat} {p p' p'' : Nat × Bool} {L' : qL} (h : tkk t n p.1 p.2 ≠ 1000) (hc : c ≠ 60) (r : StR t n (c = 0) L p (.ok (L', p'))) (qp : qP L' p'.1) (hg : p.1 < p'.1) (e : sgF t n 59 p' = .ok p'') (m : LkR t n k (c + 1) L' p'' o) : LkR t n (k + 1) c L p o := by
  show (if tkk t n p.1 p.2 = 1000 then _ else _)
  rw [if_neg h, if_neg hc]
  refine ⟨_, r, qp, hg, ?_⟩
  rw [e]
  exact m
theorem qP_z : qP Lz 0 := by
  refine ⟨⟨Or.inl ⟨rfl, rfl⟩, by decide, by decide, by decide, by decide, by decide, fun c hc => absurd hc (Nat.not_lt_zero _), fun c hc => absurd hc (Nat.not_lt_zero _), fun c hc => absurd hc (Nat.not_lt_zero _), fun c k hc => absurd hc (Nat.not_lt_zero _), fun c hc => absurd hc (Nat.not_lt_zero _), fun c hc => absurd hc (Nat.not_lt_zero _), fun c hc => absurd hc (Nat.not_lt_zero _), fun x hx => ?_⟩, fun c hc => absurd hc (Nat.not_lt_zero _), fun i hi => Nat.zero_le _, Nat.le_refl _, fun z hz => ?_⟩
  · have : qsl Lz.1 x = 0 := rfl
    rw [this]
    exact ⟨Nat.zero_le _, ⟨fun i hi => absurd hi (Nat.not_lt_zero _), fun y => absurd y (Nat.not_lt_zero _)⟩, fun _ i hi => absurd hi (Nat.not_lt_zero _)⟩
  · have : qsl Lz.1 z = 0 := rfl
    rw [this]
    exact ⟨Nat.le_refl _, fun i hi => absurd hi (Nat.not_lt_zero _)⟩
/-- a whole text of a lake -/
theorem c_readLake (hw : gWf h lk sp cd) (hb : b = 30 ∨ b = 67) (tw : TWf t n) (tp : TPc t n h)
    (hy : ∀ L c h' cd', LkR t n 61 0 Lz (skp t n 0, false) (.ok (L, c)) → CKl b h h' → h'.1 1 8 = 0 → h'.1 1 9 = -1 → gWf h' lk sp cd' → LCp L c b h' → (∀ x, x < qN L.1 → h'.1 (b + 2) x = nI (qhm L.1 x (qN L.1))) → qP L n → 1 ≤ c → c ≤ 60 → Q (some (.int 1)) h')
    (hn : ∀ f q h' cd', LkR t n 61 0 Lz (skp t n 0, false) (.error (f, q)) → CKl b h h' → h'.1 1 8 = nI f → h'.1 1 9 = nI q → gWf h' lk sp cd' → Q (some (.int 0)) h') : gC l G (d + 35) MX7_readLake [.ref 5, .ref b] h Q := by
  have n16 := tw.1
  refine eX7_readLake hw hb (fun p e s9 m args below meth cc => c_clear (d := d + 32) hw hb (fun h1 e1 lc1 => ⟨rfl, e1.2, ?_⟩))
  have hw1 := hw.eq e1
  have K1 : CKl b h h1 := CKl.eq e1 (fun k hk => by simp at hk; omega) hb
  refine c_rewind (d := d + 32) hw1 tw (K1.tp hb tp) (fun h2 e2 x2 x8 x9 k2 => ⟨rfl, e2.2, ?_⟩)
  have K2 : CKl b h h2 := K1.tr ⟨fun k a1 _ _ => e2.1 k (by simpa using a1), x2⟩
  have body : ∀ c L s u h' cd', c ≤ 60 → gWf h' lk sp cd' → CKl b h h' → h'.1 1 8 = 0 → h'.1 1 9 = -1 → CTk t n s u h' → LCp L c b h' → qP L s → (c = 0 → qR L.1 = 0 ∧ qB L.1 = 0) → ∀ r, (∀ out, LkR t n (r + 1) c L (s, u) out → LkR t n 61 0 Lz (skp t n 0, false) out) →
      (c < 60 → ∀ L' s' u' h'' cd'', gWf h'' lk sp cd'' → CKl b h h'' → h''.1 1 8 = 0 → h''.1 1 9 = -1 → CTk t n s' u' h'' → LCp L' (c + 1) b h'' → qP L' s' → (∀ out, LkR t n r (c + 1) L' (s', u') out → LkR t n 61 0 Lz (skp t n 0, false) out) → gg p l e s9 m args below meth cc G (d + 35) MX7_readLake Q 13 [some (.ref 5), some (.ref b), some (.int (nI (c + 1)))] [] h'') →
      gg p l e s9 m args below meth cc G (d + 35) MX7_readLake Q 13 [some (.ref 5), some (.ref b), some (.int (nI c))] [] h' := by
    intro c L s u h' cd' c60 hw' K' a8 a9 k' lc' qp' h0 r out go
    have sn := k'.1
    have tk := tkk_lt (t := t) (n := n) (s := s) (b := u) tw.2
    have z17 : nI c = 0 ↔ c = 0 := nI_eq (b := 0) (by omega) (by decide)
    have fl : ∀ f, LkR t n (r + 1) c L (s, u) (.error (f, s)) → gC l G (d + 34) MX5_failHere [.ref 1, .int (nI f)] h' (rI fun v2 h2 => h2.2.2 = h'.2.2 ∧ ((v2 = 0 ∨ v2 = 1) ∧ Q (some (.int v2)) h2)) := fun f er =>
      c_failHere (d := d + 33) hw' k'.k4 (fun h3 e3 => ⟨_, rfl, e3.1.2, Or.inl rfl, hn f s h3 cd' (out _ er) (K'.tr ((CFl.ck (b := b) e3).k4).1.kl) e3.2.2.1 e3.2.2.2 (hw'.eq e3.1)⟩)
    refine wX7_readLake_13 hw'.1 hw'.2.1 hw'.2.2.1 hb (bN (nI_nlt (a := 60) c60 (by decide)) ?_)
    rw [k'.k3, (kI_w tk).2.2, lc'.2.2.2.2.2.2.1, z17]
    refine ⟨fun te => ⟨fun c0 => ?_, fun c0 => fl 1 (LkR_0 te c0)⟩, fun te => ?_⟩
    · refine c_measure (d := d + 32) hw' hb lc' qp'.1 (fun h3 e3 hm => ⟨rfl, e3.2, ?_⟩)
      have q1 : h3.1 1 = h'.1 1 := (e3.1 1 (by simp)).1
      exact hy L c h3 cd' (out _ (LkR_1 te c0)) (K'.tr (CKl.eq e3 (fun k hk => by simp at hk; omega) hb)) (by rw [q1]; exact a8) (by rw [q1]; exact a9) (hw'.eq e3) (lc'.eq (fun j hj j2 => (e3.1 _ (by simp; omega)).1)) hm (qp'.mono sn) (by omega) c60
    · have z60 : nI c = 60 ↔ c = 60 := nI_eq (b := 60) (by omega) (by decide)
      rw [z60]
      refine ⟨fun c6 => c_readStatement (d := d) hw' hb tw (K'.tp hb tp) k' lc' qp' c60 h0 (fun L' p' h3 cd3 r3 e3 hw3 k3 lc3 qp3 g3 => ⟨_, rfl, ⟨_, hw3.1⟩, bN (by decide) ?_⟩) (fun f q h3 cd3 r3 e3 hw3 => ⟨_, rfl, ⟨_, hw3.1⟩, bY rfl (hn f q h3 cd3 (out _ (LkR_f te c6 r3)) (K'.tr e3.1.kl) e3.2.1 e3.2.2 hw3)⟩), fun c6 => fl 5 (LkR_60 te c6)⟩
      have K3 := K'.tr e3.1.kl
      refine c_takeSign (d := d + 32) (c := 59) hw3 tw (K3.tp hb tp) k3 (by decide) (fun p'' h4 q4 e4 k4 => ⟨_, rfl, e4.1.2, bN' (by decide) ?_⟩) (fun f q h4 q4 e4 => ⟨_, rfl, e4.1.2, ⟨fun z => absurd rfl z, fun _ => hn f q h4 cd3 (out _ (LkR_s te c6 r3 qp3 g3 q4)) (K3.tr ((CFl.ck (b := b) e4).k4).1.kl) e4.2.2.1 e4.2.2.2 (hw3.eq e4.1)⟩⟩)
      have lc4 := lc3.cl hb e4.1
      rw [nI_1, lc4.2.2.2.2.2.2.1, nI_1]
      have e5 : gEq [b] h4 (sI h4 b 17 (nI (c + 1))) := gEq.sI _ _ _ _
      have q1 : (sI h4 b 17 (nI (c + 1))).1 1 = h4.1 1 := sI_na (by omega)
      have ps : p'.1 ≤ p''.1 := by
        unfold sgF at q4
        split at q4
        · rename_i y
          cases q4
          exact Nat.le_of_lt (nx_gt (tkk_n1 (t := t) (b := p'.2) (fun z => by rw [z] at y; cases y)))
        · cases q4
      refine go (by omega) L' p''.1 p''.2 _ cd3 ((hw3.eq e4.1).eq e5) ((K3.tr ((CLx.ck (b := b) e4).k4).1.kl).tr (CKl.eq e5 (fun k hk => by simp at hk; omega) hb)) ?_ ?_ (k4.c1 q1) ?_ (qp3.mono ps) (fun o r5 => out o (LkR_g te c6 r3 qp3 g3 q4 r5))
      · rw [q1, e4.2.2.1, e3.2.1]; exact a8
      · rw [q1, e4.2.2.2, e3.2.2]; exact a9
      · obtain ⟨a1, a2, a3, a4, a5, a6, a7, a8, a9, a10, a11, a12, a13, a14⟩ := lc4
        refine ⟨(sI_nb (by decide)).trans a1, (sI_nb (by decide)).trans a2, (sI_nb (by decide)).trans a3, (sI_nb (by decide)).trans a4, (sI_nb (by decide)).trans a5, (sI_nb (by decide)).trans a6, sI_s _ _ _ _, ?_, ?_, ?_, ?_, ?_, ?_, ?_⟩
        · intro w hw; rw [sI_na (by omega)]; exact a8 w hw
        · intro w hw; rw [sI_na (by omega), sI_na (by omega), sI_na (by omega)]; exact a9 w hw
        · intro w hw; rw [sI_na (by omega), sI_na (by omega)]; exact a10 w hw
        · intro w hw; rw [sI_na (by omega)]; exact a11 w hw
        · intro w hw; rw [sI_na (by omega), sI_na (by omega)]; exact a12 w hw
        · unfold CDs at a13 ⊢; rw [sI_na (by omega), sI_na (by omega)]; exact a13
        · intro w hw
          rw [sI_na (by omega), sI_na (by omega)]
          exact a14 w hw
  have loop : ∀ r c L s u h' cd', c + r = 60 → 1 ≤ c → gWf h' lk sp cd' → CKl b h h' → h'.1 1 8 = 0 → h'.1 1 9 = -1 → CTk t n s u h' → LCp L c b h' → qP L s → (∀ out, LkR t n (r + 1) c L (s, u) out → LkR t n 61 0 Lz (skp t n 0, false) out) → gg p l e s9 m args below meth cc G (d + 35) MX7_readLake Q 13 [some (.ref 5), some (.ref b), some (.int (nI c))] [] h' := by
    intro r
    induction r with
    | zero =>
      intro c L s u h' cd' hc c1 hw' K' a8 a9 k' lc' qp' out
      exact body c L s u h' cd' (by omega) hw' K' a8 a9 k' lc' qp' (fun z => by omega) 0 out (fun z => by omega)
    | succ r ih =>
      intro c L s u h' cd' hc c1 hw' K' a8 a9 k' lc' qp' out
      exact body c L s u h' cd' (by omega) hw' K' a8 a9 k' lc' qp' (fun z => by omega) (r + 1) out (fun z L' s' u' h'' cd'' b1 b2 b3 b4 b5 b6 b7 b8 => ih (c + 1) L' s' u' h'' cd'' (by omega) (by omega) b1 b2 b3 b4 b5 b6 b7 b8)
  exact body 0 Lz (skp t n 0) false h2 cd (by decide) (hw1.eq e2) K2 x8 x9 k2 (lc1.cl hb e2) (qP_z.mono (Nat.zero_le _)) (fun _ => ⟨rfl, rfl⟩) 60 (fun _ r => r) (fun z L' s' u' h'' cd'' b1 b2 b3 b4 b5 b6 b7 b8 => loop 59 1 L' s' u' h'' cd'' rfl (by decide) b1 b2 b3 b4 b5 b6 b7 b8)
end CV
