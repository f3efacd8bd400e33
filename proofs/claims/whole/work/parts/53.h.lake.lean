section CR
variable {l : Launch} {G : gG} {d : Nat} {Q : Option Value → gH → Prop} {h h1 h2 : gH} {lk sp : Nat} {cd : Option Nat} {t : Nat → Nat} {n s i f q c b w : Nat} {u : Bool} {L : qL}
/-- the statement that tells a row -/
theorem c_readRow (hw : gWf h lk sp cd) (hb : b = 30 ∨ b = 67) (tw : TWf t n) (tp : TPc t n h) (k : CTk t n s u h) (hk : tkk t n s u ≠ 1003) (lc : LCp L c b h) (g : qG L.1) (h6 : qR L.1 ≠ 6)
    (hy : ∀ L' p' h', roR t n L (s, u) (.ok (L', p')) → CKs b h h' → CTk t n p'.1 p'.2 h' → LCp L' c b h' → Q (some (.int 1)) h')
    (hn : ∀ f q h', roR t n L (s, u) (.error (f, q)) → CKf b f q h h' → Q (some (.int 0)) h') : gC l G (d + 5) MX7_readRow [.ref 5, .ref b] h Q := by
  have n16 := tw.1
  have C8 : qC L.1 ≤ 8 := by rcases g.1 with z | z <;> omega
  have R6 : qR L.1 < 6 := by rcases g.1 with z | z <;> omega
  have N40 : qN L.1 + qC L.1 ≤ 48 := by
    have : qC L.1 * (qR L.1 + 1) ≤ 8 * 6 := Nat.mul_le_mul C8 R6
    rw [Nat.mul_add, Nat.mul_one] at this
    exact this
  refine eX7_readRow hw hb (fun p e s9 m args below meth cc => c_move (d := d + 3) hw tw tp k hk (fun h1 e1 k1 => ⟨rfl, e1.1.2, ?_⟩))
  have hw1 := hw.eq e1.1
  have tp1 := tp.cl e1
  have tk := tkk_lt (t := t) (n := n) (s := nx t n s) (b := nj t n s) tw.2
  have bad : ∀ h', CKs b h1 h' → h'.1 1 = h1.1 1 → ¬ (tkk t n (nx t n s) (nj t n s) = 1001 ∧ tks t n (nx t n s) - nx t n s = qC L.1 ∧ ∀ i, i < qC L.1 → kdl (t (nx t n s + i)) ≠ 0) → gC l G (d + 4) MX5_failHere [.ref 1, .int 1] h' (rI fun v2 h2 => h2.2.2 = h'.2.2 ∧ ((v2 = 0 ∨ v2 = 1) ∧ Q (some (.int v2)) h2)) := fun h' e9 e1' no =>
    c_failHere (f := 1) (d := d + 3) (hw1.eq e9.1.1) (k1.c1 e1').k4 (fun h2 e2 => ⟨_, rfl, e2.1.2, Or.inl rfl, hn 1 _ h2 (Or.inl ⟨no, rfl⟩) ((e1.ck.tr e9).fl e2.ck)⟩)
  rw [k1.k3, (kI_w tk).1]
  refine ⟨fun z => bad h1 CKs.rf rfl (fun y => z y.1), fun kw => ?_⟩
  obtain ⟨w0, w1, w2, w3, w4⟩ := k1.wd tw kw
  have hg := tks_gt (t := t) w0
  have tl := tks_le (t := t) k1.1
  have lc1 := lc.cl hb e1.1
  rw [k1.k5, k1.k4, lc1.1, pk_sub (by omega), nI_eq (by omega) (by omega)]
  refine ⟨fun wl => ?_, fun z => bad h1 CKs.rf rfl (fun y => z y.2.1)⟩
  have H : ∀ r i h', i + r = qC L.1 → (∀ j, j < i → kdl (t (nx t n s + j)) ≠ 0) → gEq [b + 1] h1 h' → (∀ x, x < qN L.1 → h'.1 (b + 1) x = nI (qkd L.1 x)) → (∀ j, j < i → h'.1 (b + 1) (qN L.1 + j) = nI (kdl (t (nx t n s + j)) - 1)) → gg p l e s9 m args below meth cc G (d + 5) MX7_readRow Q 52 [some (.ref 5), some (.ref b), some (.int (nI i)), none, none, none] [] h' := by
    intro r
    induction r with
    | zero =>
      intro i h' hi gd e2 c1 c2
      have hi : i = qC L.1 := by omega
      have hw2 := hw1.eq e2
      have eb : h'.1 b = h1.1 b := (e2.1 b (by simp)).1
      have eq1 : h'.1 1 = h1.1 1 := (e2.1 1 (by simp; omega)).1
      have e2k : CKs b h1 h' := ⟨⟨e2.mono (fun x hx => by simp at hx ⊢; omega), by rw [eq1]⟩, by rw [eq1], by rw [eq1]⟩
      refine wX7_readRow_52 hw2.1 hw2.2.1 hw2.2.2.1 hb (bY (by rw [eb, lc1.1, hi]; exact nI_le (Nat.le_refl _) (by omega)) ?_)
      rw [eb, lc1.2.1, nI_1]
      have e3k : CKs b h1 (sI h' b 12 (nI (qR L.1 + 1))) := e2k.si hb (by simp)
      refine c_move (d := d + 3) (hw1.eq e3k.1.1) tw (e3k.tp hb tp1) (k1.c1 (by rw [sI_na (by omega)]; exact eq1)) (by omega) (fun h3 e3 k3 => ⟨rfl, e3.1.2, hy (rowA t L.1 (nx t n s), L.2) (nx t n (nx t n s), nj t n (nx t n s)) h3 (Or.inr ⟨⟨kw, wl, fun j hj => gd j (by omega)⟩, rfl⟩) ((e1.ck.tr e3k).tr e3.ck) k3 (LCp.cl hb ?_ e3.1)⟩)
      obtain ⟨a1, a2, a3, a4, a5', a6', a7, a8, a9, a10, a11, a12, a13, a14⟩ := lc1
      have O : ∀ a, a ≠ b → a ≠ b + 1 → (sI h' b 12 (nI (qR L.1 + 1))).1 a = h1.1 a := fun a x1 x2 => by rw [sI_na x1]; exact (e2.1 a (by simpa using x2)).1
      have O2 : ∀ a, a ≠ 12 → (sI h' b 12 (nI (qR L.1 + 1))).1 b a = h1.1 b a := fun a x1 => by rw [sI_nb x1, eb]
      refine ⟨(O2 _ (by decide)).trans a1, sI_s _ _ _ _, (O2 _ (by decide)).trans a3, (O2 _ (by decide)).trans a4, (O2 _ (by decide)).trans a5', (O2 _ (by decide)).trans a6', (O2 _ (by decide)).trans a7, fun x hx => ?_, fun x hx => ?_, fun x hx => ?_, fun x hx => ?_, fun x hx => ?_, ?_, fun x hx => ?_⟩
      · have hx : x < qC L.1 * (qR L.1 + 1) := hx
        rw [Nat.mul_add, Nat.mul_one] at hx
        have hx : x < qN L.1 + qC L.1 := hx
        show _ = nI (if qN L.1 ≤ x then kdl (t (nx t n s + (x - qN L.1))) - 1 else qkd L.1 x)
        rw [sI_ne (by omega)]
        by_cases y : qN L.1 ≤ x
        · rw [if_pos y]
          have := c2 (x - qN L.1) (by omega)
          rw [show qN L.1 + (x - qN L.1) = x by omega] at this
          exact this
        · rw [if_neg y]; exact c1 x (by omega)
      · rw [O _ (by omega) (by omega), O _ (by omega) (by omega), O _ (by omega) (by omega)]; exact a9 x hx
      · rw [O _ (by omega) (by omega), O _ (by omega) (by omega)]; exact a10 x hx
      · rw [O _ (by omega) (by omega)]; exact a11 x hx
      · rw [O _ (by omega) (by omega), O _ (by omega) (by omega)]; exact a12 x hx
      · unfold CDs at a13 ⊢; rw [O _ (by omega) (by omega), O _ (by omega) (by omega)]; exact a13
      · rw [O _ (by omega) (by omega), O _ (by omega) (by omega)]; exact a14 x hx
    | succ r ih =>
      intro i h' hi gd e2 c1 c2
      have hw2 := hw1.eq e2
      have eb : h'.1 b = h1.1 b := (e2.1 b (by simp)).1
      have eq1 : h'.1 1 = h1.1 1 := (e2.1 1 (by simp; omega)).1
      have e2k : CKs b h1 h' := ⟨⟨e2.mono (fun x hx => by simp at hx ⊢; omega), by rw [eq1]⟩, by rw [eq1], by rw [eq1]⟩
      have kb := kdl_b (t (nx t n s + i))
      refine wX7_readRow_52 hw2.1 hw2.2.1 hw2.2.2.1 hb (bN (by rw [eb, lc1.1]; exact nI_ge (by omega) (by omega)) ?_)
      rw [eb, eq1, k1.k4, lc1.1, lc1.2.1, nI_add, nI_clamp (by omega), (e2.1 2 (by simp; omega)).1, tp1.2.1 _ (by omega), pk_mul, nI_add, nI_1]
      have cm : qR L.1 * qC L.1 + i = qN L.1 + i := by rw [Nat.mul_comm]; rfl
      rw [cm, nI_clamp (by omega)]
      refine bN (nI_pos (by omega)) (bN (nI_ge (b := 1600) (by omega) (by decide)) ⟨vp_in_nI (by omega) (by decide), c_kind hw2 (tw.2 _) ⟨_, rfl, rfl, fun z => ?_, fun z => ?_⟩⟩)
      · have k0 : kdl (t (nx t n s + i)) = 0 := (i_eq1 (b := 0) (by omega) (by decide)).mp (z.trans i_m1.symm)
        exact bad h' e2k eq1 (fun y => y.2.2 i (by omega) k0)
      · have k0 : kdl (t (nx t n s + i)) ≠ 0 := fun y => z (by rw [y]; exact i_m1)
        have ek : nI (kdl (t (nx t n s + i))) - 1 = nI (kdl (t (nx t n s + i)) - 1) := by
          obtain ⟨v, hv⟩ : ∃ v, kdl (t (nx t n s + i)) = v + 1 := ⟨kdl (t (nx t n s + i)) - 1, by omega⟩
          rw [hv, i_s1]
          rfl
        rw [ek]
        refine bN (nI_pos (by omega)) (bY (nI_lt (b := 48) (by omega) (by decide)) ⟨vp_in_nI (by omega) (by decide), ih (i + 1) _ (by omega) (fun j hj => ?_) (gE1 (by simp) e2) (fun x hx => ?_) (fun j hj => ?_)⟩)
        · by_cases y : j = i
          · rw [y]; exact k0
          · exact gd j (by omega)
        · rw [sI_nb (by omega)]; exact c1 x hx
        · by_cases y : j = i
          · rw [y, sI_s]
          · rw [sI_nb (by omega)]; exact c2 j (by omega)
  exact H (qC L.1) 0 h1 (by omega) (fun _ z => absurd z (Nat.not_lt_zero _)) (gEq.rf _ _) lc1.2.2.2.2.2.2.2.1 (fun _ z => absurd z (Nat.not_lt_zero _))
end CR
