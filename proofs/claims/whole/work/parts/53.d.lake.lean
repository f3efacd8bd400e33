section CS
variable {l : Launch} {G : gG} {d : Nat} {Q : Option Value → gH → Prop} {h h1 h2 : gH} {lk sp : Nat} {cd : Option Nat} {t : Nat → Nat} {n s i f q c b w : Nat} {u : Bool} {L : qL}
theorem sI_if {h : gH} {k i a j : Nat} {x : Int32} : (sI h k i x).1 a j = if a = k then (if j = i then x else h.1 a j) else h.1 a j := rfl
theorem numF_b {lo hi v : Nat} {p p' : Nat × Bool} (q : numF t n lo hi p = .ok (v, p')) : lo ≤ v ∧ v < hi ∧ tkk t n p.1 p.2 = 1002 ∧ p' = (nx t n p.1, nj t n p.1) := by
  unfold numF at q
  split at q
  · rename_i y
    split at q
    · split at q
      · rename_i z
        cases q
        exact ⟨z.1, z.2, y, rfl⟩
      · cases q
    · cases q
  · cases q
/-- the statement that tells the columns -/
theorem c_readColumns (hw : gWf h lk sp cd) (hb : b = 30 ∨ b = 67) (tw : TWf t n) (tp : TPc t n h) (k : CTk t n s u h) (hk : tkk t n s u ≠ 1003) (lc : LCp L c b h) (hR : qR L.1 = 0)
    (hy : ∀ a h', numF t n 3 9 (nx t n s, nj t n s) = .ok a → CKs b h h' → CTk t n a.2.1 a.2.2 h' → LCp (fupd L.1 0 0 a.1, L.2) c b h' → Q (some (.int 1)) h')
    (hn : ∀ f q h', numF t n 3 9 (nx t n s, nj t n s) = .error (f, q) → CKf b f q h h' → Q (some (.int 0)) h') : gC l G (d + 3) MX7_readColumns [.ref 5, .ref b] h Q := by
  refine eX7_readColumns hw hb (c_move (d := d + 1) hw tw tp k hk (fun h1 e1 k1 => ⟨rfl, e1.1.2, ?_⟩))
  refine c_takeNumber (lo := 3) (hi := 9) (hw.eq e1.1) tw (tp.cl e1) k1 (by decide) (by decide) (fun v p' h2 q2 e2 k2 => ⟨_, rfl, e2.1.2, bN' (i_nm1 ?_) ?_⟩) (fun f q h2 q2 e2 => ⟨_, rfl, e2.1.2, ⟨fun z => absurd rfl z, fun _ => hn f q h2 q2 (CKs.fl e1.ck e2.ck)⟩⟩)
  · have := (numF_b q2).2.1
    omega
  · have lc2 := (lc.cl hb e1.1).cl hb e2.1
    refine hy (v, p') _ q2 ((e1.ck.tr e2.ck).si hb (by simp)) (k2.c1 (sI_na (by omega))) ?_
    obtain ⟨a1, a2, a3, a4, a5, a6, a7, a8, a9, a10, a11, a12, a13, a14⟩ := lc2
    have n0 : qN (fupd L.1 0 0 v) = 0 := by
      show v * qR L.1 = 0
      rw [hR, Nat.mul_zero]
    refine ⟨sI_s _ _ _ _, (sI_nb (by decide)).trans a2, (sI_nb (by decide)).trans a3, (sI_nb (by decide)).trans a4, (sI_nb (by decide)).trans a5, (sI_nb (by decide)).trans a6, (sI_nb (by decide)).trans a7, fun x hx => ?_, ?_, ?_, ?_, ?_, ?_, ?_⟩
    · have hx : x < qN (fupd L.1 0 0 v) := hx
      omega
    · intro w hw; rw [sI_na (by omega), sI_na (by omega), sI_na (by omega)]; exact a9 w hw
    · intro w hw; rw [sI_na (by omega), sI_na (by omega)]; exact a10 w hw
    · intro w hw; rw [sI_na (by omega)]; exact a11 w hw
    · intro w hw; rw [sI_na (by omega), sI_na (by omega)]; exact a12 w hw
    · unfold CDs at a13 ⊢; rw [sI_na (by omega), sI_na (by omega)]; exact a13
    · intro w hw
      rw [sI_na (by omega), sI_na (by omega)]
      exact a14 w hw
/-- the statement that tells the cost of coaxing -/
theorem c_readCoax (hw : gWf h lk sp cd) (hb : b = 30 ∨ b = 67) (tw : TWf t n) (tp : TPc t n h) (k : CTk t n s u h) (hk : tkk t n s u ≠ 1003) (lc : LCp L c b h)
    (hy : ∀ a h', numF t n 1 100 (nx t n s, nj t n s) = .ok a → CKs b h h' → CTk t n a.2.1 a.2.2 h' → LCp (fupd L.1 0 5 a.1, L.2) c b h' → Q (some (.int 1)) h')
    (hn : ∀ f q h', numF t n 1 100 (nx t n s, nj t n s) = .error (f, q) → CKf b f q h h' → Q (some (.int 0)) h') : gC l G (d + 3) MX7_readCoax [.ref 5, .ref b] h Q := by
  refine eX7_readCoax hw hb (c_move (d := d + 1) hw tw tp k hk (fun h1 e1 k1 => ⟨rfl, e1.1.2, ?_⟩))
  refine c_takeNumber (lo := 1) (hi := 100) (hw.eq e1.1) tw (tp.cl e1) k1 (by decide) (by decide) (fun v p' h2 q2 e2 k2 => ⟨_, rfl, e2.1.2, bN' (i_nm1 ?_) ?_⟩) (fun f q h2 q2 e2 => ⟨_, rfl, e2.1.2, ⟨fun z => absurd rfl z, fun _ => hn f q h2 q2 (CKs.fl e1.ck e2.ck)⟩⟩)
  · have := (numF_b q2).2.1
    omega
  · have lc2 := (lc.cl hb e1.1).cl hb e2.1
    refine hy (v, p') _ q2 ((e1.ck.tr e2.ck).si hb (by simp)) (k2.c1 (sI_na (by omega))) ?_
    obtain ⟨a1, a2, a3, a4, a5, a6, a7, a8, a9, a10, a11, a12, a13, a14⟩ := lc2
    refine ⟨(sI_nb (by decide)).trans a1, (sI_nb (by decide)).trans a2, (sI_nb (by decide)).trans a3, (sI_nb (by decide)).trans a4, (sI_nb (by decide)).trans a5, sI_s _ _ _ _, (sI_nb (by decide)).trans a7, ?_, ?_, ?_, ?_, ?_, ?_, ?_⟩
    · intro w hw; rw [sI_na (by omega)]; exact a8 w hw
    · intro w hw; rw [sI_na (by omega), sI_na (by omega), sI_na (by omega)]; exact a9 w hw
    · intro w hw; rw [sI_na (by omega), sI_na (by omega)]; exact a10 w hw
    · intro w hw; rw [sI_na (by omega)]; exact a11 w hw
    · intro w hw; rw [sI_na (by omega), sI_na (by omega)]; exact a12 w hw
    · unfold CDs at a13 ⊢; rw [sI_na (by omega), sI_na (by omega)]; exact a13
    · intro w hw
      rw [sI_na (by omega), sI_na (by omega)]
      exact a14 w hw
end CS
