section GR3
variable {l : Launch} {G : gG} {d : Nat} {Q : Option Value → gH → Prop} {h h0 h1 h2 : gH} {lk sp : Nat} {t : Nat → Nat} {n s i f q o ob cc u : Nat} {b : Bool} {kn : Nat → Bool} {D e : List Nat}
theorem c_readWordG (hcc : cc = 41 ∨ cc = 61 ∨ cc = 78) (tw : TWf t n) (hkn : ∀ i, i < 40 → kn i = true → i ≤ 27) {B dd : Nat} (hB : 1 ≤ B) (hd : 2 ≤ dd) (ho6 : o ≤ 6) (part : o < 6 → Ctr l G t n kn cc lk sp MX3_readPart dd (o + 1) B (clP t n kn ob (o + 1)) (clF (fun _ => True) t n kn ob (o + 1)))
    (hw : gWf h lk sp (some cc)) (tp : TPc t n h) (k : CTk t n s b h) (kl : knL kn h) (cdd : CDs cc D h) (hDs : D.length ≤ s) (tk : tkk t n s b = 1001) (h32 : wix t n s ≠ 32) (h33 : wix t n s ≠ 33)
    (hy : ∀ h' e s' b', CGs cc h h' → CTk t n s' b' h' → CDs cc (D ++ e) h' → s + e.length ≤ s' → s < s' → WE B e → (∀ u, u ∈ e → alw kn u) → clP t n kn ob o (s, b) (s', b') e → Q (some (.int 1)) h')
    (hn : ∀ h' f q, CGf cc f q h h' → clF (fun _ => True) t n kn ob o (s, b) (f, q) → Q (some (.int 0)) h') : gC l G (dd + 1) MX3_readWord [.ref 4, .int (nI o)] h Q := by
  have n16 := tw.1
  obtain ⟨d9, rfl⟩ : ∃ d9, dd = d9 + 2 := ⟨dd - 2, by omega⟩
  obtain ⟨lt, c1, wd1, wd2, wd3⟩ := k.wd tw tk
  have hg := nx_gt (t := t) lt
  have fail : clF (fun _ => True) t n kn ob o (s, b) (1, s) → gC l G (d9 + 2) MX5_failHere [.ref 1, .int 1] h (rI fun v1 h1 => h1.2.2 = h.2.2 ∧ ((v1 = 0 ∨ v1 = 1) ∧ Q (some (.int v1)) h1)) := fun er => c_failHere (f := 1) hw k.k4 (fun h2 e2 => ⟨_, rfl, e2.1.2, Or.inl rfl, hn h2 1 s e2.gx er⟩)
  refine eX3_readWord hw ?_
  rcases wd2 with w6 | ⟨i, i40, w6⟩
  · rw [w6]
    refine bY (by decide) (fail (fun S C _ _ => Run.wordf tk h32 h33 (fun z => ?_)))
    have := (k.wx tw tk z.2).mpr rfl
    rw [w6] at this
    exact i_nm1 (by have := z.2; omega) this.symm
  · have wi := (k.wx tw tk i40).mp w6
    have kli := kl i i40
    rw [w6, kli]
    refine bN (nI_pos (by omega)) (bN (nI_ge (b := 40) (by omega) (by decide)) ⟨fun z => ?_, fun z => fail (fun S C _ _ => Run.wordf tk h32 h33 (fun y => ?_))⟩)
    · have kt : kn i = true := by cases hh : kn i with
        | true => rfl
        | false => exact absurd hh z
      have i27 := hkn i i40 kt
      have z27 : nI i = 27 ↔ i = 27 := nI_eq (b := 27) (by omega) (by decide)
      rw [z27]
      refine ⟨fun y => ?_, fun y => ?_⟩
      · refine c_put hw hcc cdd (by omega) (by omega) (by omega) (fun h1 e1 c1' => ⟨rfl, e1.2, ?_⟩)
        have e1' := CGs.rf.cde (h := h) hcc e1
        have k1 := k.cde hcc e1
        refine c_move (d := d9 + 1) (hw.eq e1) tw (tp.gx hcc e1'.1) k1 (by omega) (fun h2 e2 k2 => ⟨rfl, e2.1.2, ?_⟩)
        refine hy h2 [i] (nx t n s) (nj t n s) (e1'.tr e2.gx) k2 (c1'.cl hcc e2) (by show s + 1 ≤ nx t n s; omega) (by omega) ((WE.atom (Or.inl (by omega)) (Or.inl (by omega))).mono hB) (fun u hu => ?_) (fun S C ho out r => Run.word tk i40 wi (by omega) (by omega) y kt r)
        have : u = i := by simpa using hu
        subst this
        exact Or.inl ⟨i40, kt⟩
      · subst y
        refine c_openOne hw tw tp k (by omega) ho6 (fun h2 o6 e2 k2 => ⟨_, rfl, e2.1.2, bN (by decide) ?_⟩) (fun h2 o6 e2 => ⟨_, rfl, e2.1.2, bY rfl (c_putF (hw.eq e2.1) hcc (fun h3 e3 => ⟨rfl, e3.2, hn h3 4 s ((CFl.gx e2).cde hcc e3) (fun S C ho _ => Run.off tk wi kt (by omega))⟩))⟩)
        have e2' := e2.gx (cc := cc)
        rw [nI_1]
        refine part o6 h2 D (nx t n s) (nj t n s) _ (hw.eq e2.1) (tp.gx hcc e2'.1) k2 (kl.gx hcc e2'.1) (cdd.cl hcc e2) (by omega) (fun h3 e s3 b3 e3 k3 c3 l3 l4 w3 a3 cl3 => ⟨_, rfl, e3.1.1.2, bN (by decide) ?_⟩) (fun h3 f q e3 er => ⟨_, rfl, e3.1.1.2, bY rfl (c_putF (hw.eq (e2'.fl e3).1.1) hcc (fun h4 e4 => ⟨rfl, e4.2, hn h4 f q ((e2'.fl e3).cde hcc e4) (fun S C ho _ => Run.of tk wi kt (by omega) (er (27 :: S) C (by rw [cnS_cons_mk (Or.inl rfl)]; omega) trivial))⟩))⟩)
        have e3' := e2'.tr e3
        have sn3 := k3.1
        have dl3 : (D ++ e).length = D.length + e.length := List.length_append
        refine c_put (u := 27) (hw.eq e3'.1.1) hcc c3 (by omega) (by decide) (by decide) (fun h4 e4 c4 => ⟨rfl, e4.2, hy h4 (e ++ [27]) s3 b3 (e3'.cde hcc e4) (k3.cde hcc e4) ?_ ?_ (by omega) (w3.una hB (by unfold psh; omega) (Or.inl rfl) (Or.inl (by omega))) (fun u hu => ?_) (fun S C ho out r => Run.of tk wi kt (by omega) (cl3 (27 :: S) C (by rw [cnS_cons_mk (Or.inl rfl)]; omega) out ?_))⟩)
        · rw [← List.append_assoc]; exact c4
        · rw [List.length_append]
          show s + (e.length + 1) ≤ s3
          omega
        · rcases List.mem_append.mp hu with z | z
          · exact a3 u z
          · have : u = 27 := by simpa using z
            subst this
            exact Or.inl ⟨i40, kt⟩
        · have ee : endP (27 :: S) (C ++ e) = endP S (C ++ e ++ [27]) := by
            show (if 27 = 27 then endP S (C ++ e ++ [27]) else _) = _
            rw [if_pos rfl]
          rw [ee, List.append_assoc]
          exact r
    · rw [wi] at y
      rw [z] at y
      exact absurd y.1 (by decide)
theorem c_readPart (hcc : cc = 41 ∨ cc = 61 ∨ cc = 78) (tw : TWf t n) (hkn : ∀ i, i < 40 → kn i = true → i ≤ 27) {B dd : Nat} (hB : 1 ≤ B) (hd : 2 ≤ dd) (ho6 : o ≤ 6) (part : o < 6 → Ctr l G t n kn cc lk sp MX3_readPart dd (o + 1) (B + 1) (clP t n kn ob (o + 1)) (clF (fun _ => True) t n kn ob (o + 1))) (sum : o < 6 → Ctr l G t n kn cc lk sp MX3_readSum dd (o + 1) B (clS t n kn ob (o + 1)) (clF tpM t n kn ob (o + 1))) (sum1 : o < 6 → Ctr l G t n kn cc lk sp MX3_readSum (dd + 1) (o + 1) B (clS t n kn ob (o + 1)) (clF tpM t n kn ob (o + 1))) : Ctr l G t n kn cc lk sp MX3_readPart (dd + 2) o (B + 1) (clP t n kn ob o) (clF (fun _ => True) t n kn ob o) := by
  have n16 := tw.1
  intro h D s b Q hw tp k kl cdd hDs hy hn
  obtain ⟨d9, rfl⟩ : ∃ d9, dd = d9 + 2 := ⟨dd - 2, by omega⟩
  have tk := tkk_lt (t := t) (n := n) (s := s) (b := b) tw.2
  refine eX3_readPart hw ?_
  rw [k.k3, (kI_w tk).2.1, (kI_w tk).1, show (40 : Int32) = nI 40 from rfl, kI_c tk (by decide)]
  refine ⟨fun z => ⟨fun y => ⟨fun x => ?_, fun x => c_failHere (f := 1) hw k.k4 (fun h2 e2 => ⟨_, rfl, e2.1.2, Or.inl rfl, hn h2 1 s e2.gx (fun S C _ _ => Run.else z y x)⟩)⟩, fun y => ?_⟩, fun z => ?_⟩
  · have a32 : h.1 1 6 = 32 ↔ wix t n s = 32 := k.wx tw x (i := 32) (by decide)
    have a33 : h.1 1 6 = 33 ↔ wix t n s = 33 := k.wx tw x (i := 33) (by decide)
    rw [a32, a33]
    have pr : ∀ w, wix t n s = w → (w = 32 ∨ w = 33) → gC l G (d9 + 2 + 1) MX3_readPair [.ref 4, .int (nI o)] h (rI fun v1 h1 => h1.2.2 = h.2.2 ∧ ((v1 = 0 ∨ v1 = 1) ∧ Q (some (.int v1)) h1)) := fun w hx h3 => c_readPair hcc tw hd ho6 sum hw tp k kl cdd hDs x hx h3 (fun h' e s' b' e1 k1 c1 l1 l2 w1 a1 cl => ⟨_, rfl, e1.1.1.2, Or.inr rfl, hy h' e s' b' e1 k1 c1 l1 l2 w1 a1 cl⟩) (fun h' f q e1 er => ⟨_, rfl, e1.1.1.2, Or.inl rfl, hn h' f q e1 er⟩)
    exact ⟨fun w => pr 32 w (Or.inl rfl), fun w => ⟨fun v => c_readWordG hcc tw hkn (by omega) hd ho6 part hw tp k kl cdd hDs x w v (fun h' e s' b' e1 k1 c1 l1 l2 w1 a1 cl => ⟨_, rfl, e1.1.1.2, Or.inr rfl, hy h' e s' b' e1 k1 c1 l1 l2 w1 a1 cl⟩) (fun h' f q e1 er => ⟨_, rfl, e1.1.1.2, Or.inl rfl, hn h' f q e1 er⟩), fun v => pr 33 v (Or.inr rfl)⟩⟩
  · have lt : s < n := ((tkk_c (by decide) (by decide)).mp y).1
    have hg := nx_gt (t := t) lt
    refine c_openOne (d := d9 + 1) hw tw tp k (by omega) ho6 (fun h2 o6 e2 k2 => ⟨_, rfl, e2.1.2, bN (by decide) ?_⟩) (fun h2 o6 e2 => ⟨_, rfl, e2.1.2, bY rfl (hn h2 4 s e2.gx (fun S C ho _ => Run.open1f y (by omega)))⟩)
    have e2' := e2.gx (cc := cc)
    rw [nI_1]
    refine sum1 o6 h2 D (nx t n s) (nj t n s) _ (hw.eq e2.1) (tp.gx hcc e2'.1) k2 (kl.gx hcc e2'.1) (cdd.cl hcc e2) (by omega) (fun h3 e s3 b3 e3 k3 c3 l3 l4 w3 a3 cl3 => ⟨_, rfl, e3.1.1.2, bN (by decide) ?_⟩) (fun h3 f q e3 er => ⟨_, rfl, e3.1.1.2, bY rfl (hn h3 f q (e2'.fl e3) (fun S C ho _ => Run.open1 y (by omega) (er (100 :: S) C (by rw [cnS_cons_mk (Or.inr (Nat.le_refl _))]; omega) (Or.inr ⟨100, S, rfl, Nat.le_refl _⟩))))⟩)
    have e3' := e2'.tr e3
    obtain ⟨no3, e1a, pda, eea, hpa, cla⟩ := cl3
    have go3 : ∀ out, ∀ S C, ob + cnS S = o → Run t n kn ob false (s3, b3) (pda ++ 100 :: S) (C ++ e1a) out → Run t n kn ob true (s, b) S C out := fun out S C ho r => Run.open1 y (by omega) (cla (100 :: S) C (by rw [cnS_cons_mk (Or.inr (Nat.le_refl _))]; omega) (Or.inr ⟨100, S, rfl, Nat.le_refl _⟩) out r)
    refine c_takeSign (d := d9 + 1) (c := 41) (hw.eq e3'.1.1) tw (tp.gx hcc e3'.1) k3 (by decide) (fun p6 h6 q6 e6 k6 => ⟨_, rfl, e6.1.2, bN (by decide) ?_⟩) (fun f q h6 q6 e6 => ⟨_, rfl, e6.1.2, bY rfl (hn h6 f q (e3'.fl e6.gx) (fun S C ho _ => go3 _ S C ho ?_))⟩)
    · obtain ⟨t6, rfl⟩ := sgF_ok q6
      have t6 : tkk t n s3 b3 = 41 := t6
      have lt3 : s3 < n := ((tkk_c (by decide) (by decide)).mp t6).1
      have hg3 := nx_gt (t := t) lt3
      refine hy h6 e (nx t n s3) (nj t n s3) (e3'.tr e6.gx) k6 (c3.cl hcc e6) (by omega) (by omega) (w3.mono (by omega)) a3 (fun S C ho out r => go3 out S C ho (cl_close (Or.inl rfl) hpa t6 ?_))
      rw [show mkC 100 = [] from rfl, List.append_nil, ← eea]
      exact r
    · obtain ⟨t6, ef⟩ := sgF_er q6
      rw [ef]
      exact cl_closef (p := (s3, b3)) (Or.inl rfl) hpa no3 t6
  · have lt : s < n := ((tkk_d.mp ⟨z, tw.2⟩).1).1
    have hg := nx_gt (t := t) lt
    refine c_takeNumber (d := d9 + 1) (lo := 0) (hi := 10000) hw tw tp k (by decide) (by decide) (fun v p' h1 q1 e1 k1 => ⟨_, rfl, e1.1.2, ?_⟩) (fun f q h1 q1 e1 => ⟨_, rfl, e1.1.2, ?_⟩)
    · obtain ⟨-, rfl, -, v9⟩ := numF_ok q1
      have e1' := e1.gx (cc := cc)
      refine c_putU (u := 1000 + v) (hw.eq e1.1) hcc (cdd.cl hcc e1) (by omega) (by rw [ucd_n (by omega), Nat.add_sub_cancel_left]) (fun h2 e2 c2 => ⟨rfl, e2.2, bN (i_nm1 (by omega)) (hy h2 [1000 + v] (nx t n s) (nj t n s) (e1'.cde hcc e2) (k1.cde hcc e2) c2 (by show s + 1 ≤ nx t n s; omega) (by omega) ((WE.atom (Or.inr (by omega)) (Or.inr (Or.inr ⟨by omega, by omega⟩))).mono (by omega)) (fun u hu => ?_) (fun S C ho out r => Run.num q1 r))⟩)
      have : u = 1000 + v := by simpa using hu
      subst this
      exact Or.inr (Or.inr ⟨by omega, by omega⟩)
    · exact c_putAny (hw.eq e1.1) hcc (fun h2 e2 => ⟨rfl, e2.2, bY rfl (hn h2 f q ((CFl.gx e1).cde hcc e2) (fun S C _ _ => Run.numf z q1))⟩)
/-- all of it, by how many may still be opened -/
theorem c_gram (hcc : cc = 41 ∨ cc = 61 ∨ cc = 78) (tw : TWf t n) (hkn : ∀ i, i < 40 → kn i = true → i ≤ 27) : ∀ r o d, o + r = 6 → Ctr l G t n kn cc lk sp MX3_readPart (d + 4 * r + 6) o (3 * r + 2) (clP t n kn ob o) (clF (fun _ => True) t n kn ob o) := by
  intro r
  induction r with
  | zero =>
    intro o d ho
    exact c_readPart (B := 1) (dd := d + 4) hcc tw hkn (by omega) (by omega) (by omega) (fun z => by omega) (fun z => by omega) (fun z => by omega)
  | succ r ih =>
    intro o d ho
    have pt : ∀ d, Ctr l G t n kn cc lk sp MX3_readPart (d + 4 * r + 6) (o + 1) (3 * r + 2) (clP t n kn ob (o + 1)) (clF (fun _ => True) t n kn ob (o + 1)) := fun d => ih (o + 1) d (by omega)
    have sm : ∀ d, Ctr l G t n kn cc lk sp MX3_readSum (d + 4 * r + 8) (o + 1) (3 * r + 4) (clS t n kn ob (o + 1)) (clF tpM t n kn ob (o + 1)) := fun d => c_readSum hcc tw (by omega) (c_readProduct hcc tw (by omega) (pt d))
    have w5 : Ctr l G t n kn cc lk sp MX3_readPart (d + 4 * r + 8) (o + 1) (3 * r + 4 + 1) (clP t n kn ob (o + 1)) (clF (fun _ => True) t n kn ob (o + 1)) := fun h D s b Q hw tp k kl cdd hDs hy hn => by
      have := pt (d + 2) h D s b Q hw tp k kl cdd hDs (fun h' e s' b' e1 k1 c1 l1 l2 w1 a1 cl => hy h' e s' b' e1 k1 c1 l1 l2 (w1.mono (by omega)) a1 cl) hn
      rw [show d + 2 + 4 * r + 6 = d + 4 * r + 8 by omega] at this
      exact this
    have s1 := sm d
    have s2 := sm (d + 1)
    rw [show d + 1 + 4 * r + 8 = d + 4 * r + 8 + 1 by omega] at s2
    have := c_readPart (B := 3 * r + 4) (dd := d + 4 * r + 8) hcc tw hkn (by omega) (by omega) (by omega) (fun _ => w5) (fun _ => s1) (fun _ => s2)
    rw [show d + 4 * r + 8 + 2 = d + 4 * (r + 1) + 6 by omega, show 3 * r + 4 + 1 = 3 * (r + 1) + 2 by omega] at this
    exact this
theorem c_sumG (hcc : cc = 41 ∨ cc = 61 ∨ cc = 78) (tw : TWf t n) (hkn : ∀ i, i < 40 → kn i = true → i ≤ 27) (ho : o ≤ 6) : Ctr l G t n kn cc lk sp MX3_readSum (d + 32) o 22 (clS t n kn ob o) (clF tpM t n kn ob o) := by
  have pt := c_gram (l := l) (G := G) (lk := lk) (sp := sp) (ob := ob) hcc tw hkn (6 - o) o (d + 4 * o) (by omega)
  rw [show d + 4 * o + 4 * (6 - o) + 6 = d + 30 by omega] at pt
  have sm := c_readSum hcc tw (by omega) (c_readProduct hcc tw (by omega) pt)
  exact fun h D s b Q hw tp k kl cdd hDs hy hn => sm h D s b Q hw tp k kl cdd hDs (fun h' e s' b' e1 k1 c1 l1 l2 w1 a1 cl => hy h' e s' b' e1 k1 c1 l1 l2 (w1.mono (by omega)) a1 cl) hn
end GR3
