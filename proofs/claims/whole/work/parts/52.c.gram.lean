section GR2
variable {l : Launch} {G : gG} {d : Nat} {Q : Option Value → gH → Prop} {h h0 h1 h2 : gH} {lk sp : Nat} {t : Nat → Nat} {n s i f q o ob cc u : Nat} {b : Bool} {kn : Nat → Bool} {D e : List Nat}
theorem numF_ok {lo hi v : Nat} {p p' : Nat × Bool} (h : numF t n lo hi p = .ok (v, p')) : tkk t n p.1 p.2 = 1002 ∧ p' = (nx t n p.1, nj t n p.1) ∧ lo ≤ v ∧ v < hi := by
  unfold numF at h
  split at h
  · rename_i a
    split at h
    · split at h
      · rename_i c
        have h := Except.ok.inj h
        have h1 : nvl t p.1 (tks t n p.1 - p.1) = v := congrArg Prod.fst h
        have h2 : (nx t n p.1, nj t n p.1) = p' := congrArg Prod.snd h
        rw [h1] at c
        exact ⟨a, h2.symm, c⟩
      · cases h
    · cases h
  · cases h
theorem sgF_ok {c : Nat} {p p' : Nat × Bool} (h : sgF t n c p = .ok p') : tkk t n p.1 p.2 = c ∧ p' = (nx t n p.1, nj t n p.1) := by
  unfold sgF at h
  split at h
  · exact ⟨by assumption, (Except.ok.inj h).symm⟩
  · cases h
theorem sgF_er {c : Nat} {p : Nat × Bool} {f : Nat × Nat} (h : sgF t n c p = .error f) : tkk t n p.1 p.2 ≠ c ∧ f = (1, p.1) := by
  unfold sgF at h
  split at h
  · cases h
  · exact ⟨by assumption, (Except.error.inj h).symm⟩
theorem c_readSum (hcc : cc = 41 ∨ cc = 61 ∨ cc = 78) (tw : TWf t n) {B dd : Nat} (hd : 2 ≤ dd) (part : Ctr l G t n kn cc lk sp MX3_readProduct dd o B (clT t n kn ob o) (clF tpS t n kn ob o)) : Ctr l G t n kn cc lk sp MX3_readSum (dd + 1) o (B + 1) (clS t n kn ob o) (clF tpM t n kn ob o) := by
  have n16 := tw.1
  intro h D s b Q hw tp k kl cdd hDs hy hn
  refine eX3_readSum hw (fun p9 e9 s9 m9 args9 below9 meth9 cc9 => ?_)
  have L : ∀ r x3 h' e s' b', n - s' ≤ r → CGs cc h h' → CTk t n s' b' h' → CDs cc (D ++ e) h' → s + e.length ≤ s' → s < s' → x3 ≤ s' → WE (B + 1) e → (∀ u, u ∈ e → alw kn u) → tkk t n s' b' ≠ 42 → tkk t n s' b' ≠ 47 → (∃ e1 pd, e = e1 ++ pd ∧ pdA pd ∧ ∀ S C, ob + cnS S = o → tpM S → ∀ out, Run t n kn ob false (s', b') (pd ++ S) (C ++ e1) out → Run t n kn ob true (s, b) S C out) → gg p9 l e9 s9 m9 args9 below9 meth9 cc9 G (dd + 1) MX3_readSum Q 8 [some (.ref 4), some (.int (nI o)), some (.int 1), some (.int (nI x3)), none] [] h' := by
    intro r
    induction r with
    | zero =>
      intro x3 h' e s' b' hr e1 k1 c1 l1 l2 l3 w1 a1 t1 t2 cl
      have hwh := hw.eq e1.1.1
      have te : tkk t n s' b' = 1000 := by unfold tkk; rw [if_pos (by omega)]
      have fin : ((1 : Int32) = 0 ∨ (1 : Int32) = 1) ∧ Q (some (.int 1)) h' := ⟨Or.inr rfl, hy h' e s' b' e1 k1 c1 l1 l2 w1 a1 ⟨⟨t1, t2, by show tkk t n s' b' ≠ 43; omega, by show tkk t n s' b' ≠ 45; omega⟩, cl⟩⟩
      refine wX3_readSum_8 hwh.1 hwh.2.1 hwh.2.2.1 ⟨fun _ => fin, fun _ => bN (by decide) ?_⟩
      rw [k1.k3, te]
      exact bN (by decide) (bN' (by decide) fin)
    | succ r ih =>
      intro x3 h' e s' b' hr e1 k1 c1 l1 l2 l3 w1 a1 t1 t2 cl
      have hwh := hw.eq e1.1.1
      have tk := tkk_lt (t := t) (n := n) (s := s') (b := b') tw.2
      have sn := k1.1
      have fin : tkk t n s' b' ≠ 43 → tkk t n s' b' ≠ 45 → ((1 : Int32) = 0 ∨ (1 : Int32) = 1) ∧ Q (some (.int 1)) h' := fun q1 q2 => ⟨Or.inr rfl, hy h' e s' b' e1 k1 c1 l1 l2 w1 a1 ⟨⟨t1, t2, q1, q2⟩, cl⟩⟩
      by_cases op : tkk t n s' b' = 43 ∨ tkk t n s' b' = 45
      · have lt : s' < n := by
          rcases op with z | z
          · exact ((tkk_c (by decide) (by decide)).mp z).1
          · exact ((tkk_c (by decide) (by decide)).mp z).1
        have go : ∀ c, tkk t n s' b' = c → (c = 43 ∨ c = 45) → gC l G dd MX5_move [.ref 1] h' (rV fun h1 => h1.2.2 = h'.2.2 ∧ gC l G dd MX3_readProduct [.ref 4, .int (nI o)] h1 (rI fun v2 h2 => h2.2.2 = h1.2.2 ∧ gC l G dd MX3_put [.ref 4, .int (nI c)] h2 (rV fun h3 => h3.2.2 = h2.2.2 ∧ gg p9 l e9 s9 m9 args9 below9 meth9 cc9 G (dd + 1) MX3_readSum Q 8 [some (.ref 4), some (.int (nI o)), some (.int v2), some (.int (nI x3 + 1)), none] [] h3))) := fun c hc c42 => by
          obtain ⟨d9, rfl⟩ : ∃ d9, dd = d9 + 2 := ⟨dd - 2, by omega⟩
          have hg := nx_gt (t := t) lt
          refine c_move (d := d9 + 1) hwh tw (tp.gx hcc e1.1) k1 (by omega) (fun h2 e2 k2 => ⟨rfl, e2.1.2, ?_⟩)
          have e3 := e1.tr e2.gx
          have dl : (D ++ e).length = D.length + e.length := List.length_append
          refine part h2 (D ++ e) (nx t n s') (nj t n s') _ (hw.eq e3.1.1) (tp.gx hcc e3.1) k2 (kl.gx hcc e3.1) (c1.cl hcc e2) (by omega) (fun h3 e' s3 b3 e4 k3 c3 l4 l5 w3 a3 cl3 => ⟨_, rfl, e4.1.1.2, ?_⟩) (fun h3 f q e4 er => ⟨_, rfl, e4.1.1.2, ?_⟩)
          · have sn3 := k3.1
            have e5 := e3.tr e4
            have dl3 : (D ++ e ++ e').length = D.length + e.length + e'.length := by rw [List.length_append, dl]
            refine c_put (hw.eq e5.1.1) hcc c3 (by omega) (by omega) (by omega) (fun h4 e6 c4 => ⟨rfl, e6.2, ?_⟩)
            rw [nI_1]
            obtain ⟨⟨t3, t4⟩, ea', pt, ee', hp', cl3⟩ := cl3
            refine ih (x3 + 1) h4 (e ++ e' ++ [c]) s3 b3 (by omega) (e5.cde hcc e6) (k3.cde hcc e6) ?_ ?_ (by omega) (by omega) (w1.bin w3 (by unfold psh; omega) (by unfold una; omega) (by unfold uok; simp; omega)) (fun u hu => ?_) t3 t4 ?_
            · rw [show D ++ (e ++ e' ++ [c]) = D ++ e ++ e' ++ [c] by simp only [List.append_assoc]]
              exact c4
            · rw [List.length_append, List.length_append]
              show s + (e.length + e'.length + 1) ≤ s3
              omega
            · rcases List.mem_append.mp hu with z | z
              · rcases List.mem_append.mp z with z | z
                · exact a1 u z
                · exact a3 u z
              · have : u = c := by simpa using z
                subst this
                exact Or.inr (Or.inl (by simp; omega))
            · obtain ⟨ea, pd, ee, hp, cl⟩ := cl
              refine ⟨e ++ ea', pt ++ [c], by rw [ee']; simp only [List.append_assoc], ⟨pt, [c], hp', by rcases c42 with z | z <;> subst z <;> simp, rfl⟩, fun S C ho ts out r => cl S C ho ts out ?_⟩
              refine Run.plus (by show tkk t n s' b' = 43 ∨ tkk t n s' b' = 45; omega) ?_
              rw [popA_p ts pd _ (pdA_ops hp), show tkk t n (s', b').1 (s', b').2 = c from hc, List.append_assoc, ← ee]
              refine cl3 (c :: S) (C ++ e) (by rw [cnS_cons_op (by omega) (by omega)]; exact ho) (Or.inr ⟨c, S, rfl, by omega, by omega, by omega⟩) out ?_
              rw [List.append_assoc]
              rw [List.append_assoc] at r
              exact r
          · refine c_putF (hw.eq (e3.fl e4).1.1) hcc (fun h4 e6 => ⟨rfl, e6.2, ?_⟩)
            have hw4 := hw.eq ((e3.fl e4).cde hcc e6).1.1
            have err : clF tpM t n kn ob o (s, b) (f, q) := fun S C ho ts => by
              obtain ⟨ea, pd, ee, hp, cl⟩ := cl
              refine cl S C ho ts _ (Run.plus (by show tkk t n s' b' = 43 ∨ tkk t n s' b' = 45; omega) ?_)
              rw [popA_p ts pd _ (pdA_ops hp), show tkk t n (s', b').1 (s', b').2 = c from hc]
              exact er (c :: S) _ (by rw [cnS_cons_op (by omega) (by omega)]; exact ho) (Or.inr ⟨c, S, rfl, by omega, by omega, by omega⟩)
            have fi : ((0 : Int32) = 0 ∨ (0 : Int32) = 1) ∧ Q (some (.int 0)) h4 := ⟨Or.inl rfl, hn h4 f q ((e3.fl e4).cde hcc e6) err⟩
            exact wX3_readSum_8 hw4.1 hw4.2.1 hw4.2.2.1 ⟨fun _ => fi, fun _ => bY rfl fi⟩
        refine wX3_readSum_8 hwh.1 hwh.2.1 hwh.2.2.1 (bN (nI_ge (b := 1600) (by omega) (by decide)) (bN (by decide) ?_))
        rw [k1.k3]
        rcases op with z | z
        · rw [z]
          exact bY rfl (go 43 z (Or.inl rfl))
        · rw [z]
          exact bN (by decide) (bY' rfl (go 45 z (Or.inr rfl)))
      · refine wX3_readSum_8 hwh.1 hwh.2.1 hwh.2.2.1 ⟨fun _ => fin (by omega) (by omega), fun _ => bN (by decide) ?_⟩
        rw [k1.k3, show (43 : Int32) = nI 43 from rfl, show (45 : Int32) = nI 45 from rfl, kI_c tk (by decide), kI_c tk (by decide)]
        exact bN (by omega) (bN' (by omega) (fin (by omega) (by omega)))
  refine part h D s b _ hw tp k kl cdd hDs (fun h1 e s1 b1 e1 k1 c1 l1 l2 w1 a1 cl => ⟨_, rfl, e1.1.1.2, ?_⟩) (fun h1 f q e1 er => ⟨_, rfl, e1.1.1.2, ?_⟩)
  · obtain ⟨⟨t1, t2⟩, ea, pt, ee, hp, cl⟩ := cl
    exact L (n - s1) 0 h1 e s1 b1 (Nat.le_refl _) e1 k1 c1 l1 l2 (Nat.zero_le _) (w1.mono (by omega)) a1 t1 t2 ⟨ea, pt, ee, ⟨pt, [], hp, Or.inl rfl, (List.append_nil _).symm⟩, fun S C ho ts out r => cl S C ho ts.st out r⟩
  · have hw1 := hw.eq e1.1.1
    have fi : ((0 : Int32) = 0 ∨ (0 : Int32) = 1) ∧ Q (some (.int 0)) h1 := ⟨Or.inl rfl, hn h1 f q e1 (fun S C ho ts => er S C ho ts.st)⟩
    exact wX3_readSum_8 hw1.1 hw1.2.1 hw1.2.2.1 ⟨fun _ => fi, fun _ => bY rfl fi⟩
theorem CTk.wx (tw : TWf t n) (k : CTk t n s b h) (hk : tkk t n s b = 1001) (hi : i < 40) : h.1 1 6 = nI i ↔ wix t n s = i := by
  rw [(k.wd tw hk).2.2.1 i hi, wix_iff hi]
/-- behind a sum in marks: it is closed -/
theorem cl_close {m : Nat} {e1 pd S C : List Nat} {p : Nat × Bool} {out : pOut} (hm : m = 100 ∨ m = 103 ∨ m = 104) (hp : pdA pd) (h : tkk t n p.1 p.2 = 41) (r : Run t n kn ob false (nx t n p.1, nj t n p.1) (endP S (C ++ (e1 ++ pd) ++ mkC m)).1 (endP S (C ++ (e1 ++ pd) ++ mkC m)).2 out) : Run t n kn ob false p (pd ++ m :: S) (C ++ e1) out := by
  have tm : tpM (m :: S) := Or.inr ⟨m, S, rfl, by omega⟩
  have e : mkS (pd ++ m :: S) = m := by
    rw [mkS_p pd (pdA_ops hp)]
    show (if 100 ≤ m then m else _) = m
    rw [if_pos (by omega)]
  refine Run.close h (by rw [e]; exact hm) ?_
  rw [popM_p tm pd _ (pdA_ops hp), e]
  rw [← List.append_assoc] at r
  exact r
theorem cl_closef {m : Nat} {pd S C : List Nat} {p : Nat × Bool} (hm : m = 100 ∨ m = 103 ∨ m = 104) (hp : pdA pd) (hn : noOp (tkk t n p.1 p.2)) (h : tkk t n p.1 p.2 ≠ 41) : Run t n kn ob false p (pd ++ m :: S) C (.error (1, p.1)) := by
  have e : mkS (pd ++ m :: S) = m := by
    rw [mkS_p pd (pdA_ops hp)]
    show (if 100 ≤ m then m else _) = m
    rw [if_pos (by omega)]
  exact Run.closef hn h (by rw [e]; exact hm)
theorem c_readPair (hcc : cc = 41 ∨ cc = 61 ∨ cc = 78) (tw : TWf t n) {B dd : Nat} (hd : 2 ≤ dd) (ho6 : o ≤ 6) (sum : o < 6 → Ctr l G t n kn cc lk sp MX3_readSum dd (o + 1) B (clS t n kn ob (o + 1)) (clF tpM t n kn ob (o + 1)))
    {w : Nat} (hw : gWf h lk sp (some cc)) (tp : TPc t n h) (k : CTk t n s b h) (kl : knL kn h) (cdd : CDs cc D h) (hDs : D.length ≤ s) (tk : tkk t n s b = 1001) (hx : wix t n s = w) (hw3 : w = 32 ∨ w = 33)
    (hy : ∀ h' e s' b', CGs cc h h' → CTk t n s' b' h' → CDs cc (D ++ e) h' → s + e.length ≤ s' → s < s' → WE (B + 1) e → (∀ u, u ∈ e → alw kn u) → clP t n kn ob o (s, b) (s', b') e → Q (some (.int 1)) h')
    (hn : ∀ h' f q, CGf cc f q h h' → clF (fun _ => True) t n kn ob o (s, b) (f, q) → Q (some (.int 0)) h') : gC l G (dd + 1) MX3_readPair [.ref 4, .int (nI o)] h Q := by
  have n16 := tw.1
  obtain ⟨d9, rfl⟩ : ∃ d9, dd = d9 + 2 := ⟨dd - 2, by omega⟩
  have w6 : h.1 1 6 = nI w := (k.wx tw tk (by omega)).mpr hx
  have lt := ((tkk_w.mp ⟨tk, tw.2⟩).1).1
  have hg := nx_gt (t := t) lt
  have hx' : wix t n s = 32 ∨ wix t n s = 33 := by omega
  refine eX3_readPair hw (c_move (d := d9 + 1) hw tw tp k (by omega) (fun h1 e1 k1 => ⟨rfl, e1.1.2, ?_⟩))
  have tk1 := tkk_lt (t := t) (n := n) (s := nx t n s) (b := nj t n s) tw.2
  have e1' := e1.gx (cc := cc)
  have hw1 := hw.eq e1.1
  rw [w6, k1.k3, show (40 : Int32) = nI 40 from rfl, kI_c tk1 (by decide)]
  -- a failure, and what is put behind it
  have fl : ∀ h2 f q, CGf cc f q h h2 → clF (fun _ => True) t n kn ob o (s, b) (f, q) → gC l G (d9 + 2) MX3_put [.ref 4, .int (nI w)] h2 (rV fun h3 => h3.2.2 = h2.2.2 ∧ Q (some (.int 0)) h3) := fun h2 f q e2 er => c_putF (hw.eq e2.1.1) hcc (fun h3 e3 => ⟨rfl, e3.2, hn h3 f q (e2.cde hcc e3) er⟩)
  refine ⟨fun z => ?_, fun z => c_failHere (f := 1) hw1 k1.k4 (fun h2 e2 => ⟨_, rfl, e2.1.2, Or.inl rfl, hn h2 1 _ (e1'.fl e2.gx) (fun S C ho _ => Run.pairf tk hx' z)⟩)⟩
  have lt1 : nx t n s < n := ((tkk_c (by decide) (by decide)).mp z).1
  have hg1 := nx_gt (t := t) lt1
  refine c_openOne hw1 tw (tp.gx hcc e1'.1) k1 (by omega) ho6 (fun h2 o6 e2 k2 => ⟨_, rfl, e2.1.2, bN (by decide) ?_⟩) (fun h2 o6 e2 => ⟨_, rfl, e2.1.2, bY rfl ?_⟩)
  · have e2' := e1'.tr (e2.gx (cc := cc))
    have sm := sum o6
    have cm : ∀ (m : Nat) (S : List Nat), 100 ≤ m → ob + cnS S = o → ob + cnS (m :: S) = o + 1 := fun m S hm ho => by rw [cnS_cons_mk (Or.inr hm)]; omega
    have tpm : ∀ (m : Nat) (S : List Nat), 100 ≤ m → tpM (m :: S) := fun m S hm => Or.inr ⟨m, S, rfl, hm⟩
    have mk1 : ∀ (pd S : List Nat), pdA pd → mkS (pd ++ (w + 69) :: S) = w + 69 := fun pd S hp => by
      rw [mkS_p pd (pdA_ops hp)]
      show (if 100 ≤ w + 69 then w + 69 else _) = _
      rw [if_pos (by omega)]
    have mkc : mkC (w + 71) = [w] := by rcases hw3 with q | q <;> subst q <;> rfl
    have o1 : nI o + 1 = nI (o + 1) := nI_1 o
    rw [o1]
    refine sm h2 D _ _ _ (hw.eq e2'.1.1) (tp.gx hcc e2'.1) k2 (kl.gx hcc e2'.1) ((cdd.cl hcc e1).cl hcc e2) (by omega) (fun h3 ea s3 b3 e3 k3 c3 l3 l4 w3 a3 cl3 => ⟨_, rfl, e3.1.1.2, bN (by decide) ?_⟩) (fun h3 f q e3 er => ⟨_, rfl, e3.1.1.2, bY rfl (fl h3 f q (e2'.fl e3) (fun S C ho _ => Run.pair tk hx' z (by omega) ?_))⟩)
    · have e3' := e2'.tr e3
      obtain ⟨no3, e1a, pda, eea, hpa, cla⟩ := cl3
      have dl3 : (D ++ ea).length = D.length + ea.length := List.length_append
      have go3 : ∀ out, ∀ S C, ob + cnS S = o → Run t n kn ob false (s3, b3) (pda ++ (w + 69) :: S) (C ++ e1a) out → Run t n kn ob true (s, b) S C out := fun out S C ho r => Run.pair tk hx' z (by omega) (by
        show Run t n kn ob true (nx t n (nx t n s), nj t n (nx t n s)) ((wix t n s + 69) :: S) C out
        rw [hx]
        exact cla ((w + 69) :: S) C (cm _ _ (by omega) ho) (tpm _ _ (by omega)) out r)
      refine c_takeSign (c := 44) (hw.eq e3'.1.1) tw (tp.gx hcc e3'.1) k3 (by decide) (fun p4 h4 q4 e4 k4 => ⟨_, rfl, e4.1.2, bN (by decide) ?_⟩) (fun f q h4 q4 e4 => ⟨_, rfl, e4.1.2, bY rfl (fl h4 f q (e3'.fl e4.gx) (fun S C ho _ => go3 _ S C ho ?_))⟩)
      · obtain ⟨t4, rfl⟩ := sgF_ok q4
        have t4 : tkk t n s3 b3 = 44 := t4
        have lt3 : s3 < n := ((tkk_c (by decide) (by decide)).mp t4).1
        have hg3 := nx_gt (t := t) lt3
        have e4' := e3'.tr (e4.gx (cc := cc))
        refine sm h4 (D ++ ea) (nx t n s3) (nj t n s3) _ (hw.eq e4'.1.1) (tp.gx hcc e4'.1) k4 (kl.gx hcc e4'.1) (c3.cl hcc e4) (by omega) (fun h5 eb s5 b5 e5 k5 c5 l5 l6 w5 a5 cl5 => ⟨_, rfl, e5.1.1.2, bN (by decide) ?_⟩) (fun h5 f q e5 er => ⟨_, rfl, e5.1.1.2, bY rfl (fl h5 f q (e4'.fl e5) (fun S C ho _ => go3 _ S C ho ?_))⟩)
        · have e5' := e4'.tr e5
          obtain ⟨no5, e1b, pdb, eeb, hpb, clb⟩ := cl5
          have dl5 : (D ++ ea ++ eb).length = D.length + ea.length + eb.length := by rw [List.length_append, dl3]
          have go5 : ∀ out, ∀ S C, ob + cnS S = o → Run t n kn ob false (s5, b5) (pdb ++ (w + 71) :: S) (C ++ ea ++ e1b) out → Run t n kn ob true (s, b) S C out := fun out S C ho r => go3 out S C ho (by
            refine Run.comma t4 (by rw [mk1 pda S hpa]; omega) ?_
            rw [popM_p (tpm _ _ (by omega)) pda _ (pdA_ops hpa), mk1 pda S hpa, List.append_assoc, ← eea]
            exact clb ((w + 71) :: S) (C ++ ea) (cm _ _ (by omega) ho) (tpm _ _ (by omega)) out r)
          have sn5 := k5.1
          refine c_takeSign (c := 41) (hw.eq e5'.1.1) tw (tp.gx hcc e5'.1) k5 (by decide) (fun p6 h6 q6 e6 k6 => ⟨_, rfl, e6.1.2, bN (by decide) ?_⟩) (fun f q h6 q6 e6 => ⟨_, rfl, e6.1.2, bY rfl (fl h6 f q (e5'.fl e6.gx) (fun S C ho _ => go5 _ S C ho ?_))⟩)
          · obtain ⟨t6, rfl⟩ := sgF_ok q6
            have t6 : tkk t n s5 b5 = 41 := t6
            have lt5 : s5 < n := ((tkk_c (by decide) (by decide)).mp t6).1
            have hg5 := nx_gt (t := t) lt5
            have e6' := e5'.tr (e6.gx (cc := cc))
            refine c_put (hw.eq e6'.1.1) hcc (c5.cl hcc e6) (by omega) (by omega) (by omega) (fun h7 e7 c7 => ⟨rfl, e7.2, hy h7 (ea ++ eb ++ [w]) (nx t n s5) (nj t n s5) (e6'.cde hcc e7) (k6.cde hcc e7) ?_ ?_ (by omega) ((w3.mono (by omega)).bin w5 (by unfold psh; omega) (by unfold una; omega) (by unfold uok; simp; omega)) (fun u hu => ?_) (fun S C ho out r => go5 out S C ho ?_)⟩)
            · rw [show D ++ (ea ++ eb ++ [w]) = D ++ ea ++ eb ++ [w] by simp only [List.append_assoc]]
              exact c7
            · rw [List.length_append, List.length_append]
              show s + (ea.length + eb.length + 1) ≤ nx t n s5
              omega
            · rcases List.mem_append.mp hu with z | z
              · rcases List.mem_append.mp z with z | z
                · exact a3 u z
                · exact a5 u z
              · have : u = w := by simpa using z
                subst this
                exact Or.inr (Or.inl (by simp; omega))
            · refine cl_close (by omega) hpb t6 ?_
              rw [mkc, ← eeb, show C ++ ea ++ eb ++ [w] = C ++ (ea ++ eb ++ [w]) by simp only [List.append_assoc]]
              exact r
          · obtain ⟨t6, ef⟩ := sgF_er q6
            rw [ef]
            exact cl_closef (p := (s5, b5)) (by omega) hpb no5 t6
        · refine Run.comma t4 (by rw [mk1 pda S hpa]; omega) ?_
          rw [popM_p (tpm _ _ (by omega)) pda _ (pdA_ops hpa), mk1 pda S hpa]
          exact er ((w + 71) :: S) _ (cm _ _ (by omega) ho) (tpm _ _ (by omega))
      · obtain ⟨t4, ef⟩ := sgF_er q4
        rw [ef]
        exact Run.commaf (p := (s3, b3)) no3 t4 (by rw [mk1 pda S hpa]; omega)
    · show Run t n kn ob true (nx t n (nx t n s), nj t n (nx t n s)) ((wix t n s + 69) :: S) C _
      rw [hx]
      exact er ((w + 69) :: S) C (cm _ _ (by omega) ho) (tpm _ _ (by omega))
  · exact fl h2 4 _ (e1'.fl e2.gx) (fun S C ho _ => Run.pairo tk hx' z (by omega))
end GR2
