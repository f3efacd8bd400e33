def ucd (u : Nat) : Int32 := if u = 31 then nI 1 else ucc u
def knL (kn : Nat → Bool) (h : gH) : Prop := ∀ i, i < 40 → (lg_cmp ((h.2.1 4 2 >>> ((nI i).toInt64 &&& 63)) &&& 1) 0 = 0 ↔ kn i = false)
def CDs (cc : Nat) (D : List Nat) (h : gH) : Prop := h.1 cc 3 = nI D.length ∧ ∀ i, i < D.length → h.1 (cc + 1) i = ucd (D.getD i 0)
def CGx (cc : Nat) (h h' : gH) : Prop := gEq [1, cc, cc + 1] h h' ∧ h'.1 1 2 = h.1 1 2
def CGs (cc : Nat) (h h' : gH) : Prop := CGx cc h h' ∧ h'.1 1 8 = h.1 1 8 ∧ h'.1 1 9 = h.1 1 9
def CGf (cc f q : Nat) (h h' : gH) : Prop := CGx cc h h' ∧ h'.1 1 8 = nI f ∧ h'.1 1 9 = nI q
def clP (t : Nat → Nat) (n : Nat) (kn : Nat → Bool) (ob o : Nat) (p p' : Nat × Bool) (e : List Nat) : Prop := ∀ S C, ob + cnS S = o → ∀ out, Run t n kn ob false p' (endP S (C ++ e)).1 (endP S (C ++ e)).2 out → Run t n kn ob true p S C out
def clT (t : Nat → Nat) (n : Nat) (kn : Nat → Bool) (ob o : Nat) (p p' : Nat × Bool) (e : List Nat) : Prop := (tkk t n p'.1 p'.2 ≠ 42 ∧ tkk t n p'.1 p'.2 ≠ 47) ∧ ∃ e1 pd, e = e1 ++ pd ∧ pdT pd ∧ ∀ S C, ob + cnS S = o → tpS S → ∀ out, Run t n kn ob false p' (pd ++ S) (C ++ e1) out → Run t n kn ob true p S C out
def clS (t : Nat → Nat) (n : Nat) (kn : Nat → Bool) (ob o : Nat) (p p' : Nat × Bool) (e : List Nat) : Prop := noOp (tkk t n p'.1 p'.2) ∧ ∃ e1 pd, e = e1 ++ pd ∧ pdA pd ∧ ∀ S C, ob + cnS S = o → tpM S → ∀ out, Run t n kn ob false p' (pd ++ S) (C ++ e1) out → Run t n kn ob true p S C out
def clF (tp : List Nat → Prop) (t : Nat → Nat) (n : Nat) (kn : Nat → Bool) (ob o : Nat) (p : Nat × Bool) (f : Nat × Nat) : Prop := ∀ S C, ob + cnS S = o → tp S → Run t n kn ob true p S C (.error f)
/-- what a reading method of the grammar does -/
def Ctr (l : Launch) (G : gG) (t : Nat → Nat) (n : Nat) (kn : Nat → Bool) (cc lk sp : Nat) (M : gM) (dd o B : Nat) (ok : (Nat × Bool) → (Nat × Bool) → List Nat → Prop) (er : (Nat × Bool) → (Nat × Nat) → Prop) : Prop :=
  ∀ (h : gH) (D : List Nat) (s : Nat) (b : Bool) (Q : Option Value → gH → Prop), gWf h lk sp (some cc) → TPc t n h → CTk t n s b h → knL kn h → CDs cc D h → D.length ≤ s →
    (∀ h' e s' b', CGs cc h h' → CTk t n s' b' h' → CDs cc (D ++ e) h' → s + e.length ≤ s' → s < s' → WE B e → (∀ u, u ∈ e → alw kn u) → ok (s, b) (s', b') e → Q (some (.int 1)) h') →
    (∀ h' f q, CGf cc f q h h' → er (s, b) (f, q) → Q (some (.int 0)) h') → gC l G dd M [.ref 4, .int (nI o)] h Q
section GR
variable {l : Launch} {G : gG} {d : Nat} {Q : Option Value → gH → Prop} {h h0 h1 h2 : gH} {lk sp : Nat} {cd : Option Nat} {t : Nat → Nat} {n s i f q o ob cc u : Nat} {b : Bool} {kn : Nat → Bool} {D e : List Nat}
theorem CGx.rf : CGx cc h h := ⟨gEq.rf _ _, rfl⟩
theorem CGs.rf : CGs cc h h := ⟨CGx.rf, rfl, rfl⟩
theorem CGx.tr (a : CGx cc h h1) (b : CGx cc h1 h2) : CGx cc h h2 := ⟨(a.1.tr b.1).mono (fun x hx => by rcases List.mem_append.mp hx with z | z <;> exact z), b.2.trans a.2⟩
theorem CGs.tr (a : CGs cc h h1) (b : CGs cc h1 h2) : CGs cc h h2 := ⟨a.1.tr b.1, b.2.1.trans a.2.1, b.2.2.trans a.2.2⟩
theorem CGs.fl (a : CGs cc h h1) (b : CGf cc f q h1 h2) : CGf cc f q h h2 := ⟨a.1.tr b.1, b.2.1, b.2.2⟩
theorem CLx.gx (a : CLx h h1) : CGs cc h h1 := ⟨⟨a.1.mono (fun x hx => by simp at hx ⊢; exact Or.inl hx), a.2.1⟩, a.2.2.1, a.2.2.2⟩
theorem CFl.gx (a : CFl f q h h1) : CGf cc f q h h1 := ⟨⟨a.1.mono (fun x hx => by simp at hx ⊢; exact Or.inl hx), a.2.1⟩, a.2.2.1, a.2.2.2⟩
theorem TPc.gx (hcc : cc = 41 ∨ cc = 61 ∨ cc = 78) (q : TPc t n h) (e : CGx cc h h1) : TPc t n h1 := by
  have e2 := (e.1.1 2 (by simp; omega)).1
  have e3 := (e.1.1 3 (by simp; omega)).1
  exact ⟨by rw [e.2]; exact q.1, fun i hi => by rw [e2]; exact q.2.1 i hi, fun i hi => by rw [e3]; exact q.2.2 i hi⟩
theorem knL.gx (hcc : cc = 41 ∨ cc = 61 ∨ cc = 78) (q : knL kn h) (e : CGx cc h h1) : knL kn h1 := by
  have e2 := (e.1.1 4 (by simp; omega)).2
  unfold knL at q ⊢
  rw [e2]
  exact q
theorem CDs.cl (hcc : cc = 41 ∨ cc = 61 ∨ cc = 78) (q : CDs cc D h) (e : CLx h h1) : CDs cc D h1 := by
  have e1 := (e.1.1 cc (by simp; omega)).1
  have e2 := (e.1.1 (cc + 1) (by simp; omega)).1
  exact ⟨by rw [e1]; exact q.1, fun i hi => by rw [e2]; exact q.2 i hi⟩
theorem CTk.cde (hcc : cc = 41 ∨ cc = 61 ∨ cc = 78) (k : CTk t n s b h) (e : gEq [cc, cc + 1] h h1) : CTk t n s b h1 := by
  have e1 := (e.1 1 (by simp; omega)).1
  unfold CTk at k ⊢
  rw [e1]
  exact k
theorem endP_h {x : Nat} {S C : List Nat} (hx : x ≠ 27) : endP (x :: S) C = (x :: S, C) := by
  show (if x = 27 then _ else _) = _
  rw [if_neg hx]
theorem ucd_p : ∀ u, u < 63 → u ≠ 31 → nI u ^^^ (-1) = ucd u := by decide
theorem ucd_n (hu : 1000 ≤ u) : ucd u = nI (u - 1000) := by
  unfold ucd ucc
  rw [if_neg (by omega), if_pos hu]
/-- a step is put, whatever stands there -/
theorem c_putAny {x : Int32} (hw : gWf h lk sp (some cc)) (hcc : cc = 41 ∨ cc = 61 ∨ cc = 78) (hq : ∀ h', gEq [cc, cc + 1] h h' → Q none h') : gC l G (d + 1) MX3_putNumber [.ref 4, .int x] h Q := by
  refine eX3_putNumber hw rfl hcc (eX0_add hw hcc ⟨fun _ => ⟨rfl, rfl, hq h (gEq.rf _ _)⟩, fun z => ⟨fun _ => ⟨rfl, rfl, hq h (gEq.rf _ _)⟩, fun y => ?_⟩⟩)
  obtain ⟨j, hj, e⟩ := ix_of 1600 (by decide) z y
  rw [e]
  exact ⟨vp_in_nI hj (by decide), rfl, rfl, hq _ (gE1 (by simp) (gE1 (by simp) (gEq.rf _ _)))⟩
theorem c_putU {x : Int32} (hw : gWf h lk sp (some cc)) (hcc : cc = 41 ∨ cc = 61 ∨ cc = 78) (hd : CDs cc D h) (hl : D.length < 1600) (hx : x = ucd u) (hq : ∀ h', gEq [cc, cc + 1] h h' → CDs cc (D ++ [u]) h' → Q none h') : gC l G (d + 1) MX3_putNumber [.ref 4, .int x] h Q := by
  obtain ⟨d1, d2⟩ := hd
  refine eX3_putNumber hw rfl hcc (eX0_add hw hcc ?_)
  rw [d1]
  refine bN (nI_pos (by omega)) (bN (nI_ge (b := 1600) (by omega) (by decide)) ⟨vp_in_nI (by omega) (by decide), rfl, rfl, hq _ (gE1 (by simp) (gE1 (by simp) (gEq.rf _ _))) ⟨?_, fun i hi => ?_⟩⟩)
  · rw [sI_s, nI_1, List.length_append]; rfl
  · rw [sI_ne (by omega), nI_clamp (by omega)]
    rw [List.length_append] at hi
    have hi : i < D.length + 1 := hi
    by_cases e : i = D.length
    · subst e
      rw [sI_s, hx]
      simp
    · rw [sI_nb e, d2 i (by omega)]
      congr 1
      simp [List.getD, List.getElem?_append_left (show i < D.length by omega)]
theorem c_put (hw : gWf h lk sp (some cc)) (hcc : cc = 41 ∨ cc = 61 ∨ cc = 78) (hd : CDs cc D h) (hl : D.length < 1600) (hu : u < 63) (h31 : u ≠ 31) (hq : ∀ h', gEq [cc, cc + 1] h h' → CDs cc (D ++ [u]) h' → Q none h') : gC l G (d + 2) MX3_put [.ref 4, .int (nI u)] h Q :=
  eX3_put hw (c_putU hw hcc hd hl (ucd_p u hu h31) (fun h' e c => ⟨rfl, e.2, hq h' e c⟩))
theorem c_putF {x : Int32} (hw : gWf h lk sp (some cc)) (hcc : cc = 41 ∨ cc = 61 ∨ cc = 78) (hq : ∀ h', gEq [cc, cc + 1] h h' → Q none h') : gC l G (d + 2) MX3_put [.ref 4, .int x] h Q :=
  eX3_put hw (c_putAny hw hcc (fun h' e => ⟨rfl, e.2, hq h' e⟩))
theorem CGf.cde (hcc : cc = 41 ∨ cc = 61 ∨ cc = 78) (a : CGf cc f q h h1) (e : gEq [cc, cc + 1] h1 h2) : CGf cc f q h h2 := by
  have e1 := (e.1 1 (by simp; omega)).1
  refine ⟨⟨(a.1.1.tr e).mono (fun x hx => by simp at hx ⊢; omega), ?_⟩, ?_, ?_⟩
  · rw [e1]; exact a.1.2
  · rw [e1]; exact a.2.1
  · rw [e1]; exact a.2.2
theorem CGs.cde (hcc : cc = 41 ∨ cc = 61 ∨ cc = 78) (a : CGs cc h h1) (e : gEq [cc, cc + 1] h1 h2) : CGs cc h h2 := by
  have e1 := (e.1 1 (by simp; omega)).1
  refine ⟨⟨(a.1.1.tr e).mono (fun x hx => by simp at hx ⊢; omega), ?_⟩, ?_, ?_⟩
  · rw [e1]; exact a.1.2
  · rw [e1]; exact a.2.1
  · rw [e1]; exact a.2.2
/-- one more is opened -/
theorem c_openOne (hw : gWf h lk sp cd) (tw : TWf t n) (tp : TPc t n h) (k : CTk t n s b h) (hk : tkk t n s b ≠ 1003) (ho : o ≤ 6) (hy : ∀ h', o < 6 → CLx h h' → CTk t n (nx t n s) (nj t n s) h' → Q (some (.int 1)) h') (hn : ∀ h', o = 6 → CFl 4 s h h' → Q (some (.int 0)) h') : gC l G (d + 2) MX3_openOne [.ref 4, .int (nI o)] h Q := by
  refine eX3_openOne hw ?_
  have z6 : nI o < 6 ↔ o < 6 := nI_ltI (b := 6) (by omega) (by decide)
  rw [z6]
  exact ⟨fun z => c_move hw tw tp k hk (fun h' e k1 => ⟨rfl, e.1.2, hy h' z e k1⟩), fun z => c_failHere (f := 4) hw k.k4 (fun h' e => ⟨_, rfl, e.1.2, Or.inl rfl, hn h' (by omega) e⟩)⟩
theorem c_readProduct (hcc : cc = 41 ∨ cc = 61 ∨ cc = 78) (tw : TWf t n) {B dd : Nat} (hd : 2 ≤ dd) (part : Ctr l G t n kn cc lk sp MX3_readPart dd o B (clP t n kn ob o) (clF (fun _ => True) t n kn ob o)) : Ctr l G t n kn cc lk sp MX3_readProduct (dd + 1) o (B + 1) (clT t n kn ob o) (clF tpS t n kn ob o) := by
  have n16 := tw.1
  intro h D s b Q hw tp k kl cdd hDs hy hn
  refine eX3_readProduct hw (fun p9 e9 s9 m9 args9 below9 meth9 cc9 => ?_)
  -- the loop, behind a product that is read
  have L : ∀ r x3 h' e s' b', n - s' ≤ r → CGs cc h h' → CTk t n s' b' h' → CDs cc (D ++ e) h' → s + e.length ≤ s' → s < s' → x3 ≤ s' → WE (B + 1) e → (∀ u, u ∈ e → alw kn u) → (∃ e1 pd, e = e1 ++ pd ∧ pdT pd ∧ ∀ S C, ob + cnS S = o → tpS S → ∀ out, Run t n kn ob false (s', b') (pd ++ S) (C ++ e1) out → Run t n kn ob true (s, b) S C out) → gg p9 l e9 s9 m9 args9 below9 meth9 cc9 G (dd + 1) MX3_readProduct Q 8 [some (.ref 4), some (.int (nI o)), some (.int 1), some (.int (nI x3)), none] [] h' := by
    intro r
    induction r with
    | zero =>
      intro x3 h' e s' b' hr e1 k1 c1 l1 l2 l3 w1 a1 cl
      have hwh := hw.eq e1.1.1
      have tk := tkk_lt (t := t) (n := n) (s := s') (b := b') tw.2
      have te : tkk t n s' b' = 1000 := by unfold tkk; rw [if_pos (by omega)]
      have fin : (1 : Int32) = 0 ∨ (1 : Int32) = 1 → _ := fun _ => hy h' e s' b' e1 k1 c1 l1 l2 w1 a1 ⟨⟨by show tkk t n s' b' ≠ 42; omega, by show tkk t n s' b' ≠ 47; omega⟩, cl⟩
      refine wX3_readProduct_8 hwh.1 hwh.2.1 hwh.2.2.1 ⟨fun _ => ⟨Or.inr rfl, fin (Or.inr rfl)⟩, fun _ => bN (by decide) ?_⟩
      rw [k1.k3, te]
      exact bN (by decide) (bN' (by decide) ⟨Or.inr rfl, fin (Or.inr rfl)⟩)
    | succ r ih =>
      intro x3 h' e s' b' hr e1 k1 c1 l1 l2 l3 w1 a1 cl
      have hwh := hw.eq e1.1.1
      have tk := tkk_lt (t := t) (n := n) (s := s') (b := b') tw.2
      have sn := k1.1
      have fin : tkk t n s' b' ≠ 42 → tkk t n s' b' ≠ 47 → ((1 : Int32) = 0 ∨ (1 : Int32) = 1) ∧ Q (some (.int 1)) h' := fun q1 q2 => ⟨Or.inr rfl, hy h' e s' b' e1 k1 c1 l1 l2 w1 a1 ⟨⟨q1, q2⟩, cl⟩⟩
      by_cases op : tkk t n s' b' = 42 ∨ tkk t n s' b' = 47
      · have lt : s' < n := by
          rcases op with z | z
          · exact ((tkk_c (by decide) (by decide)).mp z).1
          · exact ((tkk_c (by decide) (by decide)).mp z).1
        have go : ∀ c, tkk t n s' b' = c → (c = 42 ∨ c = 47) → gC l G dd MX5_move [.ref 1] h' (rV fun h1 => h1.2.2 = h'.2.2 ∧ gC l G dd MX3_readPart [.ref 4, .int (nI o)] h1 (rI fun v2 h2 => h2.2.2 = h1.2.2 ∧ gC l G dd MX3_put [.ref 4, .int (nI c)] h2 (rV fun h3 => h3.2.2 = h2.2.2 ∧ gg p9 l e9 s9 m9 args9 below9 meth9 cc9 G (dd + 1) MX3_readProduct Q 8 [some (.ref 4), some (.int (nI o)), some (.int v2), some (.int (nI x3 + 1)), none] [] h3))) := fun c hc c42 => by
          obtain ⟨d9, rfl⟩ : ∃ d9, dd = d9 + 2 := ⟨dd - 2, by omega⟩
          have hg := nx_gt (t := t) lt
          refine c_move (d := d9 + 1) hwh tw (tp.gx hcc e1.1) k1 (by omega) (fun h2 e2 k2 => ⟨rfl, e2.1.2, ?_⟩)
          have e3 := e1.tr e2.gx
          have dl : (D ++ e).length = D.length + e.length := List.length_append
          refine part h2 (D ++ e) (nx t n s') (nj t n s') _ (hw.eq e3.1.1) (tp.gx hcc e3.1) k2 (kl.gx hcc e3.1) (c1.cl hcc e2) (by omega) (fun h3 e' s3 b3 e4 k3 c3 l4 l5 w3 a3 cl3 => ⟨_, rfl, e4.1.1.2, ?_⟩) (fun h3 f q e4 er => ⟨_, rfl, e4.1.1.2, ?_⟩)
          · have sn3 := k3.1
            have e5 := e3.tr e4
            have dl3 : (D ++ e ++ e').length = D.length + e.length + e'.length := by rw [List.length_append, dl]
            refine c_put (hw.eq e5.1.1) hcc c3 (by omega) (by omega) (by omega) (fun h4 e6 c4 => ⟨rfl, e6.2, ?_⟩)
            rw [nI_1]
            refine ih (x3 + 1) h4 (e ++ e' ++ [c]) s3 b3 (by omega) (e5.cde hcc e6) (k3.cde hcc e6) ?_ ?_ (by omega) (by omega) (w1.bin w3 (by unfold psh; omega) (by unfold una; omega) (by unfold uok; simp; omega)) (fun u hu => ?_) ?_
            · rw [show D ++ (e ++ e' ++ [c]) = D ++ e ++ e' ++ [c] by simp only [List.append_assoc]]
              exact c4
            · rw [List.length_append, List.length_append]
              show s + (e.length + e'.length + 1) ≤ s3
              omega
            · rcases List.mem_append.mp hu with z | z
              · rcases List.mem_append.mp z with z | z
                · exact a1 u z
                · exact a3 u z
              · have : u = c := by simpa using z
                subst this
                exact Or.inr (Or.inl (by simp; omega))
            · obtain ⟨ea, pd, ee, hp, cl⟩ := cl
              refine ⟨e ++ e', [c], rfl, by rcases c42 with z | z <;> subst z <;> simp [pdT], fun S C ho ts out r => cl S C ho ts out ?_⟩
              refine Run.times (by show tkk t n s' b' = 42 ∨ tkk t n s' b' = 47; omega) ?_
              rw [popT_p ts hp, show tkk t n (s', b').1 (s', b').2 = c from hc, List.append_assoc, ← ee]
              refine cl3 (c :: S) (C ++ e) (by rw [cnS_cons_op (by omega) (by omega)]; exact ho) out ?_
              rw [endP_h (by omega), List.append_assoc]
              exact r
          · refine c_putF (hw.eq (e3.fl e4).1.1) hcc (fun h4 e6 => ⟨rfl, e6.2, ?_⟩)
            have hw4 := hw.eq ((e3.fl e4).cde hcc e6).1.1
            have err : clF tpS t n kn ob o (s, b) (f, q) := fun S C ho ts => by
              obtain ⟨ea, pd, ee, hp, cl⟩ := cl
              refine cl S C ho ts _ (Run.times (by show tkk t n s' b' = 42 ∨ tkk t n s' b' = 47; omega) ?_)
              rw [popT_p ts hp, show tkk t n (s', b').1 (s', b').2 = c from hc]
              exact er (c :: S) _ (by rw [cnS_cons_op (by omega) (by omega)]; exact ho) trivial
            have fi : ((0 : Int32) = 0 ∨ (0 : Int32) = 1) ∧ Q (some (.int 0)) h4 := ⟨Or.inl rfl, hn h4 f q ((e3.fl e4).cde hcc e6) err⟩
            exact wX3_readProduct_8 hw4.1 hw4.2.1 hw4.2.2.1 ⟨fun _ => fi, fun _ => bY rfl fi⟩
        refine wX3_readProduct_8 hwh.1 hwh.2.1 hwh.2.2.1 (bN (nI_ge (b := 1600) (by omega) (by decide)) (bN (by decide) ?_))
        rw [k1.k3]
        rcases op with z | z
        · rw [z]
          exact bY rfl (go 42 z (Or.inl rfl))
        · rw [z]
          exact bN (by decide) (bY' rfl (go 47 z (Or.inr rfl)))
      · refine wX3_readProduct_8 hwh.1 hwh.2.1 hwh.2.2.1 ⟨fun _ => fin (by omega) (by omega), fun _ => bN (by decide) ?_⟩
        rw [k1.k3, show (42 : Int32) = nI 42 from rfl, show (47 : Int32) = nI 47 from rfl, kI_c tk (by decide), kI_c tk (by decide)]
        exact bN (by omega) (bN' (by omega) (fin (by omega) (by omega)))
  refine part h D s b _ hw tp k kl cdd hDs (fun h1 e s1 b1 e1 k1 c1 l1 l2 w1 a1 cl => ⟨_, rfl, e1.1.1.2, ?_⟩) (fun h1 f q e1 er => ⟨_, rfl, e1.1.1.2, ?_⟩)
  · refine L (n - s1) 0 h1 e s1 b1 (Nat.le_refl _) e1 k1 c1 l1 l2 (Nat.zero_le _) (w1.mono (by omega)) a1 ⟨e, [], (List.append_nil e).symm, Or.inl rfl, fun S C ho ts out r => cl S C ho out ?_⟩
    rw [endP_s ts]
    exact r
  · have hw1 := hw.eq e1.1.1
    have fi : ((0 : Int32) = 0 ∨ (0 : Int32) = 1) ∧ Q (some (.int 0)) h1 := ⟨Or.inl rfl, hn h1 f q e1 (fun S C ho ts => er S C ho trivial)⟩
    exact wX3_readProduct_8 hw1.1 hw1.2.1 hw1.2.2.1 ⟨fun _ => fi, fun _ => bY rfl fi⟩
end GR
