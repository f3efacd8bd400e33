def cv (u : Nat) : Nat := if u = 31 then 1001 else u
def aq (u : Nat) : Prop := alw knQ u ∨ u = 28 ∨ u = 29 ∨ u = 30 ∨ u = 31 ∨ u = 60 ∨ u = 61 ∨ u = 62
/-- a test that can be reckoned -/
def TB (B : Nat) (e : List Nat) : Prop := WE B (e.map cv) ∧ WB e ∧ ∀ u, u ∈ e → aq u
def Ctq (l : Launch) (G : gG) (t : Nat → Nat) (n cc lk sp : Nat) (M : gM) (dd o B : Nat) (ok : (Nat × Bool) → (Nat × Bool) → List Nat → Prop) (er : (Nat × Bool) → (Nat × Nat) → Prop) : Prop :=
  ∀ (h : gH) (D : List Nat) (s : Nat) (b : Bool) (Q : Option Value → gH → Prop), gWf h lk sp (some cc) → TPc t n h → CTk t n s b h → knL knQ h → CDs cc D h → D.length ≤ s →
    (∀ h' e s' b', CGs cc h h' → CTk t n s' b' h' → CDs cc (D ++ e) h' → s + e.length ≤ s' → s < s' → TB B e → ok (s, b) (s', b') e → Q (some (.int 1)) h') →
    (∀ h' f q, CGf cc f q h h' → er (s, b) (f, q) → Q (some (.int 0)) h') → gC l G dd M [.ref 4, .int (nI o)] h Q
def tF (t : Nat → Nat) (n o : Nat) (p p' : Nat × Bool) (e : List Nat) : Prop := ∀ T C, cnT T = o → ∀ out, Tst t n false p' (dN T (C ++ e)).1 (dN T (C ++ e)).2 out → Tst t n true p T C out
def tN (t : Nat → Nat) (n o : Nat) (p p' : Nat × Bool) (e : List Nat) : Prop := ¬ isW t n 29 p' ∧ ∃ e1 pd, e = e1 ++ pd ∧ pdN pd ∧ ∀ T C, cnT T = o → tqS T → ∀ out, Tst t n false p' (pd ++ T) (C ++ e1) out → Tst t n true p T C out
def tO (t : Nat → Nat) (n o : Nat) (p p' : Nat × Bool) (e : List Nat) : Prop := (¬ isW t n 29 p' ∧ ¬ isW t n 28 p') ∧ ∃ e1 pd, e = e1 ++ pd ∧ pdO pd ∧ ∀ T C, cnT T = o → tqM T → ∀ out, Tst t n false p' (pd ++ T) (C ++ e1) out → Tst t n true p T C out
def tE (tp : List Nat → Prop) (t : Nat → Nat) (n o : Nat) (p : Nat × Bool) (f : Nat × Nat) : Prop := ∀ T C, cnT T = o → tp T → Tst t n true p T C (.error f)
def plT (t : Nat → Nat) (n : Nat) (p : Nat × Bool) : Prop := tkk t n p.1 p.2 ≠ 91 ∧ ¬ isW t n 30 p ∧ ¬ isW t n 31 p
section CT
variable {l : Launch} {G : gG} {d : Nat} {Q : Option Value → gH → Prop} {h h0 h1 h2 : gH} {lk sp : Nat} {cd : Option Nat} {t : Nat → Nat} {n s i f q o cc u : Nat} {b : Bool} {D e : List Nat} {p p' : Nat × Bool}
theorem cv_id {u : Nat} (h : alw knQ u) : cv u = u := if_neg (alq_ty h).1
theorem map_cv : ∀ e : List Nat, (∀ u, u ∈ e → alw knQ u) → e.map cv = e
  | [], _ => rfl
  | u :: e, h => by
    show cv u :: e.map cv = _
    rw [cv_id (h u List.mem_cons_self), map_cv e (fun y hy => h y (List.mem_cons_of_mem _ hy))]
theorem TB.mono {B B' : Nat} (h : TB B e) (hb : B ≤ B') : TB B' e := ⟨h.1.mono hb, h.2⟩
theorem TB.bin {B c : Nat} {a b : List Nat} (ha : TB (B + 1) a) (hb : TB B b) (hc : c = 28 ∨ c = 29) : TB (B + 1) (a ++ b ++ [c]) := by
  refine ⟨?_, ha.2.1.bin hb.2.1 hc, fun u hu => ?_⟩
  · rw [List.map_append, List.map_append]
    have : List.map cv [c] = [c] := by rcases hc with z | z <;> subst z <;> rfl
    rw [this]
    exact ha.1.bin hb.1 (by unfold psh; omega) (by unfold una; omega) (by unfold uok; omega)
  · rcases List.mem_append.mp hu with z | z
    · rcases List.mem_append.mp z with z | z
      · exact ha.2.2 u z
      · exact hb.2.2 u z
    · have : u = c := by simpa using z
      subst this
      unfold aq; omega
theorem TB.not {B : Nat} {a : List Nat} (ha : TB B a) (hB : 1 ≤ B) : TB B (a ++ [30]) := by
  refine ⟨?_, ha.2.1.not, fun u hu => ?_⟩
  · rw [List.map_append]
    show WE B (a.map cv ++ [30])
    exact ha.1.una hB (by decide) (Or.inr rfl) (by unfold uok; omega)
  · rcases List.mem_append.mp hu with z | z
    · exact ha.2.2 u z
    · have : u = 30 := by simpa using z
      subst this
      unfold aq; omega
theorem TB.al : TB 1 [31] := ⟨WE.atom (u := 1001) (Or.inr (by decide)) (by unfold uok; omega), WB.al, fun u hu => by
  have : u = 31 := by simpa using hu
  subst this
  unfold aq; omega⟩
theorem TB.cmp {B c : Nat} {a b : List Nat} (ha : WE (B + 1) a) (hb : WE B b) (la : ∀ u, u ∈ a → alw knQ u) (lb : ∀ u, u ∈ b → alw knQ u) (hc : isC c) : TB (B + 1) (a ++ b ++ [c]) := by
  refine ⟨?_, WB.cmp (WN.of ha la) (WN.of hb lb) hc, fun u hu => ?_⟩
  · rw [List.map_append, List.map_append, map_cv a la, map_cv b lb]
    have : List.map cv [c] = [c] := by rcases hc with z | z | z <;> subst z <;> rfl
    rw [this]
    exact ha.bin hb (by unfold psh; unfold isC at hc; omega) (by unfold una; unfold isC at hc; omega) (by unfold uok; unfold isC at hc; simp; omega)
  · rcases List.mem_append.mp hu with z | z
    · rcases List.mem_append.mp z with z | z
      · exact Or.inl (la u z)
      · exact Or.inl (lb u z)
    · have : u = c := by simpa using z
      subst this
      unfold isC at hc
      unfold aq; omega
theorem clS_run {kn : Nat → Bool} (h : clS t n kn o o p p' e) (C : List Nat) : Run t n kn o true p [] C (.ok (p', C ++ e)) := by
  obtain ⟨nop, e1, pd, ee, hp, cl⟩ := h
  refine cl [] C rfl (Or.inl rfl) _ ?_
  have r := Run.done (t := t) (n := n) (kn := kn) (ob := o) (S := pd ++ []) (C := C ++ e1) nop (mkS_l pd (pdA_ops hp))
  rw [popM_p (Or.inl rfl) pd _ (pdA_ops hp)] at r
  rw [ee, ← List.append_assoc]
  exact r
theorem clF_run {kn : Nat → Bool} {f : Nat × Nat} (h : clF tpM t n kn o o p f) (C : List Nat) : Run t n kn o true p [] C (.error f) := h [] C rfl (Or.inl rfl)
theorem knQ_27 : ∀ i, i < 40 → knQ i = true → i ≤ 27 := by decide
theorem c_readComparison (hcc : cc = 41 ∨ cc = 61 ∨ cc = 78) (tw : TWf t n) (ho : o ≤ 6) : Ctq l G t n cc lk sp MX3_readComparison (d + 33) o 23 (fun p p' e => plT t n p → tF t n o p p' e) (fun p f => plT t n p → tE (fun _ => True) t n o p f) := by
  have n16 := tw.1
  intro h D s b Q hw tp k kl cdd hDs hy hn
  have SUM := c_sumG (l := l) (G := G) (lk := lk) (sp := sp) (kn := knQ) (ob := o) (d := d) hcc tw knQ_27 ho
  refine eX3_readComparison hw (SUM h D s b _ hw tp k kl cdd hDs (fun h1 e s1 b1 e1 k1 c1 l1 l2 w1 a1 cl => ⟨_, rfl, e1.1.1.2, bN' (by decide) ?_⟩) (fun h1 f q e1 er => ⟨_, rfl, e1.1.1.2, bY' rfl (hn h1 f q e1 (fun pl T C hT _ => Tst.s1 pl.1 pl.2.1 pl.2.2 (by rw [hT]; exact clF_run er C)))⟩))
  have tk := tkk_lt (t := t) (n := n) (s := s1) (b := b1) tw.2
  have hw1 := hw.eq e1.1.1
  have dl : (D ++ e).length = D.length + e.length := List.length_append
  have sn1 := k1.1
  have go : ∀ c, isC c → tkk t n s1 b1 = c → gC l G (d + 32) MX5_move [.ref 1] h1 (rV fun h2 => h2.2.2 = h1.2.2 ∧ gC l G (d + 32) MX3_readSum [.ref 4, .int (nI o)] h2 (rI fun v3 h3 => h3.2.2 = h2.2.2 ∧ gC l G (d + 32) MX3_put [.ref 4, .int (nI c)] h3 (rV fun h4 => h4.2.2 = h3.2.2 ∧ ((v3 = 0 ∨ v3 = 1) ∧ Q (some (.int v3)) h4)))) := fun c hc tc => by
    have lt : s1 < n := tkk_n1 (t := t) (b := b1) (by unfold isC at hc; omega)
    have hg := nx_gt (t := t) lt
    refine c_move (d := d + 31) hw1 tw (tp.gx hcc e1.1) k1 (by unfold isC at hc; omega) (fun h2 e2 k2 => ⟨rfl, e2.1.2, ?_⟩)
    have e3 := e1.tr e2.gx
    refine SUM h2 (D ++ e) (nx t n s1) (nj t n s1) _ (hw.eq e3.1.1) (tp.gx hcc e3.1) k2 (kl.gx hcc e3.1) (c1.cl hcc e2) (by omega) (fun h3 e' s3 b3 e4 k3 c3 l4 l5 w3 a3 cl3 => ⟨_, rfl, e4.1.1.2, ?_⟩) (fun h3 f q e4 er => ⟨_, rfl, e4.1.1.2, ?_⟩)
    · have sn3 := k3.1
      have e5 := e3.tr e4
      have dl3 : (D ++ e ++ e').length = D.length + e.length + e'.length := by rw [List.length_append, dl]
      refine c_put (d := d + 30) (hw.eq e5.1.1) hcc c3 (by omega) (by unfold isC at hc; omega) (by unfold isC at hc; omega) (fun h4 e6 c4 => ⟨rfl, e6.2, Or.inr rfl, hy h4 (e ++ e' ++ [c]) s3 b3 (e5.cde hcc e6) (k3.cde hcc e6) ?_ ?_ (by omega) (TB.cmp (w1.mono (by omega)) w3 a1 a3 hc) (fun pl T C hT out r => ?_)⟩)
      · rw [show D ++ (e ++ e' ++ [c]) = D ++ e ++ e' ++ [c] by simp only [List.append_assoc]]
        exact c4
      · rw [List.length_append, List.length_append]
        show s + (e.length + e'.length + 1) ≤ s3
        omega
      · have r1 := clS_run cl C
        have r2 := clS_run cl3 (C ++ e)
        rw [← hT] at r1 r2
        refine Tst.cm pl.1 pl.2.1 pl.2.2 r1 (by rw [List.length_append]; show C.length + e.length + s ≤ C.length + s1; omega) (by show isC (tkk t n s1 b1); rw [tc]; exact hc) r2 (by rw [List.length_append]; show (C ++ e).length + e'.length + nx t n s1 ≤ (C ++ e).length + s3; omega) ?_
        show Tst t n false (s3, b3) (dN T (C ++ e ++ e' ++ [tkk t n s1 b1])).1 (dN T (C ++ e ++ e' ++ [tkk t n s1 b1])).2 out
        rw [tc, show C ++ e ++ e' ++ [c] = C ++ (e ++ e' ++ [c]) by simp only [List.append_assoc]]
        exact r
    · refine c_putF (d := d + 30) (hw.eq (e3.fl e4).1.1) hcc (fun h4 e6 => ⟨rfl, e6.2, Or.inl rfl, hn h4 f q ((e3.fl e4).cde hcc e6) (fun pl T C hT _ => ?_)⟩)
      have r1 := clS_run cl C
      have r2 := clF_run er (C ++ e)
      rw [← hT] at r1 r2
      exact Tst.s3 pl.1 pl.2.1 pl.2.2 r1 (by rw [List.length_append]; show C.length + e.length + s ≤ C.length + s1; omega) (by show isC (tkk t n s1 b1); rw [tc]; exact hc) r2
  rw [k1.k3, show (60 : Int32) = nI 60 from rfl, show (61 : Int32) = nI 61 from rfl, show (62 : Int32) = nI 62 from rfl, kI_c tk (by decide), kI_c tk (by decide), kI_c tk (by decide)]
  have kc : ∀ c, c < 256 → tkk t n s1 b1 = c → kI (tkk t n s1 b1) = nI c := fun c hc tc => (kI_c tk hc).mpr tc
  refine ⟨fun z => ?_, fun z0 => ⟨fun z => ?_, fun z2 => ⟨fun z => ?_, fun z1 => ?_⟩⟩⟩
  · rw [kc 60 (by decide) z]; exact go 60 (Or.inl rfl) z
  · rw [kc 62 (by decide) z]; exact go 62 (Or.inr (Or.inr rfl)) z
  · rw [kc 61 (by decide) z]; exact go 61 (Or.inr (Or.inl rfl)) z
  · refine c_failHere (f := 1) (d := d + 31) hw1 k1.2.2.2.1 (fun h2 e2 => ⟨_, rfl, e2.1.2, Or.inl rfl, hn h2 1 s1 (e1.fl e2.gx) (fun pl T C hT _ => ?_)⟩)
    have r1 := clS_run cl C
    rw [← hT] at r1
    exact Tst.s2 pl.1 pl.2.1 pl.2.2 r1 (by rw [List.length_append]; show C.length + e.length + s ≤ C.length + s1; omega) (fun z => by rcases z with z | z | z; exact z0 z; exact z1 z; exact z2 z)

theorem c_readBoth (hcc : cc = 41 ∨ cc = 61 ∨ cc = 78) (tw : TWf t n) {B dd : Nat} (hd : 2 ≤ dd) (part : Ctq l G t n cc lk sp MX3_readFact dd o B (tF t n o) (tE (fun _ => True) t n o)) : Ctq l G t n cc lk sp MX3_readBoth (dd + 1) o (B + 1) (tN t n o) (tE tqS t n o) := by
  have n16 := tw.1
  intro h D s b Q hw tp k kl cdd hDs hy hn
  refine eX3_readBoth hw (fun p9 e9 s9 m9 args9 below9 meth9 cc9 => ?_)
  have L : ∀ r x3 h' e s' b', n - s' ≤ r → CGs cc h h' → CTk t n s' b' h' → CDs cc (D ++ e) h' → s + e.length ≤ s' → s < s' → x3 ≤ s' → TB (B + 1) e → (∃ e1 pd, e = e1 ++ pd ∧ pdN pd ∧ ∀ T C, cnT T = o → tqS T → ∀ out, Tst t n false (s', b') (pd ++ T) (C ++ e1) out → Tst t n true (s, b) T C out) → gg p9 l e9 s9 m9 args9 below9 meth9 cc9 G (dd + 1) MX3_readBoth Q 8 [some (.ref 4), some (.int (nI o)), some (.int 1), some (.int (nI x3))] [] h' := by
    intro r
    induction r with
    | zero =>
      intro x3 h' e s' b' hr e1 k1 c1 l1 l2 l3 w1 cl
      have hwh := hw.eq e1.1.1
      have nw : ¬ isW t n 29 (s', b') := fun z => by
        have : s' < n := tkk_n1 (t := t) (b := b') (by have := z.1; show tkk t n (s', b').1 (s', b').2 ≠ 1000; omega)
        omega
      have fin : ((1 : Int32) = 0 ∨ (1 : Int32) = 1) ∧ Q (some (.int 1)) h' := ⟨Or.inr rfl, hy h' e s' b' e1 k1 c1 l1 l2 w1 ⟨nw, cl⟩⟩
      exact wX3_readBoth_8 hwh.1 hwh.2.1 hwh.2.2.1 ⟨fun _ => fin, fun _ => bN (by decide) (c_isWord (i := 29) hwh tw k1 (by decide) (fun z => absurd z nw) (fun _ => ⟨_, rfl, rfl, bY rfl fin⟩))⟩
    | succ r ih =>
      intro x3 h' e s' b' hr e1 k1 c1 l1 l2 l3 w1 cl
      have hwh := hw.eq e1.1.1
      have sn := k1.1
      by_cases op : isW t n 29 (s', b')
      · have lt : s' < n := tkk_n1 (t := t) (b := b') (by have := op.1; show tkk t n (s', b').1 (s', b').2 ≠ 1000; omega)
        have k01 : tkk t n s' b' = 1001 := op.1
        refine wX3_readBoth_8 hwh.1 hwh.2.1 hwh.2.2.1 (bN (nI_ge (b := 1600) (by omega) (by decide)) (bN (by decide) (c_isWord (i := 29) hwh tw k1 (by decide) (fun _ => ⟨_, rfl, rfl, bN (by decide) ?_⟩) (fun z => absurd op z))))
        obtain ⟨d9, rfl⟩ : ∃ d9, dd = d9 + 2 := ⟨dd - 2, by omega⟩
        have hg := nx_gt (t := t) lt
        refine c_move (d := d9 + 1) hwh tw (tp.gx hcc e1.1) k1 (by omega) (fun h2 e2 k2 => ⟨rfl, e2.1.2, ?_⟩)
        have e3 := e1.tr e2.gx
        have dl : (D ++ e).length = D.length + e.length := List.length_append
        refine part h2 (D ++ e) (nx t n s') (nj t n s') _ (hw.eq e3.1.1) (tp.gx hcc e3.1) k2 (kl.gx hcc e3.1) (c1.cl hcc e2) (by omega) (fun h3 e' s3 b3 e4 k3 c3 l4 l5 w3 cl3 => ⟨_, rfl, e4.1.1.2, ?_⟩) (fun h3 f q e4 er => ⟨_, rfl, e4.1.1.2, ?_⟩)
        · have sn3 := k3.1
          have e5 := e3.tr e4
          have dl3 : (D ++ e ++ e').length = D.length + e.length + e'.length := by rw [List.length_append, dl]
          refine c_put (u := 29) (hw.eq e5.1.1) hcc c3 (by omega) (by decide) (by decide) (fun h4 e6 c4 => ⟨rfl, e6.2, ?_⟩)
          rw [nI_1]
          refine ih (x3 + 1) h4 (e ++ e' ++ [29]) s3 b3 (by omega) (e5.cde hcc e6) (k3.cde hcc e6) ?_ ?_ (by omega) (by omega) (w1.bin w3 (by decide)) ?_
          · rw [show D ++ (e ++ e' ++ [29]) = D ++ e ++ e' ++ [29] by simp only [List.append_assoc]]
            exact c4
          · rw [List.length_append, List.length_append]
            show s + (e.length + e'.length + 1) ≤ s3
            omega
          · obtain ⟨ea, pd, ee, hp, cl⟩ := cl
            refine ⟨e ++ e', [29], rfl, Or.inr rfl, fun T C ho ts out r => cl T C ho ts out (Tst.an op ?_)⟩
            rw [pAn_p ts hp, List.append_assoc, ← ee]
            refine cl3 (29 :: T) (C ++ e) (by rw [cnT_op (by decide) (by decide)]; exact ho) out ?_
            rw [show dN (29 :: T) (C ++ e ++ e') = (29 :: T, C ++ e ++ e') from rfl, List.append_assoc]
            exact r
        · refine c_putF (hw.eq (e3.fl e4).1.1) hcc (fun h4 e6 => ⟨rfl, e6.2, ?_⟩)
          have hw4 := hw.eq ((e3.fl e4).cde hcc e6).1.1
          have err : tE tqS t n o (s, b) (f, q) := fun T C ho ts => by
            obtain ⟨ea, pd, ee, hp, cl⟩ := cl
            refine cl T C ho ts _ (Tst.an op ?_)
            rw [pAn_p ts hp]
            exact er (29 :: T) _ (by rw [cnT_op (by decide) (by decide)]; exact ho) trivial
          have fi : ((0 : Int32) = 0 ∨ (0 : Int32) = 1) ∧ Q (some (.int 0)) h4 := ⟨Or.inl rfl, hn h4 f q ((e3.fl e4).cde hcc e6) err⟩
          exact wX3_readBoth_8 hw4.1 hw4.2.1 hw4.2.2.1 ⟨fun _ => fi, fun _ => bY rfl fi⟩
      · have fin : ((1 : Int32) = 0 ∨ (1 : Int32) = 1) ∧ Q (some (.int 1)) h' := ⟨Or.inr rfl, hy h' e s' b' e1 k1 c1 l1 l2 w1 ⟨op, cl⟩⟩
        exact wX3_readBoth_8 hwh.1 hwh.2.1 hwh.2.2.1 ⟨fun _ => fin, fun _ => bN (by decide) (c_isWord (i := 29) hwh tw k1 (by decide) (fun z => absurd z op) (fun _ => ⟨_, rfl, rfl, bY rfl fin⟩))⟩
  refine part h D s b _ hw tp k kl cdd hDs (fun h1 e s1 b1 e1 k1 c1 l1 l2 w1 cl => ⟨_, rfl, e1.1.1.2, ?_⟩) (fun h1 f q e1 er => ⟨_, rfl, e1.1.1.2, ?_⟩)
  · exact L (n - s1) 0 h1 e s1 b1 (Nat.le_refl _) e1 k1 c1 l1 l2 (Nat.zero_le _) (w1.mono (by omega)) ⟨e, [], (List.append_nil _).symm, Or.inl rfl, fun T C ho ts out r => cl T C ho out (by rw [dN_s ts]; exact r)⟩
  · have hw1 := hw.eq e1.1.1
    have fi : ((0 : Int32) = 0 ∨ (0 : Int32) = 1) ∧ Q (some (.int 0)) h1 := ⟨Or.inl rfl, hn h1 f q e1 (fun T C ho ts => er T C ho trivial)⟩
    exact wX3_readBoth_8 hw1.1 hw1.2.1 hw1.2.2.1 ⟨fun _ => fi, fun _ => bY rfl fi⟩
theorem c_readTest (hcc : cc = 41 ∨ cc = 61 ∨ cc = 78) (tw : TWf t n) {B dd : Nat} (hd : 2 ≤ dd) (part : Ctq l G t n cc lk sp MX3_readBoth dd o B (tN t n o) (tE tqS t n o)) : Ctq l G t n cc lk sp MX3_readTest (dd + 1) o (B + 1) (tO t n o) (tE tqM t n o) := by
  have n16 := tw.1
  intro h D s b Q hw tp k kl cdd hDs hy hn
  refine eX3_readTest hw (fun p9 e9 s9 m9 args9 below9 meth9 cc9 => ?_)
  have L : ∀ r x3 h' e s' b', n - s' ≤ r → CGs cc h h' → CTk t n s' b' h' → CDs cc (D ++ e) h' → s + e.length ≤ s' → s < s' → x3 ≤ s' → TB (B + 1) e → ¬ isW t n 29 (s', b') → (∃ e1 pd, e = e1 ++ pd ∧ pdO pd ∧ ∀ T C, cnT T = o → tqM T → ∀ out, Tst t n false (s', b') (pd ++ T) (C ++ e1) out → Tst t n true (s, b) T C out) → gg p9 l e9 s9 m9 args9 below9 meth9 cc9 G (dd + 1) MX3_readTest Q 8 [some (.ref 4), some (.int (nI o)), some (.int 1), some (.int (nI x3))] [] h' := by
    intro r
    induction r with
    | zero =>
      intro x3 h' e s' b' hr e1 k1 c1 l1 l2 l3 w1 t29 cl
      have hwh := hw.eq e1.1.1
      have nw : ¬ isW t n 28 (s', b') := fun z => by
        have : s' < n := tkk_n1 (t := t) (b := b') (by have := z.1; show tkk t n (s', b').1 (s', b').2 ≠ 1000; omega)
        omega
      have fin : ((1 : Int32) = 0 ∨ (1 : Int32) = 1) ∧ Q (some (.int 1)) h' := ⟨Or.inr rfl, hy h' e s' b' e1 k1 c1 l1 l2 w1 ⟨⟨t29, nw⟩, cl⟩⟩
      exact wX3_readTest_8 hwh.1 hwh.2.1 hwh.2.2.1 ⟨fun _ => fin, fun _ => bN (by decide) (c_isWord (i := 28) hwh tw k1 (by decide) (fun z => absurd z nw) (fun _ => ⟨_, rfl, rfl, bY rfl fin⟩))⟩
    | succ r ih =>
      intro x3 h' e s' b' hr e1 k1 c1 l1 l2 l3 w1 t29 cl
      have hwh := hw.eq e1.1.1
      have sn := k1.1
      by_cases op : isW t n 28 (s', b')
      · have lt : s' < n := tkk_n1 (t := t) (b := b') (by have := op.1; show tkk t n (s', b').1 (s', b').2 ≠ 1000; omega)
        have k01 : tkk t n s' b' = 1001 := op.1
        refine wX3_readTest_8 hwh.1 hwh.2.1 hwh.2.2.1 (bN (nI_ge (b := 1600) (by omega) (by decide)) (bN (by decide) (c_isWord (i := 28) hwh tw k1 (by decide) (fun _ => ⟨_, rfl, rfl, bN (by decide) ?_⟩) (fun z => absurd op z))))
        obtain ⟨d9, rfl⟩ : ∃ d9, dd = d9 + 2 := ⟨dd - 2, by omega⟩
        have hg := nx_gt (t := t) lt
        refine c_move (d := d9 + 1) hwh tw (tp.gx hcc e1.1) k1 (by omega) (fun h2 e2 k2 => ⟨rfl, e2.1.2, ?_⟩)
        have e3 := e1.tr e2.gx
        have dl : (D ++ e).length = D.length + e.length := List.length_append
        refine part h2 (D ++ e) (nx t n s') (nj t n s') _ (hw.eq e3.1.1) (tp.gx hcc e3.1) k2 (kl.gx hcc e3.1) (c1.cl hcc e2) (by omega) (fun h3 e' s3 b3 e4 k3 c3 l4 l5 w3 cl3 => ⟨_, rfl, e4.1.1.2, ?_⟩) (fun h3 f q e4 er => ⟨_, rfl, e4.1.1.2, ?_⟩)
        · have sn3 := k3.1
          have e5 := e3.tr e4
          have dl3 : (D ++ e ++ e').length = D.length + e.length + e'.length := by rw [List.length_append, dl]
          refine c_put (u := 28) (hw.eq e5.1.1) hcc c3 (by omega) (by decide) (by decide) (fun h4 e6 c4 => ⟨rfl, e6.2, ?_⟩)
          rw [nI_1]
          obtain ⟨t3, ea', pt, ee', hp', cl3⟩ := cl3
          refine ih (x3 + 1) h4 (e ++ e' ++ [28]) s3 b3 (by omega) (e5.cde hcc e6) (k3.cde hcc e6) ?_ ?_ (by omega) (by omega) (w1.bin w3 (by decide)) t3 ?_
          · rw [show D ++ (e ++ e' ++ [28]) = D ++ e ++ e' ++ [28] by simp only [List.append_assoc]]
            exact c4
          · rw [List.length_append, List.length_append]
            show s + (e.length + e'.length + 1) ≤ s3
            omega
          · obtain ⟨ea, pd, ee, hp, cl⟩ := cl
            refine ⟨e ++ ea', pt ++ [28], by rw [ee']; simp only [List.append_assoc], ⟨pt, [28], hp', Or.inr rfl, rfl⟩, fun T C ho ts out r => cl T C ho ts out (Tst.or op ?_)⟩
            rw [pOr_p ts pd _ (pdO_m hp), List.append_assoc, ← ee]
            refine cl3 (28 :: T) (C ++ e) (by rw [cnT_op (by decide) (by decide)]; exact ho) (Or.inr ⟨28, T, rfl, by decide, by decide⟩) out ?_
            rw [List.append_assoc]
            rw [List.append_assoc] at r
            exact r
        · refine c_putF (hw.eq (e3.fl e4).1.1) hcc (fun h4 e6 => ⟨rfl, e6.2, ?_⟩)
          have hw4 := hw.eq ((e3.fl e4).cde hcc e6).1.1
          have err : tE tqM t n o (s, b) (f, q) := fun T C ho ts => by
            obtain ⟨ea, pd, ee, hp, cl⟩ := cl
            refine cl T C ho ts _ (Tst.or op ?_)
            rw [pOr_p ts pd _ (pdO_m hp)]
            exact er (28 :: T) _ (by rw [cnT_op (by decide) (by decide)]; exact ho) (Or.inr ⟨28, T, rfl, by decide, by decide⟩)
          have fi : ((0 : Int32) = 0 ∨ (0 : Int32) = 1) ∧ Q (some (.int 0)) h4 := ⟨Or.inl rfl, hn h4 f q ((e3.fl e4).cde hcc e6) err⟩
          exact wX3_readTest_8 hw4.1 hw4.2.1 hw4.2.2.1 ⟨fun _ => fi, fun _ => bY rfl fi⟩
      · have fin : ((1 : Int32) = 0 ∨ (1 : Int32) = 1) ∧ Q (some (.int 1)) h' := ⟨Or.inr rfl, hy h' e s' b' e1 k1 c1 l1 l2 w1 ⟨⟨t29, op⟩, cl⟩⟩
        exact wX3_readTest_8 hwh.1 hwh.2.1 hwh.2.2.1 ⟨fun _ => fin, fun _ => bN (by decide) (c_isWord (i := 28) hwh tw k1 (by decide) (fun z => absurd z op) (fun _ => ⟨_, rfl, rfl, bY rfl fin⟩))⟩
  refine part h D s b _ hw tp k kl cdd hDs (fun h1 e s1 b1 e1 k1 c1 l1 l2 w1 cl => ⟨_, rfl, e1.1.1.2, ?_⟩) (fun h1 f q e1 er => ⟨_, rfl, e1.1.1.2, ?_⟩)
  · obtain ⟨t1, ea, pt, ee, hp, cl⟩ := cl
    exact L (n - s1) 0 h1 e s1 b1 (Nat.le_refl _) e1 k1 c1 l1 l2 (Nat.zero_le _) (w1.mono (by omega)) t1 ⟨ea, pt, ee, ⟨pt, [], hp, Or.inl rfl, (List.append_nil _).symm⟩, fun T C ho ts out r => cl T C ho ts.st out r⟩
  · have hw1 := hw.eq e1.1.1
    have fi : ((0 : Int32) = 0 ∨ (0 : Int32) = 1) ∧ Q (some (.int 0)) h1 := ⟨Or.inl rfl, hn h1 f q e1 (fun T C ho ts => er T C ho ts.st)⟩
    exact wX3_readTest_8 hw1.1 hw1.2.1 hw1.2.2.1 ⟨fun _ => fi, fun _ => bY rfl fi⟩
theorem c_readFact (hcc : cc = 41 ∨ cc = 61 ∨ cc = 78) (tw : TWf t n) {B dd : Nat} (hB : 23 ≤ B) (hd : 2 ≤ dd) (ho6 : o ≤ 6) (cmp : Ctq l G t n cc lk sp MX3_readComparison dd o 23 (fun p p' e => plT t n p → tF t n o p p' e) (fun p f => plT t n p → tE (fun _ => True) t n o p f)) (fact : o < 6 → Ctq l G t n cc lk sp MX3_readFact dd (o + 1) B (tF t n (o + 1)) (tE (fun _ => True) t n (o + 1))) (test : o < 6 → Ctq l G t n cc lk sp MX3_readTest dd (o + 1) B (tO t n (o + 1)) (tE tqM t n (o + 1))) : Ctq l G t n cc lk sp MX3_readFact (dd + 1) o B (tF t n o) (tE (fun _ => True) t n o) := by
  have n16 := tw.1
  intro h D s b Q hw tp k kl cdd hDs hy hn
  obtain ⟨d9, rfl⟩ : ∃ d9, dd = d9 + 2 := ⟨dd - 2, by omega⟩
  have tk := tkk_lt (t := t) (n := n) (s := s) (b := b) tw.2
  have sn := k.1
  have eo : nI o + 1 = nI (o + 1) := by rw [nI_1]
  have z91 : kI (tkk t n s b) = nI 91 ↔ tkk t n s b = 91 := kI_c tk (by decide)
  refine eX3_readFact hw (c_isWord (i := 30) hw tw k (by decide) (fun w30 => ⟨_, rfl, rfl, bN (by decide) ?_⟩) (fun w30 => ⟨_, rfl, rfl, bY rfl ?_⟩))
  · have k01 : tkk t n s b = 1001 := w30.1
    have lt : s < n := tkk_n1 (t := t) (b := b) (by omega)
    have hg := nx_gt (t := t) lt
    refine c_openOne (d := d9) hw tw tp k (by omega) ho6 (fun h1 o6 e1 k1 => ⟨_, rfl, e1.1.2, bN (by decide) ?_⟩) (fun h1 o6 e1 => ⟨_, rfl, e1.1.2, bY rfl ?_⟩)
    · rw [eo]
      have e1g : CGs cc h h1 := e1.gx
      refine fact o6 h1 D (nx t n s) (nj t n s) _ (hw.eq e1.1) (tp.cl e1) k1 (kl.gx hcc e1g.1) (cdd.cl hcc e1) (by omega) (fun h2 e s2 b2 e2 k2 c2 l1 l2 w2 cl => ⟨_, rfl, e2.1.1.2, bN (by decide) ?_⟩) (fun h2 f q e2 er => ⟨_, rfl, e2.1.1.2, bY rfl ?_⟩)
      · have e3 := e1g.tr e2
        have sn2 := k2.1
        have dl : (D ++ e).length = D.length + e.length := List.length_append
        refine c_put (u := 30) (d := d9) (hw.eq e3.1.1) hcc c2 (by omega) (by decide) (by decide) (fun h4 e6 c4 => ⟨rfl, e6.2, hy h4 (e ++ [30]) s2 b2 (e3.cde hcc e6) (k2.cde hcc e6) ?_ ?_ (by omega) (w2.not (by omega)) (fun T C hT out r => ?_)⟩)
        · rw [← List.append_assoc]; exact c4
        · rw [List.length_append]
          show s + (e.length + 1) ≤ s2
          omega
        · refine Tst.nt w30 (by omega) (cl (30 :: T) C (by rw [cnT_mk (Or.inl rfl), hT]) out ?_)
          rw [show dN (30 :: T) (C ++ e) = dN T (C ++ e ++ [30]) from rfl, List.append_assoc]
          exact r
      · have e3 := e1g.fl e2
        exact c_putF (d := d9) (hw.eq e3.1.1) hcc (fun h4 e6 => ⟨rfl, e6.2, hn h4 f q (e3.cde hcc e6) (fun T C hT _ => Tst.nt w30 (by omega) (er (30 :: T) C (by rw [cnT_mk (Or.inl rfl), hT]) trivial))⟩)
    · have e1g : CGf cc 4 s h h1 := e1.gx
      exact c_putF (d := d9) (hw.eq e1.1) hcc (fun h4 e6 => ⟨rfl, e6.2, hn h4 4 s (e1g.cde hcc e6) (fun T C hT _ => Tst.ntf w30 (by omega))⟩)
  · rw [k.k3, show (91 : Int32) = nI 91 from rfl, z91]
    refine ⟨fun t91 => c_isWord (i := 31) hw tw k (by decide) (fun w31 => ⟨_, rfl, rfl, bN (by decide) ?_⟩) (fun w31 => ⟨_, rfl, rfl, bY rfl ?_⟩), fun t91 => ?_⟩
    · have k01 : tkk t n s b = 1001 := w31.1
      have lt : s < n := tkk_n1 (t := t) (b := b) (by omega)
      have hg := nx_gt (t := t) lt
      refine c_putU (u := 31) (d := d9 + 1) hw hcc cdd (by omega) rfl (fun h1 e1 c1 => ⟨rfl, e1.2, ?_⟩)
      have e1g : CGs cc h h1 := CGs.rf.cde hcc e1
      refine c_move (d := d9 + 1) (hw.eq e1) tw (tp.gx hcc e1g.1) (k.cde hcc e1) (by omega) (fun h2 e2 k2 => ⟨rfl, e2.1.2, hy h2 [31] _ _ (e1g.tr e2.gx) k2 (c1.cl hcc e2) (by show s + 1 ≤ nx t n s; omega) hg (TB.al.mono (by omega)) (fun T C hT out r => Tst.al w31 r)⟩)
    · exact cmp h D s b _ hw tp k kl cdd hDs (fun h1 e s1 b1 e1 k1 c1 l1 l2 w1 cl => ⟨_, rfl, e1.1.1.2, Or.inr rfl, hy h1 e s1 b1 e1 k1 c1 l1 l2 (w1.mono hB) (cl ⟨t91, w30, w31⟩)⟩) (fun h1 f q e1 er => ⟨_, rfl, e1.1.1.2, Or.inl rfl, hn h1 f q e1 (er ⟨t91, w30, w31⟩)⟩)
    · have lt : s < n := ((tkk_c (by decide) (by decide)).mp t91).1
      have hg := nx_gt (t := t) lt
      refine c_openOne (d := d9) hw tw tp k (by omega) ho6 (fun h1 o6 e1 k1 => ⟨_, rfl, e1.1.2, bN (by decide) ?_⟩) (fun h1 o6 e1 => ⟨_, rfl, e1.1.2, bY rfl (hn h1 4 s e1.gx (fun T C hT _ => Tst.sqf t91 (by omega)))⟩)
      rw [eo]
      have e1g : CGs cc h h1 := e1.gx
      refine test o6 h1 D (nx t n s) (nj t n s) _ (hw.eq e1.1) (tp.cl e1) k1 (kl.gx hcc e1g.1) (cdd.cl hcc e1) (by omega) (fun h2 e s2 b2 e2 k2 c2 l1 l2 w2 cl => ⟨_, rfl, e2.1.1.2, bN (by decide) ?_⟩) (fun h2 f q e2 er => ⟨_, rfl, e2.1.1.2, bY rfl (hn h2 f q (e1g.fl e2) (fun T C hT _ => Tst.sq t91 (by omega) (er (105 :: T) C (by rw [cnT_mk (Or.inr rfl), hT]) (Or.inr ⟨T, rfl⟩))))⟩)
      have e3 := e1g.tr e2
      obtain ⟨⟨n29, n28⟩, ea, pd, ee, hp, cl⟩ := cl
      refine c_takeSign (c := 93) (d := d9) (hw.eq e3.1.1) tw (tp.gx hcc e3.1) k2 (by decide) (fun p' h4 q4 e4 k4 => ⟨_, rfl, e4.1.2, bN (by decide) ?_⟩) (fun f q h4 q4 e4 => ⟨_, rfl, e4.1.2, bY rfl ?_⟩)
      · obtain ⟨t93, pe⟩ := sgF_ok q4
        have t93 : tkk t n s2 b2 = 93 := t93
        subst pe
        have lt2 : s2 < n := ((tkk_c (by decide) (by decide)).mp t93).1
        have hg2 := nx_gt (t := t) lt2
        refine hy h4 e _ _ (e3.tr e4.gx) k4 (c2.cl hcc e4) (by show s + e.length ≤ nx t n s2; omega) (by show s < nx t n s2; omega) w2 (fun T C hT out r => ?_)
        refine Tst.sq t91 (by omega) (cl (105 :: T) C (by rw [cnT_mk (Or.inr rfl), hT]) (Or.inr ⟨T, rfl⟩) out (Tst.cl t93 (List.mem_append.mpr (Or.inr List.mem_cons_self)) ?_))
        rw [pSq_p (Or.inr ⟨T, rfl⟩) pd _ (pdO_m hp), List.append_assoc, ← ee]
        exact r
      · obtain ⟨tn, fe⟩ := sgF_er q4
        have f1 : f = 1 := congrArg Prod.fst fe
        have q1 : q = s2 := congrArg Prod.snd fe
        subst f1; subst q1
        refine hn h4 1 q (e3.fl e4.gx) (fun T C hT _ => Tst.sq t91 (by omega) (cl (105 :: T) C (by rw [cnT_mk (Or.inr rfl), hT]) (Or.inr ⟨T, rfl⟩) _ (Tst.enf tn n29 n28 (List.mem_append.mpr (Or.inr List.mem_cons_self)))))
theorem c_factG (hcc : cc = 41 ∨ cc = 61 ∨ cc = 78) (tw : TWf t n) : ∀ r o d, o + r = 6 → Ctq l G t n cc lk sp MX3_readFact (d + 3 * r + 34) o (2 * r + 23) (tF t n o) (tE (fun _ => True) t n o) := by
  intro r
  induction r with
  | zero =>
    intro o d ho
    exact c_readFact (dd := d + 33) hcc tw (by omega) (by omega) (by omega) (c_readComparison (d := d) hcc tw (by omega)) (fun z => by omega) (fun z => by omega)
  | succ r ih =>
    intro o d ho
    have f1 := ih (o + 1) d (by omega)
    have f2 := ih (o + 1) (d + 2) (by omega)
    have b1 := c_readBoth hcc tw (by omega) f1
    have t1 := c_readTest hcc tw (by omega) b1
    have c1 := c_readComparison (l := l) (G := G) (cc := cc) (lk := lk) (sp := sp) (d := d + 3 * r + 3) hcc tw (show o ≤ 6 by omega)
    have e1 : d + 3 * (r + 1) + 34 = d + 3 * r + 36 + 1 := by omega
    have e2 : 2 * (r + 1) + 23 = 2 * r + 23 + 1 + 1 := by omega
    rw [e1, e2]
    refine c_readFact hcc tw (by omega) (by omega) (by omega) c1 (fun _ => ?_) (fun _ => t1)
    have e3 : d + 2 + 3 * r + 34 = d + 3 * r + 36 := by omega
    rw [e3] at f2
    intro h D s b Q a1 a2 a3 a4 a5 a6 a7 a8
    exact f2 h D s b Q a1 a2 a3 a4 a5 a6 (fun h' e s' b' x1 x2 x3 x4 x5 x6 x7 => a7 h' e s' b' x1 x2 x3 x4 x5 (x6.mono (by omega)) x7) a8
/-- a test, where nothing is open -/
theorem c_testG (hcc : cc = 41 ∨ cc = 61 ∨ cc = 78) (tw : TWf t n) : Ctq l G t n cc lk sp MX3_readTest (d + 54) 0 37 (tO t n 0) (tE tqM t n 0) := by
  have f := c_factG (l := l) (G := G) (lk := lk) (sp := sp) hcc tw 6 0 d rfl
  exact c_readTest hcc tw (by omega) (c_readBoth hcc tw (by omega) f)
end CT
