def knw (F : qT) (b c w i : Nat) : Nat := if i = 5 then fH F else if i = 6 then b else if i = 7 then c else w
/-- a try is kept -/
def fkp (F : qT) (b c w : Nat) : qT := fun i j => if i = 0 ∧ j = 2 then min 40 (fN F + 1) else if 5 ≤ i ∧ i ≤ 8 then (if fN F < 40 then (if j = fN F then knw F b c w i else F i j) else (if j = 39 then knw F b c w i else F i (j + 1))) else F i j
/-- a try -/
def ftr (A F : qT) (b c bo : Nat) : qT := if fer A F b c bo ≤ ft F b then fkp (fupd (fupd F 2 b (lrn A F b c bo)) 1 b c) b c 1 else fkp (fupd (fupd F 2 b (lrn A F b c bo)) 3 b (min 99 (fb F b + 1))) b c 0
theorem fkp_e {F : qT} {b c w i : Nat} (h5 : 5 ≤ i) (h8 : i ≤ 8) (j : Nat) : fkp F b c w i j = (if fN F < 40 then (if j = fN F then knw F b c w i else F i j) else (if j = 39 then knw F b c w i else F i (j + 1))) := by
  unfold fkp
  rw [if_neg (by omega), if_pos ⟨h5, h8⟩]
theorem fkp_o {F : qT} {b c w i j : Nat} (h : i < 5) (h2 : i ≠ 0 ∨ j ≠ 2) : fkp F b c w i j = F i j := by
  unfold fkp
  rw [if_neg (by omega), if_neg (by omega)]
theorem fkp_n (F : qT) (b c w : Nat) : fN (fkp F b c w) = min 40 (fN F + 1) := by
  show fkp F b c w 0 2 = _
  unfold fkp
  rw [if_pos ⟨rfl, rfl⟩]
section TR
variable {l : Launch} {G : gG} {d : Nat} {Q : Option Value → gH → Prop} {h h0 : gH} {lk sp : Nat} {cd : Option Nat} {A F : qT} {T b c bo w B : Nat} {x x' y y' : Nat → Int32}
theorem FC.keep (hB : B ≤ 6) (e2 : x' 2 = nI (T + 1)) (es : x' (27 + T % 40) = nI (fH F * 1024 + b * 128 + c * 2 + w)) (e : ∀ j, j ≠ 2 → j ≠ 27 + T % 40 → x' j = x j) (q : FC B F T x) : FC B (fkp F b c w) (T + 1) x' := by
  obtain ⟨q1, q2, q3, q4, q5, q6⟩ := q
  have hT : T % 40 < 40 := Nat.mod_lt _ (by decide)
  refine ⟨?_, ?_, e2, ?_, fun b' hb' => ?_, fun i hi => ?_⟩
  · rw [e 0 (by decide) (by omega)]; exact q1
  · rw [e 1 (by decide) (by omega)]; exact q2
  · rw [fkp_n, q4]; omega
  · rw [e _ (by omega) (by omega), e _ (by omega) (by omega), e _ (by omega) (by omega), e _ (by omega) (by omega)]
    exact q5 b' hb'
  · rw [fkp_n] at hi ⊢
    have ex : ∀ p, 5 ≤ p → p ≤ 8 → fkp F b c w p i = (if fN F < 40 then (if i = fN F then knw F b c w p else F p i) else (if i = 39 then knw F b c w p else F p (i + 1))) := fun p h5 h8 => fkp_e h5 h8 i
    show x' _ = nI (fkp F b c w 5 i * 1024 + fkp F b c w 6 i * 128 + fkp F b c w 7 i * 2 + fkp F b c w 8 i)
    rw [ex 5 (by decide) (by decide), ex 6 (by decide) (by decide), ex 7 (by decide) (by decide), ex 8 (by decide) (by decide)]
    by_cases hn : fN F < 40
    · have hT4 : fN F = T := by omega
      simp only [if_pos hn]
      by_cases ei : i = fN F
      · simp only [if_pos ei]
        rw [show 27 + (T + 1 - min 40 (fN F + 1) + i) % 40 = 27 + T % 40 by omega]
        exact es
      · simp only [if_neg ei]
        rw [show 27 + (T + 1 - min 40 (fN F + 1) + i) % 40 = 27 + (T - fN F + i) % 40 by omega, e _ (by omega) (by omega)]
        exact q6 i (by omega)
    · have h40 : fN F = 40 := by omega
      simp only [if_neg hn]
      by_cases ei : i = 39
      · simp only [if_pos ei]
        rw [show 27 + (T + 1 - min 40 (fN F + 1) + i) % 40 = 27 + T % 40 by omega]
        exact es
      · simp only [if_neg ei]
        rw [show 27 + (T + 1 - min 40 (fN F + 1) + i) % 40 = 27 + (T - fN F + (i + 1)) % 40 by omega, e _ (by omega) (by omega)]
        exact q6 (i + 1) (by omega)
theorem nI_or (a b : Nat) : nI a ||| nI b = nI (a ||| b) := by
  apply Int32.toBitVec_inj.mp
  simp [nI, Int32.toBitVec_or, BitVec.ofNat_or]
theorem n_or {a b k : Nat} (hb : b < 2 ^ k) : a * 2 ^ k ||| b = a * 2 ^ k + b := by
  rw [Nat.mul_comm, Nat.two_pow_add_eq_or_of_lt hb]
theorem pack {H : Nat} (hH : H ≤ 999) (hb : b < 8) (hc : c < 64) (hw : w ≤ 1) : (((nI H <<< (10 &&& 31)) ||| (nI b <<< (7 &&& 31))) ||| (nI c <<< (1 &&& 31))) ||| nI w = nI (H * 1024 + b * 128 + c * 2 + w) := by
  rw [pk_shlN (10 &&& 31) 10 (by decide) (by omega), pk_shlN (7 &&& 31) 7 (by decide) (by omega), pk_shlN (1 &&& 31) 1 (by decide) (by omega), nI_or, nI_or, nI_or]
  have e1 : H * 2 ^ 10 ||| b * 2 ^ 7 = (H * 8 + b) * 2 ^ 7 := by rw [n_or (by omega)]; omega
  have e2 : (H * 8 + b) * 2 ^ 7 ||| c * 2 ^ 1 = ((H * 8 + b) * 64 + c) * 2 ^ 1 := by rw [n_or (by omega)]; omega
  have e3 : ((H * 8 + b) * 64 + c) * 2 ^ 1 ||| w = ((H * 8 + b) * 64 + c) * 2 ^ 1 + w := by rw [n_or (by omega)]
  rw [e1, e2, e3]
  congr 1
  omega
theorem c_keep (hw : gWf h lk sp cd) (k : KC A F T lk h) (hb : b < 6) (hc : c < 48) (hw1 : w ≤ 1) (hq : ∀ h', gEq [7] h h' → FC (qB A) (fkp F b c w) (T + 1) (h'.1 7) → Q none h') : gC l G d MX2_keep [.ref 6, .int (nI b), .int (nI c), .int (nI w)] h Q := by
  have ht := k.t
  have hm : T % 40 < 40 := Nat.mod_lt _ (by decide)
  have e1 : h.1 7 2 - h.1 7 2 / 40 * 40 = nI (T % 40) := by rw [k.x.2.2.1, lit 40, pk_rem (by omega) (by decide) (by decide)]
  have e27 : (27 : Int32) + nI (T % 40) = nI (27 + T % 40) := nI_add 27 _
  refine eX2_keep hw ?_
  rw [e1, e27, nI_clamp (by omega), k.x.1, pack k.f.1 (by omega) (by omega) hw1]
  refine bN (nI_pos (by omega)) ⟨vp_in_nI (by omega) (by decide), ?_⟩
  rw [sI_nb (by omega), k.x.2.2.1, nI_1]
  refine hq _ (gE1 (List.mem_singleton.mpr rfl) (gEq.sI _ _ _ _)) (FC.keep k.g.B6 (sI_s _ _ _ _) ?_ (fun j h1 h2 => ?_) k.x)
  · rw [sI_nb (by omega), sI_s]
  · rw [sI_nb h1, sI_nb h2]
theorem FM.keep (e0 : ∀ j, j < 26 → y' j = y j) (hB : B ≤ 6) (e26 : y' 26 = nI (min 40 (fN F + 1))) (ek : ∀ i, i < min 40 (fN F + 1) → ∀ p, p < 4 → y' (27 + 4 * i + p) = nI (fkp F b c w (5 + p) i)) (q : FM B F y) : FM B (fkp F b c w) y' := by
  obtain ⟨q1, q2, q3, q4, q5⟩ := q
  refine ⟨by rw [e0 0 (by decide)]; exact q1, by rw [e0 1 (by decide)]; exact q2, by rw [fkp_n]; exact e26, fun b' hb' => ?_, fun i hi => ?_⟩
  · rw [e0 _ (by omega), e0 _ (by omega), e0 _ (by omega), e0 _ (by omega)]
    exact q4 b' hb'
  · rw [fkp_n] at hi
    exact ⟨ek i hi 0 (by decide), ek i hi 1 (by decide), ek i hi 2 (by decide), ek i hi 3 (by decide)⟩
/-- m of the places are shifted -/
def SHp (h0 h : gH) (m : Nat) : Prop := gEq [133] h0 h ∧ ∀ j, h.1 133 j = if 27 ≤ j ∧ j < 27 + m then h0.1 133 (j + 4) else h0.1 133 j
theorem m_isKept (hw : gWf h lk sp cd) (k : KM A F h) (hw1 : w ≤ 1) (hq : ∀ h', gEq [133] h h' → FM (qB A) (fkp F b c w) (h'.1 133) → Q none h') : gC l G d MX12_isKept [.ref 82, .int (nI b), .int (nI c), .int (nI w)] h Q := by
  have h40 := k.f.2.2.1
  have e26 := k.y.2.2.1
  have hwz : ∀ {P : Int32 → Prop}, P (nI w) → (nI w = 0 → P 0) ∧ (¬ nI w = 0 → P 1) := fun {P} q => by
    have : w = 0 ∨ w = 1 := by omega
    rcases this with e | e <;> subst e
    · exact ⟨fun _ => q, fun z => absurd rfl z⟩
    · exact ⟨fun z => absurd z (by decide), fun _ => q⟩
  refine eX12_isKept hw (fun p e s m args below meth cc => ?_)
  rw [e26]
  refine ⟨fun z => ?_, fun z => ?_⟩
  · have hn : fN F < 40 := by
      have : fN F ≠ 40 := fun e => z (by rw [e]; rfl)
      omega
    have ei : (27 : Int32) + 4 * (nI (fN F) + 1) - 4 = nI (27 + 4 * fN F) := by
      rw [nI_1, lit 27, lit 4, pk_mul, nI_add, pk_sub (by omega)]
      congr 1
    have i1 : nI (27 + 4 * fN F) + 1 = nI (27 + 4 * fN F + 1) := nI_1 _
    have i2 : nI (27 + 4 * fN F) + 2 = nI (27 + 4 * fN F + 2) := nI_add _ 2
    have i3 : nI (27 + 4 * fN F) + 3 = nI (27 + 4 * fN F + 3) := nI_add _ 3
    rw [ei, i1, i2, i3, nI_clamp (show 27 + 4 * fN F < 2 ^ 31 by omega), nI_clamp (show 27 + 4 * fN F + 1 < 2 ^ 31 by omega), nI_clamp (show 27 + 4 * fN F + 2 < 2 ^ 31 by omega), nI_clamp (show 27 + 4 * fN F + 3 < 2 ^ 31 by omega), k.y.1, nI_1]
    have fin : Q none (sI (sI (sI (sI (sI h 133 26 (nI (fN F + 1))) 133 (27 + 4 * fN F) (nI (fH F))) 133 (27 + 4 * fN F + 1) (nI b)) 133 (27 + 4 * fN F + 2) (nI c)) 133 (27 + 4 * fN F + 3) (nI w)) := by
      refine hq _ ?_ (FM.keep (fun j hj => ?_) k.g.B6 ?_ (fun i hi p hp => ?_) k.y)
      · repeat (refine gE1 (List.mem_singleton.mpr rfl) ?_)
        exact gEq.rf _ _
      · rw [sI_nb (by omega), sI_nb (by omega), sI_nb (by omega), sI_nb (by omega), sI_nb (by omega)]
      · rw [sI_nb (by omega), sI_nb (by omega), sI_nb (by omega), sI_nb (by omega), sI_s, show min 40 (fN F + 1) = fN F + 1 by omega]
      · rw [fkp_e (by omega) (by omega), if_pos hn]
        by_cases e9 : i = fN F
        · subst e9
          rw [if_pos rfl]
          have : p = 0 ∨ p = 1 ∨ p = 2 ∨ p = 3 := by omega
          rcases this with e | e | e | e <;> subst e
          · rw [sI_nb (by omega), sI_nb (by omega), sI_nb (by omega)]; exact sI_s _ _ _ _
          · rw [sI_nb (by omega), sI_nb (by omega), sI_s]; rfl
          · rw [sI_nb (by omega), sI_s]; rfl
          · rw [sI_s]; rfl
        · rw [if_neg e9, sI_nb (by omega), sI_nb (by omega), sI_nb (by omega), sI_nb (by omega), sI_nb (by omega)]
          obtain ⟨r0, r1, r2, r3⟩ := k.y.2.2.2.2 i (by omega)
          have : p = 0 ∨ p = 1 ∨ p = 2 ∨ p = 3 := by omega
          rcases this with e | e | e | e <;> subst e
          · exact r0
          · exact r1
          · exact r2
          · exact r3
    exact ⟨vp_in_nI (by omega) (by decide), vp_in_nI (by omega) (by decide), vp_in_nI (by omega) (by decide), hwz (P := fun v => vp_in (nI (27 + 4 * fN F + 3)) 187 ∧ Q none (sI (sI (sI (sI (sI h 133 26 (nI (fN F + 1))) 133 (27 + 4 * fN F) (nI (fH F))) 133 (27 + 4 * fN F + 1) (nI b)) 133 (27 + 4 * fN F + 2) (nI c)) 133 (27 + 4 * fN F + 3) v)) ⟨vp_in_nI (by omega) (by decide), fin⟩⟩
  · have hn : fN F = 40 := (nI_eq (b := 40) (by omega) (by decide)).mp z
    suffices H : ∀ r m' h', m' + r = 156 → SHp h h' m' → gg p l e s m args below meth cc G d MX12_isKept Q 16 [some (.ref 82), some (.int (nI b)), some (.int (nI c)), some (.int (nI w)), some (.int (nI (27 + m')))] [] h' from H 156 0 h (by omega) ⟨gEq.rf _ _, fun j => by rw [if_neg (by omega)]⟩
    intro r
    induction r with
    | zero =>
      intro m' h' hm t
      have : m' = 156 := by omega
      subst this
      obtain ⟨t1, t2⟩ := t
      have hwh := hw.eq t1
      have f26 : h'.1 133 26 = nI 40 := by rw [t2, if_neg (by omega), e26, hn]
      have f0 : h'.1 133 0 = nI (fH F) := by rw [t2, if_neg (by omega)]; exact k.y.1
      refine wX12_isKept_16 hwh.1 hwh.2.1 hwh.2.2.1 (bY (Int32.le_refl _) ?_)
      rw [f26, f0]
      have ei : (27 : Int32) + 4 * nI 40 - 4 = nI 183 := by decide
      have i1 : nI 183 + 1 = nI 184 := by decide
      have i2 : nI 183 + 2 = nI 185 := by decide
      have i3 : nI 183 + 3 = nI 186 := by decide
      rw [ei, i1, i2, i3, nI_clamp (show 183 < 2 ^ 31 by decide), nI_clamp (show 184 < 2 ^ 31 by decide), nI_clamp (show 185 < 2 ^ 31 by decide), nI_clamp (show 186 < 2 ^ 31 by decide)]
      have fin : Q none (sI (sI (sI (sI h' 133 183 (nI (fH F))) 133 184 (nI b)) 133 185 (nI c)) 133 186 (nI w)) := by
        refine hq _ ?_ (FM.keep (fun j hj => ?_) k.g.B6 ?_ (fun i hi p hp => ?_) k.y)
        · repeat (refine gE1 (List.mem_singleton.mpr rfl) ?_)
          exact t1
        · rw [sI_nb (by omega), sI_nb (by omega), sI_nb (by omega), sI_nb (by omega), t2, if_neg (by omega)]
        · rw [sI_nb (by omega), sI_nb (by omega), sI_nb (by omega), sI_nb (by omega), f26, show min 40 (fN F + 1) = 40 by omega]
        · rw [fkp_e (by omega) (by omega), if_neg (by omega)]
          by_cases e9 : i = 39
          · subst e9
            rw [if_pos rfl]
            have : p = 0 ∨ p = 1 ∨ p = 2 ∨ p = 3 := by omega
            rcases this with e | e | e | e <;> subst e
            · rw [sI_nb (by omega), sI_nb (by omega), sI_nb (by omega)]; exact sI_s _ _ _ _
            · rw [sI_nb (by omega), sI_nb (by omega)]; exact sI_s _ _ _ _
            · rw [sI_nb (by omega)]; exact sI_s _ _ _ _
            · exact sI_s _ _ _ _
          · rw [if_neg e9, sI_nb (by omega), sI_nb (by omega), sI_nb (by omega), sI_nb (by omega), t2, if_pos (by omega), show 27 + 4 * i + p + 4 = 27 + 4 * (i + 1) + p by omega]
            obtain ⟨r0, r1, r2, r3⟩ := k.y.2.2.2.2 (i + 1) (by omega)
            have : p = 0 ∨ p = 1 ∨ p = 2 ∨ p = 3 := by omega
            rcases this with e | e | e | e <;> subst e
            · exact r0
            · exact r1
            · exact r2
            · exact r3
      exact ⟨vp_in_nI (by omega) (by decide), vp_in_nI (by omega) (by decide), vp_in_nI (by omega) (by decide), hwz (P := fun v => vp_in (nI 186) 187 ∧ Q none (sI (sI (sI (sI h' 133 183 (nI (fH F))) 133 184 (nI b)) 133 185 (nI c)) 133 186 v)) ⟨vp_in_nI (by omega) (by decide), fin⟩⟩
    | succ r ih =>
      intro m' h' hm t
      obtain ⟨t1, t2⟩ := t
      have hwh := hw.eq t1
      have e4 : nI (27 + m') + 4 = nI (27 + m' + 4) := nI_add _ 4
      refine wX12_isKept_16 hwh.1 hwh.2.1 hwh.2.2.1 (bN (nI_ge (b := 183) (by omega) (by decide)) ?_)
      rw [e4, nI_clamp (by omega), nI_clamp (by omega), nI_1, Nat.add_assoc 27 m' 1]
      refine ⟨vp_in_nI (by omega) (by decide), vp_in_nI (by omega) (by decide), ih (m' + 1) _ (by omega) ⟨gE1 (List.mem_singleton.mpr rfl) t1, fun j => ?_⟩⟩
      by_cases e9 : j = 27 + m'
      · subst e9
        rw [sI_s, if_pos (by omega), t2, if_neg (by omega)]
      · rw [sI_nb e9, t2 j]
        by_cases e8 : 27 ≤ j ∧ j < 27 + m'
        · rw [if_pos e8, if_pos (by omega)]
        · rw [if_neg e8, if_neg (by omega)]
theorem FG.cell (hc : qW A c) (q : fG A F) : fG A (fupd F 1 b c) := by
  refine ⟨q.1, q.2.1, q.2.2.1, fun b' hb' => ?_, q.2.2.2.2⟩
  obtain ⟨r1, r2, r3, r4, r5⟩ := q.2.2.2.1 b' hb'
  show fupd F 1 b c 1 b' < qN A ∧ qkd A (fupd F 1 b c 1 b') ≠ 4 ∧ _
  by_cases z : b' = b
  · subst z; rw [fupd_s]; exact ⟨hc.1, hc.2, r3, r4, r5⟩
  · rw [fupd_j z]; exact ⟨r1, r2, r3, r4, r5⟩
theorem FG.balk {v : Nat} (hv : v ≤ 99) (q : fG A F) : fG A (fupd F 3 b v) := by
  refine ⟨q.1, q.2.1, q.2.2.1, fun b' hb' => ?_, q.2.2.2.2⟩
  obtain ⟨r1, r2, r3, r4, r5⟩ := q.2.2.2.1 b' hb'
  refine ⟨r1, r2, r3, ?_, r5⟩
  show fupd F 3 b v 3 b' ≤ 99
  by_cases z : b' = b
  · subst z; rw [fupd_s]; exact hv
  · rw [fupd_j z]; exact r4
theorem FG.keep (hb : b < 6) (hc : c < 48) (hw1 : w ≤ 1) (q : fG A F) : fG A (fkp F b c w) := by
  refine ⟨q.1, q.2.1, by rw [fkp_n]; exact Nat.min_le_left _ _, fun b' hb' => q.2.2.2.1 b' hb', fun i hi => ?_⟩
  rw [fkp_n] at hi
  show fkp F b c w 5 i ≤ 999 ∧ fkp F b c w 6 i < 6 ∧ fkp F b c w 7 i < 48 ∧ fkp F b c w 8 i ≤ 1
  rw [fkp_e (by decide) (by decide), fkp_e (by decide) (by decide), fkp_e (by decide) (by decide), fkp_e (by decide) (by decide)]
  have hN := q.2.2.1
  by_cases hn : fN F < 40
  · simp only [if_pos hn]
    by_cases ei : i = fN F
    · simp only [if_pos ei]; exact ⟨q.1, hb, hc, hw1⟩
    · simp only [if_neg ei]; exact q.2.2.2.2 i (by omega)
  · simp only [if_neg hn]
    by_cases ei : i = 39
    · simp only [if_pos ei]; exact ⟨q.1, hb, hc, hw1⟩
    · simp only [if_neg ei]; exact q.2.2.2.2 (i + 1) (by omega)
theorem ftr_g (g : qG A) (q : fG A F) (hb : b < qB A) (hc : qW A c) : fG A (ftr A F b c bo) := by
  have h6 := g.B6
  have h48 := g.N48
  have hc1 := hc.1
  have hl := lrn_le (c := c) (bo := bo) q hb
  unfold ftr
  split
  · exact FG.keep (by omega) (by omega) (by decide) (FG.cell hc (FG.trust hl q))
  · exact FG.keep (by omega) (by omega) (by decide) (FG.balk (Nat.min_le_left _ _) (FG.trust hl q))
theorem c_attempt (hw : gWf h lk sp cd) (k : KC A F T lk h) (hT : T + 1 ≤ 153600) (hb : b < qB A) (hc : qW A c) (hbo : bo ≤ 100) (hq : ∀ h', gEq [7, 45, 46, 48] h h' → KC A (ftr A F b c bo) (T + 1) lk h' → Q (some (.int (if fer A F b c bo ≤ ft F b then 1 else 0))) h') : gC l G (d + 5) MX9_attempt [.ref 29, .int (nI b), .int (nI c), .int (nI bo - 1)] h Q := by
  have h6 := k.g.B6
  have h48 := k.g.N48
  have hc1 := hc.1
  have hl := lrn_le (c := c) (bo := bo) k.f hb
  have fl := fer_le (A := A) (F := F) (b := b) (c := c) (bo := bo) k.g
  have tl := (k.f.2.2.2.1 b hb).2.2.1
  have bl := (k.f.2.2.2.1 b hb).2.2.2.1
  refine eX9_attempt hw (c_fearOf hw k hb hc.1 hbo (fun h1 e1 => ⟨_, rfl, e1.2, ?_⟩))
  have k1 : KC A F T lk h1 := k.eq hw e1 (fun x hx => by simp at hx; omega)
  have hw1 := hw.eq e1
  refine c_trustOf hw1 k1 hb ⟨_, rfl, rfl, ?_⟩
  rw [nI_ltI (by omega) (by omega)]
  refine ⟨fun z => ?_, fun z => ?_⟩
  · refine c_trustAfter hw1 k1 hb hc.1 hbo (fun h2 e2 => ⟨_, rfl, e2.2, ?_⟩)
    have k2 : KC A F T lk h2 := k1.eq hw1 e2 (fun x hx => by simp at hx; omega)
    have hw2 := hw1.eq e2
    refine c_setTrustN hw2 k2 hb (by omega) ⟨rfl, rfl, ?_⟩
    rw [Nat.min_eq_left hl]
    have f3 : FC (qB A) (fupd F 2 b (lrn A F b c bo)) T ((sI h2 7 (9 + b) (nI (lrn A F b c bo))).1 7) := FC.trust hb h6 (fun j hj => sI_nb hj) (sI_s _ _ _ _) k2.x
    have e3 : gEq [7] h2 (sI h2 7 (9 + b) (nI (lrn A F b c bo))) := gEq.sI _ _ _ _
    generalize sI h2 7 (9 + b) (nI (lrn A F b c bo)) = h3 at f3 e3 ⊢
    have k3 : KC A (fupd F 2 b (lrn A F b c bo)) T lk h3 := ⟨k.g, k2.l.eq hw2 e3 (fun x hx => by simp at hx; omega), FG.trust hl k.f, f3, by rw [(e3.1 6 (by decide)).1]; exact k2.b, k.t⟩
    have hw3 := hw2.eq e3
    have e15 : (15 : Int32) + nI b = nI (15 + b) := nI_add 15 b
    refine eX2_balk hw3 (c_isBoat2_y hw3 k3 hb ⟨_, rfl, rfl, bN (by decide) ?_⟩)
    rw [e15, nI_clamp (by omega), (k3.x.bt b hb).2.2.1, nI_1, lit 99, i_min (by show fb F b + 1 < _; omega) (by decide)]
    refine ⟨vp_in_nI (by omega) (by decide), vp_in_nI (by omega) (by decide), rfl, rfl, ?_⟩
    have em : min (fb (fupd F 2 b (lrn A F b c bo)) b + 1) 99 = min 99 (fb F b + 1) := Nat.min_comm _ _
    rw [em]
    have f4 : FC (qB A) (fupd (fupd F 2 b (lrn A F b c bo)) 3 b (min 99 (fb F b + 1))) T ((sI h3 7 (15 + b) (nI (min 99 (fb F b + 1)))).1 7) := FC.balk hb h6 (fun j hj => sI_nb hj) (sI_s _ _ _ _) k3.x
    have e4 : gEq [7] h3 (sI h3 7 (15 + b) (nI (min 99 (fb F b + 1)))) := gEq.sI _ _ _ _
    generalize sI h3 7 (15 + b) (nI (min 99 (fb F b + 1))) = h4 at f4 e4 ⊢
    have k4 : KC A (fupd (fupd F 2 b (lrn A F b c bo)) 3 b (min 99 (fb F b + 1))) T lk h4 := ⟨k.g, k3.l.eq hw3 e4 (fun x hx => by simp at hx; omega), FG.balk (Nat.min_le_left _ _) k3.f, f4, by rw [(e4.1 6 (by decide)).1]; exact k3.b, k.t⟩
    have hw4 := hw3.eq e4
    refine c_keep (w := 0) hw4 k4 (by omega) (by omega) (by decide) (fun h5 e5 f5 => ⟨rfl, e5.2, ?_⟩)
    have eF : ftr A F b c bo = fkp (fupd (fupd F 2 b (lrn A F b c bo)) 3 b (min 99 (fb F b + 1))) b c 0 := if_neg (by omega)
    have hq := hq h5 (((((e1.tr e2).tr e3).tr e4).tr e5).mono (fun x hx => by simp at hx ⊢; omega)) ⟨k.g, k4.l.eq hw4 e5 (fun x hx => by simp at hx; omega), ftr_g k.g k.f hb hc, by rw [eF]; exact f5, by rw [(e5.1 6 (by decide)).1]; exact k4.b, hT⟩
    rw [if_neg (by omega)] at hq
    exact hq
  · refine c_trustAfter hw1 k1 hb hc.1 hbo (fun h2 e2 => ⟨_, rfl, e2.2, ?_⟩)
    have k2 : KC A F T lk h2 := k1.eq hw1 e2 (fun x hx => by simp at hx; omega)
    have hw2 := hw1.eq e2
    refine c_setTrustN hw2 k2 hb (by omega) ⟨rfl, rfl, ?_⟩
    rw [Nat.min_eq_left hl]
    have f3 : FC (qB A) (fupd F 2 b (lrn A F b c bo)) T ((sI h2 7 (9 + b) (nI (lrn A F b c bo))).1 7) := FC.trust hb h6 (fun j hj => sI_nb hj) (sI_s _ _ _ _) k2.x
    have e3 : gEq [7] h2 (sI h2 7 (9 + b) (nI (lrn A F b c bo))) := gEq.sI _ _ _ _
    generalize sI h2 7 (9 + b) (nI (lrn A F b c bo)) = h3 at f3 e3 ⊢
    have k3 : KC A (fupd F 2 b (lrn A F b c bo)) T lk h3 := ⟨k.g, k2.l.eq hw2 e3 (fun x hx => by simp at hx; omega), FG.trust hl k.f, f3, by rw [(e3.1 6 (by decide)).1]; exact k2.b, k.t⟩
    have hw3 := hw2.eq e3
    have ec : (3 : Int32) + nI b = nI (3 + b) := nI_add 3 b
    refine eX2_move hw3 (c_isBoat2_y hw3 k3 hb ⟨_, rfl, rfl, bN (by decide) ?_⟩)
    rw [ec, nI_clamp (by omega)]
    refine ⟨vp_in_nI (by omega) (by decide), rfl, rfl, ?_⟩
    have f4 : FC (qB A) (fupd (fupd F 2 b (lrn A F b c bo)) 1 b c) T ((sI h3 7 (3 + b) (nI c)).1 7) := FC.cell hb h6 (fun j hj => sI_nb hj) (sI_s _ _ _ _) k3.x
    have e4 : gEq [7] h3 (sI h3 7 (3 + b) (nI c)) := gEq.sI _ _ _ _
    generalize sI h3 7 (3 + b) (nI c) = h4 at f4 e4 ⊢
    have k4 : KC A (fupd (fupd F 2 b (lrn A F b c bo)) 1 b c) T lk h4 := ⟨k.g, k3.l.eq hw3 e4 (fun x hx => by simp at hx; omega), FG.cell hc k3.f, f4, by rw [(e4.1 6 (by decide)).1]; exact k3.b, k.t⟩
    have hw4 := hw3.eq e4
    refine c_keep (w := 1) hw4 k4 (by omega) (by omega) (by decide) (fun h5 e5 f5 => ⟨rfl, e5.2, ?_⟩)
    have eF : ftr A F b c bo = fkp (fupd (fupd F 2 b (lrn A F b c bo)) 1 b c) b c 1 := if_pos (by omega)
    have hq := hq h5 (((((e1.tr e2).tr e3).tr e4).tr e5).mono (fun x hx => by simp at hx ⊢; omega)) ⟨k.g, k4.l.eq hw4 e5 (fun x hx => by simp at hx; omega), ftr_g k.g k.f hb hc, by rw [eF]; exact f5, by rw [(e5.1 6 (by decide)).1]; exact k4.b, hT⟩
    rw [if_pos (by omega)] at hq
    exact hq
/-- what the model's tries leave alone -/
def MT (h0 h : gH) : Prop := gEq [82, 131, 132, 133] h0 h ∧ (∀ j, j ≠ 66 → h.1 82 j = h0.1 82 j) ∧ h.2.1 82 = h0.2.1 82
theorem MT.rf : MT h h := ⟨gEq.rf _ _, fun _ _ => rfl, rfl⟩
theorem MT.tr {h1 h2 : gH} (a : MT h h1) (b : MT h1 h2) : MT h h2 := ⟨(a.1.tr b.1).mono (fun x hx => by simp at hx ⊢; omega), fun j hj => (b.2.1 j hj).trans (a.2.1 j hj), b.2.2.trans a.2.2⟩
theorem MT.of {h1 : gH} (e : gEq [133] h h1) : MT h h1 := ⟨e.mono (fun x hx => by simp at hx ⊢; omega), fun j hj => by rw [(e.1 82 (by decide)).1], (e.1 82 (by decide)).2⟩
theorem MT.mf {h1 : gH} (e : MF h h1) : MT h h1 := ⟨e.1.mono (fun x hx => by simp at hx ⊢; omega), e.2.1, e.2.2⟩
theorem LM.mt {h1 : gH} (k : LM A h) (e : MT h h1) : LM A h1 := k.cg (fun x hx => e.1.1 x (fun z => by simp at hx z; omega)) (e.2.1 58 (by decide))
theorem m_tries (hw : gWf h lk sp cd) (k : KM A F h) (hb : b < qB A) (hc : qW A c) (hbo : bo ≤ 100) (hq : ∀ h', MT h h' → KM A (ftr A F b c bo) h' → Q (some (.int (if fer A F b c bo ≤ ft F b then 1 else 0))) h') : gC l G (d + 7) MX12_tries [.ref 82, .int (nI b), .int (nI c), .int (nI bo - 1)] h Q := by
  have h6 := k.g.B6
  have h48 := k.g.N48
  have hc1 := hc.1
  have hl := lrn_le (c := c) (bo := bo) k.f hb
  have bl := (k.f.2.2.2.1 b hb).2.2.2.1
  have ei : ∀ p : Nat, (2 : Int32) + 4 * nI b + nI p = nI (2 + 4 * b + p) := fun p => by rw [lit 2, lit 4, pk_mul, nI_add, nI_add]
  have ei1 : (2 : Int32) + 4 * nI b + 1 = nI (2 + 4 * b + 1) := ei 1
  have ei2 : (2 : Int32) + 4 * nI b + 2 = nI (2 + 4 * b + 2) := ei 2
  have ei0 : (2 : Int32) + 4 * nI b = nI (2 + 4 * b) := by rw [lit 2, lit 4, pk_mul, nI_add]
  refine eX12_tries hw (m_wouldGo hw k hb hc hbo (fun h1 e1 z => ⟨_, rfl, e1.1.2, ?_⟩) (fun h1 e1 z => ⟨_, rfl, e1.1.2, ?_⟩))
  · have hw1 := hw.eq e1.1
    have k1 := k.mf e1
    refine m_learnt hw1 k1 hb hc hbo ⟨fun q => absurd q (by decide), fun q => absurd z q⟩ (fun h2 e2 => ⟨_, rfl, e2.1.2, ?_⟩)
    have hw2 := hw1.eq e2.1
    have k2 := k1.mf e2
    rw [ei1, nI_clamp (by omega)]
    refine ⟨vp_in_nI (by omega) (by decide), bN (by decide) ?_⟩
    rw [ei0, nI_clamp (by omega)]
    have f3 : FM (qB A) (fupd F 2 b (lrn A F b c bo)) ((sI h2 133 (2 + 4 * b + 1) (nI (lrn A F b c bo))).1 133) := FM.trust hb h6 (fun j hj => sI_nb hj) (sI_s _ _ _ _) k2.y
    have e3 : gEq [133] h2 (sI h2 133 (2 + 4 * b + 1) (nI (lrn A F b c bo))) := gEq.sI _ _ _ _
    generalize sI h2 133 (2 + 4 * b + 1) (nI (lrn A F b c bo)) = h3 at f3 e3 ⊢
    have f4 : FM (qB A) (fupd (fupd F 2 b (lrn A F b c bo)) 1 b c) ((sI h3 133 (2 + 4 * b) (nI c)).1 133) := FM.cell hb h6 (fun j hj => sI_nb hj) (sI_s _ _ _ _) f3
    have e4 : gEq [133] h3 (sI h3 133 (2 + 4 * b) (nI c)) := gEq.sI _ _ _ _
    generalize sI h3 133 (2 + 4 * b) (nI c) = h4 at f4 e4 ⊢
    have m4 : MT h h4 := (((MT.mf e1).tr (MT.mf e2)).tr (MT.of e3)).tr (MT.of e4)
    have k4 : KM A (fupd (fupd F 2 b (lrn A F b c bo)) 1 b c) h4 := ⟨k.g, k.l.mt m4, FG.cell hc (FG.trust hl k.f), f4⟩
    have hw4 := hw.eq m4.1
    refine ⟨vp_in_nI (by omega) (by decide), m_isKept (w := 1) hw4 k4 (by decide) (fun h5 e5 f5 => ⟨rfl, e5.2, Or.inr rfl, ?_⟩)⟩
    have eF : ftr A F b c bo = fkp (fupd (fupd F 2 b (lrn A F b c bo)) 1 b c) b c 1 := if_pos z
    have m5 := m4.tr (MT.of e5)
    have hq := hq h5 m5 ⟨k.g, k.l.mt m5, ftr_g k.g k.f hb hc, by rw [eF]; exact f5⟩
    rw [if_pos z] at hq
    exact hq
  · have hw1 := hw.eq e1.1
    have k1 := k.mf e1
    refine m_learnt hw1 k1 hb hc hbo ⟨fun _ => z, fun _ => rfl⟩ (fun h2 e2 => ⟨_, rfl, e2.1.2, ?_⟩)
    have hw2 := hw1.eq e2.1
    have k2 := k1.mf e2
    rw [ei1, nI_clamp (by omega)]
    refine ⟨vp_in_nI (by omega) (by decide), bY rfl ?_⟩
    have f3 : FM (qB A) (fupd F 2 b (lrn A F b c bo)) ((sI h2 133 (2 + 4 * b + 1) (nI (lrn A F b c bo))).1 133) := FM.trust hb h6 (fun j hj => sI_nb hj) (sI_s _ _ _ _) k2.y
    have e3 : gEq [133] h2 (sI h2 133 (2 + 4 * b + 1) (nI (lrn A F b c bo))) := gEq.sI _ _ _ _
    generalize sI h2 133 (2 + 4 * b + 1) (nI (lrn A F b c bo)) = h3 at f3 e3 ⊢
    have m3 : MT h h3 := ((MT.mf e1).tr (MT.mf e2)).tr (MT.of e3)
    have k3 : KM A (fupd F 2 b (lrn A F b c bo)) h3 := ⟨k.g, k.l.mt m3, FG.trust hl k.f, f3⟩
    have hw3 := hw.eq m3.1
    have eF : ftr A F b c bo = fkp (fupd (fupd F 2 b (lrn A F b c bo)) 3 b (min 99 (fb F b + 1))) b c 0 := if_neg z
    have fin : ∀ h4, gEq [133] h3 h4 → FM (qB A) (fupd (fupd F 2 b (lrn A F b c bo)) 3 b (min 99 (fb F b + 1))) (h4.1 133) → gC l G (d + 6) MX12_isKept [.ref 82, .int (nI b), .int (nI c), .int (nI 0)] h4 (rV fun h5 => h5.2.2 = h4.2.2 ∧ (((0 : Int32) = 0 ∨ (0 : Int32) = 1) ∧ Q (some (.int 0)) h5)) := fun h4 e4 f4 => by
      have m4 := m3.tr (MT.of e4)
      have k4 : KM A (fupd (fupd F 2 b (lrn A F b c bo)) 3 b (min 99 (fb F b + 1))) h4 := ⟨k.g, k.l.mt m4, FG.balk (Nat.min_le_left _ _) k3.f, f4⟩
      refine m_isKept (w := 0) (hw.eq m4.1) k4 (by decide) (fun h5 e5 f5 => ⟨rfl, e5.2, Or.inl rfl, ?_⟩)
      have m5 := m4.tr (MT.of e5)
      have hq := hq h5 m5 ⟨k.g, k.l.mt m5, ftr_g k.g k.f hb hc, by rw [eF]; exact f5⟩
      rw [if_neg z] at hq
      exact hq
    have eb : fb (fupd F 2 b (lrn A F b c bo)) b = fb F b := rfl
    refine m_balksOf hw3 k3 hb ⟨_, rfl, rfl, fun q => ?_, fun q => ?_⟩
    · have q := (nI_leI (a := 99) (by decide) (by rw [eb]; omega)).mp q
      rw [eb] at q
      refine fin h3 (gEq.rf _ _) ?_
      have e99 : min 99 (fb F b + 1) = fb F b := by omega
      have eq : fupd (fupd F 2 b (lrn A F b c bo)) 3 b (min 99 (fb F b + 1)) = fupd F 2 b (lrn A F b c bo) := by
        funext i j
        unfold fupd
        by_cases z1 : i = 3 ∧ j = b
        · rw [if_pos z1, if_neg (by omega), e99, z1.1, z1.2]; rfl
        · rw [if_neg z1]
      rw [eq]
      exact f3
    · have q := mt (nI_leI (a := 99) (by decide) (by rw [eb]; omega)).mpr q
      rw [eb] at q
      rw [ei2, nI_clamp (by omega), (k3.y.bt b hb).2.2.1, nI_1]
      refine ⟨vp_in_nI (by omega) (by decide), vp_in_nI (by omega) (by decide), fin _ (gEq.sI _ _ _ _) ?_⟩
      rw [show min 99 (fb F b + 1) = fb F b + 1 by omega]
      exact FM.balk hb h6 (fun j hj => sI_nb hj) (sI_s _ _ _ _) k3.y
end TR
