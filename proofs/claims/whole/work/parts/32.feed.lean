def byt (w : Int32) (j : Nat) : Int32 := (w >>> (nI (8 * (3 - j)) &&& 31)) &&& 255
def fsel (a b c d e : Int32) (i : Nat) : Int32 := if i < 4 then a else if i < 8 then b else if i < 12 then c else if i < 16 then d else e
def fby (a b c d e : Int32) (i : Nat) : Int32 := byt (fsel a b c d e i) (i % 4)
/-- k bytes of B behind the n that stood: of the reader; of the model -/
def TW (h0 h : gH) (n k : Nat) (B : Nat → Int32) : Prop := gEq [1, 2] h0 h ∧ h.1 1 2 = nI (n + k) ∧ (∀ j, j ≠ 2 → h.1 1 j = h0.1 1 j) ∧ (∀ i, h.1 2 i = if n ≤ i ∧ i < n + k then B (i - n) else h0.1 2 i) ∧ h.2.1 1 = h0.2.1 1 ∧ h.2.1 2 = h0.2.1 2
def MW (h0 h : gH) (n k : Nat) (B : Nat → Int32) : Prop := gEq [82, 83] h0 h ∧ h.1 82 1 = nI (n + k) ∧ (∀ j, j ≠ 1 → h.1 82 j = h0.1 82 j) ∧ (∀ i, h.1 83 i = if n ≤ i ∧ i < n + k then B (i - n) else h0.1 83 i) ∧ h.2.1 82 = h0.2.1 82 ∧ h.2.1 83 = h0.2.1 83
theorem TW.next {h0 h : gH} {n k : Nat} {B : Nat → Int32} {x : Int32} (t : TW h0 h n k B) (hx : x = B k) : TW h0 (sI (sI h 2 (n + k) x) 1 2 (nI (n + k) + 1)) n (k + 1) B := by
  obtain ⟨t1, t2, t3, t4, t5, t6⟩ := t
  subst hx
  refine ⟨?_, ?_, fun j hj => ?_, fun i => ?_, t5, t6⟩
  · have e := (t1.tr (gEq.sI h 2 (n + k) (B k))).tr (gEq.sI (sI h 2 (n + k) (B k)) 1 2 (nI (n + k) + 1))
    exact e.mono (fun k' hk' => by simp at hk' ⊢; omega)
  · rw [sI_s]
    exact nI_1 (n + k)
  · rw [sI_nb hj, sI_ne (by decide)]
    exact t3 j hj
  · rw [sI_ne (by decide)]
    by_cases e : i = n + k
    · subst e
      rw [sI_s, if_pos ⟨by omega, by omega⟩]
      congr 1
      omega
    · rw [sI_nb e, t4 i]
      by_cases e2 : n ≤ i ∧ i < n + k
      · rw [if_pos e2, if_pos ⟨e2.1, by omega⟩]
      · rw [if_neg e2, if_neg (by omega)]
theorem MW.next {h0 h : gH} {n k : Nat} {B : Nat → Int32} {x : Int32} (t : MW h0 h n k B) (hx : x = B k) : MW h0 (sI (sI h 83 (n + k) x) 82 1 (nI (n + k) + 1)) n (k + 1) B := by
  obtain ⟨t1, t2, t3, t4, t5, t6⟩ := t
  subst hx
  refine ⟨?_, ?_, fun j hj => ?_, fun i => ?_, t5, t6⟩
  · have e := (t1.tr (gEq.sI h 83 (n + k) (B k))).tr (gEq.sI (sI h 83 (n + k) (B k)) 82 1 (nI (n + k) + 1))
    exact e.mono (fun k' hk' => by simp at hk' ⊢; omega)
  · rw [sI_s]
    exact nI_1 (n + k)
  · rw [sI_nb hj, sI_ne (by decide)]
    exact t3 j hj
  · rw [sI_ne (by decide)]
    by_cases e : i = n + k
    · subst e
      rw [sI_s, if_pos ⟨by omega, by omega⟩]
      congr 1
      omega
    · rw [sI_nb e, t4 i]
      by_cases e2 : n ≤ i ∧ i < n + k
      · rw [if_pos e2, if_pos ⟨e2.1, by omega⟩]
      · rw [if_neg e2, if_neg (by omega)]
section FD
variable {p : Program} {l : Launch} {e : Env} {s : State} {m : MethodId} {args : Array Value} {below : List Frame} {meth : Method} {c : Code} {G : gG} {d : Nat} {Q : Option Value → gH → Prop} {h0 h : gH} {lk sp : Nat} {cd : Option Nat}
theorem wr_step {n k j : Nat} {w : Int32} {B : Nat → Int32} (hw : gWf h0 lk sp cd) (t : TW h0 h n k B) (hn : n + k < 1600) (hj : j < 4) (hB : B k = byt w j) (kk : ∀ h', TW h0 h' n (k + 1) B → gg p l e s m args below meth c G d MX5_write Q 3 [some (.ref 1), some (.int w), some (.int (nI (8 * (3 - j)) + (-8)))] [] h') : gg p l e s m args below meth c G d MX5_write Q 3 [some (.ref 1), some (.int w), some (.int (nI (8 * (3 - j))))] [] h := by
  have hwh := hw.eq t.1
  refine wX5_write_3 hwh.1 hwh.2.1 hwh.2.2.1 ?_
  have e := t.2.1
  refine ⟨fun q => absurd q (nI_pos (by omega)), fun _ => ⟨fun q => absurd q (by rw [e]; exact nI_pos (by omega)), fun _ => ⟨fun q => absurd q (by rw [e]; exact nI_ge hn (by decide)), fun _ => ⟨by rw [e]; exact vp_in_nI hn (by decide), ?_⟩⟩⟩⟩
  have e2 : (h.1 1 2).toNatClampNeg = n + k := by rw [e]; exact nI_clamp (by omega)
  rw [e2, e]
  exact kk _ (t.next hB.symm)
theorem c_write {n k : Nat} {w : Int32} {B : Nat → Int32} (hw : gWf h0 lk sp cd) (t : TW h0 h n k B) (hn : n + k + 4 ≤ 1600) (hB : ∀ j, j < 4 → B (k + j) = byt w j) (hq : ∀ h', TW h0 h' n (k + 4) B → Q none h') : gC l G d MX5_write [.ref 1, .int w] h Q := by
  refine eX5_write (hw.eq t.1) (fun p e s m args below meth c => ?_)
  refine wr_step (j := 0) hw t (by omega) (by decide) (hB 0 (by decide)) (fun h1 t1 => ?_)
  refine wr_step (j := 1) hw t1 (by omega) (by decide) (hB 1 (by decide)) (fun h2 t2 => ?_)
  refine wr_step (j := 2) hw t2 (by omega) (by decide) (hB 2 (by decide)) (fun h3 t3 => ?_)
  refine wr_step (j := 3) hw t3 (by omega) (by decide) (hB 3 (by decide)) (fun h4 t4 => ?_)
  have hwh := hw.eq t4.1
  refine wX5_write_3 hwh.1 hwh.2.1 hwh.2.2.1 ⟨fun _ => hq h4 t4, fun z => absurd (by decide) z⟩
theorem fshift : ∀ k, k < 20 → (8 * (3 - (nI k - nI k / 4 * 4)) : Int32) = nI (8 * (3 - k % 4)) := by decide +kernel
theorem m_feedL {n : Nat} {a1 a2 a3 a4 a5 : Int32} (hw : gWf h0 lk sp cd) (hn : n + 20 ≤ 1600) (hq : ∀ h', MW h0 h' n 20 (fby a1 a2 a3 a4 a5) → Q (some (.int (nI (n + 20)))) h') : ∀ (r k : Nat) (h : gH), k + r = 20 → MW h0 h n k (fby a1 a2 a3 a4 a5) → gg p l e s m args below meth c G d MX12_feed Q 28 [some (.ref 82), some (.int a1), some (.int a2), some (.int a3), some (.int a4), some (.int a5), some (.int (nI k)), none] [] h := by
  intro r
  induction r with
  | zero =>
    intro k h hk t
    have hk : k = 20 := by omega
    subst hk
    have hwh := hw.eq t.1
    refine wX12_feed_28 hwh.1 hwh.2.1 hwh.2.2.1 ⟨fun _ => by rw [t.2.1]; exact hq h t, fun z => absurd (nI_le (Nat.le_refl 20) (by decide)) z⟩
  | succ r ih =>
    intro k h hk t
    have hlt : k < 20 := by omega
    have hwh := hw.eq t.1
    have ee := t.2.1
    have e2 : (h.1 82 1).toNatClampNeg = n + k := by rw [ee]; exact nI_clamp (by omega)
    have hin : vp_in (h.1 82 1) 1600 := by rw [ee]; exact vp_in_nI (by omega) (by decide)
    have es : (8 * (3 - (nI k - nI k / 4 * 4)) : Int32) = nI (8 * (3 - k % 4)) := fshift k hlt
    have le4 : ∀ b : Nat, b ≤ 20 → (nI b ≤ nI k ↔ b ≤ k) := fun b hb => nI_leI (by omega) (by omega)
    have next : ∀ w : Int32, fsel a1 a2 a3 a4 a5 k = w → gg p l e s m args below meth c G d MX12_feed Q 28 [some (.ref 82), some (.int a1), some (.int a2), some (.int a3), some (.int a4), some (.int a5), some (.int (nI k + 1)), none] [] (sI (sI h 83 ((h.1 82 1) : Int32).toNatClampNeg ((w >>> ((8 * (3 - (nI k - nI k / 4 * 4))) &&& 31)) &&& 255)) 82 1 ((h.1 82 1) + 1)) := by
      intro w hw9
      rw [e2, ee, es, nI_1]
      refine ih (k + 1) _ (by omega) (t.next ?_)
      unfold fby
      rw [hw9]
      rfl
    refine wX12_feed_28 hwh.1 hwh.2.1 hwh.2.2.1 ⟨fun q => absurd q (nI_ge hlt (by decide)), fun _ => ⟨fun q => ⟨fun q2 => ⟨fun q3 => ⟨fun q4 => ⟨hin, next _ ?_⟩, fun q4 => ⟨hin, next _ ?_⟩⟩, fun q3 => ⟨hin, next _ ?_⟩⟩, fun q2 => ⟨hin, next _ ?_⟩⟩, fun q => ⟨hin, next _ ?_⟩⟩⟩
    · have h16 := (le4 16 (by decide)).mp q4
      unfold fsel
      rw [if_neg (by omega), if_neg (by omega), if_neg (by omega), if_neg (by omega)]
    · have h12 := (le4 12 (by decide)).mp q3
      have h16 := mt (le4 16 (by decide)).mpr q4
      unfold fsel
      rw [if_neg (by omega), if_neg (by omega), if_neg (by omega), if_pos (by omega)]
    · have h8 := (le4 8 (by decide)).mp q2
      have h12 := mt (le4 12 (by decide)).mpr q3
      unfold fsel
      rw [if_neg (by omega), if_neg (by omega), if_pos (by omega)]
    · have h4 := (le4 4 (by decide)).mp q
      have h8 := mt (le4 8 (by decide)).mpr q2
      unfold fsel
      rw [if_neg (by omega), if_pos (by omega)]
    · have h4 := mt (le4 4 (by decide)).mpr q
      unfold fsel
      rw [if_pos (by omega)]
end FD
theorem byt_lt (w : Int32) (j : Nat) : ∃ c, c < 256 ∧ byt w j = nI c := pk_andE _ (m := 255) 8 rfl
section ST3
variable {l : Launch} {G : gG} {Rst : Nat → gH → Prop}
theorem st_feed (hc : gCg Rst) : gStepI l G (gInv Rst) MX11_feed MX12_feed 5 := by
  intro n9 h av _ hl hi
  obtain ⟨a1, a2, a3, a4, a5, rfl⟩ := five_of hl
  obtain ⟨⟨lk, sp, cd, hw⟩, i2, i3, i4, ⟨⟨n, hn, hn1, hn2⟩, hby⟩, i6, i7⟩ := id hi
  have eadd : ∀ x : Int32, x = nI n → x + 20 = nI (n + 20) := fun x hx => by rw [hx]; exact nI_add n 20
  refine eX11_feed (d := 899) hw ⟨fun q => ?_, fun q => c_refuse 0 (by decide) hw ⟨_, rfl, rfl, _, rfl, ?_⟩⟩
  · rw [eadd _ hn1] at q
    have hle : n + 20 ≤ 1600 := (nI_leI (by omega) (by decide)).mp q
    have t0 : TW h h n 0 (fby a1 a2 a3 a4 a5) := ⟨gEq.rf _ _, hn1, fun _ _ => rfl, fun i => (if_neg (by omega)).symm, rfl, rfl⟩
    refine c_write hw t0 (by omega) (fun j hj => ?_) (fun h1 t1 => ⟨rfl, t1.1.2, ?_⟩)
    · unfold fby fsel
      rw [if_pos (by omega), show (0 + j) % 4 = j by omega]
    refine c_write hw t1 (by omega) (fun j hj => ?_) (fun h2 t2 => ⟨rfl, t2.1.2.trans t1.1.2.symm, ?_⟩)
    · unfold fby fsel
      rw [if_neg (by omega), if_pos (by omega), show (0 + 4 + j) % 4 = j by omega]
    refine c_write hw t2 (by omega) (fun j hj => ?_) (fun h3 t3 => ⟨rfl, t3.1.2.trans t2.1.2.symm, ?_⟩)
    · unfold fby fsel
      rw [if_neg (by omega), if_neg (by omega), if_pos (by omega), show (0 + 4 + 4 + j) % 4 = j by omega]
    refine c_write hw t3 (by omega) (fun j hj => ?_) (fun h4 t4 => ⟨rfl, t4.1.2.trans t3.1.2.symm, ?_⟩)
    · unfold fby fsel
      rw [if_neg (by omega), if_neg (by omega), if_neg (by omega), if_pos (by omega), show (0 + 4 + 4 + 4 + j) % 4 = j by omega]
    refine c_write hw t4 (by omega) (fun j hj => ?_) (fun h5 t5 => ⟨rfl, t5.1.2.trans t4.1.2.symm, _, rfl, ?_⟩)
    · unfold fby fsel
      rw [if_neg (by omega), if_neg (by omega), if_neg (by omega), if_neg (by omega), show (0 + 4 + 4 + 4 + 4 + j) % 4 = j by omega]
    have e5 : ∀ k, k ∉ [1, 2] → h5.1 k = h.1 k ∧ h5.2.1 k = h.2.1 k := t5.1.1
    have hm1 : h5.1 82 1 = nI n := by rw [(e5 82 (by decide)).1]; exact hn2
    refine eX12_feed (d := 900) (hw.eq t5.1) (fun p e s m args below meth c => ⟨fun _ => ?_, fun z => absurd (by rw [eadd _ hm1]; exact q) z⟩)
    have m0 : MW h5 h5 n 0 (fby a1 a2 a3 a4 a5) := ⟨gEq.rf _ _, hm1, fun _ _ => rfl, fun i => (if_neg (by omega)).symm, rfl, rfl⟩
    refine m_feedL (hw.eq t5.1) hle (fun h' mw => ⟨_, rfl, t5.2.1, ?_⟩) 20 0 h5 rfl m0
    have e6 : ∀ k, k ∉ [82, 83] → h'.1 k = h5.1 k ∧ h'.2.1 k = h5.2.1 k := mw.1.1
    have e7 : ∀ k, k ∉ [1, 2, 82, 83] → h'.1 k = h.1 k ∧ h'.2.1 k = h.2.1 k := fun k hk => by
      simp at hk
      obtain ⟨x1, x2⟩ := e6 k (by simp; omega)
      obtain ⟨y1, y2⟩ := e5 k (by simp; omega)
      exact ⟨x1.trans y1, x2.trans y2⟩
    have er : h'.2.2 = h.2.2 := mw.1.2.trans t5.1.2
    have e1j : ∀ j, j ≠ 2 → h'.1 1 j = h.1 1 j := fun j hj => by rw [(e6 1 (by decide)).1]; exact t5.2.2.1 j hj
    have e82 : ∀ j, j ≠ 1 → h'.1 82 j = h.1 82 j := fun j hj => by rw [mw.2.2.1 j hj, (e5 82 (by decide)).1]
    have el82 : h'.2.1 82 = h.2.1 82 := mw.2.2.2.2.1.trans (e5 82 (by decide)).2
    refine ⟨⟨lk, sp, cd, er.trans hw.1, hw.2⟩, fun i hi' => ?_, ?_, ?_, ⟨⟨n + 20, hle, ?_, mw.2.1⟩, fun i hi' => ?_⟩, ?_, hc _ h h' er (fun k hk => e7 k ?_) (fun j hj => e82 j ?_) ?_ ?_ i7⟩
    · rw [(e7 66 (by decide)).1, (e7 84 (by decide)).1]
      exact i2 i hi'
    · exact ⟨by rw [e1j 8 (by decide), e82 7 (by decide)]; exact i3.1, by rw [e1j 9 (by decide), e82 8 (by decide)]; exact i3.2⟩
    · obtain ⟨n', q1, q2, q3, q4⟩ := i4
      refine ⟨n', q1, by rw [(e7 0 (by decide)).1]; exact q2, by rw [e82 116 (by decide)]; exact q3, fun i hi9 => ?_⟩
      rw [(e7 65 (by decide)).1, (e7 167 (by decide)).1]
      exact q4 i hi9
    · rw [(e6 1 (by decide)).1]
      exact t5.2.1
    · rw [mw.2.2.2.1 i, (e6 2 (by decide)).1, t5.2.2.2.1 i]
      by_cases hin : n ≤ i ∧ i < n + 20
      · rw [if_pos hin, if_pos ⟨hin.1, by omega⟩]
        exact ⟨rfl, byt_lt _ _⟩
      · rw [if_neg hin, if_neg (by omega), (e5 83 (by decide)).1]
        exact hby i hi'
    · refine ⟨by rw [(e7 0 (by decide)).2, el82]; exact i6.1, ?_⟩
      rw [(e7 0 (by decide)).2]
      exact i6.2
    · intro hk9
      have : ∀ x, x ∈ [1, 2, 82, 83] → x ∉ gRc := by decide
      exact this k hk9 hk
    · rintro rfl
      revert hj
      decide
    · rw [(e7 58 (by decide)).1]
    · rw [(e7 58 (by decide)).1]
  · refine eX12_feed (d := 900) (hw.eq (gEq.sI h 66 0 _)) (fun p e s m args below meth c => ⟨fun z => absurd ?_ q, fun _ => ⟨_, rfl, rfl, ?_⟩⟩)
    · rw [sI_ne (by decide), eadd _ hn2] at z
      rw [eadd _ hn1]
      exact z
    · rw [sI_ne (by decide)]
      exact inv_ref hc 0 hi
end ST3
