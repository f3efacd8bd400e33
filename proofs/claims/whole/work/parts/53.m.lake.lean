section CT
variable {l : Launch} {G : gG} {d : Nat} {Q : Option Value → gH → Prop} {h h1 h2 : gH} {lk sp : Nat} {cd : Option Nat} {t : Nat → Nat} {n s i f q c b w z : Nat} {u : Bool} {L : qL}
/-- one statement -/
theorem c_readStatement (hw : gWf h lk sp cd) (hb : b = 30 ∨ b = 67) (tw : TWf t n) (tp : TPc t n h) (k : CTk t n s u h) (lc : LCp L c b h) (qp : qP L s) (c60 : c ≤ 60) (h0 : c = 0 → qR L.1 = 0 ∧ qB L.1 = 0)
    (hy : ∀ L' p' h' cd', StR t n (c = 0) L (s, u) (.ok (L', p')) → CK4s b h h' → gWf h' lk sp cd' → CTk t n p'.1 p'.2 h' → LCp L' c b h' → qP L' p'.1 → s < p'.1 → Q (some (.int 1)) h')
    (hn : ∀ f q h' cd', StR t n (c = 0) L (s, u) (.error (f, q)) → CK4f b f q h h' → gWf h' lk sp cd' → Q (some (.int 0)) h') : gC l G (d + 34) MX7_readStatement [.ref 5, .ref b] h Q := by
  have n16 := tw.1
  have sn := k.1
  have tk := tkk_lt (t := t) (n := n) (s := s) (b := u) tw.2
  refine eX7_readStatement hw hb (fun p e s9 m args below meth cc => ?_)
  have F35 : StR t n (c = 0) L (s, u) (.error (1, s)) → gg p l e s9 m args below meth cc G (d + 34) MX7_readStatement Q 35 [some (.ref 5), some (.ref b), none] [] h := fun er =>
    wX7_readStatement_35 hw.1 hw.2.1 hw.2.2.1 hb (c_failHere (d := d + 32) (f := 1) hw k.k4 (fun h1 e1 => ⟨_, rfl, e1.1.2, Or.inl rfl, hn 1 s h1 cd er (CFl.ck e1).k4 (hw.eq e1.1)⟩))
  rw [k.k3, (kI_w tk).1]
  refine ⟨fun z => F35 (by
    show (if tkk t n s u ≠ 1001 then _ else _)
    rw [if_pos z]), fun kw => ?_⟩
  obtain ⟨w0, w1, W, w3, w4⟩ := k.wd tw kw
  have gt := nx_gt (t := t) w0
  have inn : (isW t n 0 (s, u) ↔ c = 0) → ∀ o, StI t n L (s, u) o → StR t n (c = 0) L (s, u) o := fun a o r => by
    show (if tkk t n s u ≠ 1001 then _ else _)
    rw [if_neg (fun z => z kw)]
    exact Or.inr ⟨a, r⟩
  have M' : ¬ (isW t n 0 (s, u) ↔ c = 0) → ∀ y0 y1 : Int32, y1 ≠ y0 → gg p l e s9 m args below meth cc G (d + 34) MX7_readStatement Q 32 [some (.ref 5), some (.ref b), none] [.int y0, .int y1] h := fun a y0 y1 ne =>
    wX7_readStatement_32 hw.1 hw.2.1 hw.2.2.1 hb (bN ne (F35 (by
      show (if tkk t n s u ≠ 1001 then _ else _)
      rw [if_neg (fun z => z kw)]
      exact Or.inl ⟨a, rfl⟩)))
  have M : (isW t n 0 (s, u) ↔ c = 0) → ∀ y : Int32, gg p l e s9 m args below meth cc G (d + 34) MX7_readStatement Q 32 [some (.ref 5), some (.ref b), none] [.int y, .int y] h := by
    intro a y
    have iw : ∀ i, i < 40 → h.1 1 6 = nI i → isW t n i (s, u) := fun i hi x => ⟨kw, (W i hi).mp x⟩
    refine wX7_readStatement_32 hw.1 hw.2.1 hw.2.2.1 hb (bY rfl (c_many (d := d + 32) hw hb lc qp (by omega) (fun my => ⟨_, rfl, rfl, bN (by decide) (c_failHere (d := d + 32) (f := 5) hw k.k4 (fun h1 e1 => ⟨_, rfl, e1.1.2, Or.inl rfl, hn 5 s h1 cd (inn a _ ?_) (CFl.ck e1).k4 (hw.eq e1.1)⟩))⟩) (fun mn => ⟨_, rfl, rfl, bY rfl ?_⟩)))
    · rcases my with ⟨x, y⟩ | ⟨x, y⟩ | ⟨x, y⟩ | ⟨x, y⟩ | ⟨x, y⟩ | ⟨x, y⟩ | ⟨x, y⟩ | ⟨x, y⟩ | ⟨x, y⟩ | ⟨x, y⟩
      · exact Or.inr (Or.inl (⟨iw 1 (by decide) x, Or.inl ⟨y, rfl⟩⟩))
      · exact Or.inr (Or.inr (Or.inl (⟨iw 2 (by decide) x, Or.inl ⟨y, rfl⟩⟩)))
      · exact Or.inr (Or.inr (Or.inr (Or.inl (⟨iw 5 (by decide) x, Or.inl ⟨y, rfl⟩⟩))))
      · exact Or.inr (Or.inr (Or.inr (Or.inr (Or.inr (Or.inl (⟨0, by decide, iw 8 (by decide) x, Or.inl ⟨y, rfl⟩⟩))))))
      · exact Or.inr (Or.inr (Or.inr (Or.inr (Or.inr (Or.inl (⟨1, by decide, iw 9 (by decide) x, Or.inl ⟨y, rfl⟩⟩))))))
      · exact Or.inr (Or.inr (Or.inr (Or.inr (Or.inr (Or.inl (⟨2, by decide, iw 10 (by decide) x, Or.inl ⟨y, rfl⟩⟩))))))
      · exact Or.inr (Or.inr (Or.inr (Or.inr (Or.inr (Or.inl (⟨3, by decide, iw 11 (by decide) x, Or.inl ⟨y, rfl⟩⟩))))))
      · exact Or.inr (Or.inr (Or.inr (Or.inr (Or.inr (Or.inr (Or.inl (⟨0, by decide, iw 12 (by decide) x, Or.inl ⟨y, rfl⟩⟩)))))))
      · exact Or.inr (Or.inr (Or.inr (Or.inr (Or.inr (Or.inr (Or.inl (⟨1, by decide, iw 13 (by decide) x, Or.inl ⟨y, rfl⟩⟩)))))))
      · exact Or.inr (Or.inr (Or.inr (Or.inr (Or.inr (Or.inr (Or.inl (⟨2, by decide, iw 14 (by decide) x, Or.inl ⟨y, rfl⟩⟩)))))))
    · obtain ⟨m1, m2, m5, m8, m9, m10, m11, m12, m13, m14⟩ := mn
      refine ⟨fun x => ?_, fun x => ?_, fun x => ?_, fun x => ?_, fun x => ?_, fun x => ?_, fun x => ?_, fun x => ?_, fun x => ?_, fun x => ?_, fun x => ?_, fun x => ?_, fun x => ?_, fun n0 n1 n2 n5 n7 n8 n9 n10 n11 n12 n13 n14 n15 => ?_⟩
      · refine c_readColumns (d := d + 30) hw hb tw tp k (by omega) lc (h0 (a.mp (iw 0 (by decide) x))).1 (fun a' h' q e k' lc' => ⟨_, rfl, e.1.1.2, Or.inr rfl, hy _ _ h' cd (inn a _ (Or.inl (⟨iw 0 (by decide) x, bdR_ok q rfl⟩))) e.k4 (hw.eq e.1.1) k' lc' ?_ ?_⟩) (fun f q h' r e => ⟨_, rfl, e.1.1.2, Or.inl rfl, hn f q h' cd (inn a _ (Or.inl (⟨iw 0 (by decide) x, bdR_er r⟩))) e.k4 (hw.eq e.1.1)⟩)
        · have y1 := numF_b (v := a'.1) (p' := a'.2) q
          have y2 := numF_g (v := a'.1) (p' := a'.2) q
          have y2 : nx t n s < a'.2.1 := y2
          exact qp.cols y1.1 (by omega) (h0 (a.mp (iw 0 (by decide) x))).1 (h0 (a.mp (iw 0 (by decide) x))).2 (by omega)
        · have y2 := numF_g (v := a'.1) (p' := a'.2) q
          have y2 : nx t n s < a'.2.1 := y2
          omega
      · exact c_readRow (d := d + 28) hw hb tw tp k (by omega) lc qp.1 (m1 x) (fun L' p' h' r e k' lc' => ⟨_, rfl, e.1.1.2, Or.inr rfl, hy L' p' h' cd (inn a _ (Or.inr (Or.inl (⟨iw 1 (by decide) x, Or.inr ⟨m1 x, r⟩⟩)))) e.k4 (hw.eq e.1.1) k' lc' (roR_q tw gt r qp (m1 x)).1 (roR_q tw gt r qp (m1 x)).2⟩) (fun f q h' r e => ⟨_, rfl, e.1.1.2, Or.inl rfl, hn f q h' cd (inn a _ (Or.inr (Or.inl (⟨iw 1 (by decide) x, Or.inr ⟨m1 x, r⟩⟩)))) e.k4 (hw.eq e.1.1)⟩)
      · exact c_readBoat (d := d + 29) hw hb tw tp k (by omega) lc qp.1 (m2 x) (fun L' p' h' r e k' lc' => ⟨_, rfl, e.1.1.2, Or.inr rfl, hy L' p' h' cd (inn a _ (Or.inr (Or.inr (Or.inl (⟨iw 2 (by decide) x, Or.inr ⟨m2 x, r⟩⟩))))) e.k4 (hw.eq e.1.1) k' lc' (boR_q tw gt r qp (m2 x)).1 (boR_q tw gt r qp (m2 x)).2⟩) (fun f q h' r e => ⟨_, rfl, e.1.1.2, Or.inl rfl, hn f q h' cd (inn a _ (Or.inr (Or.inr (Or.inl (⟨iw 2 (by decide) x, Or.inr ⟨m2 x, r⟩⟩))))) e.k4 (hw.eq e.1.1)⟩)
      · exact c_readHand (d := d + 29) hw hb tw tp k (by omega) lc qp.1 (m5 x) (fun L' p' h' r e k' lc' => ⟨_, rfl, e.1.1.2, Or.inr rfl, hy L' p' h' cd (inn a _ (Or.inr (Or.inr (Or.inr (Or.inl (⟨iw 5 (by decide) x, Or.inr ⟨m5 x, r⟩⟩)))))) e.k4 (hw.eq e.1.1) k' lc' (haR_q tw gt r qp (m5 x)).1 (haR_q tw gt r qp (m5 x)).2⟩) (fun f q h' r e => ⟨_, rfl, e.1.1.2, Or.inl rfl, hn f q h' cd (inn a _ (Or.inr (Or.inr (Or.inr (Or.inl (⟨iw 5 (by decide) x, Or.inr ⟨m5 x, r⟩⟩)))))) e.k4 (hw.eq e.1.1)⟩)
      · exact c_readLikes (d := d + 29) hw hb tw tp k (by omega) lc qp.1 (fun L' p' h' r e k' lc' => ⟨_, rfl, e.1.1.2, Or.inr rfl, hy L' p' h' cd (inn a _ (Or.inr (Or.inr (Or.inr (Or.inr (Or.inl (⟨iw 7 (by decide) x, r⟩))))))) e.k4 (hw.eq e.1.1) k' lc' (liR_q gt r qp).1 (liR_q gt r qp).2⟩) (fun f q h' r e => ⟨_, rfl, e.1.1.2, Or.inl rfl, hn f q h' cd (inn a _ (Or.inr (Or.inr (Or.inr (Or.inr (Or.inl (⟨iw 7 (by decide) x, r⟩))))))) e.k4 (hw.eq e.1.1)⟩)
      · exact wX7_readStatement_178 hw.1 hw.2.1 hw.2.2.1 hb (c_readSky (kk := 0) (d := d + 29) hw hb tw tp k (by omega) lc qp.1 (m8 x) x (by decide) (fun L' p' h' r e k' lc' => ⟨_, rfl, e.1.1.2, Or.inr rfl, hy L' p' h' cd (inn a _ (Or.inr (Or.inr (Or.inr (Or.inr (Or.inr (Or.inl (⟨0, by decide, iw 8 (by decide) x, Or.inr ⟨m8 x, r⟩⟩)))))))) e.k4 (hw.eq e.1.1) k' lc' (skR_q gt r qp (m8 x) (by decide)).1 (skR_q gt r qp (m8 x) (by decide)).2⟩) (fun f q h' r e => ⟨_, rfl, e.1.1.2, Or.inl rfl, hn f q h' cd (inn a _ (Or.inr (Or.inr (Or.inr (Or.inr (Or.inr (Or.inl (⟨0, by decide, iw 8 (by decide) x, Or.inr ⟨m8 x, r⟩⟩)))))))) e.k4 (hw.eq e.1.1)⟩))
      · exact wX7_readStatement_178 hw.1 hw.2.1 hw.2.2.1 hb (c_readSky (kk := 1) (d := d + 29) hw hb tw tp k (by omega) lc qp.1 (m9 x) x (by decide) (fun L' p' h' r e k' lc' => ⟨_, rfl, e.1.1.2, Or.inr rfl, hy L' p' h' cd (inn a _ (Or.inr (Or.inr (Or.inr (Or.inr (Or.inr (Or.inl (⟨1, by decide, iw 9 (by decide) x, Or.inr ⟨m9 x, r⟩⟩)))))))) e.k4 (hw.eq e.1.1) k' lc' (skR_q gt r qp (m9 x) (by decide)).1 (skR_q gt r qp (m9 x) (by decide)).2⟩) (fun f q h' r e => ⟨_, rfl, e.1.1.2, Or.inl rfl, hn f q h' cd (inn a _ (Or.inr (Or.inr (Or.inr (Or.inr (Or.inr (Or.inl (⟨1, by decide, iw 9 (by decide) x, Or.inr ⟨m9 x, r⟩⟩)))))))) e.k4 (hw.eq e.1.1)⟩))
      · exact wX7_readStatement_178 hw.1 hw.2.1 hw.2.2.1 hb (c_readSky (kk := 2) (d := d + 29) hw hb tw tp k (by omega) lc qp.1 (m10 x) x (by decide) (fun L' p' h' r e k' lc' => ⟨_, rfl, e.1.1.2, Or.inr rfl, hy L' p' h' cd (inn a _ (Or.inr (Or.inr (Or.inr (Or.inr (Or.inr (Or.inl (⟨2, by decide, iw 10 (by decide) x, Or.inr ⟨m10 x, r⟩⟩)))))))) e.k4 (hw.eq e.1.1) k' lc' (skR_q gt r qp (m10 x) (by decide)).1 (skR_q gt r qp (m10 x) (by decide)).2⟩) (fun f q h' r e => ⟨_, rfl, e.1.1.2, Or.inl rfl, hn f q h' cd (inn a _ (Or.inr (Or.inr (Or.inr (Or.inr (Or.inr (Or.inl (⟨2, by decide, iw 10 (by decide) x, Or.inr ⟨m10 x, r⟩⟩)))))))) e.k4 (hw.eq e.1.1)⟩))
      · exact wX7_readStatement_178 hw.1 hw.2.1 hw.2.2.1 hb (c_readSky (kk := 3) (d := d + 29) hw hb tw tp k (by omega) lc qp.1 (m11 x) x (by decide) (fun L' p' h' r e k' lc' => ⟨_, rfl, e.1.1.2, Or.inr rfl, hy L' p' h' cd (inn a _ (Or.inr (Or.inr (Or.inr (Or.inr (Or.inr (Or.inl (⟨3, by decide, iw 11 (by decide) x, Or.inr ⟨m11 x, r⟩⟩)))))))) e.k4 (hw.eq e.1.1) k' lc' (skR_q gt r qp (m11 x) (by decide)).1 (skR_q gt r qp (m11 x) (by decide)).2⟩) (fun f q h' r e => ⟨_, rfl, e.1.1.2, Or.inl rfl, hn f q h' cd (inn a _ (Or.inr (Or.inr (Or.inr (Or.inr (Or.inr (Or.inl (⟨3, by decide, iw 11 (by decide) x, Or.inr ⟨m11 x, r⟩⟩)))))))) e.k4 (hw.eq e.1.1)⟩))
      · exact c_readInto (z := 0) (d := d) hw hb tw tp k kw lc qp (by decide) (m12 x) (fun L' p' h' r e hw' k' lc' q' g' => ⟨_, rfl, ⟨_, hw'.1⟩, Or.inr rfl, hy L' p' h' _ (inn a _ (Or.inr (Or.inr (Or.inr (Or.inr (Or.inr (Or.inr (Or.inl (⟨0, by decide, iw 12 (by decide) x, Or.inr ⟨m12 x, r⟩⟩))))))))) e hw' k' lc' q' g'⟩) (fun f q h' r e hw' => ⟨_, rfl, ⟨_, hw'.1⟩, Or.inl rfl, hn f q h' _ (inn a _ (Or.inr (Or.inr (Or.inr (Or.inr (Or.inr (Or.inr (Or.inl (⟨0, by decide, iw 12 (by decide) x, Or.inr ⟨m12 x, r⟩⟩))))))))) e hw'⟩)
      · exact c_readInto (z := 1) (d := d) hw hb tw tp k kw lc qp (by decide) (m13 x) (fun L' p' h' r e hw' k' lc' q' g' => ⟨_, rfl, ⟨_, hw'.1⟩, Or.inr rfl, hy L' p' h' _ (inn a _ (Or.inr (Or.inr (Or.inr (Or.inr (Or.inr (Or.inr (Or.inl (⟨1, by decide, iw 13 (by decide) x, Or.inr ⟨m13 x, r⟩⟩))))))))) e hw' k' lc' q' g'⟩) (fun f q h' r e hw' => ⟨_, rfl, ⟨_, hw'.1⟩, Or.inl rfl, hn f q h' _ (inn a _ (Or.inr (Or.inr (Or.inr (Or.inr (Or.inr (Or.inr (Or.inl (⟨1, by decide, iw 13 (by decide) x, Or.inr ⟨m13 x, r⟩⟩))))))))) e hw'⟩)
      · exact c_readInto (z := 2) (d := d) hw hb tw tp k kw lc qp (by decide) (m14 x) (fun L' p' h' r e hw' k' lc' q' g' => ⟨_, rfl, ⟨_, hw'.1⟩, Or.inr rfl, hy L' p' h' _ (inn a _ (Or.inr (Or.inr (Or.inr (Or.inr (Or.inr (Or.inr (Or.inl (⟨2, by decide, iw 14 (by decide) x, Or.inr ⟨m14 x, r⟩⟩))))))))) e hw' k' lc' q' g'⟩) (fun f q h' r e hw' => ⟨_, rfl, ⟨_, hw'.1⟩, Or.inl rfl, hn f q h' _ (inn a _ (Or.inr (Or.inr (Or.inr (Or.inr (Or.inr (Or.inr (Or.inl (⟨2, by decide, iw 14 (by decide) x, Or.inr ⟨m14 x, r⟩⟩))))))))) e hw'⟩)
      · refine c_readCoax (d := d + 30) hw hb tw tp k (by omega) lc (fun a' h' q e k' lc' => ⟨_, rfl, e.1.1.2, Or.inr rfl, hy _ _ h' cd (inn a _ (Or.inr (Or.inr (Or.inr (Or.inr (Or.inr (Or.inr (Or.inr (Or.inl (⟨iw 15 (by decide) x, bdR_ok q rfl⟩)))))))))) e.k4 (hw.eq e.1.1) k' lc' ?_ ?_⟩) (fun f q h' r e => ⟨_, rfl, e.1.1.2, Or.inl rfl, hn f q h' cd (inn a _ (Or.inr (Or.inr (Or.inr (Or.inr (Or.inr (Or.inr (Or.inr (Or.inl (⟨iw 15 (by decide) x, bdR_er r⟩)))))))))) e.k4 (hw.eq e.1.1)⟩)
        · have y1 := numF_b (v := a'.1) (p' := a'.2) q
          have y2 := numF_g (v := a'.1) (p' := a'.2) q
          have y2 : nx t n s < a'.2.1 := y2
          exact qp.coin y1.1 (by omega) (by omega)
        · have y2 := numF_g (v := a'.1) (p' := a'.2) q
          have y2 : nx t n s < a'.2.1 := y2
          omega
      · refine wX7_readStatement_238 hw.1 hw.2.1 hw.2.2.1 hb (c_failHere (d := d + 32) (f := 1) hw k.k4 (fun h1 e1 => ⟨_, rfl, e1.1.2, Or.inl rfl, hn 1 s h1 cd (inn a _ (Or.inr (Or.inr (Or.inr (Or.inr (Or.inr (Or.inr (Or.inr (Or.inr (⟨fun i hi a3 a4 a6 q => ?_, rfl⟩)))))))))) (CFl.ck e1).k4 (hw.eq e1.1)⟩))
        have x := (W i (by omega)).mpr q.2
        have : i = 0 ∨ i = 1 ∨ i = 2 ∨ i = 5 ∨ i = 7 ∨ i = 8 ∨ i = 9 ∨ i = 10 ∨ i = 11 ∨ i = 12 ∨ i = 13 ∨ i = 14 ∨ i = 15 := by omega
        rcases this with y | y | y | y | y | y | y | y | y | y | y | y | y
        · rw [y] at x; exact n0 x
        · rw [y] at x; exact n1 x
        · rw [y] at x; exact n2 x
        · rw [y] at x; exact n5 x
        · rw [y] at x; exact n7 x
        · rw [y] at x; exact n8 x
        · rw [y] at x; exact n9 x
        · rw [y] at x; exact n10 x
        · rw [y] at x; exact n11 x
        · rw [y] at x; exact n12 x
        · rw [y] at x; exact n13 x
        · rw [y] at x; exact n14 x
        · rw [y] at x; exact n15 x
  have z17 : nI c = 0 ↔ c = 0 := nI_eq (b := 0) (by omega) (by decide)
  refine c_isWord (i := 0) hw tw k (by decide) (fun iw => ⟨_, rfl, rfl, ?_⟩) (fun iw => ⟨_, rfl, rfl, ?_⟩)
  · rw [lc.2.2.2.2.2.2.1, z17]
    exact ⟨fun z => M' (fun y => z (y.mp iw)) 0 1 (by decide), fun z => M ⟨fun _ => z, fun _ => iw⟩ 1⟩
  · rw [lc.2.2.2.2.2.2.1, z17]
    exact ⟨fun z => M ⟨fun y => absurd y iw, fun y => absurd y z⟩ 0, fun z => M' (fun y => iw (y.mpr z)) 1 0 (by decide)⟩
end CT
