def fdv (a b : Int32) : Int32 := if (a ^^^ b) < 0 then if ((a / b) * b) = a then a / b else (a / b) - 1 else a / b
section GFD
variable {p : Program} {l : Launch} {e : Env} {s : State} {m : MethodId} {args : Array Value} {below : List Frame} {meth : Method} {c : Code} {G : gG} {M : gM} {d pc : Nat} {Q : Option Value → gH → Prop} {ls : gLs} {st : List Value} {h : gH} {idx : Nat}
theorem go_fdiv {x y : Int32} (hd : decode M.2.1 pc = .ok (.invokestatic idx, 3)) (hlk : Cond.methodLink M.1.cls idx yJ9_floorDiv_7cf53 ∈ gW) (hne : ¬ y = 0) (hrm : (st.map fun v => v.category).sum ≤ 8) (k : gg p l e s m args below meth c G (d + 1) M Q (pc + 3) ls (.int (fdv x y) :: st) h) : gg p l e s m args below meth c G (d + 1) M Q pc ls (.int y :: .int x :: st) h := by
  intro ok H locs la hl hr hS T hT X
  have hts := ok.2.2.2.2.2.1
  have hcode : (Cond.code yJ9_floorDiv_7cf53 cJ9_floorDiv_7cf53 3 (some .int)).before args s = true := hts _ kJ9_floorDiv_7cf53.1
  have htab : (Jvm.Free.JP.Math_floorDiv_II.tab).before args s = true := by
    show (Cond.and (.code yJ9_floorDiv_7cf53 cJ9_floorDiv_7cf53 3 (some .int)) (.initialized "java/lang/Math")).before args s = true
    rw [Cond.before_and, Bool.and_eq_true]
    exact ⟨hcode, hts _ kJ9_floorDiv_7cf53.2.1⟩
  have hK : Back l (gRm (d + 1) 0 0) p e below s args yJ9_floorDiv_7cf53 3 8 _ _ := Jvm.Free.JP.Math_floorDiv_II.pays (l := l) (R := gRm (d + 1) 0 0) (p := p) (e := e) (below := below) (s := s) (sargs := args) (len := 3) (W := 8) x y htab (Nat.le_add_left 1 d) (by show 8 + 14 ≤ 80 * (d + 1); omega)
  · obtain ⟨v, vm₁, ⟨U', l2, c2, s2⟩, hW₁, X', ⟨⟨hv, hh⟩, h1, h2, h3⟩, stp⟩ := callS X ok.1 (own := M.1.cls) (index := idx) (bytes := cJ9_floorDiv_7cf53) (maxL := 3) (ret := some .int) ok.2.2.2.2.1 (hts _ hlk) (hts _ sJ9_floorDiv_7cf53) (hts _ kJ9_floorDiv_7cf53.2.1) hcode ⟨by decide, by decide⟩ hK (g := F0 m pc la (.int y :: .int x :: st.map (gv G))) rfl (hl.1.trans ok.2.2.1.symm) (argsL := [.int x, .int y]) (rest := st.map (gv G)) (fun sig hs => by
        have h9 : parseMethodDescriptor "(II)I" = some { parameters := [.int, .int], returnType := some .int } := by decide +kernel
        rw [show yJ9_floorDiv_7cf53.desc = "(II)I" from rfl, h9] at hs
        rw [← Option.some.inj hs]; rfl) rfl (by show 2 * 0 + _ ≤ 8; rw [gx_cats]; omega) (by rw [ok.2.1]; exact hd)
      (fun vm₁ hW₁ => ⟨Nat.le_refl _, Nat.le_refl _, rfl, hne⟩)
    dsimp only [Pt.U, Pt.locs, Pt.cells, Pt.slots] at X' hv hh h1 h2 h3 stp
    subst hv
    subst h1
    subst h2
    subst h3
    rw [List.append_nil] at X'
    have hU : U'.heap = H := hh.trans hT
    obtain ⟨t, a1, b1⟩ := k ok H locs la hl hr hS U' hU X'
    exact ⟨t, stp t a1, b1⟩
end GFD
/-- the letters of the cells: "hsdwl" -/
def gLet (i : Int32) : Int32 := ((gsB 1 i.toNatClampNeg &&& 255).toUInt32 % 65536).toInt32
section GKO
variable {p : Program} {l : Launch} {e : Env} {s : State} {m : MethodId} {args : Array Value} {below : List Frame} {meth : Method} {c : Code} {G : gG} {M : gM} {d pc : Nat} {Q : Option Value → gH → Prop} {ls : gLs} {st : List Value} {h : gH} {idx : Nat}
theorem gsl_one : gsL 1 = 5 := by decide +kernel
theorem go_slenC (hd : decode M.2.1 pc = .ok (.invokevirtual idx, 3)) (hlk : Cond.methodLink M.1.cls idx yJ0_length_8abf5 ∈ gW) (hrm : (st.map fun v => v.category).sum ≤ 8) (k : gg p l e s m args below meth c G (d + 4) M Q (pc + 3) ls (.int 5 :: st) h) : gg p l e s m args below meth c G (d + 4) M Q pc ls (.ref 1000001 :: st) h := by
  refine go_callT (d := d + 3) (i := 1) (by decide) MJ0_length_8abf5 [] hd hlk kJ0_length_8abf5 vJ0_length_8abf5 rfl rfl hrm (Nat.le_refl _) (by show 80 * (d + 3) + 59 ≤ 80 * (d + 4); omega) ⟨Nat.le_refl _, Nat.le_refl _⟩ rfl (c_strlen (d := d + 2) (by decide) ?_)
  rw [gsl_one]
  exact k
theorem go_sChar {i : Int32} (hd : decode M.2.1 pc = .ok (.invokevirtual idx, 3)) (hlk : Cond.methodLink M.1.cls idx yJ0_charAt_5068e ∈ gW) (hrm : (st.map fun v => v.category).sum ≤ 8) (hi : vp_in i 5) (k : gg p l e s m args below meth c G (d + 4) M Q (pc + 3) ls (.int (gLet i) :: st) h) : gg p l e s m args below meth c G (d + 4) M Q pc ls (.int i :: .ref 1000001 :: st) h :=
  go_callT (d := d + 3) (i := 1) (by decide) MJ0_charAt_5068e [.int i] hd hlk kJ0_charAt_5068e vJ0_charAt_5068e rfl rfl hrm (Nat.le_refl _) (by show 80 * (d + 3) + 59 ≤ 80 * (d + 4); omega) ⟨Nat.le_refl _, Nat.le_refl _⟩ rfl (c_charAt (d := d) (by decide) (by rw [gsl_one]; exact hi) k)
end GKO
