section MS9
variable {l : Launch} {G : gG} {d : Nat} {Q : Option Value → gH → Prop} {h h1 h2 : gH} {lk sp : Nat} {cd : Option Nat} {t : Nat → Nat} {n s i f q c b w z : Nat} {u : Bool} {L : qL} {a1 a2 : Int32} {out : sOut}
/-- behind a statement: its sign -/
theorem m_st257 {p : Program} {e : Env} {s9 : State} {m : MethodId} {args : Array Value} {below : List Frame} {meth : Method} {cc : Code} {x1 : Option Value} {L' : qL} {p' : Nat × Bool} (hw : gWf h1 lk sp cd) (tw : TWf t n) (tp : TPm t h1) (e1 : MPs h h1) (k : MTk t n p'.1 p'.2 h1) (lm : LMp L' h1) (h56 : h.1 82 56 = nI c)
    (hy : ∀ p'' h', sgF t n 59 p' = .ok p'' → MPs h h' → MTk t n p''.1 p''.2 (sI h' 82 56 (nI (c + 1))) → LMp L' (sI h' 82 56 (nI (c + 1))) → Q none (sI h' 82 56 (nI (c + 1))))
    (hn : ∀ f q h', sgF t n 59 p' = .error (f, q) → f = 1 → MPf f q h h' → Q none (sI h' 82 56 (nI (c + 1)))) : gC l G (d + 2) MX12_asksSign [.ref 82, .int 59] h1 (rV fun h2 => h2.2.2 = h1.2.2 ∧ Q none (sI h2 82 56 ((h2.1 82 56) + 1))) := by
  refine m_asksSign (c := 59) hw tw tp k (by decide) (by decide) (fun p'' h2 q2 e2 k2 => ⟨rfl, e2.1.2, ?_⟩) (fun f q h2 q2 e2 => ⟨rfl, e2.1.2, ?_⟩)
  · have y : h2.1 82 56 = nI c := by rw [e2.2.1 56 (by decide), e1.1.2.1 56 (by decide)]; exact h56
    rw [y, nI_1]
    refine hy p'' h2 q2 (e1.tr e2.px) ?_ ?_
    · unfold MTk at k2 ⊢
      rw [sI_nb (by decide), sI_nb (by decide), sI_nb (by decide), sI_nb (by decide)]
      exact k2
    · have lm2 := lm.ml e2
      unfold LMp at lm2 ⊢
      have E : ∀ a, a ≠ 82 → (sI h2 82 56 (nI (c + 1))).1 a = h2.1 a := fun a ha => sI_na ha
      rw [E 119 (by decide), E 121 (by decide), E 122 (by decide), E 123 (by decide), E 124 (by decide), E 125 (by decide), E 126 (by decide), E 127 (by decide), E 128 (by decide), E 129 (by decide), sI_nb (by decide)]
      exact lm2
  · have y : h2.1 82 56 = nI c := by rw [e2.2.1 56 (by decide), e1.1.2.1 56 (by decide)]; exact h56
    rw [y, nI_1]
    refine hn f q h2 q2 ?_ (e1.fl e2.px)
    unfold sgF at q2
    split at q2
    · cases q2
    · cases q2; rfl
end MS9
