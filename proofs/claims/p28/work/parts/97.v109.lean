/-! undo as an act of the class -/
theorem E_X11_undo {n : Nat} {a0 : Nat} {h : jH} {q : Int32 × jH} (X1 : oc h a0 1 = .ref (a0 + 6)) (X3 : oc h a0 3 = .ref (a0 + 19)) (hf : F_X11_undo n a0 h = some q) : (oi (oc h) (a0 + 19) 2 = 0 → q = (0, h)) ∧ (∀ (nx b : Nat) (W : jWd), oc h (a0 + 19) 0 = .ref (a0 + 20) → oi (oc h) (a0 + 19) 1 = nI nx → nx ≤ 11 → oc h (a0 + 20) ((nx + 11) % 12) = .ref b → rodE (oc h) b W → wOK W → rodS (oc h) (a0 + 6) → a0 + 52 < b → 0 < (oi (oc h) (a0 + 19) 2).toInt ∧ (oi (oc h) (a0 + 19) 2).toInt ≤ 12 → q.1 = 1 ∧ rodE (oc q.2) (a0 + 6) W ∧ oi (oc q.2) (a0 + 19) 1 = nI ((nx + 11) % 12) ∧ (oi (oc q.2) (a0 + 19) 2).toInt = (oi (oc h) (a0 + 19) 2).toInt - 1 ∧ q.2.1 = h.1 ∧ (∀ a k, ¬ (a0 + 6 ≤ a ∧ a ≤ a0 + 12) → ¬ (a = a0 + 19 ∧ (k = 1 ∨ k = 2)) → oc q.2 a k = oc h a k)) := by
  unfold F_X11_undo at hf
  replace hf := jbind hf
  obtain ⟨p1, e1, hf⟩ := hf
  have r1 := oc_gR e1
  rw [X3] at r1
  cases r1
  clear e1
  replace hf := jbind hf
  obtain ⟨p5, e2, hf⟩ := hf
  have r2 := oc_gR e2
  rw [X1] at r2
  cases r2
  clear e2
  replace hf := jbind hf
  obtain ⟨q8, e3, hf⟩ := hf
  replace e3 := (jcv_o e3).2
  replace hf := jite hf
  rcases hf with ⟨c4, hf⟩ | ⟨c4, hf⟩
  · skip
    cases hf
    -- leaf 0: (q8.1, q8.2)
    refine ⟨fun z => E_X0_takeBack_0 z e3, fun nx b W sA hx hn hb R K sr lb sz => ?_⟩
    exact E_X0_takeBack sA hx hn hb R K sr (by omega) (by omega) sz e3
  · skip
    cases hf
