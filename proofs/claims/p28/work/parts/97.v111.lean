/-! acts left alone, and one taken back -/
theorem slot_keep {x z z2 : Nat} {O O2 : jO} (fr : ∀ a k : Nat, (a = x + 20 ∨ x + 52 < a ∨ a = x + 45) → O2 a k = O a k) (hz : z ≤ z2) (S : slotE O z x) (P : apartE O x) : slotE O2 z2 x ∧ apartE O2 x := by
  refine ⟨fun s hs => ?_, fun s t b c hs ht ne e1 e2 => ?_⟩
  · rw [fr _ _ (Or.inl rfl)]
    rcases S s hs with w | ⟨c, w, w1, w2, w3⟩
    · exact Or.inl w
    · exact Or.inr ⟨c, w, rodS_fr w1 (fun k => fr _ _ (by omega)) (fr _ _ (by omega)), w2, by omega⟩
  · rw [fr _ _ (Or.inl rfl)] at e1 e2
    exact P s t b c hs ht ne e1 e2
theorem act_keep {x z r nx : Nat} {O O2 : jO} (fr : ∀ a k : Nat, (a = x + 20 ∨ x + 52 < a ∨ a = x + 45 ∨ (a = x + 13 ∧ k = 7)) → O2 a k = O a k) (S : slotE O z x) (hn : nx ≤ 11) (A : actE O x (x + 40) r nx) : actE O2 x (x + 40) r nx := by
  intro j hj
  obtain ⟨c, V, a1, a2, a3, a4, a5⟩ := A j hj
  have l : x + 52 < c := by
    rcases S ((nx + 11 - j) % 12) (by omega) with q | ⟨d, q, q1, q2, q3⟩
    · rw [q] at a1; cases a1
    · rw [q] at a1; cases a1; exact q2
  refine ⟨c, V, (fr _ _ (Or.inl rfl)).trans a1, rodE_fr a2 (fun a k h1 h2 => fr _ _ (by omega)), a3, fun k hk => (a4 k hk).trans ?_, a5.trans ?_⟩
  · unfold oi
    rw [fr _ _ (Or.inr (Or.inr (Or.inl rfl)))]
  · unfold oi
    rw [fr _ _ (Or.inr (Or.inr (Or.inr ⟨rfl, rfl⟩)))]
theorem act_undo {x z r nx : Nat} {O O2 : jO} (fr : ∀ a k : Nat, (a = x + 20 ∨ x + 52 < a ∨ a = x + 45 ∨ (a = x + 13 ∧ k = 7)) → O2 a k = O a k) (S : slotE O z x) (hn : nx ≤ 11) (hr : r ≤ 12) (A : actE O x (x + 40) r nx) : actE O2 x (x + 40) (r - 1) ((nx + 11) % 12) := by
  intro j hj
  obtain ⟨c, V, a1, a2, a3, a4, a5⟩ := act_keep fr S hn A (j + 1) (by omega)
  refine ⟨c, V, ?_, a2, a3, fun k hk => ?_, a5⟩
  · rw [show ((nx + 11) % 12 + 11 - j) % 12 = (nx + 11 - (j + 1)) % 12 by omega]; exact a1
  · rw [a4 k hk, show r - 1 - (j + 1) = r - 1 - 1 - j by omega]
/-- the latest act, as undo finds it -/
theorem act_last {x z r nx : Nat} {O : jO} (S : slotE O z x) (P : apartE O x) (hn : nx ≤ 11) (hr : 1 ≤ r) (A : actE O x (x + 40) r nx) : ∃ (b : Nat) (V : jWd), O (x + 20) ((nx + 11) % 12) = .ref b ∧ x + 52 < b ∧ rodE O b V ∧ wOK V ∧ (∀ k, k < 435 → V k = oi O (x + 45) (435 * (r - 1) + k)) ∧ V 2 = oi O (x + 13) 7 := by
  obtain ⟨c, V, a1, a2, a3, a4, a5⟩ := A 0 (by omega)
  refine ⟨c, V, a1, ?_, a2, a3, a4, a5⟩
  rcases S ((nx + 11) % 12) (by omega) with q | ⟨d, q, q1, q2, q3⟩
  · rw [show (nx + 11 - 0) % 12 = (nx + 11) % 12 by omega, q] at a1; cases a1
  · rw [show (nx + 11 - 0) % 12 = (nx + 11) % 12 by omega, q] at a1; cases a1; exact q2
