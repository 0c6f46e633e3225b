/-! class and reference alike (but for image and readers): W is the world of both, L the tape's length, r acts remembered, nx the class's next slot -/
def eqS (x nx r L : Nat) (W : jWd) (h : jH) : Prop :=
  (oc h x 0 = .ref (x + 1) ∧ oc h x 1 = .ref (x + 6) ∧ oc h x 3 = .ref (x + 19) ∧ oc h x 8 = .ref (x + 36) ∧ oc h (x + 36) 0 = .ref (x + 13) ∧ oc h (x + 19) 0 = .ref (x + 20) ∧ tpS (oc h) (x + 1) ∧ mS (oc h) (x + 40)) ∧
  (oi (oc h) (x + 19) 1 = nI nx ∧ nx ≤ 11 ∧ (oi (oc h) (x + 19) 2).toInt = (r : Int) ∧ oi (oc h) (x + 40) 7 = nI r ∧ r ≤ 12 ∧ x + 52 < h.1 ∧ slotE (oc h) h.1 x ∧ apartE (oc h) x ∧ actE (oc h) x (x + 40) r nx) ∧
  (rodE (oc h) (x + 6) W ∧ wl (oc h) (x + 40) = W ∧ wOK W ∧ lawE (oc h) (x + 13) W ∧ lawK W ∧ lawB W) ∧
  (oi (oc h) (x + 1) 6 = nI L ∧ oi (oc h) (x + 40) 9 = nI L ∧ L ≤ 400 ∧ ∀ i, i < 400 → oi (oc h) (x + 2) i = oi (oc h) (x + 46) i)
theorem eq_pre {x nx r L : Nat} {W : jWd} {h : jH} (E : eqS x nx r L W h) : cPre x nx W h := by
  obtain ⟨⟨e0, e1, e3, e8, e36, e19, -, -⟩, ⟨n1, n2, n3, n4, n5, n6, S, P, A⟩, ⟨R, -, K, -⟩, -⟩ := E
  refine ⟨⟨e1, e3, e19, n1, n2, R, K⟩, fun b e => ?_, n6, by omega⟩
  rcases S nx (by omega) with q | ⟨c, q, q1, q2, q3⟩
  · rw [q] at e; cases e
  · rw [q] at e; cases e; exact ⟨q1, q2⟩
theorem eq_act {x nx r L : Nat} {W W2 : jWd} {h h2 h3 : jH} (E : eqS x nx r L W h) (C : cAct x nx W W2 h h2) (D : rAct (x + 40) r W2 h2 h3) (K2 : wOK W2) (hl : ∀ k, k = 2 ∨ 435 ≤ k → W2 k = W k) (LK2 : lawK W2) (LB2 : lawB W2) : eqS x ((nx + 1) % 12) (if r < 12 then r + 1 else 12) L W2 h3 := by
  have hb := (eq_pre E).2.1
  obtain ⟨⟨e0, e1, e3, e8, e36, e19, ⟨t0, t1, t2, t3⟩, M⟩, ⟨n1, n2, n3, n4, n5, n6, S, P, A⟩, ⟨R, hw, K, LE, LK, LB⟩, ⟨l1, l2, l3, l4⟩⟩ := E
  have f2 := c_keep n6 hb C
  obtain ⟨q1, q2, q3⟩ := act_step n2 n5 S P A (fun k _ => congrFun hw k) K n6 C D
  have C' := C
  obtain ⟨R2, b, ⟨B, c1, c2, c3, c4⟩, c5⟩ := C'
  obtain ⟨d0, dw, d7, dA, dB, dF, dz⟩ := D
  have f3 : ∀ a k : Nat, a ≠ x + 41 → a ≠ x + 45 → a ≠ x + 48 → ¬ (a = x + 40 ∧ (k = 0 ∨ k = 7 ∨ k = 18)) → oc h3 a k = oc h2 a k := fun a k z1 z2 z3 z4 => dF a k (fun c hc z => by simp at hc; omega) (fun z w => z4 ⟨z, by simpa using w⟩)
  have f : ∀ a k : Nat, a ≤ x + 52 → ¬ (x + 6 ≤ a ∧ a ≤ x + 12) → a ≠ x + 18 → ¬ (a = x + 13 ∧ k = 5) → ¬ (a = x + 19 ∧ (k = 1 ∨ k = 2)) → a ≠ x + 20 → a ≠ x + 41 → a ≠ x + 45 → a ≠ x + 48 → ¬ (a = x + 40 ∧ (k = 0 ∨ k = 7 ∨ k = 18)) → oc h3 a k = oc h a k := fun a k y1 y2 y3 y4 y5 y6 y7 y8 y9 y10 => (f3 a k y7 y8 y9 y10).trans (f2 a k y1 y5 (by omega) y2 y3 y4)
  have fi : ∀ a k : Nat, a ≤ x + 52 → ¬ (x + 6 ≤ a ∧ a ≤ x + 12) → a ≠ x + 18 → ¬ (a = x + 13 ∧ k = 5) → ¬ (a = x + 19 ∧ (k = 1 ∨ k = 2)) → a ≠ x + 20 → a ≠ x + 41 → a ≠ x + 45 → a ≠ x + 48 → ¬ (a = x + 40 ∧ (k = 0 ∨ k = 7 ∨ k = 18)) → oi (oc h3) a k = oi (oc h) a k := fun a k y1 y2 y3 y4 y5 y6 y7 y8 y9 y10 => by unfold oi; rw [f a k y1 y2 y3 y4 y5 y6 y7 y8 y9 y10]
  have g : ∀ a k : Nat, a ≤ x + 39 → oc h3 a k = oc h2 a k := fun a k z => f3 a k (by omega) (by omega) (by omega) (by omega)
  have gi : ∀ a k : Nat, a ≤ x + 39 → oi (oc h3) a k = oi (oc h2) a k := fun a k z => by unfold oi; rw [g a k z]
  refine ⟨⟨?_, ?_, ?_, ?_, ?_, ?_, ⟨?_, ?_, ?_, ?_⟩, ?_⟩, ⟨?_, by omega, ?_, d7, by split <;> omega, ?_, q1, q2, q3⟩, ⟨?_, dw, K2, ?_, LK2, LB2⟩, ⟨?_, ?_, l3, fun i hi => ?_⟩⟩
  · exact (f _ _ (by omega) (by omega) (by omega) (by omega) (by omega) (by omega) (by omega) (by omega) (by omega) (by omega)).trans e0
  · exact (f _ _ (by omega) (by omega) (by omega) (by omega) (by omega) (by omega) (by omega) (by omega) (by omega) (by omega)).trans e1
  · exact (f _ _ (by omega) (by omega) (by omega) (by omega) (by omega) (by omega) (by omega) (by omega) (by omega) (by omega)).trans e3
  · exact (f _ _ (by omega) (by omega) (by omega) (by omega) (by omega) (by omega) (by omega) (by omega) (by omega) (by omega)).trans e8
  · exact (f _ _ (by omega) (by omega) (by omega) (by omega) (by omega) (by omega) (by omega) (by omega) (by omega) (by omega)).trans e36
  · exact (f _ _ (by omega) (by omega) (by omega) (by omega) (by omega) (by omega) (by omega) (by omega) (by omega) (by omega)).trans e19
  · exact (f _ _ (by omega) (by omega) (by omega) (by omega) (by omega) (by omega) (by omega) (by omega) (by omega) (by omega)).trans t0
  · exact (f _ _ (by omega) (by omega) (by omega) (by omega) (by omega) (by omega) (by omega) (by omega) (by omega) (by omega)).trans t1
  · exact (f _ _ (by omega) (by omega) (by omega) (by omega) (by omega) (by omega) (by omega) (by omega) (by omega) (by omega)).trans t2
  · exact (f _ _ (by omega) (by omega) (by omega) (by omega) (by omega) (by omega) (by omega) (by omega) (by omega) (by omega)).trans t3
  · have M2 : mS (oc h2) (x + 40) := by
      obtain ⟨s1, s2, s3, s4, s5, s8, s15, s17, s19, s20, s21⟩ := M
      have k2 : ∀ k, oc h2 (x + 40) k = oc h (x + 40) k := fun k => f2 _ k (by omega) (by omega) (by omega) (by omega) (by omega) (by omega)
      exact ⟨(k2 _).trans s1, (k2 _).trans s2, (k2 _).trans s3, (k2 _).trans s4, (k2 _).trans s5, (k2 _).trans s8, (k2 _).trans s15, (k2 _).trans s17, (k2 _).trans s19, (k2 _).trans s20, (k2 _).trans s21⟩
    exact mS_fr M2 dF (by decide) (by decide)
  · exact (gi _ _ (by omega)).trans c3
  · rw [gi _ _ (by omega), c4, n3]; split <;> split <;> omega
  · rcases B with ⟨-, y⟩ | ⟨-, -, y⟩ <;> omega
  · exact rodE_fr R2 (fun a k z1 z2 => g a k (by omega))
  · exact lawE_cg (lawE_fr LE (fun a k z1 z2 z3 => f _ _ (by omega) (by omega) (by omega) (by omega) (by omega) (by omega) (by omega) (by omega) (by omega) (by omega))) hl
  · exact (fi _ _ (by omega) (by omega) (by omega) (by omega) (by omega) (by omega) (by omega) (by omega) (by omega) (by omega)).trans l1
  · exact (fi _ _ (by omega) (by omega) (by omega) (by omega) (by omega) (by omega) (by omega) (by omega) (by omega) (by omega)).trans l2
  · rw [fi (x + 2) i (by omega) (by omega) (by omega) (by omega) (by omega) (by omega) (by omega) (by omega) (by omega) (by omega), fi (x + 46) i (by omega) (by omega) (by omega) (by omega) (by omega) (by omega) (by omega) (by omega) (by omega) (by omega)]
    exact l4 i hi
