/-! end and seed keep eqS -/
theorem eq_end {x nx r L n : Nat} {W : jWd} {v : Int32} {h : jH} {q p : Int32 × jH} (E : eqS x nx r L W h) (e1 : F_X11_end n x v h = some q) (e2 : F_X12_end n (x + 40) v q.2 = some p) : (∃ L2, eqS x nx r L2 W p.2) ∧ q.1 = p.1 ∧ oi (oc p.2) (x + 40) 0 = 0 := by
  obtain ⟨⟨e0, -, -, -, -, -, ts, M⟩, -, -, ⟨l1, l2, l3, l4, -⟩⟩ := id E
  rcases E_X11_end e0 l1 l3 e1 with ⟨P, y⟩ | ⟨P, Q, y, y6, yf, yz⟩
  · rw [y] at e2
    rcases E_X12_end l2 l3 e2 with ⟨-, y2, y0, yf, yz⟩ | ⟨P2, Q2, -⟩
    · exact ⟨⟨L, eq_thr E ⟨y0, yf, yz⟩⟩, by rw [y, y2], y0⟩
    · omega
  · have yi : ∀ a k : Nat, ¬ (a = x + 1 ∧ k = 6) → oi (oc q.2) a k = oi (oc h) a k := fun a k z => by unfold oi; rw [yf a k z]
    rcases E_X12_end ((yi _ _ (by omega)).trans l2) l3 e2 with ⟨P2, -⟩ | ⟨-, -, w, w0, w9, wf, wz⟩
    · omega
    · have fr : ∀ a k : Nat, ¬ (a = x + 40 ∧ (k = 0 ∨ k = 9)) → oc p.2 a k = oc q.2 a k := fun a k z3 => wf a k (fun c hc z => by cases hc) (fun z y => z3 ⟨z, by simpa using y⟩)
      have fi : ∀ a k : Nat, ¬ (a = x + 40 ∧ (k = 0 ∨ k = 9)) → oi (oc p.2) a k = oi (oc q.2) a k := fun a k z => by unfold oi; rw [fr a k z]
      have vk : v = nI v.toInt.toNat := nI_k (by omega)
      refine ⟨⟨v.toInt.toNat, eq_tape E (fun a k z1 z2 z3 z4 z5 => (fr a k z5).trans (yf a k z1)) (wz.trans yz) ⟨((fi _ _ (by omega)).trans y6).trans vk, w9.trans vk, by omega, fun i hi => ?_⟩⟩, by rw [y, w], w0⟩
      rw [fi _ _ (by omega), fi _ _ (by omega), yi _ _ (by omega), yi _ _ (by omega)]
      exact l4 i hi
