/-! what asks only: class and reference stay alike -/
/-- the cells that a question may change -/
def qrc (x a k : Nat) : Prop := (a = x + 1 ∧ 4 ≤ k ∧ k ≤ 6) ∨ (a = x + 13 ∧ k = 5) ∨ a = x + 18 ∨ (a = x + 21 ∧ 5 ≤ k) ∨ (x + 22 ≤ a ∧ a ≤ x + 25) ∨ (a = x + 26 ∧ 1 ≤ k) ∨ a = x + 27 ∨ (a = x + 36 ∧ 2 ≤ k) ∨ (a = x + 37 ∧ 4 ≤ k) ∨ a = x + 38 ∨ a = x + 39 ∨ a = x + 41 ∨ a = x + 44 ∨ (x + 48 ≤ a ∧ a ≤ x + 51) ∨ (a = x + 40 ∧ (k = 0 ∨ (9 ≤ k ∧ k ≤ 11) ∨ k = 18))
theorem eq_qry {x nx r L L2 : Nat} {W : jWd} {h h3 : jH} (E : eqS x nx r L W h) (f : ∀ a k : Nat, ¬ qrc x a k → oc h3 a k = oc h a k) (hz : h.1 ≤ h3.1) (hw2 : wl (oc h3) (x + 40) = W) (T2 : oi (oc h3) (x + 1) 6 = nI L2 ∧ oi (oc h3) (x + 40) 9 = nI L2 ∧ L2 ≤ 400) : eqS x nx r L2 W h3 := by
  obtain ⟨⟨e0, e1, e3, e8, e36, e19, ⟨t0, t1, t2, t3⟩, s1, s2, s3, s4, s5, s8, s15, s17, s19, s20, s21⟩, ⟨n1, n2, n3, n4, n5, n6, S, P, A⟩, ⟨R, -, K, LE, LK, LB⟩, ⟨l1, l2, l3, l4, I⟩⟩ := E
  have g : ∀ a k : Nat, ¬ qrc x a k → oi (oc h3) a k = oi (oc h) a k := fun a k z => by unfold oi; rw [f a k z]
  have c : ∀ k : Nat, oc h3 x k = oc h x k := fun k => f _ _ (by unfold qrc; omega)
  have m : ∀ k : Nat, k = 1 ∨ k = 2 ∨ k = 3 ∨ k = 4 ∨ k = 5 ∨ k = 8 ∨ k = 15 ∨ k = 17 ∨ k = 19 ∨ k = 20 ∨ k = 21 → oc h3 (x + 40) k = oc h (x + 40) k := fun k z => f _ _ (by unfold qrc; omega)
  have t : ∀ k : Nat, k ≤ 3 → oc h3 (x + 1) k = oc h (x + 1) k := fun k z => f _ _ (by unfold qrc; omega)
  obtain ⟨q1, q2⟩ := slot_keep (O2 := oc h3) (z2 := h3.1) (fun a k z => f a k (by unfold qrc; omega)) (by omega) S P
  obtain ⟨⟨u1, u2, u3, u4, u5, u6⟩, ⟨v1, v2, v3⟩, ⟨w1, w2, w3⟩, ⟨y1, y2, y3, y4, y5⟩, ⟨o0, o1, o2, o3, o4, o5⟩, ⟨k0, k1, k2, k3, k4⟩⟩ := I.1
  have d : ∀ k : Nat, k ≤ 4 → oc h3 (x + 21) k = oc h (x + 21) k := fun k z => f _ _ (by unfold qrc; omega)
  have e : ∀ k : Nat, k ≤ 4 → oc h3 (x + 28) k = oc h (x + 28) k := fun k z => f _ _ (by unfold qrc; omega)
  have S3 : rdrS (oc h3) x := ⟨⟨(c _).trans u1, (c _).trans u2, (c _).trans u3, (c _).trans u4, (c _).trans u5, (c _).trans u6⟩,
    ⟨(f _ _ (by unfold qrc; omega)).trans v1, (f _ _ (by unfold qrc; omega)).trans v2, (f _ _ (by unfold qrc; omega)).trans v3⟩, ⟨(f _ _ (by unfold qrc; omega)).trans w1, (f _ _ (by unfold qrc; omega)).trans w2, (f _ _ (by unfold qrc; omega)).trans w3⟩,
    ⟨(f _ _ (by unfold qrc; omega)).trans y1, (f _ _ (by unfold qrc; omega)).trans y2, (f _ _ (by unfold qrc; omega)).trans y3, (f _ _ (by unfold qrc; omega)).trans y4, (f _ _ (by unfold qrc; omega)).trans y5⟩,
    ⟨(d _ (by omega)).trans o0, (d _ (by omega)).trans o1, (d _ (by omega)).trans o2, (d _ (by omega)).trans o3, (d _ (by omega)).trans o4, (f _ _ (by unfold qrc; omega)).trans o5⟩,
    ⟨(e _ (by omega)).trans k0, (e _ (by omega)).trans k1, (e _ (by omega)).trans k2, (e _ (by omega)).trans k3, (e _ (by omega)).trans k4⟩⟩
  have F3 : oi (oc h3) x 12 = oi (oc h3) (x + 40) 14 := by rw [g _ _ (by unfold qrc; omega), g _ _ (by unfold qrc; omega)]; exact I.2.1
  have I3 : imE (oc h3) h3.1 x := im_k2 (O := oc h) (z := h.1) (fun a k z => f a k (by unfold qrc; omega)) (fun s d hs e => Or.inl (by rw [← f (x + 20) s (by unfold qrc; omega)]; exact e)) (by omega) S3 F3 I
  have A3 : actE (oc h3) x (x + 40) r nx := by
    intro j hj
    obtain ⟨d, V, b1, b2, b3, b4, b5⟩ := A j hj
    have l : x + 52 < d := by
      rcases S ((nx + 11 - j) % 12) (by omega) with q | ⟨d2, q, q1, q2, q3⟩
      · rw [q] at b1; cases b1
      · rw [q] at b1; cases b1; exact q2
    exact ⟨d, V, (f _ _ (by unfold qrc; omega)).trans b1, rodE_fr b2 (fun a k h1 h2 => f _ _ (by unfold qrc; omega)), b3, fun k hk => (b4 k hk).trans (g _ _ (by unfold qrc; omega)).symm, b5.trans (g _ _ (by unfold qrc; omega)).symm⟩
  refine ⟨⟨(c _).trans e0, (c _).trans e1, (c _).trans e3, (c _).trans e8, (f _ _ (by unfold qrc; omega)).trans e36, (f _ _ (by unfold qrc; omega)).trans e19, ⟨(t _ (by omega)).trans t0, (t _ (by omega)).trans t1, (t _ (by omega)).trans t2, (t _ (by omega)).trans t3⟩,
    (m _ (by omega)).trans s1, (m _ (by omega)).trans s2, (m _ (by omega)).trans s3, (m _ (by omega)).trans s4, (m _ (by omega)).trans s5, (m _ (by omega)).trans s8, (m _ (by omega)).trans s15, (m _ (by omega)).trans s17, (m _ (by omega)).trans s19, (m _ (by omega)).trans s20, (m _ (by omega)).trans s21⟩,
    ⟨(g _ _ (by unfold qrc; omega)).trans n1, n2, by rw [g _ _ (by unfold qrc; omega)]; exact n3, (g _ _ (by unfold qrc; omega)).trans n4, n5, by omega, q1, q2, A3⟩,
    ⟨rodE_fr R (fun a k h1 h2 => f _ _ (by unfold qrc; omega)), hw2, K, lawE_fr LE (fun a k h1 h2 h3 => f _ _ (by unfold qrc; omega)), LK, LB⟩, ⟨T2.1, T2.2.1, T2.2.2, fun i hi => ?_, I3⟩⟩
  rw [g _ _ (by unfold qrc; omega), g _ _ (by unfold qrc; omega)]
  exact l4 i hi
/-- the tape stands as it was -/
theorem eq_qr0 {x nx r L : Nat} {W : jWd} {h h3 : jH} (E : eqS x nx r L W h) (f : ∀ a k : Nat, ¬ (qrc x a k ∧ a ≠ x + 1 ∧ ¬ (a = x + 40 ∧ 9 ≤ k ∧ k ≤ 11)) → oc h3 a k = oc h a k) (hz : h.1 ≤ h3.1) (hw2 : wl (oc h3) (x + 40) = W) : eqS x nx r L W h3 := by
  have E' := E
  obtain ⟨-, -, -, ⟨l1, l2, l3, -, -⟩⟩ := E'
  refine eq_qry E (fun a k z => f a k (fun y => z y.1)) hz hw2 ⟨?_, ?_, l3⟩
  · unfold oi at l1 ⊢; rw [f _ _ (by omega)]; exact l1
  · unfold oi at l2 ⊢; rw [f _ _ (by omega)]; exact l2
/-- nothing but scratch cells of the reference changed, the world not at all -/
theorem eq_ask {x nx r L : Nat} {W : jWd} {h h3 : jH} {cs fs : List Nat} (E : eqS x nx r L W h) (F : frM (x + 40) cs fs (oc h) (oc h3)) (hc : ∀ c ∈ cs, c = 4 ∨ (8 ≤ c ∧ c ≤ 11)) (hf : ∀ k ∈ fs, k = 0 ∨ k = 18) (hz : h.1 ≤ h3.1) : eqS x nx r L W h3 := by
  have f : ∀ a k : Nat, ¬ (a = x + 44 ∨ (x + 48 ≤ a ∧ a ≤ x + 51) ∨ (a = x + 40 ∧ (k = 0 ∨ k = 18))) → oc h3 a k = oc h a k := fun a k z => F a k (fun c h z2 => by have := hc c h; omega) (fun e z2 => by have := hf k z2; omega)
  refine eq_qr0 E (fun a k z => f a k (by unfold qrc at z; omega)) hz ?_
  rw [← E.2.2.1.2.1]
  funext k
  show oi _ _ _ = oi _ _ _
  unfold oi
  rw [f _ _ (by omega)]
