/-! feed and end keep eqS -/
theorem eq_tape {x nx r L L2 : Nat} {W : jWd} {h h3 : jH} (E : eqS x nx r L W h) (f : ∀ a k : Nat, ¬ (a = x + 1 ∧ k = 6) → a ≠ x + 2 → a ≠ x + 46 → a ≠ x + 47 → ¬ (a = x + 40 ∧ (k = 0 ∨ k = 9)) → oc h3 a k = oc h a k) (dz : h3.1 = h.1)
    (T : oi (oc h3) (x + 1) 6 = nI L2 ∧ oi (oc h3) (x + 40) 9 = nI L2 ∧ L2 ≤ 400 ∧ ∀ i, i < 400 → oi (oc h3) (x + 2) i = oi (oc h3) (x + 46) i) : eqS x nx r L2 W h3 := by
  obtain ⟨⟨e0, e1, e3, e8, e36, e19, ⟨t0, t1, t2, t3⟩, s1, s2, s3, s4, s5, s8, s15, s17, s19, s20, s21⟩, ⟨n1, n2, n3, n4, n5, n6, S, P, A⟩, ⟨R, hw, K, LE, LK, LB⟩, ⟨-, -, -, -, I⟩⟩ := E
  have g : ∀ a k : Nat, a ≠ x + 1 → a ≠ x + 2 → a ≠ x + 46 → a ≠ x + 47 → ¬ (a = x + 40 ∧ (k = 0 ∨ k = 9)) → oc h3 a k = oc h a k := fun a k z1 z2 z3 z4 z5 => f a k (by omega) z2 z3 z4 z5
  have gi : ∀ a k : Nat, a ≠ x + 1 → a ≠ x + 2 → a ≠ x + 46 → a ≠ x + 47 → ¬ (a = x + 40 ∧ (k = 0 ∨ k = 9)) → oi (oc h3) a k = oi (oc h) a k := fun a k z1 z2 z3 z4 z5 => by unfold oi; rw [g a k z1 z2 z3 z4 z5]
  obtain ⟨q1, q2⟩ := slot_keep (O2 := oc h3) (z2 := h3.1) (fun a k z => g a k (by omega) (by omega) (by omega) (by omega) (by omega)) (by omega) S P
  have q3 := act_keep (O2 := oc h3) (fun a k z => g a k (by omega) (by omega) (by omega) (by omega) (by omega)) S n2 A
  have m : ∀ k : Nat, k ≠ 0 → k ≠ 9 → oc h3 (x + 40) k = oc h (x + 40) k := fun k z1 z2 => g _ k (by omega) (by omega) (by omega) (by omega) (by omega)
  have c : ∀ k : Nat, oc h3 x k = oc h x k := fun k => g _ k (by omega) (by omega) (by omega) (by omega) (by omega)
  have t : ∀ k : Nat, k ≠ 6 → oc h3 (x + 1) k = oc h (x + 1) k := fun k z => f _ k (by omega) (by omega) (by omega) (by omega) (by omega)
  refine ⟨⟨(c _).trans e0, (c _).trans e1, (c _).trans e3, (c _).trans e8, (g _ _ (by omega) (by omega) (by omega) (by omega) (by omega)).trans e36, (g _ _ (by omega) (by omega) (by omega) (by omega) (by omega)).trans e19, ⟨(t _ (by decide)).trans t0, (t _ (by decide)).trans t1, (t _ (by decide)).trans t2, (t _ (by decide)).trans t3⟩, (m _ (by decide) (by decide)).trans s1, (m _ (by decide) (by decide)).trans s2, (m _ (by decide) (by decide)).trans s3, (m _ (by decide) (by decide)).trans s4, (m _ (by decide) (by decide)).trans s5, (m _ (by decide) (by decide)).trans s8, (m _ (by decide) (by decide)).trans s15, (m _ (by decide) (by decide)).trans s17, (m _ (by decide) (by decide)).trans s19, (m _ (by decide) (by decide)).trans s20, (m _ (by decide) (by decide)).trans s21⟩, ⟨(gi _ _ (by omega) (by omega) (by omega) (by omega) (by omega)).trans n1, n2, ?_, (gi _ _ (by omega) (by omega) (by omega) (by omega) (by omega)).trans n4, n5, by omega, q1, q2, q3⟩, ⟨rodE_fr R (fun a k z1 z2 => g a k (by omega) (by omega) (by omega) (by omega) (by omega)), ?_, K, lawE_fr LE (fun a k z1 z2 z3 => g a k (by omega) (by omega) (by omega) (by omega) (by omega)), LK, LB⟩, ⟨T.1, T.2.1, T.2.2.1, T.2.2.2, im_keep (O := oc h) (z := h.1) (fun a k z => f a k (by omega) (by omega) (by omega) (by omega) (by omega)) (fun s d hs e => Or.inl (by rw [← f (x + 20) s (by omega) (by omega) (by omega) (by omega) (by omega)]; exact e)) (by omega) I⟩⟩
  · rw [gi _ _ (by omega) (by omega) (by omega) (by omega) (by omega)]; exact n3
  · rw [← hw]
    funext k
    exact gi (x + 41) k (by omega) (by omega) (by omega) (by omega) (by omega)
theorem eq_feed {x nx r L n : Nat} {W : jWd} {v1 v2 v3 v4 v5 : Int32} {h : jH} {q p : Int32 × jH} (E : eqS x nx r L W h) (e1 : F_X11_feed n x v1 v2 v3 v4 v5 h = some q) (e2 : F_X12_feed n (x + 40) v1 v2 v3 v4 v5 q.2 = some p) : (∃ L2, eqS x nx r L2 W p.2) ∧ q.1 = p.1 ∧ oi (oc p.2) (x + 40) 0 = 0 := by
  obtain ⟨⟨e0, -, -, -, -, -, ts, M⟩, -, -, ⟨l1, l2, l3, l4, -⟩⟩ := id E
  rcases E_X11_feed e0 ts l1 l3 e1 with ⟨P, y⟩ | ⟨P, y, y6, yb, yf, yz⟩
  · rw [y] at e2
    rcases E_X12_feed M l2 l3 e2 with ⟨-, y2, T⟩ | ⟨P2, -⟩
    · exact ⟨⟨L, eq_thr E T⟩, by rw [y, y2], T.1⟩
    · omega
  · have M2 : mS (oc q.2) (x + 40) := by
      obtain ⟨s1, s2, s3, s4, s5, s8, s15, s17, s19, s20, s21⟩ := M
      have k2 : ∀ k, oc q.2 (x + 40) k = oc h (x + 40) k := fun k => yf _ k (by omega) (by omega)
      exact ⟨(k2 _).trans s1, (k2 _).trans s2, (k2 _).trans s3, (k2 _).trans s4, (k2 _).trans s5, (k2 _).trans s8, (k2 _).trans s15, (k2 _).trans s17, (k2 _).trans s19, (k2 _).trans s20, (k2 _).trans s21⟩
    have yi : ∀ a k : Nat, a ≠ x + 2 → ¬ (a = x + 1 ∧ k = 6) → oi (oc q.2) a k = oi (oc h) a k := fun a k z1 z2 => by unfold oi; rw [yf a k (by omega) z2]
    rcases E_X12_feed M2 ((yi _ _ (by omega) (by omega)).trans l2) l3 e2 with ⟨P2, -⟩ | ⟨-, w, w0, w9, wb, wf, wz⟩
    · omega
    · have fr : ∀ a k : Nat, a ≠ x + 46 → a ≠ x + 47 → ¬ (a = x + 40 ∧ (k = 0 ∨ k = 9)) → oc p.2 a k = oc q.2 a k := fun a k z1 z2 z3 => wf a k (fun c hc z => by simp at hc; omega) (fun z y => z3 ⟨z, by simpa using y⟩)
      have fi : ∀ a k : Nat, a ≠ x + 46 → a ≠ x + 47 → ¬ (a = x + 40 ∧ (k = 0 ∨ k = 9)) → oi (oc p.2) a k = oi (oc q.2) a k := fun a k z1 z2 z3 => by unfold oi; rw [fr a k z1 z2 z3]
      refine ⟨⟨L + 20, eq_tape E (fun a k z1 z2 z3 z4 z5 => (fr a k z3 z4 z5).trans (yf a k z2 z1)) (wz.trans yz) ⟨(fi _ _ (by omega) (by omega) (by omega)).trans y6, w9, by omega, fun i hi => ?_⟩⟩, by rw [y, w], w0⟩
      have b1 := (fi (x + 2) i (by omega) (by omega) (by omega)).trans (yb i)
      have b2 := wb i
      rw [yi _ _ (by omega) (by omega)] at b2
      rw [b1]
      refine Eq.trans ?_ b2.symm
      by_cases z : L ≤ i ∧ i < L + 20
      · rw [if_pos z, if_pos z]
      · rw [if_neg z, if_neg z]; exact l4 i hi
