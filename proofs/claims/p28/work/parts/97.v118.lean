/-! seed and undo keep eqS -/
theorem eq_wld {x nx r L nx2 r2 : Nat} {W W2 : jWd} {h h3 : jH} (E : eqS x nx r L W h) (f : ∀ a k : Nat, ¬ (x + 6 ≤ a ∧ a ≤ x + 12) → ¬ (a = x + 19 ∧ (k = 1 ∨ k = 2)) → a ≠ x + 41 → ¬ (a = x + 40 ∧ (k = 0 ∨ k = 7)) → oc h3 a k = oc h a k) (dz : h3.1 = h.1)
    (N : oi (oc h3) (x + 19) 1 = nI nx2 ∧ nx2 ≤ 11 ∧ (oi (oc h3) (x + 19) 2).toInt = (r2 : Int) ∧ oi (oc h3) (x + 40) 7 = nI r2 ∧ r2 ≤ 12 ∧ actE (oc h3) x (x + 40) r2 nx2) (R2 : rodE (oc h3) (x + 6) W2) (w2 : wl (oc h3) (x + 40) = W2) (K2 : wOK W2) (hl : ∀ k, k = 2 ∨ 435 ≤ k → W2 k = W k) : eqS x nx2 r2 L W2 h3 := by
  obtain ⟨⟨e0, e1, e3, e8, e36, e19, ⟨t0, t1, t2, t3⟩, s1, s2, s3, s4, s5, s8, s15, s17, s19, s20, s21⟩, ⟨n1, n2, n3, n4, n5, n6, S, P, A⟩, ⟨R, hw, K, LE, LK, LB⟩, ⟨l1, l2, l3, l4, I⟩⟩ := E
  obtain ⟨m1, m2, m3, m4, m5, m6⟩ := N
  obtain ⟨q1, q2⟩ := slot_keep (O2 := oc h3) (z2 := h3.1) (fun a k z => f a k (by omega) (by omega) (by omega) (by omega)) (by omega) S P
  have m : ∀ k : Nat, k ≠ 0 → k ≠ 7 → oc h3 (x + 40) k = oc h (x + 40) k := fun k z1 z2 => f _ k (by omega) (by omega) (by omega) (by omega)
  have c : ∀ a k : Nat, a ≤ x + 5 → oc h3 a k = oc h a k := fun a k z => f _ k (by omega) (by omega) (by omega) (by omega)
  have ci : ∀ a k : Nat, a ≤ x + 5 → oi (oc h3) a k = oi (oc h) a k := fun a k z => by unfold oi; rw [c a k z]
  refine ⟨⟨(c _ _ (by omega)).trans e0, (c _ _ (by omega)).trans e1, (c _ _ (by omega)).trans e3, (c _ _ (by omega)).trans e8, (f _ _ (by omega) (by omega) (by omega) (by omega)).trans e36, (f _ _ (by omega) (by omega) (by omega) (by omega)).trans e19, ⟨(c _ _ (by omega)).trans t0, (c _ _ (by omega)).trans t1, (c _ _ (by omega)).trans t2, (c _ _ (by omega)).trans t3⟩, (m _ (by decide) (by decide)).trans s1, (m _ (by decide) (by decide)).trans s2, (m _ (by decide) (by decide)).trans s3, (m _ (by decide) (by decide)).trans s4, (m _ (by decide) (by decide)).trans s5, (m _ (by decide) (by decide)).trans s8, (m _ (by decide) (by decide)).trans s15, (m _ (by decide) (by decide)).trans s17, (m _ (by decide) (by decide)).trans s19, (m _ (by decide) (by decide)).trans s20, (m _ (by decide) (by decide)).trans s21⟩, ⟨m1, m2, m3, m4, m5, by omega, q1, q2, m6⟩, ⟨R2, w2, K2, lawE_cg (lawE_fr LE (fun a k z1 z2 z3 => f a k (by omega) (by omega) (by omega) (by omega))) hl, lawK_cg LK hl, lawB_cg LB hl⟩, ⟨(ci _ _ (by omega)).trans l1, ?_, l3, fun i hi => ?_, im_keep (O := oc h) (z := h.1) (fun a k z => f a k (by omega) (by omega) (by omega) (by omega)) (fun s d hs e => Or.inl (by rw [← f (x + 20) s (by omega) (by omega) (by omega) (by omega)]; exact e)) (by omega) I⟩⟩
  · rw [← l2]
    unfold oi
    rw [m 9 (by decide) (by decide)]
  · have y : oi (oc h3) (x + 46) i = oi (oc h) (x + 46) i := by unfold oi; rw [f (x + 46) i (by omega) (by omega) (by omega) (by omega)]
    rw [ci _ _ (by omega), y]
    exact l4 i hi
theorem eq_seed {x nx r L n : Nat} {W : jWd} {v : Int32} {h : jH} {q p : Int32 × jH} (E : eqS x nx r L W h) (e1 : F_X11_seed n x v h = some q) (e2 : F_X12_seed n (x + 40) v q.2 = some p) : (∃ W2, eqS x nx r L W2 p.2) ∧ q.1 = p.1 ∧ oi (oc p.2) (x + 40) 0 = 0 := by
  obtain ⟨⟨-, x1, -, -, -, -, -, M⟩, ⟨n1, n2, n3, n4, n5, n6, S, P, A⟩, ⟨R, hw, K, -⟩, -⟩ := id E
  obtain ⟨y, yR, yf, yz⟩ := E_X11_seed x1 R e1
  have M2 : mS (oc q.2) (x + 40) := by
    obtain ⟨s1, s2, s3, s4, s5, s8, s15, s17, s19, s20, s21⟩ := M
    have k2 : ∀ k, oc q.2 (x + 40) k = oc h (x + 40) k := fun k => yf _ k (by omega)
    exact ⟨(k2 _).trans s1, (k2 _).trans s2, (k2 _).trans s3, (k2 _).trans s4, (k2 _).trans s5, (k2 _).trans s8, (k2 _).trans s15, (k2 _).trans s17, (k2 _).trans s19, (k2 _).trans s20, (k2 _).trans s21⟩
  have w2 : wl (oc q.2) (x + 40) = W := by
    rw [← hw]
    funext k
    show oi (oc q.2) (x + 41) k = oi (oc h) (x + 41) k
    unfold oi
    rw [yf _ _ (by omega)]
  obtain ⟨u, u0, uw, uf, uz⟩ := E_X12_seed M2 w2 e2
  have fr : ∀ a k : Nat, a ≠ x + 41 → ¬ (a = x + 40 ∧ k = 0) → oc p.2 a k = oc q.2 a k := fun a k z1 z2 => uf a k (fun c hc z => by simp at hc; omega) (fun z y => z2 ⟨z, by simpa using y⟩)
  have f : ∀ a k : Nat, ¬ (x + 6 ≤ a ∧ a ≤ x + 12) → a ≠ x + 41 → ¬ (a = x + 40 ∧ k = 0) → oc p.2 a k = oc h a k := fun a k z1 z2 z3 => (fr a k z2 z3).trans (yf a k (by omega))
  have fi : ∀ a k : Nat, ¬ (x + 6 ≤ a ∧ a ≤ x + 12) → a ≠ x + 41 → ¬ (a = x + 40 ∧ k = 0) → oi (oc p.2) a k = oi (oc h) a k := fun a k z1 z2 z3 => by unfold oi; rw [f a k z1 z2 z3]
  refine ⟨⟨upd W 10 v, eq_wld E (fun a k z1 z2 z3 z4 => f a k z1 z3 (by omega)) (uz.trans yz) ⟨(fi _ _ (by omega) (by omega) (by omega)).trans n1, n2, by rw [fi _ _ (by omega) (by omega) (by omega)]; exact n3, (fi _ _ (by omega) (by omega) (by omega)).trans n4, n5, act_keep (O2 := oc p.2) (fun a k z => f a k (by omega) (by omega) (by omega)) S n2 A⟩ (rodE_fr yR (fun a k z1 z2 => fr a k (by omega) (by omega))) uw (wOK_10 K) (up_law ⟨by decide, by decide⟩)⟩, by rw [y, u], u0⟩
