/-! the calls keep eqS: a call that throws, an act; let -/
theorem eq_thr {x nx r L : Nat} {W : jWd} {h h3 : jH} {c : Int32} (E : eqS x nx r L W h) (T : rTh (x + 40) c h h3) : eqS x nx r L W h3 := by
  obtain ⟨⟨e0, e1, e3, e8, e36, e19, ⟨t0, t1, t2, t3⟩, M⟩, ⟨n1, n2, n3, n4, n5, n6, S, P, A⟩, ⟨R, hw, K, LE, LK, LB⟩, ⟨l1, l2, l3, l4, I⟩⟩ := E
  obtain ⟨-, dF, dz⟩ := T
  have f : ∀ a k : Nat, ¬ (a = x + 40 ∧ k = 0) → oc h3 a k = oc h a k := fun a k z => dF a k (fun c hc => by cases hc) (fun y w => z ⟨y, by simpa using w⟩)
  have fi : ∀ a k : Nat, ¬ (a = x + 40 ∧ k = 0) → oi (oc h3) a k = oi (oc h) a k := fun a k z => by unfold oi; rw [f a k z]
  obtain ⟨q1, q2⟩ := slot_keep (O2 := oc h3) (z2 := h3.1) (fun a k z => f a k (by omega)) (by omega) S P
  have q3 := act_keep (O2 := oc h3) (fun a k z => f a k (by omega)) S n2 A
  refine ⟨⟨(f _ _ (by omega)).trans e0, (f _ _ (by omega)).trans e1, (f _ _ (by omega)).trans e3, (f _ _ (by omega)).trans e8, (f _ _ (by omega)).trans e36, (f _ _ (by omega)).trans e19, ⟨(f _ _ (by omega)).trans t0, (f _ _ (by omega)).trans t1, (f _ _ (by omega)).trans t2, (f _ _ (by omega)).trans t3⟩, mS_fr M dF (by decide) (by decide)⟩, ⟨(fi _ _ (by omega)).trans n1, n2, by rw [fi _ _ (by omega)]; exact n3, (fi _ _ (by omega)).trans n4, n5, by omega, q1, q2, q3⟩, ⟨rodE_fr R (fun a k z1 z2 => f _ _ (by omega)), (wl_f dF (by decide)).trans hw, K, lawE_fr LE (fun a k z1 z2 z3 => f _ _ (by omega)), LK, LB⟩, ⟨(fi _ _ (by omega)).trans l1, (fi _ _ (by omega)).trans l2, l3, fun i hi => ?_, im_keep (O := oc h) (z := h.1) (fun a k z => f a k (by omega)) (fun s d hs e => Or.inl (by rw [← f _ _ (by omega)]; exact e)) (by omega) I⟩⟩
  rw [fi _ _ (by omega), fi _ _ (by omega)]
  exact l4 i hi
theorem eq_mid {x nx r L : Nat} {W W2 : jWd} {h h2 : jH} (E : eqS x nx r L W h) (C : cAct x nx W W2 h h2) : mS (oc h2) (x + 40) ∧ wl (oc h2) (x + 40) = W ∧ oi (oc h2) (x + 40) 7 = nI r := by
  have f2 := c_keep E.2.1.2.2.2.2.2.1 (eq_pre E).2.1 C
  obtain ⟨⟨-, -, -, -, -, -, -, M⟩, ⟨-, -, -, n4, -⟩, ⟨-, hw, -⟩, -⟩ := E
  obtain ⟨s1, s2, s3, s4, s5, s8, s15, s17, s19, s20, s21⟩ := M
  have k2 : ∀ a k : Nat, 40 ≤ a → a ≤ 52 → oc h2 (x + a) k = oc h (x + a) k := fun a k z1 z2 => f2 _ k (by omega) (by omega) (by omega) (by omega) (by omega) (by omega)
  have k3 : ∀ k, oc h2 (x + 40) k = oc h (x + 40) k := fun k => k2 40 k (by omega) (by omega)
  refine ⟨⟨(k3 _).trans s1, (k3 _).trans s2, (k3 _).trans s3, (k3 _).trans s4, (k3 _).trans s5, (k3 _).trans s8, (k3 _).trans s15, (k3 _).trans s17, (k3 _).trans s19, (k3 _).trans s20, (k3 _).trans s21⟩, ?_, ?_⟩
  · rw [← hw]
    funext k
    show oi (oc h2) (x + 41) k = oi (oc h) (x + 41) k
    unfold oi
    rw [k2 41 k (by omega) (by omega)]
  · rw [← n4]
    unfold oi
    rw [k3]
/-- the class's answer (or throw), the reference's answer and fault; l: which throw is which fault -/
def ansE (l : List (Nat × Int32)) (a : jR) (b f : Int32) : Prop := (a = .inl b ∧ f = 0) ∨ ∃ p ∈ l, a = .inr p.1 ∧ b = 0 ∧ f = p.2
theorem no_ring {W : jWd} {v : Int32} {i : Nat} (K : wOK W) (h8 : i < 8) (hi : v = nI i) (hi0 : (i : Int) < (W 0).toInt) : 0 ≤ v.toInt ∧ v.toInt < (W 0).toInt := by
  rw [hi, nI_toInt (by omega)]; omega
theorem eq_let {x nx r L n : Nat} {W : jWd} {v w : Int32} {h : jH} {q : jR × jH} {p : Int32 × jH} (E : eqS x nx r L W h) (e1 : F_X11_let n x v w h = some q) (e2 : F_X12_let n (x + 40) v w q.2 = some p) : (∃ nx2 r2 W2, eqS x nx2 r2 L W2 p.2) ∧ ansE [(2, 1), (0, 2)] q.1 p.1 (oi (oc p.2) (x + 40) 0) := by
  have C := eq_pre E
  obtain ⟨⟨-, -, -, -, -, -, -, M⟩, ⟨-, -, -, n4, n5, -⟩, ⟨-, hw, K, -, LK, LB⟩, -⟩ := id E
  rcases E_X11_let C e1 with ⟨P, y, z⟩ | ⟨i, h8, hi, hi0, ⟨P, y, z⟩ | ⟨P, y, A⟩⟩
  · rw [z] at e2
    rcases E_X12_let M hw K n4 n5 e2 with ⟨-, y2, T⟩ | ⟨j, j8, hj, hj0, -⟩
    · exact ⟨⟨_, _, _, eq_thr E T⟩, Or.inr ⟨(2, 1), by simp, y, y2, T.1⟩⟩
    · exact absurd (no_ring K j8 hj hj0) P
  · rw [z] at e2
    rcases E_X12_let M hw K n4 n5 e2 with ⟨P2, -, -⟩ | ⟨j, j8, hj, hj0, ⟨-, y2, T⟩ | ⟨P2, -, -⟩⟩
    · exact absurd (no_ring K h8 hi hi0) P2
    · exact ⟨⟨_, _, _, eq_thr E T⟩, Or.inr ⟨(0, 2), by simp, y, y2, T.1⟩⟩
    · exact absurd P2 P
  · obtain ⟨M2, w2, g2⟩ := eq_mid E A
    rcases E_X12_let M2 w2 K g2 n5 e2 with ⟨P2, -, -⟩ | ⟨j, j8, hj, hj0, ⟨P2, -, -⟩ | ⟨-, y2, D⟩⟩
    · exact absurd (no_ring K h8 hi hi0) P2
    · exact absurd P P2
    · have ij : j = i := (nI_eq (by omega) (by omega)).mp (hj.symm.trans hi)
      subst ij
      have hl := up_law (W := W) (i := 16 + 8 * j) (x := w) ⟨by omega, by omega⟩
      exact ⟨⟨_, _, _, eq_act E A D (wOK_ln K P) hl (lawK_cg LK hl) (lawB_cg LB hl)⟩, Or.inl ⟨by rw [y, y2], D.1⟩⟩
