/-! hook, chair, free, snag keep eqS -/
theorem eq_hook {x nx r L n : Nat} {W : jWd} {v w : Int32} {h : jH} {q : jR × jH} {p : Int32 × jH} (hw2 : w = 0 ∨ w = 1) (E : eqS x nx r L W h) (e1 : F_X11_hook n x v w h = some q) (e2 : F_X12_hook n (x + 40) v w q.2 = some p) : (∃ nx2 r2 W2, eqS x nx2 r2 L W2 p.2) ∧ ansE [(2, 1)] q.1 p.1 (oi (oc p.2) (x + 40) 0) := by
  have C := eq_pre E
  obtain ⟨⟨-, -, -, -, -, -, -, M⟩, ⟨-, -, -, n4, n5, -⟩, ⟨-, hw, K, -, LK, LB⟩, -⟩ := id E
  rcases E_X11_hook C hw2 e1 with ⟨P, y, z⟩ | ⟨i, h8, hi, hi0, y, A⟩
  · rw [z] at e2
    rcases E_X12_hook M hw K n4 n5 hw2 e2 with ⟨-, y2, T⟩ | ⟨j, j8, hj, hj0, -⟩
    · exact ⟨⟨_, _, _, eq_thr E T⟩, Or.inr ⟨(2, 1), by simp, y, y2, T.1⟩⟩
    · exact absurd (no_ring K j8 hj hj0) P
  · obtain ⟨M2, w2, g2⟩ := eq_mid E A
    rcases E_X12_hook M2 w2 K g2 n5 hw2 e2 with ⟨P2, -, -⟩ | ⟨j, j8, hj, hj0, y2, D⟩
    · exact absurd (no_ring K h8 hi hi0) P2
    · have ij : j = i := (nI_eq (by omega) (by omega)).mp (hj.symm.trans hi)
      subst ij
      have hl := up_law (W := W) (i := 17 + 8 * j) (x := w) ⟨by omega, by omega⟩
      exact ⟨⟨_, _, _, eq_act E A D (wOK_hk K hw2) hl (lawK_cg LK hl) (lawB_cg LB hl)⟩, Or.inl ⟨by rw [y, y2], D.1⟩⟩
theorem eq_chair {x nx r L n : Nat} {W : jWd} {v w : Int32} {h : jH} {q : jR × jH} {p : Int32 × jH} (hw2 : w = 0 ∨ w = 1) (E : eqS x nx r L W h) (e1 : F_X11_chair n x v w h = some q) (e2 : F_X12_chair n (x + 40) v w q.2 = some p) : (∃ nx2 r2 W2, eqS x nx2 r2 L W2 p.2) ∧ ansE [(2, 1)] q.1 p.1 (oi (oc p.2) (x + 40) 0) := by
  have C := eq_pre E
  obtain ⟨⟨-, -, -, -, -, -, -, M⟩, ⟨-, -, -, n4, n5, -⟩, ⟨-, hw, K, -, LK, LB⟩, -⟩ := id E
  have pl : ∀ i : Nat, i < 32 → v = nI i → 0 ≤ v.toInt ∧ v.toInt ≤ 31 := fun i h1 h2 => by rw [h2, nI_toInt (by omega)]; omega
  rcases E_X11_chair C e1 with ⟨P, y, z⟩ | ⟨i, h8, hi, y, A⟩
  · rw [z] at e2
    rcases E_X12_chair M hw K n4 n5 hw2 e2 with ⟨-, y2, T⟩ | ⟨j, j8, hj, -⟩
    · exact ⟨⟨_, _, _, eq_thr E T⟩, Or.inr ⟨(2, 1), by simp, y, y2, T.1⟩⟩
    · exact absurd (pl j j8 hj) P
  · obtain ⟨M2, w2, g2⟩ := eq_mid E A
    rcases E_X12_chair M2 w2 K g2 n5 hw2 e2 with ⟨P2, -, -⟩ | ⟨j, j8, hj, y2, D⟩
    · exact absurd (pl i h8 hi) P2
    · have ij : j = i := (nI_eq (by omega) (by omega)).mp (hj.symm.trans hi)
      subst ij
      have hl := up_law (W := W) (i := 7) (x := chV (W 7) j w) ⟨by omega, by omega⟩
      exact ⟨⟨_, _, _, eq_act E A D (wOK_7 K) hl (lawK_cg LK hl) (lawB_cg LB hl)⟩, Or.inl ⟨by rw [y, y2], D.1⟩⟩
theorem eq_free {x nx r L n : Nat} {W : jWd} {v : Int32} {h : jH} {q : jR × jH} {p : Int32 × jH} (E : eqS x nx r L W h) (e1 : F_X11_free n x v h = some q) (e2 : F_X12_free n (x + 40) v q.2 = some p) : (∃ nx2 r2 W2, eqS x nx2 r2 L W2 p.2) ∧ ansE [(2, 1), (1, 2)] q.1 p.1 (oi (oc p.2) (x + 40) 0) := by
  have C := eq_pre E
  obtain ⟨⟨-, -, -, -, -, -, -, M⟩, ⟨-, -, -, n4, n5, -⟩, ⟨-, hw, K, -, LK, LB⟩, -⟩ := id E
  rcases E_X11_free C e1 with ⟨P, y, z⟩ | ⟨i, h8, hi, hi0, ⟨P, y, z⟩ | ⟨P, P3, y, A⟩⟩
  · rw [z] at e2
    rcases E_X12_free M hw K n4 n5 e2 with ⟨-, y2, T⟩ | ⟨j, j8, hj, hj0, -⟩
    · exact ⟨⟨_, _, _, eq_thr E T⟩, Or.inr ⟨(2, 1), by simp, y, y2, T.1⟩⟩
    · exact absurd (no_ring K j8 hj hj0) P
  · rw [z] at e2
    rcases E_X12_free M hw K n4 n5 e2 with ⟨P2, -, -⟩ | ⟨j, j8, hj, hj0, ⟨-, y2, T⟩ | ⟨P2, -, -, -⟩⟩
    · exact absurd (no_ring K h8 hi hi0) P2
    · exact ⟨⟨_, _, _, eq_thr E T⟩, Or.inr ⟨(1, 2), by simp, y, y2, T.1⟩⟩
    · have ij : j = i := (nI_eq (by omega) (by omega)).mp (hj.symm.trans hi)
      subst ij
      exact absurd P P2
  · obtain ⟨M2, w2, g2⟩ := eq_mid E A
    rcases E_X12_free M2 w2 K g2 n5 e2 with ⟨P2, -, -⟩ | ⟨j, j8, hj, hj0, ⟨P2, -, -⟩ | ⟨-, -, y2, D⟩⟩
    · exact absurd (no_ring K h8 hi hi0) P2
    · have ij : j = i := (nI_eq (by omega) (by omega)).mp (hj.symm.trans hi)
      subst ij
      exact absurd P2 P
    · have ij : j = i := (nI_eq (by omega) (by omega)).mp (hj.symm.trans hi)
      subst ij
      have hl := up_law (W := W) (i := 18 + 8 * j) (x := 0) ⟨by omega, by omega⟩
      exact ⟨⟨_, _, _, eq_act E A D (wOK_ct K (Or.inl rfl)) hl (lawK_cg LK hl) (lawB_cg LB hl)⟩, Or.inl ⟨by rw [y, y2], D.1⟩⟩
theorem eq_snag {x nx r L n : Nat} {W : jWd} {v : Int32} {h : jH} {q : jR × jH} {p : Int32 × jH} (E : eqS x nx r L W h) (e1 : F_X11_snag n x v h = some q) (e2 : F_X12_snag n (x + 40) v q.2 = some p) : (∃ nx2 r2 W2, eqS x nx2 r2 L W2 p.2) ∧ ansE [(2, 1), (1, 2)] q.1 p.1 (oi (oc p.2) (x + 40) 0) := by
  have C := eq_pre E
  obtain ⟨⟨-, -, -, -, -, -, -, M⟩, ⟨-, -, -, n4, n5, -⟩, ⟨-, hw, K, -, LK, LB⟩, -⟩ := id E
  rcases E_X11_snag C e1 with ⟨P, y, z⟩ | ⟨i, h8, hi, hi0, ⟨P, y, z⟩ | ⟨P, P3, y, A⟩⟩
  · rw [z] at e2
    rcases E_X12_snag M hw K n4 n5 e2 with ⟨-, y2, T⟩ | ⟨j, j8, hj, hj0, -⟩
    · exact ⟨⟨_, _, _, eq_thr E T⟩, Or.inr ⟨(2, 1), by simp, y, y2, T.1⟩⟩
    · exact absurd (no_ring K j8 hj hj0) P
  · rw [z] at e2
    rcases E_X12_snag M hw K n4 n5 e2 with ⟨P2, -, -⟩ | ⟨j, j8, hj, hj0, ⟨-, y2, T⟩ | ⟨P2, -, -, -⟩⟩
    · exact absurd (no_ring K h8 hi hi0) P2
    · exact ⟨⟨_, _, _, eq_thr E T⟩, Or.inr ⟨(1, 2), by simp, y, y2, T.1⟩⟩
    · have ij : j = i := (nI_eq (by omega) (by omega)).mp (hj.symm.trans hi)
      subst ij
      exact absurd P P2
  · obtain ⟨M2, w2, g2⟩ := eq_mid E A
    rcases E_X12_snag M2 w2 K g2 n5 e2 with ⟨P2, -, -⟩ | ⟨j, j8, hj, hj0, ⟨P2, -, -⟩ | ⟨-, -, y2, D⟩⟩
    · exact absurd (no_ring K h8 hi hi0) P2
    · have ij : j = i := (nI_eq (by omega) (by omega)).mp (hj.symm.trans hi)
      subst ij
      exact absurd P2 P
    · have ij : j = i := (nI_eq (by omega) (by omega)).mp (hj.symm.trans hi)
      subst ij
      have hl := up_law (W := W) (i := 18 + 8 * j) (x := 1) ⟨by omega, by omega⟩
      exact ⟨⟨_, _, _, eq_act E A D (wOK_ct K (Or.inr ⟨rfl, P3⟩)) hl (lawK_cg LK hl) (lawB_cg LB hl)⟩, Or.inl ⟨by rw [y, y2], D.1⟩⟩
