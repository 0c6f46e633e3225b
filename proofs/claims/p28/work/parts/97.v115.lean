/-! pull and sew keep eqS -/
theorem eq_pull {x nx r L n : Nat} {W : jWd} {d : Bool} {v s w : Int32} {h : jH} {q : jR × jH} {p : Int32 × jH} (hd : s = dI d) (E : eqS x nx r L W h) (e1 : F_X11_pull n x v s w h = some q) (e2 : F_X12_pull n (x + 40) v s w q.2 = some p) : (∃ nx2 r2 W2, eqS x nx2 r2 L W2 p.2) ∧ ansE [(2, 1), (0, 2)] q.1 p.1 (oi (oc p.2) (x + 40) 0) := by
  have C := eq_pre E
  obtain ⟨⟨-, -, -, -, -, -, -, M⟩, ⟨-, -, -, n4, n5, -⟩, ⟨-, hw, K, -, LK, LB⟩, -⟩ := id E
  have st : ∀ N : Nat, N < 32 → 1 ≤ N → w = nI N → 1 ≤ w.toInt ∧ w.toInt ≤ 31 := fun i h1 h2 h3 => by rw [h3, nI_toInt (by omega)]; omega
  rcases E_X11_pull C hd e1 with ⟨P, y, z⟩ | ⟨i, h8, hi, hi0, ⟨P, y, z⟩ | ⟨N, f, hN, hN1, h3, F, y, K3, A⟩⟩
  · rw [z] at e2
    rcases E_X12_pull M hw K n4 n5 hd e2 with ⟨-, y2, T⟩ | ⟨j, j8, hj, hj0, -⟩
    · exact ⟨⟨_, _, _, eq_thr E T⟩, Or.inr ⟨(2, 1), by simp, y, y2, T.1⟩⟩
    · exact absurd (no_ring K j8 hj hj0) P
  · rw [z] at e2
    rcases E_X12_pull M hw K n4 n5 hd e2 with ⟨P2, -, -⟩ | ⟨j, j8, hj, hj0, ⟨-, y2, T⟩ | ⟨N, f, hN, hN1, h3, -⟩⟩
    · exact absurd (no_ring K h8 hi hi0) P2
    · exact ⟨⟨_, _, _, eq_thr E T⟩, Or.inr ⟨(0, 2), by simp, y, y2, T.1⟩⟩
    · exact absurd (st N hN hN1 h3) P
  · obtain ⟨M2, w2, g2⟩ := eq_mid E A
    rcases E_X12_pull M2 w2 K g2 n5 hd e2 with ⟨P2, -, -⟩ | ⟨j, j8, hj, hj0, ⟨P2, -, -⟩ | ⟨N2, f2, hN2, hN12, h32, F2, y2, D⟩⟩
    · exact absurd (no_ring K h8 hi hi0) P2
    · exact absurd (st N hN hN1 h3) P2
    · have ij : j = i := (nI_eq (by omega) (by omega)).mp (hj.symm.trans hi)
      subst ij
      have NN : N2 = N := (nI_eq (by omega) (by omega)).mp (h32.symm.trans h3)
      subst NN
      have ff := isF_u F2 F
      subst ff
      have hl := pl_law (W := W) (r := j) (i := j) (f := f2) (d := d) (x := nI j) (y := 0) (z := nI f2)
      exact ⟨⟨_, _, _, eq_act E A D (wOK_tl K3) hl (lawK_cg LK hl) (lawB_cg LB hl)⟩, Or.inl ⟨by rw [y, y2], D.1⟩⟩
theorem eq_sew {x nx r L n : Nat} {W : jWd} {v w : Int32} {h : jH} {q : jR × jH} {p : Int32 × jH} (E : eqS x nx r L W h) (e1 : F_X11_sew n x v w h = some q) (e2 : F_X12_sew n (x + 40) v w q.2 = some p) : (∃ nx2 r2 W2, eqS x nx2 r2 L W2 p.2) ∧ ansE [(2, 1), (0, 2), (1, 3)] q.1 p.1 (oi (oc p.2) (x + 40) 0) := by
  have C := eq_pre E
  obtain ⟨⟨-, -, -, -, -, -, -, M⟩, ⟨-, -, -, n4, n5, -⟩, ⟨-, hw, K, -, LK, LB⟩, -⟩ := id E
  rcases E_X11_sew C e1 with ⟨P, y, z⟩ | ⟨P, ⟨Q, y, z⟩ | ⟨Q, ⟨U, y, z⟩ | ⟨U, y, A⟩⟩⟩
  · rw [z] at e2
    rcases E_X12_sew M hw K n4 n5 e2 with ⟨-, y2, T⟩ | ⟨P2, -⟩
    · exact ⟨⟨_, _, _, eq_thr E T⟩, Or.inr ⟨(2, 1), by simp, y, y2, T.1⟩⟩
    · exact absurd P2 P
  · rw [z] at e2
    rcases E_X12_sew M hw K n4 n5 e2 with ⟨P2, -⟩ | ⟨-, ⟨-, y2, T⟩ | ⟨Q2, -⟩⟩
    · exact absurd P P2
    · exact ⟨⟨_, _, _, eq_thr E T⟩, Or.inr ⟨(0, 2), by simp, y, y2, T.1⟩⟩
    · exact absurd Q2 Q
  · rw [z] at e2
    rcases E_X12_sew M hw K n4 n5 e2 with ⟨P2, -⟩ | ⟨-, ⟨Q2, -⟩ | ⟨-, ⟨-, y2, T⟩ | ⟨U2, -⟩⟩⟩
    · exact absurd P P2
    · exact absurd Q Q2
    · exact ⟨⟨_, _, _, eq_thr E T⟩, Or.inr ⟨(1, 3), by simp, y, y2, T.1⟩⟩
    · exact absurd U2 U
  · obtain ⟨M2, w2, g2⟩ := eq_mid E A
    rcases E_X12_sew M2 w2 K g2 n5 e2 with ⟨P2, -⟩ | ⟨-, ⟨Q2, -⟩ | ⟨-, ⟨U2, -⟩ | ⟨-, y2, D⟩⟩⟩
    · exact absurd P P2
    · exact absurd Q Q2
    · exact absurd U U2
    · have hl := hg_law (W := W) (x := v) (y := w) (cN_lt K U.1)
      exact ⟨⟨_, _, _, eq_act E A D (wOK_hg K P Q U) hl (lawK_cg LK hl) (lawB_cg LB hl)⟩, Or.inl ⟨by rw [y, y2], D.1⟩⟩
