/-! the calls that the law makes through its own methods: between class and reference stands what the law wrote -/
theorem rAct_oc {m r : Nat} {W2 : jWd} {h h1 p : jH} (ho : oc h1 = oc h) (D : rAct m r W2 h1 p) : rAct m r W2 h (h.1, p.2) := by
  obtain ⟨a, b, c, d, e, f, g⟩ := D
  rw [ho] at d e f
  exact ⟨a, b, c, d, e, f, rfl⟩
theorem eq_z2 {x nx r L : Nat} {W : jWd} {h1 h2 p : jH} (hz : h2.1 ≤ h1.1) (s : p.1 = h1.1) (E : eqS x nx r L W (h2.1, p.2)) : eqS x nx r L W p := eq_oc E rfl (by rw [s]; exact hz)
theorem eqz_let {x nx r L n : Nat} {W : jWd} {v w : Int32} {h : jH} {q : jR × jH} {p : Int32 × jH} (E : eqS x nx r L W h) (e1 : F_X11_let n x v w h = some q) {h1 : jH} (ho : oc h1 = oc q.2) (hz : q.2.1 ≤ h1.1) (e2 : F_X12_let n (x + 40) v w h1 = some p) : (∃ nx2 r2 W2, eqS x nx2 r2 L W2 p.2) ∧ ansE [(2, 1), (0, 2)] q.1 p.1 (oi (oc p.2) (x + 40) 0) := by
  have C := eq_pre E
  obtain ⟨⟨-, -, -, -, -, -, -, M⟩, ⟨-, -, -, n4, n5, -⟩, ⟨-, hw, K, -, LK, LB⟩, -⟩ := id E
  rcases E_X11_let C e1 with ⟨P, y, z⟩ | ⟨i, h8, hi, hi0, ⟨P, y, z⟩ | ⟨P, y, A⟩⟩
  · rw [z] at ho hz
    have E1 := eq_oc E ho hz
    obtain ⟨⟨-, -, -, -, -, -, -, M⟩, ⟨-, -, -, n4, n5, -⟩, ⟨-, hw, K, -, LK, LB⟩, -⟩ := id E1
    rcases E_X12_let M hw K n4 n5 e2 with ⟨-, y2, T⟩ | ⟨j, j8, hj, hj0, -⟩
    · exact ⟨⟨_, _, _, eq_thr E1 T⟩, Or.inr ⟨(2, 1), by simp, y, y2, T.1⟩⟩
    · exact absurd (no_ring K j8 hj hj0) P
  · rw [z] at ho hz
    have E1 := eq_oc E ho hz
    obtain ⟨⟨-, -, -, -, -, -, -, M⟩, ⟨-, -, -, n4, n5, -⟩, ⟨-, hw, K, -, LK, LB⟩, -⟩ := id E1
    rcases E_X12_let M hw K n4 n5 e2 with ⟨P2, -, -⟩ | ⟨j, j8, hj, hj0, ⟨-, y2, T⟩ | ⟨P2, -, -⟩⟩
    · exact absurd (no_ring K h8 hi hi0) P2
    · exact ⟨⟨_, _, _, eq_thr E1 T⟩, Or.inr ⟨(0, 2), by simp, y, y2, T.1⟩⟩
    · exact absurd P2 P
  · obtain ⟨M2, w2, g2⟩ := eq_mid E A
    rw [← ho] at M2 w2 g2
    rcases E_X12_let M2 w2 K g2 n5 e2 with ⟨P2, -, -⟩ | ⟨j, j8, hj, hj0, ⟨P2, -, -⟩ | ⟨-, y2, D⟩⟩
    · exact absurd (no_ring K h8 hi hi0) P2
    · exact absurd P P2
    · have ij : j = i := (nI_eq (by omega) (by omega)).mp (hj.symm.trans hi)
      subst ij
      have hl := up_law (W := W) (i := 16 + 8 * j) (x := w) ⟨by omega, by omega⟩
      exact ⟨⟨_, _, _, eq_z2 hz D.2.2.2.2.2.2 (eq_act E A (rAct_oc ho D) (wOK_ln K P) hl (lawK_cg LK hl) (lawB_cg LB hl))⟩, Or.inl ⟨by rw [y, y2], D.1⟩⟩
theorem eqz_hook {x nx r L n : Nat} {W : jWd} {v w : Int32} {h : jH} {q : jR × jH} {p : Int32 × jH} (hw2 : w = 0 ∨ w = 1) (E : eqS x nx r L W h) (e1 : F_X11_hook n x v w h = some q) {h1 : jH} (ho : oc h1 = oc q.2) (hz : q.2.1 ≤ h1.1) (e2 : F_X12_hook n (x + 40) v w h1 = some p) : (∃ nx2 r2 W2, eqS x nx2 r2 L W2 p.2) ∧ ansE [(2, 1)] q.1 p.1 (oi (oc p.2) (x + 40) 0) := by
  have C := eq_pre E
  obtain ⟨⟨-, -, -, -, -, -, -, M⟩, ⟨-, -, -, n4, n5, -⟩, ⟨-, hw, K, -, LK, LB⟩, -⟩ := id E
  rcases E_X11_hook C hw2 e1 with ⟨P, y, z⟩ | ⟨i, h8, hi, hi0, y, A⟩
  · rw [z] at ho hz
    have E1 := eq_oc E ho hz
    obtain ⟨⟨-, -, -, -, -, -, -, M⟩, ⟨-, -, -, n4, n5, -⟩, ⟨-, hw, K, -, LK, LB⟩, -⟩ := id E1
    rcases E_X12_hook M hw K n4 n5 hw2 e2 with ⟨-, y2, T⟩ | ⟨j, j8, hj, hj0, -⟩
    · exact ⟨⟨_, _, _, eq_thr E1 T⟩, Or.inr ⟨(2, 1), by simp, y, y2, T.1⟩⟩
    · exact absurd (no_ring K j8 hj hj0) P
  · obtain ⟨M2, w2, g2⟩ := eq_mid E A
    rw [← ho] at M2 w2 g2
    rcases E_X12_hook M2 w2 K g2 n5 hw2 e2 with ⟨P2, -, -⟩ | ⟨j, j8, hj, hj0, y2, D⟩
    · exact absurd (no_ring K h8 hi hi0) P2
    · have ij : j = i := (nI_eq (by omega) (by omega)).mp (hj.symm.trans hi)
      subst ij
      have hl := up_law (W := W) (i := 17 + 8 * j) (x := w) ⟨by omega, by omega⟩
      exact ⟨⟨_, _, _, eq_z2 hz D.2.2.2.2.2.2 (eq_act E A (rAct_oc ho D) (wOK_hk K hw2) hl (lawK_cg LK hl) (lawB_cg LB hl))⟩, Or.inl ⟨by rw [y, y2], D.1⟩⟩
theorem eqz_chair {x nx r L n : Nat} {W : jWd} {v w : Int32} {h : jH} {q : jR × jH} {p : Int32 × jH} (hw2 : w = 0 ∨ w = 1) (E : eqS x nx r L W h) (e1 : F_X11_chair n x v w h = some q) {h1 : jH} (ho : oc h1 = oc q.2) (hz : q.2.1 ≤ h1.1) (e2 : F_X12_chair n (x + 40) v w h1 = some p) : (∃ nx2 r2 W2, eqS x nx2 r2 L W2 p.2) ∧ ansE [(2, 1)] q.1 p.1 (oi (oc p.2) (x + 40) 0) := by
  have C := eq_pre E
  obtain ⟨⟨-, -, -, -, -, -, -, M⟩, ⟨-, -, -, n4, n5, -⟩, ⟨-, hw, K, -, LK, LB⟩, -⟩ := id E
  have pl : ∀ i : Nat, i < 32 → v = nI i → 0 ≤ v.toInt ∧ v.toInt ≤ 31 := fun i h1 h2 => by rw [h2, nI_toInt (by omega)]; omega
  rcases E_X11_chair C e1 with ⟨P, y, z⟩ | ⟨i, h8, hi, y, A⟩
  · rw [z] at ho hz
    have E1 := eq_oc E ho hz
    obtain ⟨⟨-, -, -, -, -, -, -, M⟩, ⟨-, -, -, n4, n5, -⟩, ⟨-, hw, K, -, LK, LB⟩, -⟩ := id E1
    rcases E_X12_chair M hw K n4 n5 hw2 e2 with ⟨-, y2, T⟩ | ⟨j, j8, hj, -⟩
    · exact ⟨⟨_, _, _, eq_thr E1 T⟩, Or.inr ⟨(2, 1), by simp, y, y2, T.1⟩⟩
    · exact absurd (pl j j8 hj) P
  · obtain ⟨M2, w2, g2⟩ := eq_mid E A
    rw [← ho] at M2 w2 g2
    rcases E_X12_chair M2 w2 K g2 n5 hw2 e2 with ⟨P2, -, -⟩ | ⟨j, j8, hj, y2, D⟩
    · exact absurd (pl i h8 hi) P2
    · have ij : j = i := (nI_eq (by omega) (by omega)).mp (hj.symm.trans hi)
      subst ij
      have hl := up_law (W := W) (i := 7) (x := chV (W 7) j w) ⟨by omega, by omega⟩
      exact ⟨⟨_, _, _, eq_z2 hz D.2.2.2.2.2.2 (eq_act E A (rAct_oc ho D) (wOK_7 K) hl (lawK_cg LK hl) (lawB_cg LB hl))⟩, Or.inl ⟨by rw [y, y2], D.1⟩⟩
theorem eqz_free {x nx r L n : Nat} {W : jWd} {v : Int32} {h : jH} {q : jR × jH} {p : Int32 × jH} (E : eqS x nx r L W h) (e1 : F_X11_free n x v h = some q) {h1 : jH} (ho : oc h1 = oc q.2) (hz : q.2.1 ≤ h1.1) (e2 : F_X12_free n (x + 40) v h1 = some p) : (∃ nx2 r2 W2, eqS x nx2 r2 L W2 p.2) ∧ ansE [(2, 1), (1, 2)] q.1 p.1 (oi (oc p.2) (x + 40) 0) := by
  have C := eq_pre E
  obtain ⟨⟨-, -, -, -, -, -, -, M⟩, ⟨-, -, -, n4, n5, -⟩, ⟨-, hw, K, -, LK, LB⟩, -⟩ := id E
  rcases E_X11_free C e1 with ⟨P, y, z⟩ | ⟨i, h8, hi, hi0, ⟨P, y, z⟩ | ⟨P, P3, y, A⟩⟩
  · rw [z] at ho hz
    have E1 := eq_oc E ho hz
    obtain ⟨⟨-, -, -, -, -, -, -, M⟩, ⟨-, -, -, n4, n5, -⟩, ⟨-, hw, K, -, LK, LB⟩, -⟩ := id E1
    rcases E_X12_free M hw K n4 n5 e2 with ⟨-, y2, T⟩ | ⟨j, j8, hj, hj0, -⟩
    · exact ⟨⟨_, _, _, eq_thr E1 T⟩, Or.inr ⟨(2, 1), by simp, y, y2, T.1⟩⟩
    · exact absurd (no_ring K j8 hj hj0) P
  · rw [z] at ho hz
    have E1 := eq_oc E ho hz
    obtain ⟨⟨-, -, -, -, -, -, -, M⟩, ⟨-, -, -, n4, n5, -⟩, ⟨-, hw, K, -, LK, LB⟩, -⟩ := id E1
    rcases E_X12_free M hw K n4 n5 e2 with ⟨P2, -, -⟩ | ⟨j, j8, hj, hj0, ⟨-, y2, T⟩ | ⟨P2, -, -, -⟩⟩
    · exact absurd (no_ring K h8 hi hi0) P2
    · exact ⟨⟨_, _, _, eq_thr E1 T⟩, Or.inr ⟨(1, 2), by simp, y, y2, T.1⟩⟩
    · have ij : j = i := (nI_eq (by omega) (by omega)).mp (hj.symm.trans hi)
      subst ij
      exact absurd P P2
  · obtain ⟨M2, w2, g2⟩ := eq_mid E A
    rw [← ho] at M2 w2 g2
    rcases E_X12_free M2 w2 K g2 n5 e2 with ⟨P2, -, -⟩ | ⟨j, j8, hj, hj0, ⟨P2, -, -⟩ | ⟨-, -, y2, D⟩⟩
    · exact absurd (no_ring K h8 hi hi0) P2
    · have ij : j = i := (nI_eq (by omega) (by omega)).mp (hj.symm.trans hi)
      subst ij
      exact absurd P2 P
    · have ij : j = i := (nI_eq (by omega) (by omega)).mp (hj.symm.trans hi)
      subst ij
      have hl := up_law (W := W) (i := 18 + 8 * j) (x := 0) ⟨by omega, by omega⟩
      exact ⟨⟨_, _, _, eq_z2 hz D.2.2.2.2.2.2 (eq_act E A (rAct_oc ho D) (wOK_ct K (Or.inl rfl)) hl (lawK_cg LK hl) (lawB_cg LB hl))⟩, Or.inl ⟨by rw [y, y2], D.1⟩⟩
theorem eqz_snag {x nx r L n : Nat} {W : jWd} {v : Int32} {h : jH} {q : jR × jH} {p : Int32 × jH} (E : eqS x nx r L W h) (e1 : F_X11_snag n x v h = some q) {h1 : jH} (ho : oc h1 = oc q.2) (hz : q.2.1 ≤ h1.1) (e2 : F_X12_snag n (x + 40) v h1 = some p) : (∃ nx2 r2 W2, eqS x nx2 r2 L W2 p.2) ∧ ansE [(2, 1), (1, 2)] q.1 p.1 (oi (oc p.2) (x + 40) 0) := by
  have C := eq_pre E
  obtain ⟨⟨-, -, -, -, -, -, -, M⟩, ⟨-, -, -, n4, n5, -⟩, ⟨-, hw, K, -, LK, LB⟩, -⟩ := id E
  rcases E_X11_snag C e1 with ⟨P, y, z⟩ | ⟨i, h8, hi, hi0, ⟨P, y, z⟩ | ⟨P, P3, y, A⟩⟩
  · rw [z] at ho hz
    have E1 := eq_oc E ho hz
    obtain ⟨⟨-, -, -, -, -, -, -, M⟩, ⟨-, -, -, n4, n5, -⟩, ⟨-, hw, K, -, LK, LB⟩, -⟩ := id E1
    rcases E_X12_snag M hw K n4 n5 e2 with ⟨-, y2, T⟩ | ⟨j, j8, hj, hj0, -⟩
    · exact ⟨⟨_, _, _, eq_thr E1 T⟩, Or.inr ⟨(2, 1), by simp, y, y2, T.1⟩⟩
    · exact absurd (no_ring K j8 hj hj0) P
  · rw [z] at ho hz
    have E1 := eq_oc E ho hz
    obtain ⟨⟨-, -, -, -, -, -, -, M⟩, ⟨-, -, -, n4, n5, -⟩, ⟨-, hw, K, -, LK, LB⟩, -⟩ := id E1
    rcases E_X12_snag M hw K n4 n5 e2 with ⟨P2, -, -⟩ | ⟨j, j8, hj, hj0, ⟨-, y2, T⟩ | ⟨P2, -, -, -⟩⟩
    · exact absurd (no_ring K h8 hi hi0) P2
    · exact ⟨⟨_, _, _, eq_thr E1 T⟩, Or.inr ⟨(1, 2), by simp, y, y2, T.1⟩⟩
    · have ij : j = i := (nI_eq (by omega) (by omega)).mp (hj.symm.trans hi)
      subst ij
      exact absurd P P2
  · obtain ⟨M2, w2, g2⟩ := eq_mid E A
    rw [← ho] at M2 w2 g2
    rcases E_X12_snag M2 w2 K g2 n5 e2 with ⟨P2, -, -⟩ | ⟨j, j8, hj, hj0, ⟨P2, -, -⟩ | ⟨-, -, y2, D⟩⟩
    · exact absurd (no_ring K h8 hi hi0) P2
    · have ij : j = i := (nI_eq (by omega) (by omega)).mp (hj.symm.trans hi)
      subst ij
      exact absurd P2 P
    · have ij : j = i := (nI_eq (by omega) (by omega)).mp (hj.symm.trans hi)
      subst ij
      have hl := up_law (W := W) (i := 18 + 8 * j) (x := 1) ⟨by omega, by omega⟩
      exact ⟨⟨_, _, _, eq_z2 hz D.2.2.2.2.2.2 (eq_act E A (rAct_oc ho D) (wOK_ct K (Or.inr ⟨rfl, P3⟩)) hl (lawK_cg LK hl) (lawB_cg LB hl))⟩, Or.inl ⟨by rw [y, y2], D.1⟩⟩
theorem eqz_pull {x nx r L n : Nat} {W : jWd} {d : Bool} {v s w : Int32} {h : jH} {q : jR × jH} {p : Int32 × jH} (hd : s = dI d) (E : eqS x nx r L W h) (e1 : F_X11_pull n x v s w h = some q) {h1 : jH} (ho : oc h1 = oc q.2) (hz : q.2.1 ≤ h1.1) (e2 : F_X12_pull n (x + 40) v s w h1 = some p) : (∃ nx2 r2 W2, eqS x nx2 r2 L W2 p.2) ∧ ansE [(2, 1), (0, 2)] q.1 p.1 (oi (oc p.2) (x + 40) 0) := by
  have C := eq_pre E
  obtain ⟨⟨-, -, -, -, -, -, -, M⟩, ⟨-, -, -, n4, n5, -⟩, ⟨-, hw, K, -, LK, LB⟩, -⟩ := id E
  have st : ∀ N : Nat, N < 32 → 1 ≤ N → w = nI N → 1 ≤ w.toInt ∧ w.toInt ≤ 31 := fun i h1 h2 h3 => by rw [h3, nI_toInt (by omega)]; omega
  rcases E_X11_pull C hd e1 with ⟨P, y, z⟩ | ⟨i, h8, hi, hi0, ⟨P, y, z⟩ | ⟨N, f, hN, hN1, h3, F, y, K3, A⟩⟩
  · rw [z] at ho hz
    have E1 := eq_oc E ho hz
    obtain ⟨⟨-, -, -, -, -, -, -, M⟩, ⟨-, -, -, n4, n5, -⟩, ⟨-, hw, K, -, LK, LB⟩, -⟩ := id E1
    rcases E_X12_pull M hw K n4 n5 hd e2 with ⟨-, y2, T⟩ | ⟨j, j8, hj, hj0, -⟩
    · exact ⟨⟨_, _, _, eq_thr E1 T⟩, Or.inr ⟨(2, 1), by simp, y, y2, T.1⟩⟩
    · exact absurd (no_ring K j8 hj hj0) P
  · rw [z] at ho hz
    have E1 := eq_oc E ho hz
    obtain ⟨⟨-, -, -, -, -, -, -, M⟩, ⟨-, -, -, n4, n5, -⟩, ⟨-, hw, K, -, LK, LB⟩, -⟩ := id E1
    rcases E_X12_pull M hw K n4 n5 hd e2 with ⟨P2, -, -⟩ | ⟨j, j8, hj, hj0, ⟨-, y2, T⟩ | ⟨N, f, hN, hN1, h3, -⟩⟩
    · exact absurd (no_ring K h8 hi hi0) P2
    · exact ⟨⟨_, _, _, eq_thr E1 T⟩, Or.inr ⟨(0, 2), by simp, y, y2, T.1⟩⟩
    · exact absurd (st N hN hN1 h3) P
  · obtain ⟨M2, w2, g2⟩ := eq_mid E A
    rw [← ho] at M2 w2 g2
    rcases E_X12_pull M2 w2 K g2 n5 hd e2 with ⟨P2, -, -⟩ | ⟨j, j8, hj, hj0, ⟨P2, -, -⟩ | ⟨N2, f2, hN2, hN12, h32, F2, y2, D⟩⟩
    · exact absurd (no_ring K h8 hi hi0) P2
    · exact absurd (st N hN hN1 h3) P2
    · have ij : j = i := (nI_eq (by omega) (by omega)).mp (hj.symm.trans hi)
      subst ij
      have NN : N2 = N := (nI_eq (by omega) (by omega)).mp (h32.symm.trans h3)
      subst NN
      have ff := isF_u F2 F
      subst ff
      have hl := pl_law (W := W) (r := j) (i := j) (f := f2) (d := d) (x := nI j) (y := 0) (z := nI f2)
      exact ⟨⟨_, _, _, eq_z2 hz D.2.2.2.2.2.2 (eq_act E A (rAct_oc ho D) (wOK_tl K3) hl (lawK_cg LK hl) (lawB_cg LB hl))⟩, Or.inl ⟨by rw [y, y2], D.1⟩⟩
theorem eqz_sew {x nx r L n : Nat} {W : jWd} {v w : Int32} {h : jH} {q : jR × jH} {p : Int32 × jH} (E : eqS x nx r L W h) (e1 : F_X11_sew n x v w h = some q) {h1 : jH} (ho : oc h1 = oc q.2) (hz : q.2.1 ≤ h1.1) (e2 : F_X12_sew n (x + 40) v w h1 = some p) : (∃ nx2 r2 W2, eqS x nx2 r2 L W2 p.2) ∧ ansE [(2, 1), (0, 2), (1, 3)] q.1 p.1 (oi (oc p.2) (x + 40) 0) := by
  have C := eq_pre E
  obtain ⟨⟨-, -, -, -, -, -, -, M⟩, ⟨-, -, -, n4, n5, -⟩, ⟨-, hw, K, -, LK, LB⟩, -⟩ := id E
  rcases E_X11_sew C e1 with ⟨P, y, z⟩ | ⟨P, ⟨Q, y, z⟩ | ⟨Q, ⟨U, y, z⟩ | ⟨U, y, A⟩⟩⟩
  · rw [z] at ho hz
    have E1 := eq_oc E ho hz
    obtain ⟨⟨-, -, -, -, -, -, -, M⟩, ⟨-, -, -, n4, n5, -⟩, ⟨-, hw, K, -, LK, LB⟩, -⟩ := id E1
    rcases E_X12_sew M hw K n4 n5 e2 with ⟨-, y2, T⟩ | ⟨P2, -⟩
    · exact ⟨⟨_, _, _, eq_thr E1 T⟩, Or.inr ⟨(2, 1), by simp, y, y2, T.1⟩⟩
    · exact absurd P2 P
  · rw [z] at ho hz
    have E1 := eq_oc E ho hz
    obtain ⟨⟨-, -, -, -, -, -, -, M⟩, ⟨-, -, -, n4, n5, -⟩, ⟨-, hw, K, -, LK, LB⟩, -⟩ := id E1
    rcases E_X12_sew M hw K n4 n5 e2 with ⟨P2, -⟩ | ⟨-, ⟨-, y2, T⟩ | ⟨Q2, -⟩⟩
    · exact absurd P P2
    · exact ⟨⟨_, _, _, eq_thr E1 T⟩, Or.inr ⟨(0, 2), by simp, y, y2, T.1⟩⟩
    · exact absurd Q2 Q
  · rw [z] at ho hz
    have E1 := eq_oc E ho hz
    obtain ⟨⟨-, -, -, -, -, -, -, M⟩, ⟨-, -, -, n4, n5, -⟩, ⟨-, hw, K, -, LK, LB⟩, -⟩ := id E1
    rcases E_X12_sew M hw K n4 n5 e2 with ⟨P2, -⟩ | ⟨-, ⟨Q2, -⟩ | ⟨-, ⟨-, y2, T⟩ | ⟨U2, -⟩⟩⟩
    · exact absurd P P2
    · exact absurd Q Q2
    · exact ⟨⟨_, _, _, eq_thr E1 T⟩, Or.inr ⟨(1, 3), by simp, y, y2, T.1⟩⟩
    · exact absurd U2 U
  · obtain ⟨M2, w2, g2⟩ := eq_mid E A
    rw [← ho] at M2 w2 g2
    rcases E_X12_sew M2 w2 K g2 n5 e2 with ⟨P2, -⟩ | ⟨-, ⟨Q2, -⟩ | ⟨-, ⟨U2, -⟩ | ⟨-, y2, D⟩⟩⟩
    · exact absurd P P2
    · exact absurd Q Q2
    · exact absurd U U2
    · have hl := hg_law (W := W) (x := v) (y := w) (cN_lt K U.1)
      exact ⟨⟨_, _, _, eq_z2 hz D.2.2.2.2.2.2 (eq_act E A (rAct_oc ho D) (wOK_hg K P Q U) hl (lawK_cg LK hl) (lawB_cg LB hl))⟩, Or.inl ⟨by rw [y, y2], D.1⟩⟩
theorem eqz_hours {x nx r L n : Nat} {W : jWd} {v : Int32} {h : jH} {q : jR × jH} {p : Int32 × jH} (E : eqS x nx r L W h) (e1 : F_X11_hours n x v h = some q) {h1 : jH} (ho : oc h1 = oc q.2) (hz : q.2.1 ≤ h1.1) (e2 : F_X12_hours n (x + 40) v h1 = some p) : (∃ nx2 r2 W2, eqS x nx2 r2 L W2 p.2) ∧ ansE [(0, 1)] q.1 p.1 (oi (oc p.2) (x + 40) 0) := by
  have C := eq_pre E
  obtain ⟨⟨-, -, -, e8, e36, -, -, M⟩, ⟨-, -, -, n4, n5, -⟩, ⟨-, hw, K, LE, LK, LB⟩, -⟩ := id E
  have hr : ∀ m : Nat, m ≤ 80 → 1 ≤ m → v = nI m → 1 ≤ v.toInt ∧ v.toInt ≤ 80 := fun m h1 h2 h3 => by rw [h3, nI_toInt (by omega)]; omega
  rcases E_X11_hours C e8 e36 LE e1 with ⟨P, y, z⟩ | ⟨m, h8, h1, hi, y, A, CE⟩
  · rw [z] at ho hz
    have E1 := eq_oc E ho hz
    obtain ⟨⟨-, -, -, -, -, -, -, M⟩, ⟨-, -, -, n4, n5, -⟩, ⟨-, hw, K, -, LK, LB⟩, -⟩ := id E1
    rcases E_X12_hours M hw K n4 n5 LK LB e2 with ⟨-, y2, T⟩ | ⟨j, j8, j1, hj, -⟩
    · exact ⟨⟨_, _, _, eq_thr E1 T⟩, Or.inr ⟨(0, 1), by simp, y, y2, T.1⟩⟩
    · exact absurd (hr j j8 j1 hj) P
  · obtain ⟨M2, w2, g2⟩ := eq_mid E A
    rw [← ho] at M2 w2 g2
    rcases E_X12_hours M2 w2 K g2 n5 LK LB e2 with ⟨P2, -, -⟩ | ⟨j, j8, j1, hj, y2, D, RK⟩
    · exact absurd (hr m h8 h1 hi) P2
    · have ij : j = m := (nI_eq (by omega) (by omega)).mp (hj.symm.trans hi)
      subst ij
      exact ⟨⟨_, _, _, eq_z2 hz D.2.2.2.2.2.2 (eq_actL E A (rAct_oc ho D) CE.2.2.2 CE.2.2.1 RK.2.2.2.1 RK.2.2.2.2)⟩, Or.inl ⟨by rw [y, y2], D.1⟩⟩
