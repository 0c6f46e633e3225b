/-! hours and undo keep eqS -/
theorem eq_hours {x nx r L n : Nat} {W : jWd} {v : Int32} {h : jH} {q : jR × jH} {p : Int32 × jH} (E : eqS x nx r L W h) (e1 : F_X11_hours n x v h = some q) (e2 : F_X12_hours n (x + 40) v q.2 = some p) : (∃ nx2 r2 W2, eqS x nx2 r2 L W2 p.2) ∧ ansE [(0, 1)] q.1 p.1 (oi (oc p.2) (x + 40) 0) := by
  have C := eq_pre E
  obtain ⟨⟨-, -, -, e8, e36, -, -, M⟩, ⟨-, -, -, n4, n5, -⟩, ⟨-, hw, K, LE, LK, LB⟩, -⟩ := id E
  have hr : ∀ m : Nat, m ≤ 80 → 1 ≤ m → v = nI m → 1 ≤ v.toInt ∧ v.toInt ≤ 80 := fun m h1 h2 h3 => by rw [h3, nI_toInt (by omega)]; omega
  rcases E_X11_hours C e8 e36 LE e1 with ⟨P, y, z⟩ | ⟨m, h8, h1, hi, y, A, CE⟩
  · rw [z] at e2
    rcases E_X12_hours M hw K n4 n5 LK LB e2 with ⟨-, y2, T⟩ | ⟨j, j8, j1, hj, -⟩
    · exact ⟨⟨_, _, _, eq_thr E T⟩, Or.inr ⟨(0, 1), by simp, y, y2, T.1⟩⟩
    · exact absurd (hr j j8 j1 hj) P
  · obtain ⟨M2, w2, g2⟩ := eq_mid E A
    rcases E_X12_hours M2 w2 K g2 n5 LK LB e2 with ⟨P2, -, -⟩ | ⟨j, j8, j1, hj, y2, D, RK⟩
    · exact absurd (hr m h8 h1 hi) P2
    · have ij : j = m := (nI_eq (by omega) (by omega)).mp (hj.symm.trans hi)
      subst ij
      exact ⟨⟨_, _, _, eq_actL E A D CE.2.2.2 CE.2.2.1 RK.2.2.2.1 RK.2.2.2.2⟩, Or.inl ⟨by rw [y, y2], D.1⟩⟩
theorem eq_undo {x nx r L n : Nat} {W : jWd} {h : jH} {q p : Int32 × jH} (E : eqS x nx r L W h) (e1 : F_X11_undo n x h = some q) (e2 : F_X12_undo n (x + 40) q.2 = some p) : (∃ nx2 r2 W2, eqS x nx2 r2 L W2 p.2) ∧ q.1 = p.1 ∧ oi (oc p.2) (x + 40) 0 = 0 := by
  obtain ⟨⟨-, x1, x3, -, -, e19, -, M⟩, ⟨n1, n2, n3, n4, n5, n6, S, P, A⟩, ⟨R, hw, K, LE, -, -⟩, -⟩ := id E
  obtain ⟨c1, c2⟩ := E_X11_undo x1 x3 e1
  by_cases r0 : r = 0
  · have y := c1 (by rw [← Int32.toInt_inj, n3, r0]; rfl)
    rw [y] at e2
    rcases E_X12_undo M n4 n5 e2 with ⟨-, y2, F, z, w0⟩ | ⟨r1, -⟩
    · exact ⟨⟨_, _, _, eq_thr E ⟨w0, F, z⟩⟩, by rw [y, y2], w0⟩
    · omega
  · obtain ⟨b, V, b1, b2, b3, b4, b5, b6⟩ := act_last S P n2 (by omega) A
    obtain ⟨y, yR, y1, y2, yz, yf⟩ := c2 nx b V e19 n1 n2 b1 b3 b4 R.1 b2 (by rw [n3]; omega)
    have k2 : ∀ a k : Nat, x + 20 ≤ a → oc q.2 a k = oc h a k := fun a k z => yf a k (by omega) (by omega)
    have M2 : mS (oc q.2) (x + 40) := by
      obtain ⟨s1, s2, s3, s4, s5, s8, s15, s17, s19, s20, s21⟩ := M
      have k3 : ∀ k, oc q.2 (x + 40) k = oc h (x + 40) k := fun k => k2 _ k (by omega)
      exact ⟨(k3 _).trans s1, (k3 _).trans s2, (k3 _).trans s3, (k3 _).trans s4, (k3 _).trans s5, (k3 _).trans s8, (k3 _).trans s15, (k3 _).trans s17, (k3 _).trans s19, (k3 _).trans s20, (k3 _).trans s21⟩
    have g2 : oi (oc q.2) (x + 40) 7 = nI r := by rw [← n4]; unfold oi; rw [k2 _ _ (by omega)]
    have w2 : wl (oc q.2) (x + 40) = W := by
      rw [← hw]
      funext k
      show oi (oc q.2) (x + 41) k = oi (oc h) (x + 41) k
      unfold oi
      rw [k2 _ _ (by omega)]
    rcases E_X12_undo M2 g2 n5 e2 with ⟨r1, -⟩ | ⟨-, w, w7, ww, wf, wz, w0⟩
    · omega
    · have fr : ∀ a k : Nat, a ≠ x + 41 → ¬ (a = x + 40 ∧ (k = 0 ∨ k = 7)) → oc p.2 a k = oc q.2 a k := fun a k z1 z2 => wf a k (fun c hc z => by simp at hc; omega) (fun z y => z2 ⟨z, by simpa using y⟩)
      have f : ∀ a k : Nat, ¬ (x + 6 ≤ a ∧ a ≤ x + 12) → ¬ (a = x + 19 ∧ (k = 1 ∨ k = 2)) → a ≠ x + 41 → ¬ (a = x + 40 ∧ (k = 0 ∨ k = 7)) → oc p.2 a k = oc h a k := fun a k z1 z2 z3 z4 => (fr a k z3 z4).trans (yf a k z1 z2)
      have gi : ∀ a k : Nat, a ≤ x + 39 → oi (oc p.2) a k = oi (oc q.2) a k := fun a k z => by unfold oi; rw [fr a k (by omega) (by omega)]
      have lo : ∀ k, k < 435 → wl (oc p.2) (x + 40) k = V k := fun k hk => by
        rw [ww k, if_pos hk, b5 k hk]
        unfold oi
        rw [k2 _ _ (by omega)]
      refine ⟨⟨(nx + 11) % 12, r - 1, wl (oc p.2) (x + 40), eq_wld E f (wz.trans yz) ⟨(gi _ _ (by omega)).trans y1, by omega, ?_, w7, by omega, act_undo (fun a k z => f a k (by omega) (by omega) (by omega) (by omega)) S n2 n5 A⟩ (rodE_fr (rodE_cg yR b4 lo) (fun a k z1 z2 => fr a k (by omega) (by omega))) rfl (wOK_cg b4 (fun k hk => lo k (by omega))) ?_⟩, by rw [y, w], w0⟩
      · rw [gi _ _ (by omega), y2, n3]; omega
      · intro k hk
        rcases hk with hk | hk
        · rw [hk, lo 2 (by omega), b6, LE.2.1]
        · rw [ww k, if_neg (by omega), w2]
