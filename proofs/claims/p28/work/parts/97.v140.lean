/-! back keeps the relation -/
theorem E_X12_back {n a0 : Nat} {h : jH} {q : Int32 × jH} (M : mS (oc h) a0) (hf : F_X12_back n a0 h = some q) : (oi (oc h) a0 6 = 0 ∧ q.1 = 0 ∧ rTh a0 0 h q.2) ∨ (oi (oc h) a0 6 ≠ 0 ∧ q.1 = 1 ∧ oi (oc q.2) a0 0 = 0 ∧ oi (oc q.2) a0 7 = 0 ∧ (∀ j, wl (oc q.2) a0 j = if j < 1284 then oi (oc h) (a0 + 2) j else wl (oc h) a0 j) ∧ frM a0 [1] [0, 7] (oc h) (oc q.2) ∧ q.2.1 = h.1) := by
  unfold F_X12_back at hf
  obtain ⟨h2, e1, hf⟩ := jbind hf
  obtain ⟨o1, z1⟩ := oc_pf e1
  have f1 : frM a0 [] [0] (oc h) (oc h2) := by rw [o1]; exact frM_f (by decide)
  have g0 : oi (oc h2) a0 0 = 0 := by rw [o1, oi_eq]
  obtain ⟨v6, e2, hf⟩ := jbind hf
  have r2 := oc_gI e2
  rw [frM_oi f1 (by decide) (by decide)] at r2
  subst r2
  rcases jite hf with ⟨c3, hf⟩ | ⟨c3, hf⟩
  · cases hf
    exact Or.inl ⟨c3, rfl, g0, f1, z1⟩
  · obtain ⟨b1, b2, b3, b4, b5⟩ := E_X12_back_16 n 0 (mS_fr M f1 (by decide) (by decide)) rfl (by omega) hf
    refine Or.inr ⟨c3, b5, (frM_oi b2 (by decide) (by decide)).trans g0, b4, fun j => ?_, frM_tr (frM_le f1 (by decide) (by decide)) (frM_le b2 (by decide) (by decide)), b3.trans z1⟩
    show oi (oc q.2) (a0 + 1) j = _
    rw [b1 j]
    by_cases y : j < 1284
    · rw [if_pos (by omega), if_pos y]
      exact oi_M f1 (by simp) (by omega)
    · rw [if_neg (by omega), if_neg y]
      exact congrFun (wl_f f1 (by decide)) j
theorem E_X11_back_0 {n x : Nat} {h : jH} {q : Int32 × jH} (X10 : oc h x 10 = .null) (hf : F_X11_back n x h = some q) : q = (0, h) := by
  unfold F_X11_back at hf
  obtain ⟨o1, e1, hf⟩ := jbind hf
  have r1 := oc_gQ e1
  rw [X10] at r1
  cases va_n r1
  cases hf
  rfl
theorem E_X11_back_1 {n x kr kl : Nat} {V : jWd} {h : jH} {q : Int32 × jH} (X1 : oc h x 1 = .ref (x + 6)) (X2 : oc h x 2 = .ref (x + 13)) (X3 : oc h x 3 = .ref (x + 19)) (X10 : oc h x 10 = .ref kr) (X11 : oc h x 11 = .ref kl) (R : rodE (oc h) kr V) (K : wOK V) (LE : lawE (oc h) kl V) (sr : rodS (oc h) (x + 6)) (sl : lawS (oc h) (x + 13))
    (ap : x + 52 < kr ∧ x + 52 < kl) (hf : F_X11_back n x h = some q) : q.1 = 1 ∧ rodE (oc q.2) (x + 6) V ∧ lawE (oc q.2) (x + 13) V ∧ oi (oc q.2) (x + 19) 2 = 0 ∧ (∀ a k : Nat, ¬ (x + 6 ≤ a ∧ a ≤ x + 18) → ¬ (a = x + 19 ∧ k = 2) → oc q.2 a k = oc h a k) ∧ q.2.1 = h.1 := by
  unfold F_X11_back at hf
  obtain ⟨o1, e1, hf⟩ := jbind hf
  have r1 := oc_gQ e1
  rw [X10] at r1
  cases va_r r1
  dsimp only at hf
  obtain ⟨o8, e2, hf⟩ := jbind hf
  have r2 := oc_gQ e2
  rw [X11] at r2
  cases va_r r2
  dsimp only at hf
  obtain ⟨p17, e3, hf⟩ := jbind hf
  have r3 := oc_gR e3
  rw [X1] at r3
  cases r3
  obtain ⟨o21, e4, hf⟩ := jbind hf
  have r4 := oc_gQ e4
  rw [X10] at r4
  cases va_r r4
  dsimp only at hf
  obtain ⟨h24, e5, hf⟩ := jbind hf
  obtain ⟨R5, f5, z5⟩ := E_X8_copyFrom (d := x + 6) (r := kr) rfl rfl (by omega) sr R K (jcv_o e5).2
  obtain ⟨p28, e6, hf⟩ := jbind hf
  have r6 := oc_gR e6
  rw [f5 _ _ (by omega), X2] at r6
  cases r6
  obtain ⟨o32, e7, hf⟩ := jbind hf
  have r7 := oc_gQ e7
  rw [f5 _ _ (by omega), X11] at r7
  cases va_r r7
  dsimp only at hf
  obtain ⟨h35, e8, hf⟩ := jbind hf
  have S6 : lawS (oc h24) (x + 13) := by
    obtain ⟨s0, s1, s2, s3, s4⟩ := sl
    exact ⟨(f5 _ _ (by omega)).trans s0, (f5 _ _ (by omega)).trans s1, (f5 _ _ (by omega)).trans s2, (f5 _ _ (by omega)).trans s3, (f5 _ _ (by omega)).trans s4⟩
  obtain ⟨R8, f8, z8⟩ := E_X2_copyFrom (d := x + 13) (r := kl) rfl rfl (by omega) S6 (lawE_fr LE (fun a k h1 h2 _ => f5 a k (by omega))) (jcv_o e8).2
  obtain ⟨p39, e9, hf⟩ := jbind hf
  have r9 := oc_gR e9
  rw [f8 _ _ (by omega), f5 _ _ (by omega), X3] at r9
  cases r9
  obtain ⟨h42, e10, hf⟩ := jbind hf
  obtain ⟨o10, z10⟩ := E_X0_forget (jcv_o e10).2
  cases hf
  have g19 : oi (oc h42) (x + 19) 2 = 0 := by rw [o10, oi_eq]
  exact ⟨rfl, rodE_fr R5 (fun a k h1 h2 => by show oc h42 _ _ = _; rw [o10, u2_ne (by omega)]; exact f8 a k (by omega)), lawE_fr R8 (fun a k h1 h2 _ => by show oc h42 _ _ = _; rw [o10, u2_ne (by omega)]), g19, fun a k h1 h2 => by show oc h42 _ _ = _; rw [o10, u2_ne (by omega), f8 a k (by omega)]; exact f5 a k (by omega), z10.trans (z8.trans z5)⟩
theorem eq_back {x nx r L n : Nat} {W : jWd} {h : jH} {q p : Int32 × jH} (E : eqS x nx r L W h) (e1 : F_X11_back n x h = some q) (e2 : F_X12_back n (x + 40) q.2 = some p) : (∃ r2 W2, eqS x nx r2 L W2 p.2) ∧ q.1 = p.1 ∧ oi (oc p.2) (x + 40) 0 = 0 := by
  obtain ⟨⟨x0, x1, x3, -, -, -, -, M⟩, ⟨n1, n2, n3, n4, n5, n6, -, -, -⟩, ⟨R, hw, K, LE, LK, LB⟩, ⟨l1, l2, l3, l4, I0, If, I⟩⟩ := id E
  rcases I with ⟨a1, a2, a3⟩ | ⟨kr, kl, ⟨a1, a2, a3⟩, ⟨b1, b2, b3, b4, b5⟩, ⟨c1, c2, c3, c4, c5⟩, d⟩
  · have y := E_X11_back_0 a1 e1
    rw [y] at e2
    rcases E_X12_back M e2 with ⟨-, y2, T⟩ | ⟨y2, -⟩
    · exact ⟨⟨r, W, eq_thr E T⟩, by rw [y, y2], T.1⟩
    · exact absurd a3 y2
  · obtain ⟨y1, yR, yL, y19, yf, yz⟩ := E_X11_back_1 x1 I0.1.1 x3 a1 a2 b1 b3 b2 R.1 LE.1 ⟨c1, c3⟩ e1
    have k2 : ∀ a k : Nat, x + 20 ≤ a → oc q.2 a k = oc h a k := fun a k z => yf a k (by omega) (by omega)
    have ki : ∀ a k : Nat, x + 20 ≤ a → oi (oc q.2) a k = oi (oc h) a k := fun a k z => by unfold oi; rw [k2 a k z]
    have M2 : mS (oc q.2) (x + 40) := by
      obtain ⟨s1, s2, s3, s4, s5, s8, s15, s17, s19, s20, s21⟩ := M
      have k3 : ∀ k, oc q.2 (x + 40) k = oc h (x + 40) k := fun k => k2 _ k (by omega)
      exact ⟨(k3 _).trans s1, (k3 _).trans s2, (k3 _).trans s3, (k3 _).trans s4, (k3 _).trans s5, (k3 _).trans s8, (k3 _).trans s15, (k3 _).trans s17, (k3 _).trans s19, (k3 _).trans s20, (k3 _).trans s21⟩
    rcases E_X12_back M2 e2 with ⟨y2, -⟩ | ⟨-, w, w0, w7, ww, wf, wz⟩
    · exfalso
      rw [ki _ _ (by omega), a3] at y2
      exact absurd y2 (by decide)
    · have fr : ∀ a k : Nat, a ≠ x + 41 → ¬ (a = x + 40 ∧ (k = 0 ∨ k = 7)) → oc p.2 a k = oc q.2 a k := fun a k u1 u2 => wf a k (fun c hc z => by simp at hc; omega) (fun z y => u2 ⟨z, by simpa using y⟩)
      have fi : ∀ a k : Nat, a ≠ x + 41 → ¬ (a = x + 40 ∧ (k = 0 ∨ k = 7)) → oi (oc p.2) a k = oi (oc q.2) a k := fun a k u1 u2 => by unfold oi; rw [fr a k u1 u2]
      have F : ∀ a k : Nat, ¬ txc x a k → oc p.2 a k = oc h a k := fun a k z => by
        unfold txc at z
        exact (fr a k (by omega) (by omega)).trans (yf a k (by omega) (by omega))
      have ei : ∀ k, k < 1284 → wl (oc p.2) (x + 40) k = iwl (oc h) x k := fun k hk => by
        rw [ww k, if_pos hk]
        exact ki (x + 42) k (by omega)
      have L9 : lawE (oc p.2) (x + 13) (wl (oc p.2) (x + 40)) := lawE_cb (lawE_fr yL (fun a k u1 u2 _ => fr a k (by omega) (by omega))) ei
      have fh : ∀ a k : Nat, a = x ∨ a = x + 1 ∨ (x + 21 ≤ a ∧ a ≤ x + 39) ∨ (a = x + 40 ∧ (k = 9 ∨ k = 14)) → oc p.2 a k = oc h a k := fun a k z => (fr a k (by omega) (by omega)).trans (yf a k (by omega) (by omega))
      have gh : ∀ a k : Nat, a = x ∨ a = x + 1 ∨ (x + 21 ≤ a ∧ a ≤ x + 39) ∨ (a = x + 40 ∧ (k = 9 ∨ k = 14)) → oi (oc p.2) a k = oi (oc h) a k := fun a k z => by unfold oi; rw [fh a k z]
      have I9 : rdrS (oc p.2) x := rdrS_fr I0 (fun a k z => fh a k (by omega))
      refine ⟨⟨0, _, eq_bld E F (wz.trans yz) (Or.inl ⟨rfl, (fi _ _ (by omega) (by omega)).trans y19, w7⟩) ⟨rodE_cg (rodE_fr yR (fun a k u1 u2 => fr a k (by omega) (by omega))) b3 (fun k hk => ei k (by omega)), rfl, wOK_cg b3 (fun k hk => ei k (by omega)), L9, lawK_of L9, lawB_of L9⟩ ⟨(gh _ _ (by omega)).trans l1, (gh _ _ (by omega)).trans l2, l3⟩ I9.2.2.2.2 ?_⟩, by rw [y1, w], w0⟩
      rw [gh _ _ (by omega), gh _ _ (by omega)]
      exact If
