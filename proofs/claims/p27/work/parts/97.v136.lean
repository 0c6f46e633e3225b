section
/-! pole, the reference -/
theorem E_X12_pole_2 {n : Nat} : ∀ (k : Nat) {a0 : Nat} {x1 : Int32} {h : jH} {q : Int32 × jH} (t : Nat) (M : mS (oc h) a0) (hx : x1 = nI t) (ht : t ≤ 1284), F_X12_pole_2 n k a0 x1 h = some q → ∃ h2, (∀ j, oi (oc h2) (a0 + 3) j = if t ≤ j ∧ j < 1284 then oi (oc h) (a0 + 1) j else oi (oc h) (a0 + 3) j) ∧ frM a0 [3] [] (oc h) (oc h2) ∧ h2.1 = h.1 ∧ F_X12_pole_2_b n (fun _ _ _ => none) a0 (1284 : Int32) h2 = some q
  | 0, a0, x1, h, q, t, M, hx, ht, hf => by cases hf
  | k + 1, a0, x1, h, q, t, M, hx, ht, hf => by
    replace hf : F_X12_pole_2_b n (F_X12_pole_2 n k) a0 x1 h = some q := hf
    obtain ⟨s1, s2, s3, s4, s5, s8, s15, s17, s19, s20, s21⟩ := id M
    have l : (1284 : Int32).toInt = 1284 := rfl
    by_cases e : t = 1284
    · subst e
      refine ⟨h, fun j => by rw [if_neg (by omega)], frM_rfl, rfl, ?_⟩
      have hx2 : x1 = (1284 : Int32) := hx
      rw [hx2] at hf
      unfold F_X12_pole_2_b at hf ⊢
      rw [if_pos (Int32.le_refl _)] at hf ⊢
      exact hf
    · unfold F_X12_pole_2_b at hf
      replace hf := jite hf
      rcases hf with ⟨c1, hf⟩ | ⟨c1, hf⟩
      · rw [hx, Int32.le_iff_toInt_le, nI_toInt (by omega), l] at c1
        omega
      · replace hf := jbind hf
        obtain ⟨p10, e1, hf⟩ := hf
        have r1 := oc_gR e1
        rw [s3] at r1
        cases r1
        replace hf := jbind hf
        obtain ⟨p15, e2, hf⟩ := hf
        have r2 := oc_gR e2
        rw [s1] at r2
        cases r2
        replace hf := jbind hf
        obtain ⟨v19, e3, hf⟩ := hf
        obtain ⟨r3, y3⟩ := oc_al e3
        subst r3
        replace hf := jbind hf
        obtain ⟨h20, e4, hf⟩ := hf
        obtain ⟨o4, z4, y4⟩ := oc_as e4
        rw [jnar0, hx, nI_cl (by omega)] at o4
        have f4 : frM a0 [3] [] (oc h) (oc h20) := by rw [o4]; exact frM_c (by decide)
        rw [hx] at hf
        obtain ⟨h2, a1, a2, a3, a4⟩ := E_X12_pole_2 k (t + 1) (mS_fr M f4 (by decide) (by decide)) (nI_1 t) (by omega) hf
        refine ⟨h2, fun j => ?_, frM_tr f4 a2, a3.trans z4, a4⟩
        rw [a1 j]
        by_cases q1 : j = t
        · subst q1
          rw [if_neg (by omega), if_pos (by omega), o4, oi_eq]
        · by_cases q2 : t ≤ j ∧ j < 1284
          · rw [if_pos (by omega), if_pos q2, o4, oi_ne (Or.inl (by omega))]
          · rw [if_neg (by omega), if_neg q2, o4, oi_ne (Or.inr (by omega))]
theorem E_X12_pole_83 {W : jWd} {n : Nat} {a0 : Nat} {sa0 : Nat} {s1 : Int32} {h : jH} {q : Int32 × jH} (hs : a0 = sa0) (h01 : s1 = 0 ∨ s1 = 1) (M : mS (oc h) a0) (z0 : oi (oc h) a0 0 = 0) (hW : wl (oc h) a0 = W) (hf : F_X12_pole_83 n a0 sa0 s1 h = some q) : (s1 = 1 ∧ q.1 = 0 ∧ oi (oc q.2) a0 0 = 2 ∧ (∀ j, j < 1284 → oi (oc q.2) (a0 + 1) j = oi (oc h) (a0 + 3) j) ∧ frM a0 [1] [0] (oc h) (oc q.2) ∧ q.2.1 = h.1) ∨ (s1 = 0 ∧ q.1 = W 1 + 1 ∧ wl (oc q.2) a0 = upd W 1 (W 1 + 1) ∧ oi (oc q.2) a0 7 = 0 ∧ oi (oc q.2) a0 0 = 0 ∧ frM a0 [1] [7] (oc h) (oc q.2) ∧ q.2.1 = h.1) := by
  unfold F_X12_pole_83 at hf
  subst hs
  have M0 := M
  replace hf := jbind hf
  obtain ⟨q84, e1, hf⟩ := hf
  replace e1 := (jcv_o e1).2
  have r1 := E_X12_throwsIf h01 e1
  have M1 : mS (oc q84.2) a0 := by rcases r1 with ⟨-, -, e0⟩ | ⟨-, -, T⟩; rw [e0]; exact M; exact mS_fr M T.2.1 (by decide) (by decide)
  replace hf := jite hf
  rcases hf with ⟨c2, hf⟩ | ⟨c2, hf⟩
  · skip
    replace hf := jbind hf
    obtain ⟨p120, e3, hf⟩ := hf
    have r3 := oc_gR e3
    rw [M1.1] at r3
    cases r3
    clear e3
    replace hf := jbind hf
    obtain ⟨v125, e4, hf⟩ := hf
    obtain ⟨r4, y4⟩ := oc_al e4
    rw [show (1 : Int32).toNatClampNeg = 1 from rfl] at r4
    subst r4
    clear e4
    replace hf := jbind hf
    obtain ⟨h128, e5, hf⟩ := hf
    obtain ⟨o5, z5, y5⟩ := oc_as e5
    rw [jnar0] at o5
    rw [show (1 : Int32).toNatClampNeg = 1 from rfl] at o5
    clear e5
    replace hf := jbind hf
    obtain ⟨h131, e6, hf⟩ := hf
    obtain ⟨o6, z6⟩ := oc_pf e6
    clear e6
    replace hf := jbind hf
    obtain ⟨p135, e7, hf⟩ := hf
    have r7 := oc_gR e7
    rw [o6] at r7
    rw [u2_ne (Or.inr (by decide))] at r7
    rw [o5] at r7
    rw [u2_ne (Or.inl (by omega))] at r7
    rw [M1.1] at r7
    cases r7
    clear e7
    replace hf := jbind hf
    obtain ⟨v139, e8, hf⟩ := hf
    obtain ⟨r8, y8⟩ := oc_al e8
    rw [show (1 : Int32).toNatClampNeg = 1 from rfl] at r8
    rw [o6] at r8
    rw [oi_ne (Or.inl (by omega))] at r8
    rw [o5] at r8
    rw [oi_eq] at r8
    subst r8
    clear e8
    cases hf
    -- leaf 0: (v139, h131)
    rcases r1 with ⟨s0, -, e0⟩ | ⟨-, y, -⟩
    rotate_left
    · exact absurd (y.symm.trans c2) (by decide)
    rw [e0] at o5 z5
    have f6 : frM a0 [1] [7] (oc h) (oc h131) := by rw [o6, o5]; exact frM_tr (frM_c (by decide)) (frM_f (by decide))
    have e1 : oi (oc h) (a0 + 1) 1 = W 1 := by rw [← hW]
    have w : wl (oc h131) a0 = upd W 1 (W 1 + 1) := by
      rw [o6, wl_n (by omega), o5]
      show wl (u2 (oc h) (a0 + 1) 1 (.int (oi (oc h) (a0 + 1) 1 + 1))) a0 = _
      rw [wl_w, hW, e1]
    have g7 : oi (oc h131) a0 7 = 0 := by rw [o6, oi_eq]
    have g0 : oi (oc h131) a0 0 = 0 := (frM_oi f6 (by decide) (by decide)).trans z0
    have g1 : oi (oc q84.2) (a0 + 1) 1 + 1 = W 1 + 1 := by rw [e0, e1]
    exact Or.inr ⟨s0, g1, w, g7, g0, f6, z6.trans z5⟩
  · skip
    -- leaf 1: F_X12_pole_92 n n a0 (0 : Int32) q84.2
    rcases r1 with ⟨-, y, -⟩ | ⟨s0, -, T⟩
    · exact absurd y c2
    have M1 := mS_fr M T.2.1 (by decide) (by decide)
    obtain ⟨b1, b2, b3, b4⟩ := E_X12_pole_92 n 0 M1 rfl (by omega) hf
    have bk : (∀ j, j < 1284 → oi (oc q.2) (a0 + 1) j = oi (oc h) (a0 + 3) j) := fun j hj => by rw [b1 j, if_pos (by omega)]; exact oi_M T.2.1 (by simp) (by omega)
    have b0 : oi (oc q.2) a0 0 = 2 := (frM_oi b2 (by decide) (by decide)).trans T.1
    have bf : frM a0 [1] [0] (oc h) (oc q.2) := frM_tr (frM_le T.2.1 (by decide) (by decide)) (frM_le b2 (by decide) (by decide))
    exact Or.inl ⟨s0, b4, b0, bk, bf, b3.trans T.2.2⟩
theorem E_X12_pole_59 {W : jWd} {n : Nat} {a0 : Nat} {sa0 : Nat} {s1 : Int32} {h : jH} {q : Int32 × jH} (hs : a0 = sa0) (h01 : s1 = 0 ∨ s1 = 1) (M : mS (oc h) a0) (z0 : oi (oc h) a0 0 = 0) (hW : wl (oc h) a0 = W) (hf : F_X12_pole_59 n a0 sa0 s1 h = some q) : (s1 = 1 ∧ q.1 = 0 ∧ oi (oc q.2) a0 0 = 1 ∧ (∀ j, j < 1284 → oi (oc q.2) (a0 + 1) j = oi (oc h) (a0 + 3) j) ∧ frM a0 [1] [0] (oc h) (oc q.2) ∧ q.2.1 = h.1) ∨ (s1 = 0 ∧ W 1 = 12 ∧ q.1 = 0 ∧ oi (oc q.2) a0 0 = 2 ∧ (∀ j, j < 1284 → oi (oc q.2) (a0 + 1) j = oi (oc h) (a0 + 3) j) ∧ frM a0 [1] [0] (oc h) (oc q.2) ∧ q.2.1 = h.1) ∨ (s1 = 0 ∧ W 1 ≠ 12 ∧ q.1 = W 1 + 1 ∧ wl (oc q.2) a0 = upd W 1 (W 1 + 1) ∧ oi (oc q.2) a0 7 = 0 ∧ oi (oc q.2) a0 0 = 0 ∧ frM a0 [1] [7] (oc h) (oc q.2) ∧ q.2.1 = h.1) := by
  unfold F_X12_pole_59 at hf
  subst hs
  replace hf := jbind hf
  obtain ⟨q60, e1, hf⟩ := hf
  replace e1 := (jcv_o e1).2
  have r1 := E_X12_throwsIf h01 e1
  have M1 : mS (oc q60.2) a0 := by rcases r1 with ⟨-, -, e0⟩ | ⟨-, -, T⟩; rw [e0]; exact M; exact mS_fr M T.2.1 (by decide) (by decide)
  replace hf := jite hf
  rcases hf with ⟨c2, hf⟩ | ⟨c2, hf⟩
  · skip
    replace hf := jbind hf
    obtain ⟨p68, e3, hf⟩ := hf
    have r3 := oc_gR e3
    rw [M1.1] at r3
    cases r3
    clear e3
    replace hf := jbind hf
    obtain ⟨v72, e4, hf⟩ := hf
    obtain ⟨r4, y4⟩ := oc_al e4
    rw [show (1 : Int32).toNatClampNeg = 1 from rfl] at r4
    subst r4
    clear e4
    replace hf := jite hf
    rcases hf with ⟨c5, hf⟩ | ⟨c5, hf⟩
    · skip
      -- leaf 00: F_X12_pole_83 n a0 a0 (1 : Int32) q60.2
      rcases r1 with ⟨s0, -, e0⟩ | ⟨-, y, -⟩
      rotate_left
      · exact absurd (y.symm.trans c2) (by decide)
      rw [e0] at hf c5
      have e1 : W 1 = 12 := by rw [← hW]; exact c5
      rcases E_X12_pole_83 rfl (Or.inr rfl) M z0 hW hf with ⟨-, a⟩ | ⟨y, -⟩
      · exact Or.inr (Or.inl ⟨s0, e1, a⟩)
      · exact absurd y (by decide)
    · skip
      -- leaf 01: F_X12_pole_83 n a0 a0 (0 : Int32) q60.2
      rcases r1 with ⟨s0, -, e0⟩ | ⟨-, y, -⟩
      rotate_left
      · exact absurd (y.symm.trans c2) (by decide)
      rw [e0] at hf c5
      have e1 : W 1 ≠ 12 := by rw [← hW]; exact c5
      rcases E_X12_pole_83 rfl (Or.inl rfl) M z0 hW hf with ⟨y, -⟩ | ⟨-, a⟩
      · exact absurd y (by decide)
      · exact Or.inr (Or.inr ⟨s0, e1, a⟩)
  · skip
    -- leaf 1: F_X12_pole_92 n n a0 (0 : Int32) q60.2
    rcases r1 with ⟨-, y, -⟩ | ⟨s0, -, T⟩
    · exact absurd y c2
    have M1 := mS_fr M T.2.1 (by decide) (by decide)
    obtain ⟨b1, b2, b3, b4⟩ := E_X12_pole_92 n 0 M1 rfl (by omega) hf
    have bk : (∀ j, j < 1284 → oi (oc q.2) (a0 + 1) j = oi (oc h) (a0 + 3) j) := fun j hj => by rw [b1 j, if_pos (by omega)]; exact oi_M T.2.1 (by simp) (by omega)
    have b0 : oi (oc q.2) a0 0 = 1 := (frM_oi b2 (by decide) (by decide)).trans T.1
    have bf : frM a0 [1] [0] (oc h) (oc q.2) := frM_tr (frM_le T.2.1 (by decide) (by decide)) (frM_le b2 (by decide) (by decide))
    exact Or.inl ⟨s0, b4, b0, bk, bf, b3.trans T.2.2⟩
theorem E_X12_pole_2_b {b : Nat → Int32} {L : Nat} {m : Nat} {T : Nat → Int32 × Int32} {st : Nat → Nat} {en : Nat → Nat} {W : jWd} {n : Nat} {rc2 : Nat → Int32 → jH → Option (Int32 × jH)} {a0 : Nat} {x1 : Int32} {h : jH} {q : Int32 × jH} (H : tkE b L m T st en) (hx : x1 = 1284) (M : mS (oc h) a0) (hW : wl (oc h) a0 = W) (K : wOK W) (hE : ∀ j, j < 1284 → oi (oc h) (a0 + 3) j = W j) (h9 : oi (oc h) a0 9 = nI L) (hb : ∀ i, oi (oc h) (a0 + 6) i = b i) (hf : F_X12_pole_2_b n rc2 a0 x1 h = some q) : (∀ f, (if (T 0).1 = -1 then .inl W else rdLines (rdPole T) T 14 W 0) = .inr f → q.1 = 0 ∧ oi (oc q.2) a0 0 = 1 ∧ oi (oc q.2) a0 14 = nI (st f) ∧ oi (oc q.2) a0 7 = oi (oc h) a0 7 ∧ (∀ j, j < 1284 → wl (oc q.2) a0 j = W j)) ∧ (∀ W2, (if (T 0).1 = -1 then .inl W else rdLines (rdPole T) T 14 W 0) = .inl W2 → oi (oc q.2) a0 14 = -1 ∧ wOK W2 ∧ ((W2 1 = 12 ∧ q.1 = 0 ∧ oi (oc q.2) a0 0 = 2 ∧ oi (oc q.2) a0 7 = oi (oc h) a0 7 ∧ (∀ j, j < 1284 → wl (oc q.2) a0 j = W j)) ∨ (W2 1 ≠ 12 ∧ q.1 = W2 1 + 1 ∧ oi (oc q.2) a0 0 = 0 ∧ wl (oc q.2) a0 = upd W2 1 (W2 1 + 1) ∧ oi (oc q.2) a0 7 = 0))) ∧ oi (oc q.2) a0 9 = 0 ∧ frM a0 [1] [0, 7, 9, 10, 11, 12, 14, 16] (oc h) (oc q.2) ∧ q.2.1 = h.1 := by
  unfold F_X12_pole_2_b at hf
  obtain ⟨s1, s2, s3, s4, s5, s8, s15, s17, s19, s20, s21⟩ := id M
  replace hf := jite hf
  rcases hf with ⟨c1, hf⟩ | ⟨c1, hf⟩
  · skip
    replace hf := jbind hf
    obtain ⟨q29, e2, hf⟩ := hf
    replace e2 := (jcv_o e2).2
    obtain ⟨A1, A2, A0, A9, ⟨Af, -⟩, Az⟩ := E_X12_readAll (N := 14) (Z := 0) (cs := [1]) (fs := [10, 12]) (W := W) (by decide) (by decide) (by decide) H (polHL H) polHP M h9 hb (fun O f _ => ⟨by rw [wl_f f (by decide)]; exact hW, K⟩) (by decide) (by decide) e2
    have M2 := mS_fr M Af (by decide) (by decide)
    have a7 : oi (oc q29.2) a0 7 = oi (oc h) a0 7 := frM_oi Af (by decide) (by decide)
    have aE : ∀ j, oi (oc q29.2) (a0 + 3) j = oi (oc h) (a0 + 3) j := fun j => oi_M Af (by simp) (by omega)
    have RR : lsG (polP a0) (oc q29.2) q29.1 a0 st 14 0 (if (T 0).1 = -1 then .inl W else rdLines (rdPole T) T 14 W 0) := by
      split
      · rename_i z
        obtain ⟨y1, y2⟩ := A1 z
        exact lsG_l (k2 := 0) rfl ⟨Nat.le_refl 0, by omega, y1, y2⟩
      · rename_i z
        exact ⟨fun W2 y => by
          obtain ⟨j2, k2, b1, b2, b3, b4⟩ := (A2 z).1 W2 y
          exact ⟨j2, k2, by omega, b2, b3, b4⟩, (A2 z).2⟩
    replace hf := jite hf
    rcases hf with ⟨c3, hf⟩ | ⟨c3, hf⟩
    · skip
      replace hf := jbind hf
      obtain ⟨h46, e4, hf⟩ := hf
      obtain ⟨o4, z4⟩ := oc_pf e4
      clear e4
      replace hf := jite hf
      rcases hf with ⟨c5, hf⟩ | ⟨c5, hf⟩
      · skip
        -- leaf 000: F_X12_pole_59 n a0 a0 (0 : Int32) h46
        rcases hR : (if (T 0).1 = -1 then .inl W else rdLines (rdPole T) T 14 W 0) with W2 | f
        rotate_left
        · exfalso
          have := (RR.2 f hR).1
          rw [Int32.le_iff_toInt_le, this] at c3
          exact absurd c3 (by decide)
        obtain ⟨j2, k2, -, -, -, w2, K2⟩ := RR.1 W2 hR
        have fo : frM a0 [] [14] (oc q29.2) (oc h46) := by rw [o4]; exact frM_f (by decide)
        have M3 := mS_fr M2 fo (by decide) (by decide)
        have g0 : oi (oc h46) a0 0 = 0 := (frM_oi fo (by decide) (by decide)).trans A0
        have g9 : oi (oc h46) a0 9 = 0 := (frM_oi fo (by decide) (by decide)).trans A9
        have g7 : oi (oc h46) a0 7 = oi (oc h) a0 7 := (frM_oi fo (by decide) (by decide)).trans a7
        have gE : ∀ j, oi (oc h46) (a0 + 3) j = oi (oc h) (a0 + 3) j := fun j => (oi_M fo (by simp) (by omega)).trans (aE j)
        have FF : frM a0 [1] [0, 7, 9, 10, 11, 12, 14, 16] (oc h) (oc h46) := frM_tr (frM_le Af (by decide) (by decide)) (frM_le fo (by decide) (by decide))
        have w3 : wl (oc h46) a0 = W2 := (wl_f fo (by decide)).trans w2
        have g14 : oi (oc h46) a0 14 = -1 := by rw [o4, oi_eq]
        rcases E_X12_pole_59 rfl (Or.inl rfl) M3 g0 w3 hf with ⟨y, -⟩ | ⟨-, t12, v, t0, tb, tf, tz⟩ | ⟨-, t12, v, tw, t7, t0, tf, tz⟩
        · exact absurd y (by decide)
        · exact ⟨fun f y => (by rw [hR] at y; cases y), fun W3 y => (by rw [hR] at y; cases y; exact ⟨(frM_oi tf (by decide) (by decide)).trans g14, K2, Or.inl ⟨t12, v, t0, (frM_oi tf (by decide) (by decide)).trans g7, fun j hj => ((tb j hj).trans (gE j)).trans (hE j hj)⟩⟩), (frM_oi tf (by decide) (by decide)).trans g9, frM_tr FF (frM_le tf (by decide) (by decide)), tz.trans (z4.trans Az)⟩
        · exact ⟨fun f y => (by rw [hR] at y; cases y), fun W3 y => (by rw [hR] at y; cases y; exact ⟨(frM_oi tf (by decide) (by decide)).trans g14, K2, Or.inr ⟨t12, v, t0, tw, t7⟩⟩), (frM_oi tf (by decide) (by decide)).trans g9, frM_tr FF (frM_le tf (by decide) (by decide)), tz.trans (z4.trans Az)⟩
      · skip
        -- leaf 001: F_X12_pole_59 n a0 a0 (1 : Int32) h46
        exact absurd c3 c5
    · skip
      replace hf := jbind hf
      obtain ⟨v39, e6, hf⟩ := hf
      have r6 := oc_gI e6
      subst r6
      clear e6
      replace hf := jbind hf
      obtain ⟨h46, e7, hf⟩ := hf
      obtain ⟨o7, z7⟩ := oc_pf e7
      clear e7
      replace hf := jite hf
      rcases hf with ⟨c8, hf⟩ | ⟨c8, hf⟩
      · skip
        -- leaf 010: F_X12_pole_59 n a0 a0 (0 : Int32) h46
        exact absurd c8 c3
      · skip
        -- leaf 011: F_X12_pole_59 n a0 a0 (1 : Int32) h46
        rcases hR : (if (T 0).1 = -1 then .inl W else rdLines (rdPole T) T 14 W 0) with W2 | f
        · exfalso
          obtain ⟨j2, k2, -, b2, b3, -⟩ := RR.1 W2 hR
          exact c3 (by rw [b3, Int32.le_iff_toInt_le, nI_toInt (by omega)]; have l0 : (0 : Int32).toInt = 0 := rfl; omega)
        obtain ⟨v1, g12⟩ := RR.2 f hR
        have fo : frM a0 [] [14] (oc q29.2) (oc h46) := by rw [o7]; exact frM_f (by decide)
        have M3 := mS_fr M2 fo (by decide) (by decide)
        have g0 : oi (oc h46) a0 0 = 0 := (frM_oi fo (by decide) (by decide)).trans A0
        have g9 : oi (oc h46) a0 9 = 0 := (frM_oi fo (by decide) (by decide)).trans A9
        have g7 : oi (oc h46) a0 7 = oi (oc h) a0 7 := (frM_oi fo (by decide) (by decide)).trans a7
        have gE : ∀ j, oi (oc h46) (a0 + 3) j = oi (oc h) (a0 + 3) j := fun j => (oi_M fo (by simp) (by omega)).trans (aE j)
        have FF : frM a0 [1] [0, 7, 9, 10, 11, 12, 14, 16] (oc h) (oc h46) := frM_tr (frM_le Af (by decide) (by decide)) (frM_le fo (by decide) (by decide))
        have g14 : oi (oc h46) a0 14 = nI (st f) := by rw [o7, oi_eq]; exact g12
        rcases E_X12_pole_59 rfl (Or.inr rfl) M3 g0 rfl hf with ⟨-, v, t0, tb, tf, tz⟩ | ⟨y, -⟩ | ⟨y, -⟩
        rotate_left
        · exact absurd y (by decide)
        · exact absurd y (by decide)
        exact ⟨fun f2 y => (by rw [hR] at y; cases y; exact ⟨v, t0, (frM_oi tf (by decide) (by decide)).trans g14, (frM_oi tf (by decide) (by decide)).trans g7, fun j hj => ((tb j hj).trans (gE j)).trans (hE j hj)⟩), fun W3 y => (by rw [hR] at y; cases y), (frM_oi tf (by decide) (by decide)).trans g9, frM_tr FF (frM_le tf (by decide) (by decide)), tz.trans (z7.trans Az)⟩
  · skip
    replace hf := jbind hf
    obtain ⟨p10, e9, hf⟩ := hf
    have r9 := oc_gR e9
    rw [s3] at r9
    cases r9
    clear e9
    replace hf := jbind hf
    obtain ⟨p15, e10, hf⟩ := hf
    have r10 := oc_gR e10
    rw [s1] at r10
    cases r10
    clear e10
    replace hf := jbind hf
    obtain ⟨v19, e11, hf⟩ := hf
    obtain ⟨r11, y11⟩ := oc_al e11
    subst r11
    clear e11
    replace hf := jbind hf
    obtain ⟨h20, e12, hf⟩ := hf
    obtain ⟨o12, z12, y12⟩ := oc_as e12
    rw [jnar0] at o12
    clear e12
    -- leaf 1: rc2 a0 (x1 + (1 : Int32)) h20
    rw [hx] at c1
    exact absurd (Int32.le_refl _) c1
theorem E_X12_pole {b : Nat → Int32} {L : Nat} {m : Nat} {T : Nat → Int32 × Int32} {st : Nat → Nat} {en : Nat → Nat} {W : jWd} {n : Nat} {a0 : Nat} {h : jH} {q : Int32 × jH} (H : tkE b L m T st en) (M : mS (oc h) a0) (hW : wl (oc h) a0 = W) (K : wOK W) (h9 : oi (oc h) a0 9 = nI L) (hb : ∀ i, oi (oc h) (a0 + 6) i = b i) (hf : F_X12_pole n a0 h = some q) : (∀ f, (if (T 0).1 = -1 then .inl W else rdLines (rdPole T) T 14 W 0) = .inr f → q.1 = 0 ∧ oi (oc q.2) a0 0 = 1 ∧ oi (oc q.2) a0 14 = nI (st f) ∧ oi (oc q.2) a0 7 = oi (oc h) a0 7 ∧ (∀ j, j < 1284 → wl (oc q.2) a0 j = W j)) ∧ (∀ W2, (if (T 0).1 = -1 then .inl W else rdLines (rdPole T) T 14 W 0) = .inl W2 → oi (oc q.2) a0 14 = -1 ∧ wOK W2 ∧ ((W2 1 = 12 ∧ q.1 = 0 ∧ oi (oc q.2) a0 0 = 2 ∧ oi (oc q.2) a0 7 = oi (oc h) a0 7 ∧ (∀ j, j < 1284 → wl (oc q.2) a0 j = W j)) ∨ (W2 1 ≠ 12 ∧ q.1 = W2 1 + 1 ∧ oi (oc q.2) a0 0 = 0 ∧ wl (oc q.2) a0 = upd W2 1 (W2 1 + 1) ∧ oi (oc q.2) a0 7 = 0))) ∧ oi (oc q.2) a0 9 = 0 ∧ frM a0 [1, 3] [0, 7, 9, 10, 11, 12, 14, 16] (oc h) (oc q.2) ∧ q.2.1 = h.1 := by
  unfold F_X12_pole at hf
  -- leaf : F_X12_pole_2 n n a0 (0 : Int32) h
  obtain ⟨h2, a1, a2, a3, a4⟩ := E_X12_pole_2 n 0 M rfl (by omega) hf
  have M2 := mS_fr M a2 (by decide) (by decide)
  obtain ⟨b1, b2, b3, b4, b5⟩ := E_X12_pole_2_b H rfl M2 ((wl_f a2 (by decide)).trans hW) K (fun j hj => by rw [a1 j, if_pos (by omega), ← hW]) ((frM_oi a2 (by decide) (by decide)).trans h9) (fun i => (oi_M a2 (by simp) (by omega)).trans (hb i)) a4
  have e7 : oi (oc h2) a0 7 = oi (oc h) a0 7 := frM_oi a2 (by decide) (by decide)
  rw [e7] at b1 b2
  exact ⟨b1, b2, b3, frM_tr (frM_le a2 (by decide) (by decide)) (frM_le b4 (by decide) (by decide)), b5.trans a3⟩
end
section
/-! building the relation anew behind a text, or behind back -/
theorem im_k2 {O O2 : jO} {x z z2 : Nat} (fr : ∀ a k : Nat, ((a = x ∧ (k = 10 ∨ k = 11)) ∨ a = x + 42 ∨ (a = x + 40 ∧ k = 6) ∨ (x + 52 < a ∧ a < z ∧ ∀ s b : Nat, s < 12 → O (x + 20) s = .ref b → a < b ∨ b + 6 < a)) → O2 a k = O a k)
    (sl : ∀ s b : Nat, s < 12 → O2 (x + 20) s = .ref b → O (x + 20) s = .ref b ∨ z ≤ b) (hz : z ≤ z2) (S2 : rdrS O2 x) (F2 : oi O2 x 12 = oi O2 (x + 40) 14) (I : imE O z x) : imE O2 z2 x := by
  obtain ⟨-, -, I⟩ := I
  have fi : ∀ a k : Nat, (a = x + 42 ∨ (a = x + 40 ∧ k = 6)) → oi O2 a k = oi O a k := fun a k h => by unfold oi; rw [fr a k (by omega)]
  have ew : iwl O2 x = iwl O x := funext fun k => fi _ _ (by omega)
  refine ⟨S2, F2, ?_⟩
  rcases I with ⟨a1, a2, a3⟩ | ⟨kr, kl, ⟨a1, a2, a3⟩, ⟨b1, b2, b3, b4, b5⟩, ⟨c1, c2, c3, c4, c5⟩, d⟩
  · exact Or.inl ⟨(fr _ _ (by omega)).trans a1, (fr _ _ (by omega)).trans a2, (fi _ _ (by omega)).trans a3⟩
  · refine Or.inr ⟨kr, kl, ⟨(fr _ _ (by omega)).trans a1, (fr _ _ (by omega)).trans a2, (fi _ _ (by omega)).trans a3⟩, ?_, ⟨c1, by omega, c3, by omega, c5⟩, fun s b hs e => ?_⟩
    · rw [ew]
      refine ⟨rodE_fr b1 (fun a k h1 h2 => fr a k ?_), lawE_fr b2 (fun a k h1 h2 h3 => fr a k ?_), b3, b4, b5⟩
      · exact Or.inr (Or.inr (Or.inr ⟨by omega, by omega, fun s b hs e => by have := (d s b hs e).1; omega⟩))
      · exact Or.inr (Or.inr (Or.inr ⟨by omega, by omega, fun s b hs e => by have := (d s b hs e).2; omega⟩))
    · rcases sl s b hs e with y | y
      · exact d s b hs y
      · exact ⟨by omega, by omega⟩
/-- the cells that a text or back may change -/
def txc (x a k : Nat) : Prop := (a = x ∧ k = 12) ∨ (a = x + 1 ∧ 4 ≤ k ∧ k ≤ 6) ∨ (x + 3 ≤ a ∧ a ≤ x + 18) ∨ (a = x + 19 ∧ k = 2) ∨ (x + 21 ≤ a ∧ a ≤ x + 33) ∨ a = x + 41 ∨ a = x + 43 ∨ (a = x + 40 ∧ (k = 0 ∨ k = 7 ∨ (9 ≤ k ∧ k ≤ 14) ∨ k = 16))
theorem eq_bld {x nx r L L2 r2 : Nat} {W W2 : jWd} {h h3 : jH} (E : eqS x nx r L W h) (f : ∀ a k : Nat, ¬ txc x a k → oc h3 a k = oc h a k) (dz : h3.1 = h.1)
    (A2 : (r2 = 0 ∧ oi (oc h3) (x + 19) 2 = 0 ∧ oi (oc h3) (x + 40) 7 = 0) ∨ (r2 = r ∧ oi (oc h3) (x + 19) 2 = oi (oc h) (x + 19) 2 ∧ oi (oc h3) (x + 40) 7 = oi (oc h) (x + 40) 7 ∧ oi (oc h3) (x + 13) 7 = oi (oc h) (x + 13) 7))
    (W2E : rodE (oc h3) (x + 6) W2 ∧ wl (oc h3) (x + 40) = W2 ∧ wOK W2 ∧ lawE (oc h3) (x + 13) W2 ∧ lawK W2 ∧ lawB W2) (T2 : oi (oc h3) (x + 1) 6 = nI L2 ∧ oi (oc h3) (x + 40) 9 = nI L2 ∧ L2 ≤ 400) (D2 : rodS (oc h3) (x + 21) ∧ lawS (oc h3) (x + 28)) (F2 : oi (oc h3) x 12 = oi (oc h3) (x + 40) 14) : eqS x nx r2 L2 W2 h3 := by
  obtain ⟨⟨e0, e1, e3, e8, e36, e19, ⟨t0, t1, t2, t3⟩, s1, s2, s3, s4, s5, s8, s15, s17, s19, s20, s21⟩, ⟨n1, n2, n3, n4, n5, n6, S, P, A⟩, -, ⟨l1, l2, l3, l4, I⟩⟩ := E
  have g : ∀ a k : Nat, ¬ txc x a k → oi (oc h3) a k = oi (oc h) a k := fun a k z => by unfold oi; rw [f a k z]
  have c : ∀ k : Nat, k ≤ 11 → oc h3 x k = oc h x k := fun k z => f _ _ (by unfold txc; omega)
  have m : ∀ k : Nat, k = 1 ∨ k = 2 ∨ k = 3 ∨ k = 4 ∨ k = 5 ∨ k = 8 ∨ k = 15 ∨ k = 17 ∨ k = 19 ∨ k = 20 ∨ k = 21 → oc h3 (x + 40) k = oc h (x + 40) k := fun k z => f _ _ (by unfold txc; omega)
  have t : ∀ k : Nat, k ≤ 3 → oc h3 (x + 1) k = oc h (x + 1) k := fun k z => f _ _ (by unfold txc; omega)
  obtain ⟨q1, q2⟩ := slot_keep (O2 := oc h3) (z2 := h3.1) (fun a k z => f a k (by unfold txc; omega)) (by omega) S P
  obtain ⟨⟨u1, u2, u3, u4, u5, u6⟩, ⟨v1, v2, v3⟩, ⟨w1, w2, w3⟩, ⟨y1, y2, y3, y4, y5⟩, -, -⟩ := I.1
  have S3 : rdrS (oc h3) x := ⟨⟨(c _ (by omega)).trans u1, (c _ (by omega)).trans u2, (c _ (by omega)).trans u3, (c _ (by omega)).trans u4, (c _ (by omega)).trans u5, (c _ (by omega)).trans u6⟩,
    ⟨(f _ _ (by unfold txc; omega)).trans v1, (f _ _ (by unfold txc; omega)).trans v2, (f _ _ (by unfold txc; omega)).trans v3⟩, ⟨(f _ _ (by unfold txc; omega)).trans w1, (f _ _ (by unfold txc; omega)).trans w2, (f _ _ (by unfold txc; omega)).trans w3⟩,
    ⟨(f _ _ (by unfold txc; omega)).trans y1, (f _ _ (by unfold txc; omega)).trans y2, (f _ _ (by unfold txc; omega)).trans y3, (f _ _ (by unfold txc; omega)).trans y4, (f _ _ (by unfold txc; omega)).trans y5⟩, D2.1, D2.2⟩
  have I3 : imE (oc h3) h3.1 x := im_k2 (O := oc h) (z := h.1) (fun a k z => f a k (by unfold txc; omega)) (fun s d hs e => Or.inl (by rw [← f (x + 20) s (by unfold txc; omega)]; exact e)) (by omega) S3 F2 I
  have AA : (oi (oc h3) (x + 19) 2).toInt = (r2 : Int) ∧ oi (oc h3) (x + 40) 7 = nI r2 ∧ r2 ≤ 12 ∧ actE (oc h3) x (x + 40) r2 nx := by
    rcases A2 with ⟨a1, a2, a3⟩ | ⟨a1, a2, a3, a4⟩
    · subst a1
      exact ⟨by rw [a2]; rfl, a3, by omega, fun j hj => by omega⟩
    · subst a1
      refine ⟨by rw [a2]; exact n3, a3.trans n4, n5, ?_⟩
      intro j hj
      obtain ⟨d, V, b1, b2, b3, b4, b5⟩ := A j hj
      have l : x + 52 < d := by
        rcases S ((nx + 11 - j) % 12) (by omega) with q | ⟨d2, q, q1, q2, q3⟩
        · rw [q] at b1; cases b1
        · rw [q] at b1; cases b1; exact q2
      refine ⟨d, V, (f _ _ (by unfold txc; omega)).trans b1, rodE_fr b2 (fun a k h1 h2 => f _ _ (by unfold txc; omega)), b3, fun k hk => (b4 k hk).trans (g _ _ (by unfold txc; omega)).symm, b5.trans a4.symm⟩
  obtain ⟨aa1, aa2, aa3, aa4⟩ := AA
  refine ⟨⟨(c _ (by omega)).trans e0, (c _ (by omega)).trans e1, (c _ (by omega)).trans e3, (c _ (by omega)).trans e8, (f _ _ (by unfold txc; omega)).trans e36, (f _ _ (by unfold txc; omega)).trans e19, ⟨(t _ (by omega)).trans t0, (t _ (by omega)).trans t1, (t _ (by omega)).trans t2, (t _ (by omega)).trans t3⟩,
    (m _ (by omega)).trans s1, (m _ (by omega)).trans s2, (m _ (by omega)).trans s3, (m _ (by omega)).trans s4, (m _ (by omega)).trans s5, (m _ (by omega)).trans s8, (m _ (by omega)).trans s15, (m _ (by omega)).trans s17, (m _ (by omega)).trans s19, (m _ (by omega)).trans s20, (m _ (by omega)).trans s21⟩,
    ⟨(g _ _ (by unfold txc; omega)).trans n1, n2, aa1, aa2, aa3, by omega, q1, q2, aa4⟩, W2E, ⟨T2.1, T2.2.1, T2.2.2, fun i hi => ?_, I3⟩⟩
  rw [g _ _ (by unfold txc; omega), g _ _ (by unfold txc; omega)]
  exact l4 i hi
theorem E_X11_pole {b : Nat → Int32} {L : Nat} {x : Nat} {W : jWd} {n : Nat} {a0 : Nat} {h : jH} {q : jR × jH} (ha : x = a0) (X0 : oc h x 0 = .ref (x + 1)) (X1 : oc h x 1 = .ref (x + 6)) (X3 : oc h x 3 = .ref (x + 19)) (I : rdrS (oc h) x) (C : ctb (oc h) (x + 1) b L) (R : rodE (oc h) (x + 6) W) (K : wOK W) (J : jlen h (x + 24) = some 8 ∧ jlen h (x + 25) = some 8) (hf : F_X11_pole n a0 h = some q) : ∃ (m : Nat) (T : Nat → Int32 × Int32) (st en : Nat → Nat), tkE b L m T st en ∧ (∀ f, (if (T 0).1 = -1 then .inl W else rdLines (rdPole T) T 14 W 0) = .inr f → q.1 = .inr 0 ∧ oi (oc q.2) x 12 = nI (st f) ∧ (∀ a k : Nat, ¬ (a = x ∧ k = 12) → ¬ (a = x + 1 ∧ 4 ≤ k ∧ k ≤ 6) → ¬ (x + 3 ≤ a ∧ a ≤ x + 5) → ¬ (x + 21 ≤ a ∧ a ≤ x + 27) → oc q.2 a k = oc h a k)) ∧ (∀ W2, (if (T 0).1 = -1 then .inl W else rdLines (rdPole T) T 14 W 0) = .inl W2 → okW W W2 ∧ oi (oc q.2) x 12 = -1 ∧ ((¬ W 1 < 12 ∧ q.1 = .inr 3 ∧ (∀ a k : Nat, ¬ (a = x ∧ k = 12) → ¬ (a = x + 1 ∧ 4 ≤ k ∧ k ≤ 6) → ¬ (x + 3 ≤ a ∧ a ≤ x + 5) → ¬ (x + 21 ≤ a ∧ a ≤ x + 27) → oc q.2 a k = oc h a k)) ∨ (W 1 < 12 ∧ q.1 = .inl (W2 1 + 1) ∧ rodE (oc q.2) (x + 6) (upd W2 1 (W2 1 + 1)) ∧ oi (oc q.2) (x + 19) 2 = 0 ∧ (∀ a k : Nat, ¬ (a = x ∧ k = 12) → ¬ (a = x + 1 ∧ 4 ≤ k ∧ k ≤ 6) → ¬ (x + 3 ≤ a ∧ a ≤ x + 5) → ¬ (x + 6 ≤ a ∧ a ≤ x + 12) → ¬ (a = x + 19 ∧ k = 2) → ¬ (x + 21 ≤ a ∧ a ≤ x + 27) → oc q.2 a k = oc h a k)))) ∧ oi (oc q.2) (x + 1) 6 = 0 ∧ rodS (oc q.2) (x + 21) ∧ q.2.1 = h.1 := by
  unfold F_X11_pole at hf
  subst ha
  replace hf := jbind hf
  obtain ⟨p1, e1, hf⟩ := hf
  have r1 := oc_gR e1
  rw [I.1.2.1] at r1
  cases r1
  clear e1
  replace hf := jbind hf
  obtain ⟨p5, e2, hf⟩ := hf
  have r2 := oc_gR e2
  rw [X1] at r2
  cases r2
  clear e2
  replace hf := jbind hf
  obtain ⟨h8, e3, hf⟩ := hf
  replace e3 := (jcv_o e3).2
  have S34 : rrS (oc h) x := I.2.1
  have sd := I.2.2.2.2.1
  obtain ⟨R3, f3, z3⟩ := E_X8_copyFrom (d := x + 21) (r := x + 6) rfl rfl (by omega) sd R K e3
  have J3 : jlen h8 (x + 24) = some 8 ∧ jlen h8 (x + 25) = some 8 := ⟨Ln_X8_copyFrom e3 _ _ J.1, Ln_X8_copyFrom e3 _ _ J.2⟩
  have S3 : rrS (oc h8) x := rrS_D S34 (frD_R f3)
  have C3 : ctb (oc h8) (x + 1) b L := ctb_fr C (fun a k u => f3 _ _ (by omega))
  have g3 : ∀ k, oc h8 x k = oc h x k := fun k => f3 _ _ (by omega)
  have x6 : oc h8 x 6 = .ref (x + 34) := (g3 6).trans I.1.2.2.2.1
  replace hf := jbind hf
  obtain ⟨p13, e4, hf⟩ := hf
  have r4 := oc_gR e4
  rw [x6] at r4
  cases r4
  clear e4
  replace hf := jbind hf
  obtain ⟨q16, e5, hf⟩ := hf
  replace e5 := (jcv_o e5).2
  obtain ⟨m, T, st, en, H, r5, f5, z5⟩ := E_X4_read_R C3 S3 rfl R3 K J3 e5
  have g5 : ∀ k, oc q16.2 x k = oc h x k := fun k => (f5 _ _ (by omega) (by omega) (by omega)).trans (g3 k)
  have x0 : oc q16.2 x 0 = .ref (x + 1) := (g5 0).trans X0
  have x1 : oc q16.2 x 1 = .ref (x + 6) := (g5 1).trans X1
  have x3 : oc q16.2 x 3 = .ref (x + 19) := (g5 3).trans X3
  have x4 : oc q16.2 x 4 = .ref (x + 21) := (g5 4).trans I.1.2.1
  replace hf := jbind hf
  obtain ⟨h19, e6, hf⟩ := hf
  obtain ⟨o6, z6⟩ := oc_pf e6
  clear e6
  replace hf := jbind hf
  obtain ⟨p23, e7, hf⟩ := hf
  have r7 := oc_gR e7
  rw [o6] at r7
  rw [u2_ne (Or.inr (by decide))] at r7
  rw [x0] at r7
  cases r7
  clear e7
  replace hf := jbind hf
  obtain ⟨h27, e8, hf⟩ := hf
  obtain ⟨o8, z8⟩ := oc_pf e8
  clear e8
  replace hf := jbind hf
  obtain ⟨v31, e9, hf⟩ := hf
  have r9 := oc_gI e9
  rw [o8] at r9
  rw [oi_ne (Or.inl (by omega))] at r9
  rw [o6] at r9
  rw [oi_eq] at r9
  subst r9
  clear e9
  have q27 : ∀ a k : Nat, ¬ (a = x ∧ k = 12) → ¬ (a = x + 1 ∧ k = 6) → oc h27 a k = oc q16.2 a k := fun a k u1 u2 => by rw [o8, u2_ne (by omega), o6, u2_ne (by omega)]
  have f27 : ∀ a k : Nat, ¬ (a = x ∧ k = 12) → ¬ (a = x + 1 ∧ 4 ≤ k ∧ k ≤ 6) → ¬ (x + 3 ≤ a ∧ a ≤ x + 5) → ¬ (x + 21 ≤ a ∧ a ≤ x + 27) → oc h27 a k = oc h a k := fun a k u1 u2 u3 u4 => (q27 a k u1 (by omega)).trans ((f5 a k (by omega) (by omega) (by omega)).trans (f3 a k (by omega)))
  have g27 : oi (oc h27) (x + 1) 6 = 0 := by rw [o8, oi_eq]
  have n27 : oi (oc h27) x 12 = q16.1 := by rw [o8, oi_ne (Or.inl (by omega)), o6, oi_eq]
  have z27 : h27.1 = h.1 := z8.trans (z6.trans (z5.trans z3))
  replace hf := jite hf
  rcases hf with ⟨c10, hf⟩ | ⟨c10, hf⟩
  · skip
    replace hf := jbind hf
    obtain ⟨p49, e11, hf⟩ := hf
    have r11 := oc_gR e11
    rw [o8] at r11
    rw [u2_ne (Or.inl (by omega))] at r11
    rw [o6] at r11
    rw [u2_ne (Or.inr (by decide))] at r11
    rw [x1] at r11
    cases r11
    clear e11
    replace hf := jbind hf
    obtain ⟨v52, e12, hf⟩ := hf
    have r12 := oc_gI e12
    rw [o8] at r12
    rw [oi_ne (Or.inl (by omega))] at r12
    rw [o6] at r12
    rw [oi_ne (Or.inl (by omega))] at r12
    subst r12
    clear e12
    rcases hR : (if (T 0).1 = -1 then .inl W else rdLines (rdPole T) T 14 W 0) with W2 | f
    rotate_left
    · exfalso
      have y := (r5.2 f hR).1
      rw [c10] at y
      have sl := tk_L H f
      have hL := H.1
      exact nI_ng (x := -1) (by omega) (by decide) y
    have RW2 := (r5.1 W2 hR).2
    have ok : okW W W2 := by
      split at hR
      · cases hR; exact ⟨K, fun _ _ => rfl⟩
      · exact rdLines_ok 14 K hR
    have R12 : oi (oc q16.2) (x + 6) 17 = W 1 := by
      unfold oi
      rw [f5 _ _ (by omega) (by omega) (by omega), f3 _ _ (by omega)]
      exact R.2.1.2.2.2.2.2.2.2.2
    replace hf := jite hf
    rcases hf with ⟨c13, hf⟩ | ⟨c13, hf⟩
    · skip
      replace hf := jbind hf
      obtain ⟨p71, e14, hf⟩ := hf
      have r14 := oc_gR e14
      rw [o8] at r14
      rw [u2_ne (Or.inl (by omega))] at r14
      rw [o6] at r14
      rw [u2_ne (Or.inr (by decide))] at r14
      rw [x4] at r14
      cases r14
      clear e14
      replace hf := jbind hf
      obtain ⟨v75, e15, hf⟩ := hf
      have r15 := oc_gI e15
      rw [o8] at r15
      rw [oi_ne (Or.inl (by omega))] at r15
      rw [o6] at r15
      rw [oi_ne (Or.inl (by omega))] at r15
      subst r15
      clear e15
      have w17 : oi (oc q16.2) (x + 21) 17 + 1 = W2 1 + 1 := by rw [RW2.2.1.2.2.2.2.2.2.2.2]
      replace hf := jbind hf
      obtain ⟨h80, e16, hf⟩ := hf
      obtain ⟨o16, z16⟩ := oc_pf e16
      clear e16
      replace hf := jbind hf
      obtain ⟨p84, e17, hf⟩ := hf
      have r17 := oc_gR e17
      rw [o16] at r17
      rw [u2_ne (Or.inl (by omega))] at r17
      rw [o8] at r17
      rw [u2_ne (Or.inl (by omega))] at r17
      rw [o6] at r17
      rw [u2_ne (Or.inr (by decide))] at r17
      rw [x1] at r17
      cases r17
      clear e17
      replace hf := jbind hf
      obtain ⟨p88, e18, hf⟩ := hf
      have r18 := oc_gR e18
      rw [o16] at r18
      rw [u2_ne (Or.inl (by omega))] at r18
      rw [o8] at r18
      rw [u2_ne (Or.inl (by omega))] at r18
      rw [o6] at r18
      rw [u2_ne (Or.inr (by decide))] at r18
      rw [x4] at r18
      cases r18
      clear e18
      replace hf := jbind hf
      obtain ⟨h91, e19, hf⟩ := hf
      replace e19 := (jcv_o e19).2
      have R16 : rodE (oc h80) (x + 21) (upd W2 1 (W2 1 + 1)) := by
        rw [o16, w17]
        exact rodE_i17 (rodE_fr RW2 (fun a k u1 u2 => q27 a k (by omega) (by omega)))
      have f80 : ∀ a k : Nat, ¬ (a = x + 21 ∧ k = 17) → oc h80 a k = oc h27 a k := fun a k u => by rw [o16, u2_ne (by omega)]
      have sr : rodS (oc h80) (x + 6) := by have := R.1; exact rodS_fr this (fun k => (f80 _ _ (by omega)).trans (f27 _ _ (by omega) (by omega) (by omega) (by omega))) ((f80 _ _ (by omega)).trans (f27 _ _ (by omega) (by omega) (by omega) (by omega)))
      have K16 : wOK (upd W2 1 (W2 1 + 1)) := wOK_1 ok.1 (by rw [ok.2 1 (Or.inl rfl)]; have k11 := K.2.2.2.2.2.2.2.2.2.2; have c13 := c13; rw [R12, Int32.lt_iff_toInt_lt, show (12 : Int32).toInt = 12 from rfl] at c13; have l1 : (1 : Int32).toInt = 1 := rfl; rw [jadd (by omega) (by omega)]; omega)
      obtain ⟨R19, f19, z19⟩ := E_X8_copyFrom (d := x + 6) (r := x + 21) rfl rfl (by omega) sr R16 K16 e19
      have x1c : oc h91 x 1 = .ref (x + 6) := (f19 _ _ (by omega)).trans ((f80 _ _ (by omega)).trans ((f27 _ _ (by omega) (by omega) (by omega) (by omega)).trans X1))
      have x3c : oc h91 x 3 = .ref (x + 19) := (f19 _ _ (by omega)).trans ((f80 _ _ (by omega)).trans ((f27 _ _ (by omega) (by omega) (by omega) (by omega)).trans X3))
      replace hf := jbind hf
      obtain ⟨p95, e20, hf⟩ := hf
      have r20 := oc_gR e20
      rw [x3c] at r20
      cases r20
      clear e20
      replace hf := jbind hf
      obtain ⟨h98, e21, hf⟩ := hf
      replace e21 := (jcv_o e21).2
      obtain ⟨o21, z21⟩ := E_X0_forget e21
      replace hf := jbind hf
      obtain ⟨p102, e22, hf⟩ := hf
      have r22 := oc_gR e22
      rw [o21] at r22
      rw [u2_ne (Or.inl (by omega))] at r22
      rw [x1c] at r22
      cases r22
      clear e22
      replace hf := jbind hf
      obtain ⟨v105, e23, hf⟩ := hf
      have r23 := oc_gI e23
      rw [o21] at r23
      rw [oi_ne (Or.inl (by omega))] at r23
      subst r23
      clear e23
      cases hf
      -- leaf 00: (.inl v105, h98)
      have cw : W 1 < 12 := by rw [← R12]; exact c13
      have f98 : ∀ a k : Nat, ¬ (a = x ∧ k = 12) → ¬ (a = x + 1 ∧ 4 ≤ k ∧ k ≤ 6) → ¬ (x + 3 ≤ a ∧ a ≤ x + 5) → ¬ (x + 6 ≤ a ∧ a ≤ x + 12) → ¬ (a = x + 19 ∧ k = 2) → ¬ (x + 21 ≤ a ∧ a ≤ x + 27) → oc h98 a k = oc h a k := fun a k u1 u2 u3 u4 u5 u6 => by rw [o21, u2_ne (by omega), f19 a k (by omega), f80 a k (by omega)]; exact f27 a k u1 u2 u3 u6
      have k98 : ∀ a k : Nat, ¬ (x + 6 ≤ a ∧ a ≤ x + 12) → ¬ (a = x + 19 ∧ k = 2) → ¬ (a = x + 21 ∧ k = 17) → oc h98 a k = oc h27 a k := fun a k u1 u2 u3 => by rw [o21, u2_ne (by omega), f19 a k (by omega), f80 a k (by omega)]
      have R98 : rodE (oc h98) (x + 6) (upd W2 1 (W2 1 + 1)) := rodE_fr R19 (fun a k u1 u2 => by rw [o21, u2_ne (by omega)])
      have a98 : oi (oc h91) (x + 6) 17 = W2 1 + 1 := by rw [R19.2.1.2.2.2.2.2.2.2.2, upd_eq]
      refine ⟨m, T, st, en, H, fun f y => (by rw [hR] at y; cases y), fun W3 y => ?_, ?_, ?_, ?_⟩
      · rw [hR] at y
        cases y
        refine ⟨ok, ?_, Or.inr ⟨cw, by rw [a98], R98, ?_, f98⟩⟩
        · show oi (oc h98) x 12 = -1
          unfold oi
          rw [k98 _ _ (by omega) (by omega) (by omega)]
          exact n27.trans c10
        · show oi (oc h98) (x + 19) 2 = 0
          rw [o21, oi_eq]
      · show oi (oc h98) (x + 1) 6 = 0
        unfold oi
        rw [k98 _ _ (by omega) (by omega) (by omega)]
        exact g27
      · exact rodS_fr R16.1 (fun k => by show oc h98 _ _ = _; rw [o21, u2_ne (by omega), f19 _ _ (by omega)]) (by show oc h98 _ _ = _; rw [o21, u2_ne (by omega), f19 _ _ (by omega)])
      · exact z21.trans (z19.trans (z16.trans z27))
    · skip
      cases hf
      -- leaf 01: (.inr 3, h27)
      have cw : ¬ W 1 < 12 := by rw [← R12]; exact c13
      refine ⟨m, T, st, en, H, fun f y => (by rw [hR] at y; cases y), fun W3 y => ?_, g27, rodS_fr RW2.1 (fun k => q27 _ _ (by omega) (by omega)) (q27 _ _ (by omega) (by omega)), z27⟩
      rw [hR] at y
      cases y
      exact ⟨ok, n27.trans c10, Or.inl ⟨cw, rfl, f27⟩⟩
  · skip
    cases hf
    -- leaf 1: (.inr 0, h27)
    rcases hR : (if (T 0).1 = -1 then .inl W else rdLines (rdPole T) T 14 W 0) with W2 | f
    · exact absurd (r5.1 W2 hR).1 c10
    obtain ⟨v5, s5⟩ := r5.2 f hR
    refine ⟨m, T, st, en, H, fun f2 y => ?_, fun W3 y => (by rw [hR] at y; cases y), g27, rodS_fr s5 (fun k => q27 _ _ (by omega) (by omega)) (q27 _ _ (by omega) (by omega)), z27⟩
    rw [hR] at y
    cases y
    exact ⟨rfl, n27.trans v5, f27⟩
end
section
/-! pole keeps the relation -/
theorem tyR_cb {W W2 : jWd} (h : ∀ k, k < 1284 → W2 k = W k) (a : Nat) : ∀ k, a + k ≤ 400 → tyR W2 a k = tyR W a k
  | 0, _ => rfl
  | k + 1, hk => by
    unfold tyR
    rw [tyR_cb h a k (by omega), h _ (by omega)]
theorem lawE_cb {O : jO} {l : Nat} {W W2 : jWd} (L : lawE O l W) (h : ∀ k, k < 1284 → W2 k = W k) : lawE O l W2 := by
  obtain ⟨S, a, b, c⟩ := L
  unfold lawE
  rw [h 2 (by omega), h 435 (by omega)]
  refine ⟨S, a, b, fun z => ⟨(c z).1, (c z).2.1, ?_⟩⟩
  obtain ⟨-, c2, c3⟩ := c z
  intro i hi
  rw [h _ (by omega), h _ (by omega), h _ (by omega), h _ (by omega), h (439 + 4 * (i - 1)) (by omega)]
  obtain ⟨a1, a2, a3, a4, a5, a6, a7, a8, a9, a10, a11⟩ := c3 i hi
  refine ⟨a1, a2, a3, a4, a5, a6, a7, a8, a9, fun j u w => ?_, ?_⟩
  · rw [h _ (by omega), h _ (by omega)]; exact a10 j u w
  · rw [tyR_cb h _ _ (by omega)]; exact a11
/-- the world as it was, where it tells -/
theorem wd_cb {O O2 : jO} {x y : Nat} {W W2 : jWd} (R : rodE O y W) (K : wOK W) (L : lawE O x W) (h : ∀ k, k < 1284 → W2 k = W k) (fR : ∀ a k, y ≤ a → a ≤ y + 6 → O2 a k = O a k) (fL : ∀ a k, x ≤ a → a ≤ x + 4 → ¬ (a = x ∧ k = 5) → O2 a k = O a k) : rodE O2 y W2 ∧ wOK W2 ∧ lawE O2 x W2 ∧ lawK W2 ∧ lawB W2 := by
  have L2 : lawE O2 x W2 := lawE_cb (lawE_fr L fL) h
  exact ⟨rodE_cg (rodE_fr R fR) K (fun k hk => h k (by omega)), wOK_cg K (fun k hk => h k (by omega)), L2, lawK_of L2, lawB_of L2⟩
theorem eq_pole {x nx r L n : Nat} {W : jWd} {h : jH} {q : jR × jH} {p : Int32 × jH} (E : eqS x nx r L W h) (J : jlen h (x + 24) = some 8 ∧ jlen h (x + 25) = some 8) (hB : ∀ i, i < 400 → -128 ≤ (oi (oc h) (x + 46) i).toInt ∧ (oi (oc h) (x + 46) i).toInt ≤ 127) (e1 : F_X11_pole n x h = some q) (e2 : F_X12_pole n (x + 40) q.2 = some p) :
    (∃ r2 W2, eqS x nx r2 0 W2 p.2) ∧ ansE [(0, 1), (3, 2)] q.1 p.1 (oi (oc p.2) (x + 40) 0) := by
  obtain ⟨⟨x0, x1, x3, -, -, -, ts, M⟩, ⟨n1, n2, n3, n4, n5, n6, -, -, -⟩, ⟨R, hw, K, LE, LK, LB⟩, ⟨l1, l2, l3, l4, I⟩⟩ := id E
  have C : ctb (oc h) (x + 1) (fun i => oi (oc h) (x + 46) i) L := ⟨ts, l1, l3, fun i hi => l4 i hi, hB⟩
  obtain ⟨m, T, st, en, H, a1, a2, a3, a4, a5⟩ := E_X11_pole rfl x0 x1 x3 I.1 C R K J e1
  -- whatever the answer: what the class leaves alone
  have FQ : ∀ a k : Nat, ¬ (a = x ∧ k = 12) → ¬ (a = x + 1 ∧ 4 ≤ k ∧ k ≤ 6) → ¬ (x + 3 ≤ a ∧ a ≤ x + 5) → ¬ (x + 6 ≤ a ∧ a ≤ x + 12) → ¬ (a = x + 19 ∧ k = 2) → ¬ (x + 21 ≤ a ∧ a ≤ x + 27) → oc q.2 a k = oc h a k := fun a k u1 u2 u3 u4 u5 u6 => by
    rcases hR : (if (T 0).1 = -1 then .inl W else rdLines (rdPole T) T 14 W 0 : jWd ⊕ Nat) with W2 | f
    · rcases (a2 W2 hR).2.2 with ⟨-, -, F⟩ | ⟨-, -, -, -, F⟩
      · exact F a k u1 u2 u3 u6
      · exact F a k u1 u2 u3 u4 u5 u6
    · exact (a1 f hR).2.2 a k u1 u2 u3 u6
  have k2 : ∀ a k : Nat, x + 28 ≤ a → oc q.2 a k = oc h a k := fun a k z => FQ a k (by omega) (by omega) (by omega) (by omega) (by omega) (by omega)
  have ki : ∀ a k : Nat, x + 28 ≤ a → oi (oc q.2) a k = oi (oc h) a k := fun a k z => by unfold oi; rw [k2 a k z]
  have M2 : mS (oc q.2) (x + 40) := by
    obtain ⟨s1, s2, s3, s4, s5, s8, s15, s17, s19, s20, s21⟩ := M
    have k3 : ∀ k, oc q.2 (x + 40) k = oc h (x + 40) k := fun k => k2 _ k (by omega)
    exact ⟨(k3 _).trans s1, (k3 _).trans s2, (k3 _).trans s3, (k3 _).trans s4, (k3 _).trans s5, (k3 _).trans s8, (k3 _).trans s15, (k3 _).trans s17, (k3 _).trans s19, (k3 _).trans s20, (k3 _).trans s21⟩
  have w2 : wl (oc q.2) (x + 40) = W := by rw [← hw]; funext k; exact ki (x + 41) k (by omega)
  obtain ⟨b1, b2, b3, b4, b5⟩ := E_X12_pole H M2 w2 K ((ki _ _ (by omega)).trans l2) (fun i => ki (x + 46) i (by omega)) e2
  have fp : ∀ a k : Nat, a ≠ x + 41 → a ≠ x + 43 → ¬ (a = x + 40 ∧ (k = 0 ∨ k = 7 ∨ (9 ≤ k ∧ k ≤ 14) ∨ k = 16)) → oc p.2 a k = oc q.2 a k := fun a k u1 u2 u3 => b4 a k (fun c hc z => by simp at hc; omega) (fun z y => u3 ⟨z, by simp at y; omega⟩)
  have fpi : ∀ a k : Nat, a ≤ x + 39 → oi (oc p.2) a k = oi (oc q.2) a k := fun a k z => by unfold oi; rw [fp a k (by omega) (by omega) (by omega)]
  have F : ∀ a k : Nat, ¬ txc x a k → oc p.2 a k = oc h a k := fun a k z => by
    unfold txc at z
    exact (fp a k (by omega) (by omega) (by omega)).trans (FQ a k (by omega) (by omega) (by omega) (by omega) (by omega) (by omega))
  have T2 : oi (oc p.2) (x + 1) 6 = nI 0 ∧ oi (oc p.2) (x + 40) 9 = nI 0 ∧ 0 ≤ 400 := ⟨(fpi _ _ (by omega)).trans a3, b3, by omega⟩
  have D2 : rodS (oc p.2) (x + 21) ∧ lawS (oc p.2) (x + 28) := ⟨rodS_fr a4 (fun k => fp _ _ (by omega) (by omega) (by omega)) (fp _ _ (by omega) (by omega) (by omega)), by
    obtain ⟨g1, g2, g3, g4, g5⟩ := I.1.2.2.2.2.2
    have g : ∀ k, oc p.2 (x + 28) k = oc h (x + 28) k := fun k => (fp _ _ (by omega) (by omega) (by omega)).trans (k2 _ _ (by omega))
    exact ⟨(g _).trans g1, (g _).trans g2, (g _).trans g3, (g _).trans g4, (g _).trans g5⟩⟩
  have fL : ∀ a k : Nat, x + 13 ≤ a → a ≤ x + 17 → oc p.2 a k = oc h a k := fun a k z1 z2 => (fp a k (by omega) (by omega) (by omega)).trans (FQ a k (by omega) (by omega) (by omega) (by omega) (by omega) (by omega))
  have f13 : oi (oc p.2) (x + 13) 7 = oi (oc h) (x + 13) 7 := by unfold oi; rw [fL _ _ (by omega) (by omega)]
  rcases hR : (if (T 0).1 = -1 then .inl W else rdLines (rdPole T) T 14 W 0 : jWd ⊕ Nat) with W2 | f
  · obtain ⟨ok, n12, d⟩ := a2 W2 hR
    obtain ⟨c14, c2, e⟩ := b2 W2 hR
    have W1 : W2 1 = W 1 := ok.2 1 (Or.inl rfl)
    have k11 := K.2.2.2.2.2.2.2.2.2.2
    have l12 : (12 : Int32).toInt = 12 := rfl
    rcases d with ⟨t12, v, G⟩ | ⟨t12, v, R2, s0, G⟩
    · rcases e with ⟨e12, v2, y0, y7, yW⟩ | ⟨e12, -⟩
      · obtain ⟨q1, q2, q3, q4, q5⟩ := wd_cb R K LE yW (fun a k z1 z2 => (fp a k (by omega) (by omega) (by omega)).trans (G a k (by omega) (by omega) (by omega) (by omega))) (fun a k z1 z2 _ => fL a k z1 (by omega))
        have g19 : oi (oc p.2) (x + 19) 2 = oi (oc h) (x + 19) 2 := by unfold oi; rw [fp _ _ (by omega) (by omega) (by omega), G _ _ (by omega) (by omega) (by omega) (by omega)]
        exact ⟨⟨r, _, eq_bld E F (b5.trans a5) (Or.inr ⟨rfl, g19, y7.trans (ki _ _ (by omega)), f13⟩) ⟨q1, rfl, q2, q3, q4, q5⟩ T2 D2 (((fpi _ _ (by omega)).trans n12).trans c14.symm)⟩, Or.inr ⟨(3, 2), by simp, v, v2, y0⟩⟩
      · exfalso
        rw [W1] at e12
        exact t12 (by rw [Int32.lt_iff_toInt_lt]; have : (W 1).toInt ≠ 12 := fun z => e12 (Int32.toInt_inj.mp (by rw [z, l12])); omega)
    · rcases e with ⟨e12, -⟩ | ⟨e12, v2, y0, yw, y7⟩
      · exfalso
        rw [W1] at e12
        rw [e12] at t12
        exact absurd t12 (by decide)
      · have ok3 : ∀ k : Nat, k = 2 ∨ 435 ≤ k → upd W2 1 (W2 1 + 1) k = W k := fun k hk => by rw [upd_ne (by omega)]; exact ok.2 k (Or.inr hk)
        have L3 : lawE (oc p.2) (x + 13) (upd W2 1 (W2 1 + 1)) := lawE_cg (lawE_fr LE (fun a k z1 z2 _ => fL a k z1 (by omega))) ok3
        have K3 : wOK (upd W2 1 (W2 1 + 1)) := wOK_1 ok.1 (by
          rw [W1]
          rw [Int32.lt_iff_toInt_lt] at t12
          have l1 : (1 : Int32).toInt = 1 := rfl
          rw [jadd (by omega) (by omega)]
          omega)
        exact ⟨⟨0, _, eq_bld E F (b5.trans a5) (Or.inl ⟨rfl, (fpi _ _ (by omega)).trans s0, y7⟩) ⟨rodE_fr R2 (fun a k z1 z2 => fp a k (by omega) (by omega) (by omega)), yw, K3, L3, lawK_of L3, lawB_of L3⟩ T2 D2 (((fpi _ _ (by omega)).trans n12).trans c14.symm)⟩, Or.inl ⟨by rw [v, v2], y0⟩⟩
  · obtain ⟨v, n12, G⟩ := a1 f hR
    obtain ⟨v2, y0, c14, y7, yW⟩ := b1 f hR
    obtain ⟨q1, q2, q3, q4, q5⟩ := wd_cb R K LE yW (fun a k z1 z2 => (fp a k (by omega) (by omega) (by omega)).trans (G a k (by omega) (by omega) (by omega) (by omega))) (fun a k z1 z2 _ => fL a k z1 (by omega))
    have g19 : oi (oc p.2) (x + 19) 2 = oi (oc h) (x + 19) 2 := by unfold oi; rw [fp _ _ (by omega) (by omega) (by omega), G _ _ (by omega) (by omega) (by omega) (by omega)]
    exact ⟨⟨r, _, eq_bld E F (b5.trans a5) (Or.inr ⟨rfl, g19, y7.trans (ki _ _ (by omega)), f13⟩) ⟨q1, rfl, q2, q3, q4, q5⟩ T2 D2 (((fpi _ _ (by omega)).trans n12).trans c14.symm)⟩, Or.inr ⟨(0, 1), by simp, v, v2, y0⟩⟩
end
section
/-! image, on both sides -/
theorem E_lawnew {n : Nat} {h q : jH} (e : F_X2_init n h.1 (jnew h (.inl (2, [.null, .null, .null, .null, .null, .int 0, .int 0, .int 0, .int 0]))) = some q) : lawS (oc q) h.1 ∧ q.1 = h.1 + 6 ∧ ∀ a k, a < h.1 → oc q a k = oc h a k := by
  obtain ⟨v, e2, j⟩ := I_X2_init (n := n) (h := h)
  cases e.symm.trans e2
  obtain ⟨j1, j2, j3⟩ := j
  have o : ∀ i, oc q (h.1 + 0) i = ([.ref (h.1 + 1), .ref (h.1 + 2), .ref (h.1 + 3), .ref (h.1 + 4), .ref (h.1 + 5), .int 0, .int 0, .int 0, .int 0] : List Value).getD i .null := fun i => by
    unfold oc
    rw [j3 0 _ rfl]
  refine ⟨⟨o 0, o 1, o 2, o 3, o 4⟩, j1, fun a k ha => ?_⟩
  unfold oc
  rw [j2 a ha]
theorem va_r {b : Nat} {o : Option Nat} (e : Value.ref b = va_rf o) : o = some b := by
  cases o with
  | none => cases e
  | some c =>
    have e2 : Value.ref b = .ref c := e
    cases e2
    rfl
theorem va_n {o : Option Nat} (e : Value.null = va_rf o) : o = none := by
  cases o with
  | none => rfl
  | some c =>
    have e2 : Value.null = .ref c := e
    cases e2
/-- rod and law of the class, taken over into what is kept -/
theorem E_img36 {n x kr kl : Nat} {W : jWd} {h q : jH} (X1 : oc h x 1 = .ref (x + 6)) (X2 : oc h x 2 = .ref (x + 13)) (X10 : oc h x 10 = .ref kr) (X11 : oc h x 11 = .ref kl) (R : rodE (oc h) (x + 6) W) (K : wOK W) (LE : lawE (oc h) (x + 13) W) (sr : rodS (oc h) kr) (sl : lawS (oc h) kl)
    (ap : x + 52 < kr ∧ x + 52 < kl ∧ (kr + 6 < kl ∨ kl + 5 < kr)) (hf : F_X11_image_36 n x h = some q) : rodE (oc q) kr W ∧ lawE (oc q) kl W ∧ (∀ a k : Nat, ¬ (kr ≤ a ∧ a ≤ kr + 6) → ¬ (kl ≤ a ∧ a ≤ kl + 5) → oc q a k = oc h a k) ∧ q.1 = h.1 := by
  unfold F_X11_image_36 at hf
  obtain ⟨o37, e1, hf⟩ := jbind hf
  have r1 := oc_gQ e1
  rw [X10] at r1
  cases va_r r1
  obtain ⟨p41, e2, hf⟩ := jbind hf
  have r2 := oc_gR e2
  rw [X1] at r2
  cases r2
  dsimp only at hf
  obtain ⟨h44, e3, hf⟩ := jbind hf
  obtain ⟨R3, f3, z3⟩ := E_X8_copyFrom (d := kr) (r := x + 6) rfl rfl (by omega) sr R K (jcv_o e3).2
  obtain ⟨o48, e4, hf⟩ := jbind hf
  have r4 := oc_gQ e4
  rw [f3 _ _ (by omega), X11] at r4
  cases va_r r4
  obtain ⟨p52, e5, hf⟩ := jbind hf
  have r5 := oc_gR e5
  rw [f3 _ _ (by omega), X2] at r5
  cases r5
  dsimp only at hf
  obtain ⟨h55, e6, hf⟩ := jbind hf
  have S6 : lawS (oc h44) kl := by
    obtain ⟨s0, s1, s2, s3, s4⟩ := sl
    exact ⟨(f3 _ _ (by omega)).trans s0, (f3 _ _ (by omega)).trans s1, (f3 _ _ (by omega)).trans s2, (f3 _ _ (by omega)).trans s3, (f3 _ _ (by omega)).trans s4⟩
  obtain ⟨R6, f6, z6⟩ := E_X2_copyFrom (d := kl) (r := x + 13) rfl rfl (by omega) S6 (lawE_fr LE (fun a k h1 h2 _ => f3 a k (by omega))) (jcv_o e6).2
  cases hf
  exact ⟨rodE_fr R3 (fun a k h1 h2 => f6 a k (by omega)), R6, fun a k h1 h2 => (f6 a k (by omega)).trans (f3 a k (by omega)), z6.trans z3⟩
/-- the kept rod and law: none yet, or these -/
def kp0 (O : jO) (z x : Nat) (kr kl : Nat) : Prop := (O x 10 = .null ∧ O x 11 = .null ∧ kr = z ∧ kl = z + 7) ∨ (O x 10 = .ref kr ∧ O x 11 = .ref kl ∧ rodS O kr ∧ lawS O kl ∧ x + 52 < kr ∧ kr + 6 < z ∧ x + 52 < kl ∧ kl + 5 < z ∧ (kr + 6 < kl ∨ kl + 5 < kr))
theorem E_X11_image {n x kr kl : Nat} {W : jWd} {h q : jH} (X1 : oc h x 1 = .ref (x + 6)) (X2 : oc h x 2 = .ref (x + 13)) (R : rodE (oc h) (x + 6) W) (K : wOK W) (LE : lawE (oc h) (x + 13) W) (hz : x + 52 < h.1) (A : kp0 (oc h) h.1 x kr kl) (hf : F_X11_image n x h = some q) :
    oc q x 10 = .ref kr ∧ oc q x 11 = .ref kl ∧ rodE (oc q) kr W ∧ lawE (oc q) kl W ∧ (x + 52 < kr ∧ kr + 6 < q.1 ∧ x + 52 < kl ∧ kl + 5 < q.1 ∧ (kr + 6 < kl ∨ kl + 5 < kr)) ∧ (∀ a k : Nat, a < h.1 → ¬ (a = x ∧ (k = 10 ∨ k = 11)) → ¬ (kr ≤ a ∧ a ≤ kr + 6) → ¬ (kl ≤ a ∧ a ≤ kl + 5) → oc q a k = oc h a k) ∧ h.1 ≤ q.1 := by
  unfold F_X11_image at hf
  obtain ⟨o1, e1, hf⟩ := jbind hf
  have r1 := oc_gQ e1
  rcases A with ⟨a10, a11, ek, el⟩ | ⟨a10, a11, sr, sl, b1, b2, b3, b4, b5⟩
  · subst ek el
    rw [a10] at r1
    cases va_n r1
    dsimp only at hf
    obtain ⟨h8, e2, hf⟩ := jbind hf
    cases e2
    obtain ⟨h12, e3, hf⟩ := jbind hf
    obtain ⟨n1, n2, n3⟩ := E_rodnew e3
    obtain ⟨h15, e4, hf⟩ := jbind hf
    obtain ⟨o4, z4⟩ := oc_pf e4
    have f15 : ∀ a k : Nat, a < h.1 → ¬ (a = x ∧ k = 10) → oc h15 a k = oc h a k := fun a k u w => by rw [o4, u2_ne (by omega)]; exact n3 a k u
    unfold F_X11_image_18 at hf
    obtain ⟨o5, e5, hf⟩ := jbind hf
    have r5 := oc_gQ e5
    rw [f15 _ _ (by omega) (by omega), a11] at r5
    cases va_n r5
    dsimp only at hf
    obtain ⟨h26, e6, hf⟩ := jbind hf
    cases e6
    have z15 : h15.1 = h.1 + 7 := z4.trans n2
    obtain ⟨h30, e7, hf⟩ := jbind hf
    obtain ⟨l1, l2, l3⟩ := E_lawnew e7
    obtain ⟨h33, e8, hf⟩ := jbind hf
    obtain ⟨o8, z8⟩ := oc_pf e8
    have f33 : ∀ a k : Nat, a < h.1 → ¬ (a = x ∧ (k = 10 ∨ k = 11)) → oc h33 a k = oc h a k := fun a k u w => by rw [o8, u2_ne (by omega), l3 a k (by omega)]; exact f15 a k u (by omega)
    have S33 : rodS (oc h33) h.1 := rodS_fr n1 (fun k => by rw [o8, u2_ne (by omega), l3 _ _ (by omega), o4, u2_ne (by omega)]) (by rw [o8, u2_ne (by omega), l3 _ _ (by omega), o4, u2_ne (by omega)])
    have L33 : lawS (oc h33) (h.1 + 7) := by
      rw [z15] at l1
      obtain ⟨s0, s1, s2, s3, s4⟩ := l1
      have g : ∀ k, oc h33 (h.1 + 7) k = oc h30 (h.1 + 7) k := fun k => by rw [o8, u2_ne (by omega)]
      exact ⟨(g _).trans s0, (g _).trans s1, (g _).trans s2, (g _).trans s3, (g _).trans s4⟩
    have y10 : oc h33 x 10 = .ref h.1 := by rw [o8, u2_ne (by omega), l3 _ _ (by omega), o4, u2_eq]
    have y11 : oc h33 x 11 = .ref (h.1 + 7) := by rw [o8, u2_eq, z15]
    obtain ⟨c1, c2, c3, c4⟩ := E_img36 (kr := h.1) (kl := h.1 + 7) (W := W) ((f33 _ _ (by omega) (by omega)).trans X1) ((f33 _ _ (by omega) (by omega)).trans X2) y10 y11 (rodE_fr R (fun a k u1 u2 => f33 a k (by omega) (by omega))) K (lawE_fr LE (fun a k u1 u2 _ => f33 a k (by omega) (by omega))) S33 L33 (by omega) hf
    have zq : q.1 = h.1 + 13 := by rw [c4, z8, l2, z15]
    exact ⟨(c3 _ _ (by omega) (by omega)).trans y10, (c3 _ _ (by omega) (by omega)).trans y11, c1, c2, by omega, fun a k u1 u2 u3 u4 => (c3 a k u3 u4).trans (f33 a k u1 u2), by omega⟩
  · rw [a10] at r1
    cases va_r r1
    dsimp only at hf
    unfold F_X11_image_18 at hf
    obtain ⟨o5, e5, hf⟩ := jbind hf
    have r5 := oc_gQ e5
    rw [a11] at r5
    cases va_r r5
    dsimp only at hf
    obtain ⟨c1, c2, c3, c4⟩ := E_img36 (kr := kr) (kl := kl) (W := W) X1 X2 a10 a11 R K LE sr sl (by omega) hf
    exact ⟨(c3 _ _ (by omega) (by omega)).trans a10, (c3 _ _ (by omega) (by omega)).trans a11, c1, c2, by omega, fun a k _ _ u3 u4 => c3 a k u3 u4, by omega⟩
theorem E_X12_image {n a0 : Nat} {h q : jH} (M : mS (oc h) a0) (hf : F_X12_image n a0 h = some q) : oi (oc q) a0 0 = 0 ∧ oi (oc q) a0 6 = 1 ∧ (∀ j, j < 1284 → oi (oc q) (a0 + 2) j = wl (oc h) a0 j) ∧ frM a0 [2] [0, 6] (oc h) (oc q) ∧ q.1 = h.1 := by
  unfold F_X12_image at hf
  obtain ⟨h2, e1, hf⟩ := jbind hf
  obtain ⟨o1, z1⟩ := oc_pf e1
  have f1 : frM a0 [] [0] (oc h) (oc h2) := by rw [o1]; exact frM_f (by decide)
  obtain ⟨b1, b2, b3, b4⟩ := E_X12_image_7 n 0 (mS_fr M f1 (by decide) (by decide)) rfl (by omega) hf
  refine ⟨(frM_oi b2 (by decide) (by decide)).trans (by rw [o1, oi_eq]), b4, fun j hj => ?_, frM_tr (frM_le f1 (by decide) (by decide)) (frM_le b2 (by decide) (by decide)), b3.trans z1⟩
  rw [b1 j, if_pos (by omega)]
  exact congrFun (wl_f f1 (by decide)) j
/-- acts left alone but for cells that no act holds -/
theorem slot_k2 {x z z2 : Nat} {O O2 : jO} (fr : ∀ a k : Nat, (a = x + 20 ∨ a = x + 45 ∨ (a = x + 13 ∧ k = 7) ∨ ∃ s b : Nat, s < 12 ∧ O (x + 20) s = .ref b ∧ b ≤ a ∧ a ≤ b + 6) → O2 a k = O a k) (hz : z ≤ z2) (S : slotE O z x) (P : apartE O x) : slotE O2 z2 x ∧ apartE O2 x := by
  refine ⟨fun s hs => ?_, fun s t b c hs ht ne e1 e2 => ?_⟩
  · rw [fr _ _ (Or.inl rfl)]
    rcases S s hs with w | ⟨c, w, w1, w2, w3⟩
    · exact Or.inl w
    · exact Or.inr ⟨c, w, rodS_fr w1 (fun k => fr _ _ (Or.inr (Or.inr (Or.inr ⟨s, c, hs, w, by omega, by omega⟩)))) (fr _ _ (Or.inr (Or.inr (Or.inr ⟨s, c, hs, w, by omega, by omega⟩)))), w2, by omega⟩
  · rw [fr _ _ (Or.inl rfl)] at e1 e2
    exact P s t b c hs ht ne e1 e2
theorem act_k2 {x r nx : Nat} {O O2 : jO} (fr : ∀ a k : Nat, (a = x + 20 ∨ a = x + 45 ∨ (a = x + 13 ∧ k = 7) ∨ ∃ s b : Nat, s < 12 ∧ O (x + 20) s = .ref b ∧ b ≤ a ∧ a ≤ b + 6) → O2 a k = O a k) (A : actE O x (x + 40) r nx) : actE O2 x (x + 40) r nx := by
  intro j hj
  obtain ⟨c, V, a1, a2, a3, a4, a5⟩ := A j hj
  refine ⟨c, V, (fr _ _ (Or.inl rfl)).trans a1, rodE_fr a2 (fun a k h1 h2 => fr _ _ (Or.inr (Or.inr (Or.inr ⟨_, c, Nat.mod_lt _ (by decide), a1, h1, h2⟩)))), a3, fun k hk => (a4 k hk).trans ?_, a5.trans ?_⟩
  · unfold oi
    rw [fr _ _ (Or.inr (Or.inl rfl))]
  · unfold oi
    rw [fr _ _ (Or.inr (Or.inr (Or.inl ⟨rfl, rfl⟩)))]
theorem eq_image {x nx r L n : Nat} {W : jWd} {h q p : jH} (E : eqS x nx r L W h) (e1 : F_X11_image n x h = some q) (e2 : F_X12_image n (x + 40) q = some p) : eqS x nx r L W p ∧ oi (oc p) (x + 40) 0 = 0 := by
  obtain ⟨⟨x0, x1, x3, x8, x36, x19, ⟨t0, t1, t2, t3⟩, s1, s2, s3, s4, s5, s8, s15, s17, s19, s20, s21⟩, ⟨n1, n2, n3, n4, n5, n6, S, P, A⟩, ⟨R, hw, K, LE, LK, LB⟩, ⟨l1, l2, l3, l4, I⟩⟩ := E
  obtain ⟨I0, If, I⟩ := I
  obtain ⟨kr, kl, A0, sc⟩ : ∃ kr kl : Nat, kp0 (oc h) h.1 x kr kl ∧ ∀ s b : Nat, s < 12 → oc h (x + 20) s = .ref b → b + 6 < h.1 ∧ (b + 6 < kr ∨ kr + 6 < b) ∧ (b + 6 < kl ∨ kl + 5 < b) := by
    have sb : ∀ s b : Nat, s < 12 → oc h (x + 20) s = .ref b → b + 6 < h.1 := fun s b hs e => by
      rcases S s hs with q | ⟨c, q, q1, q2, q3⟩
      · rw [q] at e; cases e
      · rw [q] at e; cases e; exact q3
    rcases I with ⟨a1, a2, -⟩ | ⟨kr, kl, ⟨a1, a2, -⟩, ⟨b1, b2, -, -, -⟩, ⟨c1, c2, c3, c4, c5⟩, d⟩
    · exact ⟨h.1, h.1 + 7, Or.inl ⟨a1, a2, rfl, rfl⟩, fun s b hs e => by have := sb s b hs e; omega⟩
    · exact ⟨kr, kl, Or.inr ⟨a1, a2, b1.1, b2.1, c1, c2, c3, c4, c5⟩, fun s b hs e => ⟨sb s b hs e, d s b hs e⟩⟩
  obtain ⟨c1, c2, c3, c4, c5, c6, c7⟩ := E_X11_image x1 I0.1.1 R K LE n6 A0 e1
  have f1 : ∀ a k : Nat, a ≤ x + 52 → ¬ (a = x ∧ (k = 10 ∨ k = 11)) → oc q a k = oc h a k := fun a k z1 z2 => c6 a k (by omega) z2 (by omega) (by omega)
  have M2 : mS (oc q) (x + 40) := ⟨(f1 _ _ (by omega) (by omega)).trans s1, (f1 _ _ (by omega) (by omega)).trans s2, (f1 _ _ (by omega) (by omega)).trans s3, (f1 _ _ (by omega) (by omega)).trans s4, (f1 _ _ (by omega) (by omega)).trans s5, (f1 _ _ (by omega) (by omega)).trans s8, (f1 _ _ (by omega) (by omega)).trans s15, (f1 _ _ (by omega) (by omega)).trans s17, (f1 _ _ (by omega) (by omega)).trans s19, (f1 _ _ (by omega) (by omega)).trans s20, (f1 _ _ (by omega) (by omega)).trans s21⟩
  obtain ⟨d0, d6, dw, df, dz⟩ := E_X12_image M2 e2
  have f2 : ∀ a k : Nat, a ≠ x + 42 → ¬ (a = x + 40 ∧ (k = 0 ∨ k = 6)) → oc p a k = oc q a k := fun a k u1 u2 => df a k (fun c hc z => by simp at hc; omega) (fun z y => u2 ⟨z, by simpa using y⟩)
  have f : ∀ a k : Nat, a ≤ x + 52 → a ≠ x + 42 → ¬ (a = x ∧ (k = 10 ∨ k = 11)) → ¬ (a = x + 40 ∧ (k = 0 ∨ k = 6)) → oc p a k = oc h a k := fun a k u1 u2 u3 u4 => (f2 a k u2 u4).trans (f1 a k u1 u3)
  have g : ∀ a k : Nat, a ≤ x + 52 → a ≠ x + 42 → ¬ (a = x ∧ (k = 10 ∨ k = 11)) → ¬ (a = x + 40 ∧ (k = 0 ∨ k = 6)) → oi (oc p) a k = oi (oc h) a k := fun a k u1 u2 u3 u4 => by unfold oi; rw [f a k u1 u2 u3 u4]
  have fa : ∀ a k : Nat, (a = x + 20 ∨ a = x + 45 ∨ (a = x + 13 ∧ k = 7) ∨ ∃ s b : Nat, s < 12 ∧ oc h (x + 20) s = .ref b ∧ b ≤ a ∧ a ≤ b + 6) → oc p a k = oc h a k := fun a k z => by
    rcases z with z | z | z | ⟨s, b, hs, e, z1, z2⟩
    · exact f a k (by omega) (by omega) (by omega) (by omega)
    · exact f a k (by omega) (by omega) (by omega) (by omega)
    · exact f a k (by omega) (by omega) (by omega) (by omega)
    · have y := sc s b hs e
      have lb : x + 52 < b := by
        rcases S s hs with q | ⟨c, q, q1, q2, q3⟩
        · rw [q] at e; cases e
        · rw [q] at e; cases e; exact q2
      exact (f2 a k (by omega) (by omega)).trans (c6 a k (by omega) (by omega) (by omega) (by omega))
  obtain ⟨q1, q2⟩ := slot_k2 (O2 := oc p) (z2 := p.1) fa (by omega) S P
  have q3 := act_k2 (O2 := oc p) fa A
  have wq : wl (oc q) (x + 40) = W := by
    rw [← hw]; funext k
    show oi (oc q) (x + 41) k = oi (oc h) (x + 41) k
    unfold oi; rw [f1 _ _ (by omega) (by omega)]
  have wp : wl (oc p) (x + 40) = W := (wl_f df (by decide)).trans wq
  have S3 : rdrS (oc p) x := rdrS_fr I0 (fun a k z => f a k (by omega) (by omega) (by omega) (by omega))
  have F3 : oi (oc p) x 12 = oi (oc p) (x + 40) 14 := by rw [g _ _ (by omega) (by omega) (by omega) (by omega), g _ _ (by omega) (by omega) (by omega) (by omega)]; exact If
  have ei : ∀ k, k < 1284 → iwl (oc p) x k = W k := fun k hk => (dw k hk).trans (congrFun wq k)
  have kk : kptE (oc p) p.1 x kr kl := by
    have L9 : lawE (oc p) kl (iwl (oc p) x) := lawE_cb (lawE_fr c4 (fun a k u1 u2 _ => f2 a k (by omega) (by omega))) ei
    exact ⟨⟨(f2 _ _ (by omega) (by omega)).trans c1, (f2 _ _ (by omega) (by omega)).trans c2, d6⟩, ⟨rodE_cg (rodE_fr c3 (fun a k u1 u2 => f2 a k (by omega) (by omega))) K (fun k hk => ei k (by omega)), L9, wOK_cg K (fun k hk => ei k (by omega)), lawK_of L9, lawB_of L9⟩, by omega, fun s b hs e => (sc s b hs (by rw [← fa (x + 20) s (Or.inl rfl)]; exact e)).2⟩
  have q4 : oi (oc p) (x + 40) 7 = nI r := by rw [g _ _ (by omega) (by omega) (by omega) (by omega)]; exact n4
  refine ⟨⟨⟨?_, ?_, ?_, ?_, ?_, ?_, ⟨?_, ?_, ?_, ?_⟩, mS_fr M2 df (by decide) (by decide)⟩, ⟨?_, n2, ?_, q4, n5, by omega, q1, q2, q3⟩, ⟨rodE_fr R (fun a k u1 u2 => f a k (by omega) (by omega) (by omega) (by omega)), wp, K, lawE_fr LE (fun a k u1 u2 _ => f a k (by omega) (by omega) (by omega) (by omega)), LK, LB⟩, ⟨?_, ?_, l3, fun i hi => ?_, S3, F3, Or.inr ⟨kr, kl, kk⟩⟩⟩, d0⟩
  · exact (f _ _ (by omega) (by omega) (by omega) (by omega)).trans x0
  · exact (f _ _ (by omega) (by omega) (by omega) (by omega)).trans x1
  · exact (f _ _ (by omega) (by omega) (by omega) (by omega)).trans x3
  · exact (f _ _ (by omega) (by omega) (by omega) (by omega)).trans x8
  · exact (f _ _ (by omega) (by omega) (by omega) (by omega)).trans x36
  · exact (f _ _ (by omega) (by omega) (by omega) (by omega)).trans x19
  · exact (f _ _ (by omega) (by omega) (by omega) (by omega)).trans t0
  · exact (f _ _ (by omega) (by omega) (by omega) (by omega)).trans t1
  · exact (f _ _ (by omega) (by omega) (by omega) (by omega)).trans t2
  · exact (f _ _ (by omega) (by omega) (by omega) (by omega)).trans t3
  · exact (g _ _ (by omega) (by omega) (by omega) (by omega)).trans n1
  · rw [g _ _ (by omega) (by omega) (by omega) (by omega)]; exact n3
  · exact (g _ _ (by omega) (by omega) (by omega) (by omega)).trans l1
  · exact (g _ _ (by omega) (by omega) (by omega) (by omega)).trans l2
  · rw [g (x + 2) i (by omega) (by omega) (by omega) (by omega), g (x + 46) i (by omega) (by omega) (by omega) (by omega)]
    exact l4 i hi
end
section
/-! back keeps the relation -/
theorem E_X12_back {n a0 : Nat} {h : jH} {q : Int32 × jH} (M : mS (oc h) a0) (hf : F_X12_back n a0 h = some q) : (oi (oc h) a0 6 = 0 ∧ q.1 = 0 ∧ rTh a0 0 h q.2) ∨ (oi (oc h) a0 6 ≠ 0 ∧ q.1 = 1 ∧ oi (oc q.2) a0 0 = 0 ∧ oi (oc q.2) a0 7 = 0 ∧ (∀ j, wl (oc q.2) a0 j = if j < 1284 then oi (oc h) (a0 + 2) j else wl (oc h) a0 j) ∧ frM a0 [1] [0, 7] (oc h) (oc q.2) ∧ q.2.1 = h.1) := by
  unfold F_X12_back at hf
  obtain ⟨h2, e1, hf⟩ := jbind hf
  obtain ⟨o1, z1⟩ := oc_pf e1
  have f1 : frM a0 [] [0] (oc h) (oc h2) := by rw [o1]; exact frM_f (by decide)
  have g0 : oi (oc h2) a0 0 = 0 := by rw [o1, oi_eq]
  obtain ⟨v6, e2, hf⟩ := jbind hf
  have r2 := oc_gI e2
  rw [frM_oi f1 (by decide) (by decide)] at r2
  subst r2
  rcases jite hf with ⟨c3, hf⟩ | ⟨c3, hf⟩
  · cases hf
    exact Or.inl ⟨c3, rfl, g0, f1, z1⟩
  · obtain ⟨b1, b2, b3, b4, b5⟩ := E_X12_back_16 n 0 (mS_fr M f1 (by decide) (by decide)) rfl (by omega) hf
    refine Or.inr ⟨c3, b5, (frM_oi b2 (by decide) (by decide)).trans g0, b4, fun j => ?_, frM_tr (frM_le f1 (by decide) (by decide)) (frM_le b2 (by decide) (by decide)), b3.trans z1⟩
    show oi (oc q.2) (a0 + 1) j = _
    rw [b1 j]
    by_cases y : j < 1284
    · rw [if_pos (by omega), if_pos y]
      exact oi_M f1 (by simp) (by omega)
    · rw [if_neg (by omega), if_neg y]
      exact congrFun (wl_f f1 (by decide)) j
theorem E_X11_back_0 {n x : Nat} {h : jH} {q : Int32 × jH} (X10 : oc h x 10 = .null) (hf : F_X11_back n x h = some q) : q = (0, h) := by
  unfold F_X11_back at hf
  obtain ⟨o1, e1, hf⟩ := jbind hf
  have r1 := oc_gQ e1
  rw [X10] at r1
  cases va_n r1
  cases hf
  rfl
theorem E_X11_back_1 {n x kr kl : Nat} {V : jWd} {h : jH} {q : Int32 × jH} (X1 : oc h x 1 = .ref (x + 6)) (X2 : oc h x 2 = .ref (x + 13)) (X3 : oc h x 3 = .ref (x + 19)) (X10 : oc h x 10 = .ref kr) (X11 : oc h x 11 = .ref kl) (R : rodE (oc h) kr V) (K : wOK V) (LE : lawE (oc h) kl V) (sr : rodS (oc h) (x + 6)) (sl : lawS (oc h) (x + 13))
    (ap : x + 52 < kr ∧ x + 52 < kl) (hf : F_X11_back n x h = some q) : q.1 = 1 ∧ rodE (oc q.2) (x + 6) V ∧ lawE (oc q.2) (x + 13) V ∧ oi (oc q.2) (x + 19) 2 = 0 ∧ (∀ a k : Nat, ¬ (x + 6 ≤ a ∧ a ≤ x + 18) → ¬ (a = x + 19 ∧ k = 2) → oc q.2 a k = oc h a k) ∧ q.2.1 = h.1 := by
  unfold F_X11_back at hf
  obtain ⟨o1, e1, hf⟩ := jbind hf
  have r1 := oc_gQ e1
  rw [X10] at r1
  cases va_r r1
  dsimp only at hf
  obtain ⟨o8, e2, hf⟩ := jbind hf
  have r2 := oc_gQ e2
  rw [X11] at r2
  cases va_r r2
  dsimp only at hf
  obtain ⟨p17, e3, hf⟩ := jbind hf
  have r3 := oc_gR e3
  rw [X1] at r3
  cases r3
  obtain ⟨o21, e4, hf⟩ := jbind hf
  have r4 := oc_gQ e4
  rw [X10] at r4
  cases va_r r4
  dsimp only at hf
  obtain ⟨h24, e5, hf⟩ := jbind hf
  obtain ⟨R5, f5, z5⟩ := E_X8_copyFrom (d := x + 6) (r := kr) rfl rfl (by omega) sr R K (jcv_o e5).2
  obtain ⟨p28, e6, hf⟩ := jbind hf
  have r6 := oc_gR e6
  rw [f5 _ _ (by omega), X2] at r6
  cases r6
  obtain ⟨o32, e7, hf⟩ := jbind hf
  have r7 := oc_gQ e7
  rw [f5 _ _ (by omega), X11] at r7
  cases va_r r7
  dsimp only at hf
  obtain ⟨h35, e8, hf⟩ := jbind hf
  have S6 : lawS (oc h24) (x + 13) := by
    obtain ⟨s0, s1, s2, s3, s4⟩ := sl
    exact ⟨(f5 _ _ (by omega)).trans s0, (f5 _ _ (by omega)).trans s1, (f5 _ _ (by omega)).trans s2, (f5 _ _ (by omega)).trans s3, (f5 _ _ (by omega)).trans s4⟩
  obtain ⟨R8, f8, z8⟩ := E_X2_copyFrom (d := x + 13) (r := kl) rfl rfl (by omega) S6 (lawE_fr LE (fun a k h1 h2 _ => f5 a k (by omega))) (jcv_o e8).2
  obtain ⟨p39, e9, hf⟩ := jbind hf
  have r9 := oc_gR e9
  rw [f8 _ _ (by omega), f5 _ _ (by omega), X3] at r9
  cases r9
  obtain ⟨h42, e10, hf⟩ := jbind hf
  obtain ⟨o10, z10⟩ := E_X0_forget (jcv_o e10).2
  cases hf
  have g19 : oi (oc h42) (x + 19) 2 = 0 := by rw [o10, oi_eq]
  exact ⟨rfl, rodE_fr R5 (fun a k h1 h2 => by show oc h42 _ _ = _; rw [o10, u2_ne (by omega)]; exact f8 a k (by omega)), lawE_fr R8 (fun a k h1 h2 _ => by show oc h42 _ _ = _; rw [o10, u2_ne (by omega)]), g19, fun a k h1 h2 => by show oc h42 _ _ = _; rw [o10, u2_ne (by omega), f8 a k (by omega)]; exact f5 a k (by omega), z10.trans (z8.trans z5)⟩
theorem eq_back {x nx r L n : Nat} {W : jWd} {h : jH} {q p : Int32 × jH} (E : eqS x nx r L W h) (e1 : F_X11_back n x h = some q) (e2 : F_X12_back n (x + 40) q.2 = some p) : (∃ r2 W2, eqS x nx r2 L W2 p.2) ∧ q.1 = p.1 ∧ oi (oc p.2) (x + 40) 0 = 0 := by
  obtain ⟨⟨x0, x1, x3, -, -, -, -, M⟩, ⟨n1, n2, n3, n4, n5, n6, -, -, -⟩, ⟨R, hw, K, LE, LK, LB⟩, ⟨l1, l2, l3, l4, I0, If, I⟩⟩ := id E
  rcases I with ⟨a1, a2, a3⟩ | ⟨kr, kl, ⟨a1, a2, a3⟩, ⟨b1, b2, b3, b4, b5⟩, ⟨c1, c2, c3, c4, c5⟩, d⟩
  · have y := E_X11_back_0 a1 e1
    rw [y] at e2
    rcases E_X12_back M e2 with ⟨-, y2, T⟩ | ⟨y2, -⟩
    · exact ⟨⟨r, W, eq_thr E T⟩, by rw [y, y2], T.1⟩
    · exact absurd a3 y2
  · obtain ⟨y1, yR, yL, y19, yf, yz⟩ := E_X11_back_1 x1 I0.1.1 x3 a1 a2 b1 b3 b2 R.1 LE.1 ⟨c1, c3⟩ e1
    have k2 : ∀ a k : Nat, x + 20 ≤ a → oc q.2 a k = oc h a k := fun a k z => yf a k (by omega) (by omega)
    have ki : ∀ a k : Nat, x + 20 ≤ a → oi (oc q.2) a k = oi (oc h) a k := fun a k z => by unfold oi; rw [k2 a k z]
    have M2 : mS (oc q.2) (x + 40) := by
      obtain ⟨s1, s2, s3, s4, s5, s8, s15, s17, s19, s20, s21⟩ := M
      have k3 : ∀ k, oc q.2 (x + 40) k = oc h (x + 40) k := fun k => k2 _ k (by omega)
      exact ⟨(k3 _).trans s1, (k3 _).trans s2, (k3 _).trans s3, (k3 _).trans s4, (k3 _).trans s5, (k3 _).trans s8, (k3 _).trans s15, (k3 _).trans s17, (k3 _).trans s19, (k3 _).trans s20, (k3 _).trans s21⟩
    rcases E_X12_back M2 e2 with ⟨y2, -⟩ | ⟨-, w, w0, w7, ww, wf, wz⟩
    · exfalso
      rw [ki _ _ (by omega), a3] at y2
      exact absurd y2 (by decide)
    · have fr : ∀ a k : Nat, a ≠ x + 41 → ¬ (a = x + 40 ∧ (k = 0 ∨ k = 7)) → oc p.2 a k = oc q.2 a k := fun a k u1 u2 => wf a k (fun c hc z => by simp at hc; omega) (fun z y => u2 ⟨z, by simpa using y⟩)
      have fi : ∀ a k : Nat, a ≠ x + 41 → ¬ (a = x + 40 ∧ (k = 0 ∨ k = 7)) → oi (oc p.2) a k = oi (oc q.2) a k := fun a k u1 u2 => by unfold oi; rw [fr a k u1 u2]
      have F : ∀ a k : Nat, ¬ txc x a k → oc p.2 a k = oc h a k := fun a k z => by
        unfold txc at z
        exact (fr a k (by omega) (by omega)).trans (yf a k (by omega) (by omega))
      have ei : ∀ k, k < 1284 → wl (oc p.2) (x + 40) k = iwl (oc h) x k := fun k hk => by
        rw [ww k, if_pos hk]
        exact ki (x + 42) k (by omega)
      have L9 : lawE (oc p.2) (x + 13) (wl (oc p.2) (x + 40)) := lawE_cb (lawE_fr yL (fun a k u1 u2 _ => fr a k (by omega) (by omega))) ei
      have fh : ∀ a k : Nat, a = x ∨ a = x + 1 ∨ (x + 21 ≤ a ∧ a ≤ x + 39) ∨ (a = x + 40 ∧ (k = 9 ∨ k = 14)) → oc p.2 a k = oc h a k := fun a k z => (fr a k (by omega) (by omega)).trans (yf a k (by omega) (by omega))
      have gh : ∀ a k : Nat, a = x ∨ a = x + 1 ∨ (x + 21 ≤ a ∧ a ≤ x + 39) ∨ (a = x + 40 ∧ (k = 9 ∨ k = 14)) → oi (oc p.2) a k = oi (oc h) a k := fun a k z => by unfold oi; rw [fh a k z]
      have I9 : rdrS (oc p.2) x := rdrS_fr I0 (fun a k z => fh a k (by omega))
      refine ⟨⟨0, _, eq_bld E F (wz.trans yz) (Or.inl ⟨rfl, (fi _ _ (by omega) (by omega)).trans y19, w7⟩) ⟨rodE_cg (rodE_fr yR (fun a k u1 u2 => fr a k (by omega) (by omega))) b3 (fun k hk => ei k (by omega)), rfl, wOK_cg b3 (fun k hk => ei k (by omega)), L9, lawK_of L9, lawB_of L9⟩ ⟨(gh _ _ (by omega)).trans l1, (gh _ _ (by omega)).trans l2, l3⟩ I9.2.2.2.2 ?_⟩, by rw [y1, w], w0⟩
      rw [gh _ _ (by omega), gh _ _ (by omega)]
      exact If
end
section
/-! what a condition of a law's text is: the steps that it makes, or where it is wrong -/
abbrev jRd : Type := (Nat × List (Int32 × Int32)) ⊕ Nat
def sqP (a : jRd) (f : Nat → jRd) : jRd := match a with
  | .inr e => .inr e
  | .inl d => match f d.1 with
    | .inr e => .inr e
    | .inl e => .inl (e.1, d.2 ++ e.2)
theorem sq_r {a : jRd} {f : Nat → jRd} {e : Nat} (h : a = .inr e) : sqP a f = .inr e := by rw [h]; rfl
theorem sq_lr {a : jRd} {f : Nat → jRd} {d : Nat × List (Int32 × Int32)} {e : Nat} (h : a = .inl d) (g : f d.1 = .inr e) : sqP a f = .inr e := by
  rw [h]
  show (match f d.1 with | .inr e => .inr e | .inl e => .inl (e.1, d.2 ++ e.2) : jRd) = _
  rw [g]
theorem sq_ll {a : jRd} {f : Nat → jRd} {d e : Nat × List (Int32 × Int32)} (h : a = .inl d) (g : f d.1 = .inl e) : sqP a f = .inl (e.1, d.2 ++ e.2) := by
  rw [h]
  show (match f d.1 with | .inr e => .inr e | .inl e => .inl (e.1, d.2 ++ e.2) : jRd) = _
  rw [g]
theorem sq_inv {a : jRd} {f : Nat → jRd} {r : Nat × List (Int32 × Int32)} (h : sqP a f = .inl r) : ∃ d e, a = .inl d ∧ f d.1 = .inl e ∧ r = (e.1, d.2 ++ e.2) := by
  rcases ha : a with d | e
  · rcases hf : f d.1 with e | e
    · rw [sq_ll ha hf] at h
      cases h
      exact ⟨d, e, rfl, hf, rfl⟩
    · rw [sq_lr ha hf] at h
      cases h
  · rw [sq_r ha] at h
    cases h
def rdPart (T : Nat → Int32 × Int32) (k : Nat) : jRd := if 0 ≤ (T k).1.toInt ∧ (T k).1.toInt ≤ 6 then .inl (k + 1, [((T k).1, 0)]) else if nOK T k 0 999 then .inl (k + 1, [(11, (T k).2)]) else .inr k
def rdSL (T : Nat → Int32 × Int32) : Nat → Nat → jRd
  | 0, k => .inr k
  | F + 1, k => if (T k).1 = 43 then sqP (rdPart T (k + 1)) (fun j => sqP (.inl (j, [(12, 0)])) (fun i => rdSL T F i)) else .inl (k, [])
def rdSum (T : Nat → Int32 × Int32) (F k : Nat) : jRd := sqP (rdPart T k) (fun j => rdSL T F j)
/-- w: 0 a condition, 2 what is joined by and, 1 one of these, 3 what comes behind one, 4 what comes behind all of these; dp: how deep -/
def rdG (T : Nat → Int32 × Int32) : Nat → Nat → Nat → Nat → jRd
  | 0, _, _, k => .inr k
  | F + 1, w, dp, k =>
    if w = 0 then sqP (rdG T F 2 dp k) (fun j => rdG T F 4 dp j)
    else if w = 2 then sqP (rdG T F 1 dp k) (fun j => rdG T F 3 dp j)
    else if w = 3 then (if (T k).1 = 12 then sqP (rdG T F 1 dp (k + 1)) (fun j => sqP (.inl (j, [(16, 0)])) (fun i => rdG T F 3 dp i)) else .inl (k, []))
    else if w = 4 then (if (T k).1 = 13 then sqP (rdG T F 2 dp (k + 1)) (fun j => sqP (.inl (j, [(17, 0)])) (fun i => rdG T F 4 dp i)) else .inl (k, []))
    else if (T k).1 = 40 then (if dp = 6 then .inr k else sqP (rdG T F 0 (dp + 1) (k + 1)) (fun j => if (T j).1 = 41 then .inl (j + 1, []) else .inr j))
    else if (T k).1 = 11 then (if dp = 6 then .inr k else sqP (rdG T F 1 (dp + 1) (k + 1)) (fun j => .inl (j, [(15, 0)])))
    else if 7 ≤ (T k).1.toInt ∧ (T k).1.toInt ≤ 10 then .inl (k + 1, [((T k).1, 0)])
    else sqP (rdSum T F k) (fun j => if (T j).1 = 60 then sqP (rdSum T F (j + 1)) (fun i => .inl (i, [(13, 0)])) else if (T j).1 = 62 then sqP (rdSum T F (j + 1)) (fun i => .inl (i, [(14, 0)])) else .inr j)
section
variable {b : Nat → Int32} {L m : Nat} {T : Nat → Int32 × Int32} {st en : Nat → Nat}
theorem part_i (H : tkE b L m T st en) {k : Nat} {d : Nat × List (Int32 × Int32)} (e : rdPart T k = .inl d) : d.1 = k + 1 ∧ d.2.length = 1 ∧ k < m := by
  unfold rdPart at e
  split at e
  · rename_i z
    cases e
    exact ⟨rfl, rfl, tk_m H (fun y => by rw [y] at z; exact absurd z.1 (by decide))⟩
  · split at e
    · rename_i z
      cases e
      exact ⟨rfl, rfl, tk_m H (fun y => by rw [z.1] at y; exact absurd y (by decide))⟩
    · cases e
theorem sl_i (H : tkE b L m T st en) : ∀ (F : Nat) {k : Nat} {d : Nat × List (Int32 × Int32)}, k ≤ m → rdSL T F k = .inl d → k ≤ d.1 ∧ d.1 ≤ m ∧ d.2.length + k ≤ d.1
  | 0, k, d, hk, e => by cases e
  | F + 1, k, d, hk, e => by
    unfold rdSL at e
    split at e
    · obtain ⟨d1, e1, a1, a2, a3⟩ := sq_inv e
      obtain ⟨d2, e2, b1, b2, b3⟩ := sq_inv a2
      cases b1
      obtain ⟨c1, c2, c3⟩ := part_i H a1
      obtain ⟨g1, g2, g3⟩ := sl_i H F (by omega) b2
      subst a3 b3
      simp only [List.length_append, List.length_cons, List.length_nil] at *
      try dsimp only at *
      omega
    · cases e
      exact ⟨Nat.le_refl _, hk, by simp⟩
theorem sum_i (H : tkE b L m T st en) {F k : Nat} {d : Nat × List (Int32 × Int32)} (e : rdSum T F k = .inl d) : k < d.1 ∧ d.1 ≤ m ∧ d.2.length + k ≤ d.1 ∧ k < m := by
  obtain ⟨d1, e1, a1, a2, a3⟩ := sq_inv e
  obtain ⟨c1, c2, c3⟩ := part_i H a1
  obtain ⟨g1, g2, g3⟩ := sl_i H F (by omega) a2
  subst a3
  simp only [List.length_append] at *
  try dsimp only at *
  omega
/-- how far it goes on: w of 3 and 4 may stay -/
theorem g_i (H : tkE b L m T st en) : ∀ (F : Nat) {w dp k : Nat} {d : Nat × List (Int32 × Int32)}, k ≤ m → rdG T F w dp k = .inl d → k ≤ d.1 ∧ d.1 ≤ m ∧ d.2.length + k ≤ d.1 ∧ (w ≤ 2 → k < d.1)
  | 0, w, dp, k, d, hk, e => by cases e
  | F + 1, w, dp, k, d, hk, e => by
    have tok : ∀ {c : Int32} {j : Nat}, (T j).1 = c → c ≠ -1 → j < m := fun h1 h2 => tk_m H (by rw [h1]; exact h2)
    unfold rdG at e
    split at e
    · obtain ⟨d1, e1, a1, a2, a3⟩ := sq_inv e
      obtain ⟨c1, c2, c3, c4⟩ := g_i H F hk a1
      obtain ⟨g1, g2, g3, -⟩ := g_i H F c2 a2
      have c5 := c4 (by omega)
      subst a3
      simp only [List.length_append] at *
      try dsimp only at *
      exact ⟨by omega, by omega, by omega, fun _ => by omega⟩
    · split at e
      · obtain ⟨d1, e1, a1, a2, a3⟩ := sq_inv e
        obtain ⟨c1, c2, c3, c4⟩ := g_i H F hk a1
        obtain ⟨g1, g2, g3, -⟩ := g_i H F c2 a2
        have c5 := c4 (by omega)
        subst a3
        simp only [List.length_append] at *
        try dsimp only at *
        exact ⟨by omega, by omega, by omega, fun _ => by omega⟩
      · split at e
        · split at e
          · rename_i t
            obtain ⟨d1, e1, a1, a2, a3⟩ := sq_inv e
            obtain ⟨d2, e2, b1, b2, b3⟩ := sq_inv a2
            cases b1
            obtain ⟨c1, c2, c3, -⟩ := g_i H F (tok t (by decide)) a1
            obtain ⟨g1, g2, g3, -⟩ := g_i H F c2 b2
            subst a3 b3
            simp only [List.length_append, List.length_cons, List.length_nil] at *
            try dsimp only at *
            exact ⟨by omega, by omega, by omega, fun _ => by omega⟩
          · cases e
            exact ⟨Nat.le_refl _, hk, by simp, fun _ => by omega⟩
        · split at e
          · split at e
            · rename_i t
              obtain ⟨d1, e1, a1, a2, a3⟩ := sq_inv e
              obtain ⟨d2, e2, b1, b2, b3⟩ := sq_inv a2
              cases b1
              obtain ⟨c1, c2, c3, -⟩ := g_i H F (tok t (by decide)) a1
              obtain ⟨g1, g2, g3, -⟩ := g_i H F c2 b2
              subst a3 b3
              simp only [List.length_append, List.length_cons, List.length_nil] at *
              try dsimp only at *
              exact ⟨by omega, by omega, by omega, fun _ => by omega⟩
            · cases e
              exact ⟨Nat.le_refl _, hk, by simp, fun _ => by omega⟩
          · split at e
            · rename_i t
              split at e
              · cases e
              · obtain ⟨d1, e1, a1, a2, a3⟩ := sq_inv e
                obtain ⟨c1, c2, c3, -⟩ := g_i H F (tok t (by decide)) a1
                try dsimp only at a2
                split at a2
                · rename_i t2
                  have t3 := tok t2 (by decide)
                  cases a2
                  subst a3
                  simp only [List.length_append, List.length_nil] at *
                  try dsimp only at *
                  exact ⟨by omega, by omega, by omega, fun _ => by omega⟩
                · cases a2
            · split at e
              · rename_i t
                split at e
                · cases e
                · obtain ⟨d1, e1, a1, a2, a3⟩ := sq_inv e
                  obtain ⟨c1, c2, c3, -⟩ := g_i H F (tok t (by decide)) a1
                  cases a2
                  subst a3
                  simp only [List.length_append, List.length_cons, List.length_nil] at *
                  try dsimp only at *
                  exact ⟨by omega, by omega, by omega, fun _ => by omega⟩
              · split at e
                · rename_i t
                  cases e
                  have t3 : k < m := tk_m H (fun y => by rw [y] at t; exact absurd t.1 (by decide))
                  exact ⟨Nat.le_succ _, t3, by simp; omega, fun _ => Nat.lt_succ_self _⟩
                · obtain ⟨d1, e1, a1, a2, a3⟩ := sq_inv e
                  obtain ⟨c1, c2, c3, c4⟩ := sum_i H a1
                  try dsimp only at a2
                  split at a2
                  · obtain ⟨d2, e2, b1, b2, b3⟩ := sq_inv a2
                    obtain ⟨g1, g2, g3, -⟩ := sum_i H b1
                    cases b2
                    subst a3 b3
                    simp only [List.length_append, List.length_cons, List.length_nil] at *
                    try dsimp only at *
                    exact ⟨by omega, by omega, by omega, fun _ => by omega⟩
                  · split at a2
                    · obtain ⟨d2, e2, b1, b2, b3⟩ := sq_inv a2
                      obtain ⟨g1, g2, g3, -⟩ := sum_i H b1
                      cases b2
                      subst a3 b3
                      simp only [List.length_append, List.length_cons, List.length_nil] at *
                      try dsimp only at *
                      exact ⟨by omega, by omega, by omega, fun _ => by omega⟩
                    · cases a2
end
end
section
/-! a condition of a law's text, as the reference reads it -/
def emW : jWd → Nat → List (Int32 × Int32) → jWd
  | W, _, [] => W
  | W, s, e :: t => emW (upd (upd W (1333 + 2 * s) e.1) (1334 + 2 * s) e.2) (s + 1) t
theorem emW_app : ∀ (l t : List (Int32 × Int32)) (W : jWd) (s : Nat), emW W s (l ++ t) = emW (emW W s l) (s + l.length) t
  | [], t, W, s => rfl
  | e :: l, t, W, s => by
    show emW _ (s + 1) (l ++ t) = _
    rw [emW_app l t]
    show emW (emW _ (s + 1) l) (s + 1 + l.length) t = emW (emW _ (s + 1) l) (s + (l.length + 1)) t
    rw [show s + 1 + l.length = s + (l.length + 1) by omega]
/-- what the reading of a condition leaves alone -/
def frQ (x : Nat) (O O2 : jO) : Prop := ∀ a k : Nat, ¬ (a = x ∧ (k = 10 ∨ k = 12 ∨ k = 13 ∨ k = 16)) → ¬ (a = x + 1 ∧ 1284 ≤ k) → O2 a k = O a k
theorem frQ_tr {x : Nat} {O O2 O3 : jO} (a : frQ x O O2) (c : frQ x O2 O3) : frQ x O O3 := fun b k h1 h2 => (c b k h1 h2).trans (a b k h1 h2)
theorem frQ_f {x k : Nat} {O : jO} {v : Value} (h : k = 10 ∨ k = 12 ∨ k = 13 ∨ k = 16) : frQ x O (u2 O x k v) := fun b j h1 h2 => u2_ne (by omega)
theorem frQ_w {x k : Nat} {O : jO} {v : Value} (h : 1284 ≤ k) : frQ x O (u2 O (x + 1) k v) := fun b j h1 h2 => u2_ne (by omega)
theorem frQ_0 {x : Nat} {O : jO} : frQ x O O := fun _ _ _ _ => rfl
theorem frQ_M {x : Nat} {O O2 : jO} (f : frQ x O O2) : frM x [1] [10, 12, 13, 16] O O2 := fun a k h1 h2 => f a k (fun z => h2 z.1 (by simp; omega)) (fun z => h1 1 (by simp) z.1)
/-- the reference stands before thing k, has made s steps, dp deep; its world is W -/
def rr (O : jO) (x : Nat) (b : Nat → Int32) (L : Nat) (st : Nat → Nat) (m k : Nat) (W : jWd) (s dp : Nat) : Prop := rc O x b L st k ∧ wl O x = W ∧ oi O x 16 = nI s ∧ oi O x 13 = nI dp ∧ s ≤ k ∧ k ≤ m ∧ m ≤ 400
def lwR (x : Nat) (b : Nat → Int32) (L : Nat) (st : Nat → Nat) (m : Nat) (h : jH) (v : Int32) (h2 : jH) (W : jWd) (s dp : Nat) (r : jRd) : Prop :=
  (∀ d, r = .inl d → v = 1 ∧ rr (oc h2) x b L st m d.1 (emW W s d.2) (s + d.2.length) dp) ∧ (∀ f, r = .inr f → v = 0 ∧ oi (oc h2) x 12 = nI (st f)) ∧ frQ x (oc h) (oc h2) ∧ h2.1 = h.1
theorem lwR_l {x L m s dp k : Nat} {b : Nat → Int32} {st : Nat → Nat} {h h2 : jH} {v : Int32} {W : jWd} {r : jRd} {l : List (Int32 × Int32)} (e : r = .inl (k, l)) (hv : v = 1) (R : rr (oc h2) x b L st m k (emW W s l) (s + l.length) dp) (f : frQ x (oc h) (oc h2)) (z : h2.1 = h.1) : lwR x b L st m h v h2 W s dp r :=
  ⟨fun d y => (by rw [e] at y; cases y; exact ⟨hv, R⟩), fun d y => (by rw [e] at y; cases y), f, z⟩
theorem lwR_r {x L m s dp k : Nat} {b : Nat → Int32} {st : Nat → Nat} {h h2 : jH} {v : Int32} {W : jWd} {r : jRd} (e : r = .inr k) (hv : v = 0) (g : oi (oc h2) x 12 = nI (st k)) (f : frQ x (oc h) (oc h2)) (z : h2.1 = h.1) : lwR x b L st m h v h2 W s dp r :=
  ⟨fun d y => (by rw [e] at y; cases y), fun d y => (by rw [e] at y; cases y; exact ⟨hv, g⟩), f, z⟩
section
variable {b : Nat → Int32} {L m : Nat} {T : Nat → Int32 × Int32} {st en : Nat → Nat}
theorem rr_fr {O O2 : jO} {x k k2 s dp : Nat} {W : jWd} (R : rr O x b L st m k W s dp) (f : frM x [] [10, 12] O O2) (R2 : rc O2 x b L st k2) (h1 : k ≤ k2) (h2 : k2 ≤ m) : rr O2 x b L st m k2 W s dp := by
  obtain ⟨-, a1, a2, a3, a4, a5, a6⟩ := R
  exact ⟨R2, by rw [wl_f f (by decide)]; exact a1, (frM_oi f (by decide) (by decide)).trans a2, (frM_oi f (by decide) (by decide)).trans a3, by omega, h2, a6⟩
theorem fr2 {O O2 : jO} {x : Nat} (f : frM x [] [10, 12] O O2) : frQ x O O2 := fun a k h1 h2 => f a k (fun c hc => by cases hc) (fun z y => h1 ⟨z, by simp at y; omega⟩)
theorem tk_let (H : tkE b L m T st en) {k : Nat} (y : bIn b L 97 122 (st k)) : (T k).1 ≠ -3 ∧ k < m := by
  have hk : k < m := by
    rcases Nat.lt_or_ge k m with z | z
    · exact z
    · have := (H.2.2.2.1 k z).1; have := y.1; omega
  refine ⟨?_, hk⟩
  rcases (H.2.2.1 k hk).2.1 with ⟨-, -, ⟨w, hw, t, -⟩ | ⟨t, -⟩⟩ | ⟨y2, -⟩ | ⟨-, y2, -⟩
  · rw [t]; exact fun z => nI_ng (x := -3) (show w < 1000 by omega) (by decide) z.symm
  · rw [t]; decide
  · exfalso
    have a1 := y.2.1; have a2 := y2.2.2
    rw [Int32.le_iff_toInt_le] at a1 a2
    have l97 : (97 : Int32).toInt = 97 := rfl
    have l57 : (57 : Int32).toInt = 57 := rfl
    omega
  · exact absurd y y2
theorem tk_nlet (H : tkE b L m T st en) {k w : Nat} (hw : w < 23) (y : ¬ bIn b L 97 122 (st k)) : (T k).1 ≠ nI w := fun z => by
  have q := ((tk_w H hw (row_0 y)).1.mpr z).1
  have := (wT_l w hw).1
  omega
theorem tk_n3 (H : tkE b L m T st en) {k : Nat} (h : (T k).1 = -3) : k < m := tk_m H (by rw [h]; decide)
end
theorem E_X12_emits {W : jWd} {s : Nat} {n : Nat} {a0 : Nat} {x1 : Int32} {x2 : Int32} {h : jH} {q : jH} (M : mS (oc h) a0) (hW : wl (oc h) a0 = W) (g : oi (oc h) a0 16 = nI s) (hs : s ≤ 1000) (hf : F_X12_emits n a0 x1 x2 h = some q) : wl (oc q) a0 = upd (upd W (1333 + 2 * s) x1) (1334 + 2 * s) x2 ∧ oi (oc q) a0 16 = nI (s + 1) ∧ frM a0 [1] [16] (oc h) (oc q) ∧ q.1 = h.1 ∧ frQ a0 (oc h) (oc q) := by
  unfold F_X12_emits at hf
  replace hf := jbind hf
  obtain ⟨p1, e1, hf⟩ := hf
  have r1 := oc_gR e1
  rw [M.1] at r1
  cases r1
  clear e1
  replace hf := jbind hf
  obtain ⟨v9, e2, hf⟩ := hf
  have r2 := oc_gI e2
  subst r2
  clear e2
  replace hf := jbind hf
  obtain ⟨h15, e3, hf⟩ := hf
  obtain ⟨o3, z3, y3⟩ := oc_as e3
  rw [jnar0] at o3
  clear e3
  replace hf := jbind hf
  obtain ⟨p17, e4, hf⟩ := hf
  have r4 := oc_gR e4
  rw [o3] at r4
  rw [u2_ne (Or.inl (by omega))] at r4
  rw [M.1] at r4
  cases r4
  clear e4
  replace hf := jbind hf
  obtain ⟨v25, e5, hf⟩ := hf
  have r5 := oc_gI e5
  rw [o3] at r5
  rw [oi_ne (Or.inl (by omega))] at r5
  subst r5
  clear e5
  replace hf := jbind hf
  obtain ⟨h33, e6, hf⟩ := hf
  obtain ⟨o6, z6, y6⟩ := oc_as e6
  rw [jnar0] at o6
  clear e6
  replace hf := jbind hf
  obtain ⟨v36, e7, hf⟩ := hf
  have r7 := oc_gI e7
  rw [o6] at r7
  rw [oi_ne (Or.inl (by omega))] at r7
  rw [o3] at r7
  rw [oi_ne (Or.inl (by omega))] at r7
  subst r7
  clear e7
  replace hf := jbind hf
  obtain ⟨h41, e8, hf⟩ := hf
  obtain ⟨o8, z8⟩ := oc_pf e8
  clear e8
  cases hf
  -- leaf : h41
  have e1 : (1333 : Int32) + (2 : Int32) * nI s = nI (1333 + 2 * s) := by show nI 1333 + nI 2 * nI s = _; rw [nI_mul, nI_add]
  have e2 : nI (1333 + 2 * s) + (1 : Int32) = nI (1334 + 2 * s) := by rw [nI_1]; congr 1; omega
  rw [g, e1, nI_cl (by omega)] at o3
  rw [g, e1, e2, nI_cl (by omega)] at o6
  rw [g, nI_1] at o8
  have f : frM a0 [1] [16] (oc h) (oc q) := by rw [o8, o6, o3]; exact frM_tr (frM_c (by decide)) (frM_tr (frM_c (by decide)) (frM_f (by decide)))
  exact ⟨by rw [o8, wl_n (by omega), o6, wl_w, o3, wl_w, hW], by rw [o8, oi_eq], f, z8.trans (z6.trans z3), by rw [o8, o6, o3]; exact frQ_tr (frQ_w (by omega)) (frQ_tr (frQ_w (by omega)) (frQ_f (by decide)))⟩
theorem rr_em {b : Nat → Int32} {L m : Nat} {st : Nat → Nat} {n x k s dp : Nat} {W : jWd} {c v : Int32} {h q : jH} (R : rr (oc h) x b L st m k W s dp) (hs : s + 1 ≤ k) (e : F_X12_emits n x c v h = some q) : rr (oc q) x b L st m k (emW W s [(c, v)]) (s + 1) dp ∧ frQ x (oc h) (oc q) ∧ q.1 = h.1 := by
  obtain ⟨R, a1, a2, a3, a4, a5, a6⟩ := R
  obtain ⟨c1, c2, c3, c4, c5⟩ := E_X12_emits (rc_mS R) a1 a2 (by omega) e
  exact ⟨⟨rc_fr R c3 (by decide) (by decide) (by decide) (by decide) (by decide), c1, c2, (frM_oi c3 (by decide) (by decide)).trans a3, hs, a5, a6⟩, c5, c4⟩
theorem E_X12_wordOfPart {b : Nat → Int32} {L : Nat} {m : Nat} {T : Nat → Int32 × Int32} {st : Nat → Nat} {en : Nat → Nat} {k : Nat} {n : Nat} {a0 : Nat} {h : jH} {q : Int32} (H : tkE b L m T st en) (R : rw2 (oc h) a0 b L st k) (hf : F_X12_wordOfPart n a0 h = some q) : (q = (T k).1 ∧ ∃ w : Nat, w ≤ 6 ∧ (T k).1 = nI w) ∨ (q = -1 ∧ ∀ w : Nat, w ≤ 6 → (T k).1 ≠ nI w) := by
  unfold F_X12_wordOfPart at hf
  replace hf := jbind hf
  obtain ⟨v3, e1, hf⟩ := hf
  replace e1 := (jcv_o e1).2
  have r1 := T_isWord (w := 0) H (by decide) R e1
  replace hf := jite hf
  rcases hf with ⟨c2, hf⟩ | ⟨c2, hf⟩
  · skip
    replace hf := jbind hf
    obtain ⟨v14, e3, hf⟩ := hf
    replace e3 := (jcv_o e3).2
    have r3 := T_isWord (w := 1) H (by decide) R e3
    replace hf := jite hf
    rcases hf with ⟨c4, hf⟩ | ⟨c4, hf⟩
    · skip
      replace hf := jbind hf
      obtain ⟨v25, e5, hf⟩ := hf
      replace e5 := (jcv_o e5).2
      have r5 := T_isWord (w := 2) H (by decide) R e5
      replace hf := jite hf
      rcases hf with ⟨c6, hf⟩ | ⟨c6, hf⟩
      · skip
        replace hf := jbind hf
        obtain ⟨v36, e7, hf⟩ := hf
        replace e7 := (jcv_o e7).2
        have r7 := T_isWord (w := 3) H (by decide) R e7
        replace hf := jite hf
        rcases hf with ⟨c8, hf⟩ | ⟨c8, hf⟩
        · skip
          replace hf := jbind hf
          obtain ⟨v47, e9, hf⟩ := hf
          replace e9 := (jcv_o e9).2
          have r9 := T_isWord (w := 4) H (by decide) R e9
          replace hf := jite hf
          rcases hf with ⟨c10, hf⟩ | ⟨c10, hf⟩
          · skip
            replace hf := jbind hf
            obtain ⟨v58, e11, hf⟩ := hf
            replace e11 := (jcv_o e11).2
            have r11 := T_isWord (w := 5) H (by decide) R e11
            replace hf := jite hf
            rcases hf with ⟨c12, hf⟩ | ⟨c12, hf⟩
            · skip
              replace hf := jbind hf
              obtain ⟨v69, e13, hf⟩ := hf
              replace e13 := (jcv_o e13).2
              have r13 := T_isWord (w := 6) H (by decide) R e13
              replace hf := jite hf
              rcases hf with ⟨c14, hf⟩ | ⟨c14, hf⟩
              · skip
                cases hf
                -- leaf 0000000: (- 1 : Int32)
                refine Or.inr ⟨rfl, fun w hw z => ?_⟩
                rcases (by omega : w = 0 ∨ w = 1 ∨ w = 2 ∨ w = 3 ∨ w = 4 ∨ w = 5 ∨ w = 6) with y | y | y | y | y | y | y <;> subst y
                · exact absurd ((r1.2.mpr z).symm.trans c2) (by decide)
                · exact absurd ((r3.2.mpr z).symm.trans c4) (by decide)
                · exact absurd ((r5.2.mpr z).symm.trans c6) (by decide)
                · exact absurd ((r7.2.mpr z).symm.trans c8) (by decide)
                · exact absurd ((r9.2.mpr z).symm.trans c10) (by decide)
                · exact absurd ((r11.2.mpr z).symm.trans c12) (by decide)
                · exact absurd ((r13.2.mpr z).symm.trans c14) (by decide)
              · skip
                cases hf
                -- leaf 0000001: (6 : Int32)
                have t := r13.2.mp (r13.1.resolve_left c14)
                exact Or.inl ⟨t.symm, 6, by decide, t⟩
            · skip
              cases hf
              -- leaf 000001: (5 : Int32)
              have t := r11.2.mp (r11.1.resolve_left c12)
              exact Or.inl ⟨t.symm, 5, by decide, t⟩
          · skip
            cases hf
            -- leaf 00001: (4 : Int32)
            have t := r9.2.mp (r9.1.resolve_left c10)
            exact Or.inl ⟨t.symm, 4, by decide, t⟩
        · skip
          cases hf
          -- leaf 0001: (3 : Int32)
          have t := r7.2.mp (r7.1.resolve_left c8)
          exact Or.inl ⟨t.symm, 3, by decide, t⟩
      · skip
        cases hf
        -- leaf 001: (2 : Int32)
        have t := r5.2.mp (r5.1.resolve_left c6)
        exact Or.inl ⟨t.symm, 2, by decide, t⟩
    · skip
      cases hf
      -- leaf 01: (1 : Int32)
      have t := r3.2.mp (r3.1.resolve_left c4)
      exact Or.inl ⟨t.symm, 1, by decide, t⟩
  · skip
    cases hf
    -- leaf 1: (0 : Int32)
    have t := r1.2.mp (r1.1.resolve_left c2)
    exact Or.inl ⟨t.symm, 0, by decide, t⟩
theorem E_X12_readPart_61 {b : Nat → Int32} {L : Nat} {m : Nat} {st : Nat → Nat} {k : Nat} {W : jWd} {s : Nat} {dp : Nat} {n : Nat} {x2 : Int32} {sa0 : Nat} {s1 : Int32} {s2 : Int32} {h : jH} {q : Int32 × jH} (R : rr (oc h) sa0 b L st m k W s dp) (hs : s + 1 ≤ k) (hf : F_X12_readPart_61 n x2 sa0 s1 s2 h = some q) : (x2.toInt < 0 → q.1 = 0) ∧ (0 ≤ x2.toInt → q.1 = 1) ∧ rr (oc q.2) sa0 b L st m k (emW W s [(s1, s2)]) (s + 1) dp ∧ frQ sa0 (oc h) (oc q.2) ∧ q.2.1 = h.1 := by
  unfold F_X12_readPart_61 at hf
  replace hf := jbind hf
  obtain ⟨h61, e1, hf⟩ := hf
  replace e1 := (jcv_o e1).2
  obtain ⟨R1, f1, z1⟩ := rr_em R hs e1
  replace hf := jite hf
  rcases hf with ⟨c2, hf⟩ | ⟨c2, hf⟩
  · skip
    cases hf
    -- leaf 0: ((0 : Int32), h61)
    rw [Int32.lt_iff_toInt_lt] at c2
    have l0 : (0 : Int32).toInt = 0 := rfl
    exact ⟨fun _ => rfl, fun z => by omega, R1, f1, z1⟩
  · skip
    cases hf
    -- leaf 1: ((1 : Int32), h61)
    rw [Int32.lt_iff_toInt_lt] at c2
    have l0 : (0 : Int32).toInt = 0 := rfl
    exact ⟨fun z => by omega, fun _ => rfl, R1, f1, z1⟩
theorem E_X12_readPart_40 {b : Nat → Int32} {L : Nat} {m : Nat} {st : Nat → Nat} {k : Nat} {W : jWd} {s : Nat} {dp : Nat} {n : Nat} {a0 : Nat} {x1 : Int32} {s0 : Int32} {h : jH} {q : Int32 × jH} (R : rr (oc h) a0 b L st m k W s dp) (hs : s + 1 ≤ k) (hf : F_X12_readPart_40 n a0 x1 s0 h = some q) : (s0.toInt < 0 → q.1 = 0) ∧ (0 ≤ s0.toInt → q.1 = 1) ∧ rr (oc q.2) a0 b L st m k (emW W s [if x1 = 0 then (s0, 0) else (11, s0)]) (s + 1) dp ∧ frQ a0 (oc h) (oc q.2) ∧ q.2.1 = h.1 := by
  unfold F_X12_readPart_40 at hf
  replace hf := jite hf
  rcases hf with ⟨c1, hf⟩ | ⟨c1, hf⟩
  · skip
    replace hf := jite hf
    rcases hf with ⟨c2, hf⟩ | ⟨c2, hf⟩
    · skip
      -- leaf 00: F_X12_readPart_61 n s0 a0 s0 (0 : Int32) h
      rw [if_pos c1]
      exact E_X12_readPart_61 R hs hf
    · skip
      -- leaf 01: F_X12_readPart_61 n s0 a0 s0 s0 h
      exact absurd c1 c2
  · skip
    replace hf := jite hf
    rcases hf with ⟨c3, hf⟩ | ⟨c3, hf⟩
    · skip
      -- leaf 10: F_X12_readPart_61 n s0 a0 (11 : Int32) (0 : Int32) h
      exact absurd c3 c1
    · skip
      -- leaf 11: F_X12_readPart_61 n s0 a0 (11 : Int32) s0 h
      rw [if_neg c1]
      exact E_X12_readPart_61 R hs hf
theorem E_X12_readPart_20 {b : Nat → Int32} {L : Nat} {m : Nat} {T : Nat → Int32 × Int32} {st : Nat → Nat} {en : Nat → Nat} {k : Nat} {W : jWd} {s : Nat} {dp : Nat} {n : Nat} {a0 : Nat} {s0 : Int32} {h : jH} {q : Int32 × jH} (H : tkE b L m T st en) (hk : k + 1 ≤ m → True) (h01 : s0 = 0 ∨ s0 = 1) (rW : wl (oc h) a0 = W ∧ oi (oc h) a0 16 = nI s ∧ oi (oc h) a0 13 = nI dp ∧ s ≤ k ∧ k ≤ m ∧ m ≤ 400) (R0 : s0 = 0 → rw2 (oc h) a0 b L st k ∧ bIn b L 97 122 (st k)) (R1 : s0 = 1 → rc (oc h) a0 b L st k ∧ ¬ bIn b L 97 122 (st k)) (hf : F_X12_readPart_20 n a0 s0 h = some q) : lwR a0 b L st m h q.1 q.2 W s dp (rdPart T k) := by
  unfold F_X12_readPart_20 at hf
  replace hf := jite hf
  rcases hf with ⟨c1, hf⟩ | ⟨c1, hf⟩
  · skip
    replace hf := jbind hf
    obtain ⟨v37, e2, hf⟩ := hf
    replace e2 := (jcv_o e2).2
    obtain ⟨Rw, lt⟩ := R0 c1
    have r2 := E_X12_wordOfPart H Rw e2
    -- leaf 0: F_X12_readPart_40 n a0 s0 v37 h
    obtain ⟨w1, w2, w3, w4, w5, w6⟩ := rW
    obtain ⟨n3, km⟩ := tk_let H lt
    rcases r2 with ⟨v2, w, hw, tw⟩ | ⟨v2, nw⟩
    · have R9 : rr (oc h) a0 b L st m (k + 1) W s dp := ⟨rw_n H (by omega) Rw tw, w1, w2, w3, by omega, km, w6⟩
      have t0 : (T k).1.toInt = (w : Int) := by rw [tw, nI_toInt (by omega)]
      obtain ⟨a1, a2, a3, a4, a5⟩ := E_X12_readPart_40 R9 (by omega) hf
      rw [if_pos c1, v2] at a3
      refine lwR_l (k := k + 1) (l := [((T k).1, 0)]) ?_ (a2 (by rw [v2]; omega)) a3 a4 a5
      unfold rdPart
      rw [if_pos (by omega)]
    · have e9 : rdPart T k = .inr k := by
        unfold rdPart
        rw [if_neg (fun z => nw (T k).1.toInt.toNat (by omega) (nI_k (by omega))), if_neg (fun z => n3 z.1)]
      obtain ⟨e, Rb, rw3, g9⟩ := Rw
      have s9 : s + 1 ≤ m + 1 := by omega
      rw [v2] at hf
      unfold F_X12_readPart_40 at hf
      rw [if_pos c1, if_pos c1] at hf
      unfold F_X12_readPart_61 at hf
      obtain ⟨h61, e6, hf⟩ := jbind hf
      obtain ⟨c4, c5, c6, c7, c8⟩ := E_X12_emits Rb.1 w1 w2 (by omega) (jcv_o e6).2
      rw [if_pos (by decide)] at hf
      cases hf
      exact lwR_r e9 rfl ((frM_oi c6 (by decide) (by decide)).trans g9) c8 c7
  · skip
    replace hf := jbind hf
    obtain ⟨q30, e3, hf⟩ := hf
    replace e3 := (jcv_o e3).2
    obtain ⟨Rc, nl⟩ := R1 (h01.resolve_left c1)
    obtain ⟨d3, M3, g3, f3, z3⟩ := T_number H (by decide) Rc e3
    -- leaf 1: F_X12_readPart_40 n a0 s0 q30.1 q30.2
    obtain ⟨w1, w2, w3, w4, w5, w6⟩ := rW
    have nw : ¬ (0 ≤ (T k).1.toInt ∧ (T k).1.toInt ≤ 6) := fun z => tk_nlet H (w := (T k).1.toInt.toNat) (by omega) nl (nI_k (by omega))
    have a1 : wl (oc q30.2) a0 = W := (wl_f f3 (by decide)).trans w1
    have a2 : oi (oc q30.2) a0 16 = nI s := (frM_oi f3 (by decide) (by decide)).trans w2
    rcases d3 with ⟨v3, y3, R3⟩ | ⟨v3, y3⟩
    · have km := tk_n3 H y3.1
      have R9 : rr (oc q30.2) a0 b L st m (k + 1) W s dp := ⟨R3, a1, a2, (frM_oi f3 (by decide) (by decide)).trans w3, by omega, km, w6⟩
      have y4 := y3.2.1
      rw [Int32.le_iff_toInt_le, ← v3] at y4
      obtain ⟨b1, b2, b3, b4, b5⟩ := E_X12_readPart_40 R9 (by omega) hf
      rw [if_neg c1, v3] at b3
      refine lwR_l (k := k + 1) (l := [(11, (T k).2)]) ?_ (b2 y4) b3 (frQ_tr (fr2 f3) b4) (b5.trans z3)
      unfold rdPart
      rw [if_neg nw, if_pos y3]
    · have e9 : rdPart T k = .inr k := by
        unfold rdPart
        rw [if_neg nw, if_neg y3]
      rw [v3] at hf
      unfold F_X12_readPart_40 at hf
      rw [if_neg c1, if_neg c1] at hf
      unfold F_X12_readPart_61 at hf
      obtain ⟨h61, e6, hf⟩ := jbind hf
      obtain ⟨c4, c5, c6, c7, c8⟩ := E_X12_emits M3 a1 a2 (by omega) (jcv_o e6).2
      rw [if_pos (by decide)] at hf
      cases hf
      exact lwR_r e9 rfl ((frM_oi c6 (by decide) (by decide)).trans g3) (frQ_tr (fr2 f3) c8) (c7.trans z3)
theorem E_X12_readPart {b : Nat → Int32} {L : Nat} {m : Nat} {T : Nat → Int32 × Int32} {st : Nat → Nat} {en : Nat → Nat} {k : Nat} {W : jWd} {s : Nat} {dp : Nat} {n : Nat} {a0 : Nat} {h : jH} {q : Int32 × jH} (H : tkE b L m T st en) (R : rr (oc h) a0 b L st m k W s dp) (hf : F_X12_readPart n a0 h = some q) : lwR a0 b L st m h q.1 q.2 W s dp (rdPart T k) := by
  unfold F_X12_readPart at hf
  replace hf := jbind hf
  obtain ⟨h1, e1, hf⟩ := hf
  replace e1 := (jcv_o e1).2
  obtain ⟨Rw, f1, z1⟩ := T_letters H R.1 e1
  replace hf := jbind hf
  obtain ⟨v5, e2, hf⟩ := hf
  have r2 := oc_gI e2
  subst r2
  clear e2
  replace hf := jbind hf
  obtain ⟨v9, e3, hf⟩ := hf
  have r3 := oc_gI e3
  subst r3
  clear e3
  replace hf := jite hf
  rcases hf with ⟨c4, hf⟩ | ⟨c4, hf⟩
  · skip
    -- leaf 0: F_X12_readPart_20 n a0 (1 : Int32) h1
    have hL := H.1
    obtain ⟨e, Rb, r9, g9⟩ := id Rw
    have sl := tk_L H k
    have el := Rb.2.2.2.2.2
    rw [Rb.2.2.2.2.1, g9, nI_eq (by omega) (by omega)] at c4
    have rW : wl (oc h1) a0 = W ∧ oi (oc h1) a0 16 = nI s ∧ oi (oc h1) a0 13 = nI dp ∧ s ≤ k ∧ k ≤ m ∧ m ≤ 400 := ⟨(wl_f f1 (by decide)).trans R.2.1, (frM_oi f1 (by decide) (by decide)).trans R.2.2.1, (frM_oi f1 (by decide) (by decide)).trans R.2.2.2.1, R.2.2.2.2⟩
    subst c4
    obtain ⟨a1, a2, a3, a4⟩ := E_X12_readPart_20 (W := W) (s := s) (dp := dp) H (fun _ => trivial) (Or.inr rfl) rW (fun z => absurd z (by decide)) (fun _ => ⟨⟨st k, Rb, cur_0 k⟩, r9.2.2⟩) hf
    exact ⟨a1, a2, frQ_tr (fr2 f1) a3, a4.trans z1⟩
  · skip
    -- leaf 1: F_X12_readPart_20 n a0 (0 : Int32) h1
    have hL := H.1
    obtain ⟨e, Rb, r9, g9⟩ := id Rw
    have sl := tk_L H k
    have el := Rb.2.2.2.2.2
    rw [Rb.2.2.2.2.1, g9, nI_eq (by omega) (by omega)] at c4
    have rW : wl (oc h1) a0 = W ∧ oi (oc h1) a0 16 = nI s ∧ oi (oc h1) a0 13 = nI dp ∧ s ≤ k ∧ k ≤ m ∧ m ≤ 400 := ⟨(wl_f f1 (by decide)).trans R.2.1, (frM_oi f1 (by decide) (by decide)).trans R.2.2.1, (frM_oi f1 (by decide) (by decide)).trans R.2.2.2.1, R.2.2.2.2⟩
    have lt : bIn b L 97 122 (st k) := r9.2.1 (st k) (Nat.le_refl _) (by have := r9.1; omega)
    obtain ⟨a1, a2, a3, a4⟩ := E_X12_readPart_20 (W := W) (s := s) (dp := dp) H (fun _ => trivial) (Or.inl rfl) rW (fun _ => ⟨Rw, lt⟩) (fun z => absurd z (by decide)) hf
    exact ⟨a1, a2, frQ_tr (fr2 f1) a3, a4.trans z1⟩
end
section
/-! sums and tags, the reference -/
theorem lwR_sq {x L m s dp : Nat} {b : Nat → Int32} {st : Nat → Nat} {h h2 h3 : jH} {v : Int32} {W : jWd} {a : jRd} {f : Nat → jRd} {d : Nat × List (Int32 × Int32)} (ha : a = .inl d) (f12 : frQ x (oc h) (oc h2)) (z12 : h2.1 = h.1) (B : lwR x b L st m h2 v h3 (emW W s d.2) (s + d.2.length) dp (f d.1)) : lwR x b L st m h v h3 W s dp (sqP a f) := by
  obtain ⟨B1, B2, B3, B4⟩ := B
  refine ⟨fun r y => ?_, fun g y => ?_, frQ_tr f12 B3, B4.trans z12⟩
  · obtain ⟨d2, e, a1, a2, a3⟩ := sq_inv y
    cases ha.symm.trans a1
    subst a3
    have q := B1 e a2
    rw [← emW_app] at q
    dsimp only
    rw [List.length_append, ← Nat.add_assoc]
    exact q
  · rcases hf : f d.1 with e | e
    · rw [sq_ll ha hf] at y
      cases y
    · rw [sq_lr ha hf] at y
      cases y
      exact B2 _ hf
theorem lwR_nl {x L m s dp k : Nat} {b : Nat → Int32} {st : Nat → Nat} {h h2 : jH} {v : Int32} {W : jWd} {r : jRd} (e : r = .inl (k, [])) (hv : v = 1) (R : rr (oc h2) x b L st m k W s dp) (f : frQ x (oc h) (oc h2)) (z : h2.1 = h.1) : lwR x b L st m h v h2 W s dp r := lwR_l e hv R f z
theorem lwR_sr {x L m s dp k : Nat} {b : Nat → Int32} {st : Nat → Nat} {h h2 : jH} {v : Int32} {W : jWd} {a : jRd} {f : Nat → jRd} (A : lwR x b L st m h v h2 W s dp a) (ha : a = .inr k) : lwR x b L st m h v h2 W s dp (sqP a f) := lwR_r (sq_r ha) (A.2.1 k ha).1 (A.2.1 k ha).2 A.2.2.1 A.2.2.2
theorem E_X12_readSum_9 {n : Nat} {b : Nat → Int32} {L : Nat} {m : Nat} {T : Nat → Int32 × Int32} {st : Nat → Nat} {en : Nat → Nat} {dp : Nat} : ∀ (k : Nat) {a0 : Nat} {h : jH} {q : Int32 × jH} (F : Nat) (k0 : Nat) (W : jWd) (s : Nat) (H : tkE b L m T st en) (R : rr (oc h) a0 b L st m k0 W s dp) (hF : m < k0 + F), F_X12_readSum_9 n k a0 h = some q → lwR a0 b L st m h q.1 q.2 W s dp (rdSL T F k0)
  | 0, a0, h, q, F, k0, W, s, H, R, hF, hf => by cases hf
  | k + 1, a0, h, q, F, k0, W, s, H, R, hF, hf => by
    replace hf : F_X12_readSum_9_b n (F_X12_readSum_9 n k) a0 h = some q := hf
    unfold F_X12_readSum_9_b at hf
    obtain ⟨F, rfl⟩ : ∃ F2, F = F2 + 1 := ⟨F - 1, by have := R.2.2.2.2.2.1; omega⟩
    replace hf := jbind hf
    obtain ⟨q12, e1, hf⟩ := hf
    replace e1 := (jcv_o e1).2
    obtain ⟨d1, g1, f1, z1⟩ := T_sign (c := 43) H (by unfold sgn; decide) R.1 e1
    replace hf := jite hf
    rcases hf with ⟨c2, hf⟩ | ⟨c2, hf⟩
    · skip
      cases hf
      -- leaf 0: ((1 : Int32), q12.2)
      rcases d1 with ⟨w, -⟩ | ⟨-, t1, y1⟩
      · exact absurd (c2.symm.trans w) (by decide)
      exact lwR_nl (if_neg t1) rfl (rr_fr R f1 y1 (Nat.le_refl _) R.2.2.2.2.2.1) (fr2 f1) z1
    · skip
      replace hf := jbind hf
      obtain ⟨q19, e3, hf⟩ := hf
      replace e3 := (jcv_o e3).2
      rcases d1 with ⟨-, t1, y1⟩ | ⟨w, -⟩
      rotate_left
      · exact absurd w c2
      have km := tk_m H (k := k0) (by rw [t1]; decide)
      have R2 := rr_fr R f1 y1 (Nat.le_succ _) km
      have A := E_X12_readPart H R2 e3
      replace hf := jite hf
      rcases hf with ⟨c4, hf⟩ | ⟨c4, hf⟩
      · skip
        cases hf
        -- leaf 10: ((0 : Int32), q19.2)
        have e9 : rdSL T (F + 1) k0 = sqP (rdPart T (k0 + 1)) (fun j => sqP (.inl (j, [(12, 0)])) (fun i => rdSL T F i)) := if_pos t1
        rcases hA : rdPart T (k0 + 1) with d | f
        · exact absurd (c4.symm.trans (A.1 d hA).1) (by decide)
        obtain ⟨v3, g3⟩ := A.2.1 f hA
        rw [e9]
        exact lwR_r (sq_r hA) rfl g3 (frQ_tr (fr2 f1) A.2.2.1) (A.2.2.2.trans z1)
      · skip
        replace hf := jbind hf
        obtain ⟨h31, e5, hf⟩ := hf
        replace e5 := (jcv_o e5).2
        rcases hA : rdPart T (k0 + 1) with d | f
        rotate_left
        · exact absurd (A.2.1 f hA).1 c4
        obtain ⟨-, R4⟩ := A.1 d hA
        obtain ⟨p1, p2, p3⟩ := part_i H hA
        have sk := R.2.2.2.2.1
        obtain ⟨R5, f5, z5⟩ := rr_em R4 (by omega) e5
        -- leaf 11: rc9 a0 h31
        have e9 : rdSL T (F + 1) k0 = sqP (rdPart T (k0 + 1)) (fun j => sqP (.inl (j, [(12, 0)])) (fun i => rdSL T F i)) := if_pos t1
        have B := E_X12_readSum_9 k F d.1 _ _ H R5 (by omega) hf
        rw [e9]
        exact lwR_sq hA (frQ_tr (fr2 f1) A.2.2.1) (A.2.2.2.trans z1) (lwR_sq (f := fun i => rdSL T F i) (d := (d.1, [(12, 0)])) rfl f5 z5 B)
theorem E_X12_readSum {b : Nat → Int32} {L : Nat} {m : Nat} {T : Nat → Int32 × Int32} {st : Nat → Nat} {en : Nat → Nat} {k : Nat} {W : jWd} {s : Nat} {dp : Nat} {F : Nat} {n : Nat} {a0 : Nat} {h : jH} {q : Int32 × jH} (H : tkE b L m T st en) (R : rr (oc h) a0 b L st m k W s dp) (hF : m < k + 1 + F) (hf : F_X12_readSum n a0 h = some q) : lwR a0 b L st m h q.1 q.2 W s dp (rdSum T F k) := by
  unfold F_X12_readSum at hf
  replace hf := jbind hf
  obtain ⟨q1, e1, hf⟩ := hf
  replace e1 := (jcv_o e1).2
  have A := E_X12_readPart H R e1
  replace hf := jite hf
  rcases hf with ⟨c2, hf⟩ | ⟨c2, hf⟩
  · skip
    cases hf
    -- leaf 0: ((0 : Int32), q1.2)
    rcases hA : rdPart T k with d | f
    · exact absurd (c2.symm.trans (A.1 d hA).1) (by decide)
    obtain ⟨v3, g3⟩ := A.2.1 f hA
    exact lwR_r (sq_r hA) rfl g3 A.2.2.1 A.2.2.2
  · skip
    -- leaf 1: F_X12_readSum_9 n n a0 q1.2
    rcases hA : rdPart T k with d | f
    rotate_left
    · exact absurd (A.2.1 f hA).1 c2
    obtain ⟨-, R4⟩ := A.1 d hA
    obtain ⟨p1, p2, p3⟩ := part_i H hA
    exact lwR_sq hA A.2.2.1 A.2.2.2 (E_X12_readSum_9 n F d.1 _ _ H R4 (by omega) hf)
theorem E_X12_readTag_61 {b : Nat → Int32} {L : Nat} {m : Nat} {T : Nat → Int32 × Int32} {st : Nat → Nat} {en : Nat → Nat} {k : Nat} {W : jWd} {s : Nat} {dp : Nat} {n : Nat} {a0 : Nat} {s0 : Int32} {h : jH} {q : Int32 × jH} (H : tkE b L m T st en) (rW : wl (oc h) a0 = W ∧ oi (oc h) a0 16 = nI s ∧ oi (oc h) a0 13 = nI dp ∧ s ≤ k ∧ k ≤ m ∧ m ≤ 400) (Rw : rw2 (oc h) a0 b L st k) (hs : (s0 = -1 ∧ ¬ (7 ≤ (T k).1.toInt ∧ (T k).1.toInt ≤ 10)) ∨ ∃ w : Nat, 7 ≤ w ∧ w ≤ 10 ∧ s0 = nI w ∧ (T k).1 = nI w) (hf : F_X12_readTag_61 n a0 s0 h = some q) : ((7 ≤ (T k).1.toInt ∧ (T k).1.toInt ≤ 10 ∧ q.1 = 1 ∧ rr (oc q.2) a0 b L st m (k + 1) (emW W s [((T k).1, 0)]) (s + 1) dp) ∨ (¬ (7 ≤ (T k).1.toInt ∧ (T k).1.toInt ≤ 10) ∧ q.1 = 0 ∧ rr (oc q.2) a0 b L st m k W s dp)) ∧ frQ a0 (oc h) (oc q.2) ∧ q.2.1 = h.1 := by
  unfold F_X12_readTag_61 at hf
  obtain ⟨w1, w2, w3, w4, w5, w6⟩ := rW
  have lm : (-1 : Int32).toInt = -1 := rfl
  have l0 : (0 : Int32).toInt = 0 := rfl
  replace hf := jite hf
  rcases hf with ⟨c1, hf⟩ | ⟨c1, hf⟩
  · skip
    replace hf := jbind hf
    obtain ⟨v77, e2, hf⟩ := hf
    have r2 := oc_gI e2
    subst r2
    clear e2
    replace hf := jbind hf
    obtain ⟨h80, e3, hf⟩ := hf
    obtain ⟨o3, z3⟩ := oc_pf e3
    clear e3
    replace hf := jite hf
    rcases hf with ⟨c4, hf⟩ | ⟨c4, hf⟩
    · skip
      cases hf
      -- leaf 00: ((0 : Int32), h80)
      rcases hs with ⟨z, nt⟩ | ⟨w, ha, hb, e0, -⟩
      rotate_left
      · rw [e0, Int32.lt_iff_toInt_lt, nI_toInt (by omega)] at c1; omega
      obtain ⟨e, Rb, r9, g9⟩ := Rw
      have hL := H.1
      rw [g9] at o3
      have f3 : frQ a0 (oc h) (oc h80) := by rw [o3]; exact frQ_f (by decide)
      have R9 : rr (oc h80) a0 b L st m k W s dp := ⟨⟨st k, by rw [o3]; exact rb_pt Rb (tk_L H k), cur_0 k⟩, by rw [o3, wl_n (by omega)]; exact w1, by rw [o3, oi_ne (Or.inr (by decide))]; exact w2, by rw [o3, oi_ne (Or.inr (by decide))]; exact w3, w4, w5, w6⟩
      exact ⟨Or.inr ⟨nt, rfl, R9⟩, f3, z3⟩
    · skip
      cases hf
      -- leaf 01: ((1 : Int32), h80)
      exact absurd c1 c4
  · skip
    replace hf := jbind hf
    obtain ⟨h69, e5, hf⟩ := hf
    replace e5 := (jcv_o e5).2
    rw [Int32.lt_iff_toInt_lt] at c1
    rcases hs with ⟨z, -⟩ | ⟨w, ha, hb, e0, t0⟩
    · rw [z] at c1; omega
    have km := tk_m H (k := k) (by rw [t0]; intro z; have := congrArg Int32.toInt z; rw [nI_toInt (by omega)] at this; omega)
    have R2 : rr (oc h) a0 b L st m (k + 1) W s dp := ⟨rw_n H (by omega) Rw t0, w1, w2, w3, by omega, km, w6⟩
    obtain ⟨R5, f5, z5⟩ := rr_em R2 (by omega) e5
    rw [e0] at c1 R5
    replace hf := jite hf
    rcases hf with ⟨c6, hf⟩ | ⟨c6, hf⟩
    · skip
      cases hf
      -- leaf 10: ((0 : Int32), h69)
      exact absurd c6 (by rw [e0, Int32.lt_iff_toInt_lt, nI_toInt (by omega)]; omega)
    · skip
      cases hf
      -- leaf 11: ((1 : Int32), h69)
      rw [← t0] at R5
      exact ⟨Or.inl ⟨by rw [t0, nI_toInt (by omega)]; omega, by rw [t0, nI_toInt (by omega)]; omega, rfl, R5⟩, f5, z5⟩
theorem E_X12_readTag {b : Nat → Int32} {L : Nat} {m : Nat} {T : Nat → Int32 × Int32} {st : Nat → Nat} {en : Nat → Nat} {k : Nat} {W : jWd} {s : Nat} {dp : Nat} {n : Nat} {a0 : Nat} {h : jH} {q : Int32 × jH} (H : tkE b L m T st en) (R : rr (oc h) a0 b L st m k W s dp) (hf : F_X12_readTag n a0 h = some q) : ((7 ≤ (T k).1.toInt ∧ (T k).1.toInt ≤ 10 ∧ q.1 = 1 ∧ rr (oc q.2) a0 b L st m (k + 1) (emW W s [((T k).1, 0)]) (s + 1) dp) ∨ (¬ (7 ≤ (T k).1.toInt ∧ (T k).1.toInt ≤ 10) ∧ q.1 = 0 ∧ rr (oc q.2) a0 b L st m k W s dp)) ∧ frQ a0 (oc h) (oc q.2) ∧ q.2.1 = h.1 := by
  unfold F_X12_readTag at hf
  replace hf := jbind hf
  obtain ⟨h1, e1, hf⟩ := hf
  replace e1 := (jcv_o e1).2
  obtain ⟨Rw, f1, z1⟩ := T_letters H R.1 e1
  have rW : wl (oc h1) a0 = W ∧ oi (oc h1) a0 16 = nI s ∧ oi (oc h1) a0 13 = nI dp ∧ s ≤ k ∧ k ≤ m ∧ m ≤ 400 := ⟨(wl_f f1 (by decide)).trans R.2.1, (frM_oi f1 (by decide) (by decide)).trans R.2.2.1, (frM_oi f1 (by decide) (by decide)).trans R.2.2.2.1, R.2.2.2.2⟩
  replace hf := jbind hf
  obtain ⟨v7, e2, hf⟩ := hf
  replace e2 := (jcv_o e2).2
  have r2 := T_isWord (w := 7) H (by decide) Rw e2
  replace hf := jite hf
  rcases hf with ⟨c3, hf⟩ | ⟨c3, hf⟩
  · skip
    replace hf := jbind hf
    obtain ⟨v21, e4, hf⟩ := hf
    replace e4 := (jcv_o e4).2
    have r4 := T_isWord (w := 8) H (by decide) Rw e4
    replace hf := jite hf
    rcases hf with ⟨c5, hf⟩ | ⟨c5, hf⟩
    · skip
      replace hf := jbind hf
      obtain ⟨v35, e6, hf⟩ := hf
      replace e6 := (jcv_o e6).2
      have r6 := T_isWord (w := 9) H (by decide) Rw e6
      replace hf := jite hf
      rcases hf with ⟨c7, hf⟩ | ⟨c7, hf⟩
      · skip
        replace hf := jbind hf
        obtain ⟨v49, e8, hf⟩ := hf
        replace e8 := (jcv_o e8).2
        have r8 := T_isWord (w := 10) H (by decide) Rw e8
        replace hf := jite hf
        rcases hf with ⟨c9, hf⟩ | ⟨c9, hf⟩
        · skip
          -- leaf 0000: F_X12_readTag_61 n a0 (- 1 : Int32) h1
          have nt : ¬ (7 ≤ (T k).1.toInt ∧ (T k).1.toInt ≤ 10) := fun z => by
            obtain ⟨w, hw⟩ : ∃ w : Nat, (T k).1.toInt = (w : Int) := ⟨(T k).1.toInt.toNat, by omega⟩
            have tw : (T k).1 = nI w := nI_k hw
            rcases (by omega : w = 7 ∨ w = 8 ∨ w = 9 ∨ w = 10) with y | y | y | y <;> subst y
            · exact absurd ((r2.2.mpr tw).symm.trans c3) (by decide)
            · exact absurd ((r4.2.mpr tw).symm.trans c5) (by decide)
            · exact absurd ((r6.2.mpr tw).symm.trans c7) (by decide)
            · exact absurd ((r8.2.mpr tw).symm.trans c9) (by decide)
          obtain ⟨a1, a2, a3⟩ := E_X12_readTag_61 (W := W) (s := s) (dp := dp) H rW Rw (Or.inl ⟨rfl, nt⟩) hf
          exact ⟨a1, frQ_tr (fr2 f1) a2, a3.trans z1⟩
        · skip
          -- leaf 0001: F_X12_readTag_61 n a0 (10 : Int32) h1
          have t := r8.2.mp (r8.1.resolve_left c9)
          obtain ⟨a1, a2, a3⟩ := E_X12_readTag_61 (W := W) (s := s) (dp := dp) H rW Rw (Or.inr ⟨10, by decide, by decide, rfl, t⟩) hf
          exact ⟨a1, frQ_tr (fr2 f1) a2, a3.trans z1⟩
      · skip
        -- leaf 001: F_X12_readTag_61 n a0 (9 : Int32) h1
        have t := r6.2.mp (r6.1.resolve_left c7)
        obtain ⟨a1, a2, a3⟩ := E_X12_readTag_61 (W := W) (s := s) (dp := dp) H rW Rw (Or.inr ⟨9, by decide, by decide, rfl, t⟩) hf
        exact ⟨a1, frQ_tr (fr2 f1) a2, a3.trans z1⟩
    · skip
      -- leaf 01: F_X12_readTag_61 n a0 (8 : Int32) h1
      have t := r4.2.mp (r4.1.resolve_left c5)
      obtain ⟨a1, a2, a3⟩ := E_X12_readTag_61 (W := W) (s := s) (dp := dp) H rW Rw (Or.inr ⟨8, by decide, by decide, rfl, t⟩) hf
      exact ⟨a1, frQ_tr (fr2 f1) a2, a3.trans z1⟩
  · skip
    -- leaf 1: F_X12_readTag_61 n a0 (7 : Int32) h1
    have t := r2.2.mp (r2.1.resolve_left c3)
    obtain ⟨a1, a2, a3⟩ := E_X12_readTag_61 (W := W) (s := s) (dp := dp) H rW Rw (Or.inr ⟨7, by decide, by decide, rfl, t⟩) hf
    exact ⟨a1, frQ_tr (fr2 f1) a2, a3.trans z1⟩
end
section
/-! conditions, the reference -/
def gPr (b : Nat → Int32) (L m : Nat) (T : Nat → Int32 × Int32) (st : Nat → Nat) (w c : Nat) (g : Nat → jH → Option (Int32 × jH)) : Prop :=
  ∀ (a0 k : Nat) (W : jWd) (s dp F : Nat) (h : jH) (q : Int32 × jH), rr (oc h) a0 b L st m k W s dp → dp ≤ 6 → 4 * m + c ≤ F + 4 * k → g a0 h = some q → lwR a0 b L st m h q.1 q.2 W s dp (rdG T F w dp k)
theorem rdG_0 {T : Nat → Int32 × Int32} {F dp k : Nat} : rdG T (F + 1) 0 dp k = sqP (rdG T F 2 dp k) (fun j => rdG T F 4 dp j) := by
  conv => lhs; unfold rdG
  exact if_pos rfl
theorem rdG_2 {T : Nat → Int32 × Int32} {F dp k : Nat} : rdG T (F + 1) 2 dp k = sqP (rdG T F 1 dp k) (fun j => rdG T F 3 dp j) := by
  conv => lhs; unfold rdG
  rw [if_neg (by decide), if_pos rfl]
theorem rdG_3 {T : Nat → Int32 × Int32} {F dp k : Nat} : rdG T (F + 1) 3 dp k = (if (T k).1 = 12 then sqP (rdG T F 1 dp (k + 1)) (fun j => sqP (.inl (j, [(16, 0)])) (fun i => rdG T F 3 dp i)) else .inl (k, [])) := by
  conv => lhs; unfold rdG
  rw [if_neg (by decide), if_neg (by decide), if_pos rfl]
theorem rdG_4 {T : Nat → Int32 × Int32} {F dp k : Nat} : rdG T (F + 1) 4 dp k = (if (T k).1 = 13 then sqP (rdG T F 2 dp (k + 1)) (fun j => sqP (.inl (j, [(17, 0)])) (fun i => rdG T F 4 dp i)) else .inl (k, [])) := by
  conv => lhs; unfold rdG
  rw [if_neg (by decide), if_neg (by decide), if_neg (by decide), if_pos rfl]
theorem rdG_1 {T : Nat → Int32 × Int32} {F dp k : Nat} : rdG T (F + 1) 1 dp k = (if (T k).1 = 40 then (if dp = 6 then .inr k else sqP (rdG T F 0 (dp + 1) (k + 1)) (fun j => if (T j).1 = 41 then .inl (j + 1, []) else .inr j))
    else if (T k).1 = 11 then (if dp = 6 then .inr k else sqP (rdG T F 1 (dp + 1) (k + 1)) (fun j => .inl (j, [(15, 0)])))
    else if 7 ≤ (T k).1.toInt ∧ (T k).1.toInt ≤ 10 then .inl (k + 1, [((T k).1, 0)])
    else sqP (rdSum T F k) (fun j => if (T j).1 = 60 then sqP (rdSum T F (j + 1)) (fun i => .inl (i, [(13, 0)])) else if (T j).1 = 62 then sqP (rdSum T F (j + 1)) (fun i => .inl (i, [(14, 0)])) else .inr j)) := by
  conv => lhs; unfold rdG
  rw [if_neg (by decide), if_neg (by decide), if_neg (by decide), if_neg (by decide)]
theorem rr_dp {O O2 : jO} {x L m k s dp dp2 : Nat} {b : Nat → Int32} {st : Nat → Nat} {W : jWd} (R : rr O x b L st m k W s dp) (e : O2 = u2 O x 13 (.int (nI dp2))) : rr O2 x b L st m k W s dp2 := by
  obtain ⟨R, a1, a2, a3, a4, a5, a6⟩ := R
  have f : frM x [] [13] O O2 := by rw [e]; exact frM_f (by decide)
  exact ⟨rc_fr R f (by decide) (by decide) (by decide) (by decide) (by decide), (wl_f f (by decide)).trans a1, (frM_oi f (by decide) (by decide)).trans a2, by rw [e, oi_eq], a4, a5, a6⟩
theorem lwR_pre {x L m s dp : Nat} {b : Nat → Int32} {st : Nat → Nat} {h h2 h3 : jH} {v : Int32} {W : jWd} {r : jRd} (f : frQ x (oc h) (oc h2)) (z : h2.1 = h.1) (B : lwR x b L st m h2 v h3 W s dp r) : lwR x b L st m h v h3 W s dp r := ⟨B.1, B.2.1, frQ_tr f B.2.2.1, B.2.2.2.trans z⟩
theorem E_X12_readAtom_173 {b : Nat → Int32} {L : Nat} {m : Nat} {st : Nat → Nat} {k : Nat} {W : jWd} {s : Nat} {dp : Nat} {n : Nat} {g0 : Nat → jH → Option (Int32 × jH)} {g1 : Nat → jH → Option (Int32 × jH)} {g2 : Nat → jH → Option (Int32 × jH)} {sa0 : Nat} {s1 : Int32} {h : jH} {q : Int32 × jH} (R : rr (oc h) sa0 b L st m k W s dp) (hs : s + 1 ≤ k) (hf : F_X12_readAtom_173 n g0 g1 g2 sa0 s1 h = some q) : lwR sa0 b L st m h q.1 q.2 W s dp (.inl (k, [(s1, 0)])) := by
  unfold F_X12_readAtom_173 at hf
  replace hf := jbind hf
  obtain ⟨h174, e1, hf⟩ := hf
  replace e1 := (jcv_o e1).2
  obtain ⟨R1, f1, z1⟩ := rr_em R hs e1
  cases hf
  -- leaf : ((1 : Int32), h174)
  exact lwR_l rfl rfl R1 f1 z1
theorem E_X12_readAtom_152 {b : Nat → Int32} {L : Nat} {m : Nat} {T : Nat → Int32 × Int32} {st : Nat → Nat} {en : Nat → Nat} {k : Nat} {W : jWd} {s : Nat} {dp : Nat} {F : Nat} {n : Nat} {g0 : Nat → jH → Option (Int32 × jH)} {g1 : Nat → jH → Option (Int32 × jH)} {g2 : Nat → jH → Option (Int32 × jH)} {a0 : Nat} {x1 : Int32} {h : jH} {q : Int32 × jH} (H : tkE b L m T st en) (R : rr (oc h) a0 b L st m k W s dp) (hs : s + 1 ≤ k) (hF : m < k + 1 + F) (hf : F_X12_readAtom_152 n g0 g1 g2 a0 x1 h = some q) : lwR a0 b L st m h q.1 q.2 W s dp (sqP (rdSum T F k) (fun i => .inl (i, [(if x1 = 0 then 14 else 13, 0)]))) := by
  unfold F_X12_readAtom_152 at hf
  replace hf := jbind hf
  obtain ⟨q153, e1, hf⟩ := hf
  replace e1 := (jcv_o e1).2
  have A := E_X12_readSum H R hF e1
  replace hf := jite hf
  rcases hf with ⟨c2, hf⟩ | ⟨c2, hf⟩
  · skip
    cases hf
    -- leaf 0: ((0 : Int32), q153.2)
    rcases hA : rdSum T F k with d | f
    · exact absurd (c2.symm.trans (A.1 d hA).1) (by decide)
    rw [c2] at A
    rw [← hA]
    exact lwR_sr A hA
  · skip
    replace hf := jite hf
    rcases hf with ⟨c3, hf⟩ | ⟨c3, hf⟩
    · skip
      -- leaf 10: F_X12_readAtom_173 n g0 g1 g2 a0 (14 : Int32) q153.2
      rcases hA : rdSum T F k with d | f
      rotate_left
      · exact absurd (A.2.1 f hA).1 c2
      obtain ⟨-, R4⟩ := A.1 d hA
      obtain ⟨p1, p2, p3, p4⟩ := sum_i H hA
      rw [← hA]
      refine lwR_sq hA A.2.2.1 A.2.2.2 ?_
      rw [if_pos c3]
      exact E_X12_readAtom_173 R4 (by omega) hf
    · skip
      -- leaf 11: F_X12_readAtom_173 n g0 g1 g2 a0 (13 : Int32) q153.2
      rcases hA : rdSum T F k with d | f
      rotate_left
      · exact absurd (A.2.1 f hA).1 c2
      obtain ⟨-, R4⟩ := A.1 d hA
      obtain ⟨p1, p2, p3, p4⟩ := sum_i H hA
      rw [← hA]
      refine lwR_sq hA A.2.2.1 A.2.2.2 ?_
      rw [if_neg c3]
      exact E_X12_readAtom_173 R4 (by omega) hf
theorem E_X12_readAtom {b : Nat → Int32} {L : Nat} {m : Nat} {T : Nat → Int32 × Int32} {st : Nat → Nat} {en : Nat → Nat} {k : Nat} {W : jWd} {s : Nat} {dp : Nat} {F : Nat} {n : Nat} {g0 : Nat → jH → Option (Int32 × jH)} {g1 : Nat → jH → Option (Int32 × jH)} {g2 : Nat → jH → Option (Int32 × jH)} {a0 : Nat} {h : jH} {q : Int32 × jH} (H : tkE b L m T st en) (G0 : gPr b L m T st 0 3 g0) (G1 : gPr b L m T st 1 1 g1) (R : rr (oc h) a0 b L st m k W s dp) (hd : dp ≤ 6) (hF : 4 * m + 1 ≤ F + 4 * k) (hf : F_X12_readAtom n g0 g1 g2 a0 h = some q) : lwR a0 b L st m h q.1 q.2 W s dp (rdG T F 1 dp k) := by
  unfold F_X12_readAtom at hf
  have g1x := G1
  have km9 := R.2.2.2.2.2.1
  obtain ⟨F, rfl⟩ : ∃ F2, F = F2 + 1 := ⟨F - 1, by omega⟩
  replace hf := jbind hf
  obtain ⟨q3, e1, hf⟩ := hf
  replace e1 := (jcv_o e1).2
  obtain ⟨d1, g1, f1, z1⟩ := T_sign (c := 40) H (by unfold sgn; decide) R.1 e1
  replace hf := jite hf
  rcases hf with ⟨c2, hf⟩ | ⟨c2, hf⟩
  · skip
    replace hf := jbind hf
    obtain ⟨q59, e3, hf⟩ := hf
    replace e3 := (jcv_o e3).2
    rcases d1 with ⟨w, -⟩ | ⟨-, t1, y1⟩
    · exact absurd (c2.symm.trans w) (by decide)
    have R2 := rr_fr R f1 y1 (Nat.le_refl _) km9
    obtain ⟨d3, g3, f3, z3⟩ := T_passes (w := 11) H (by decide) R2.1 e3
    replace hf := jite hf
    rcases hf with ⟨c4, hf⟩ | ⟨c4, hf⟩
    · skip
      replace hf := jbind hf
      obtain ⟨q115, e5, hf⟩ := hf
      replace e5 := (jcv_o e5).2
      rcases d3 with ⟨w, -⟩ | ⟨-, t3, y3⟩
      · exact absurd (c4.symm.trans w) (by decide)
      have R4 := rr_fr R2 f3 y3 (Nat.le_refl _) km9
      obtain ⟨d5, f5, z5⟩ := E_X12_readTag H R4 e5
      have f15 : frQ a0 (oc h) (oc q115.2) := frQ_tr (fr2 f1) (frQ_tr (fr2 f3) f5)
      have z15 : q115.2.1 = h.1 := z5.trans (z3.trans z1)
      replace hf := jite hf
      rcases hf with ⟨c6, hf⟩ | ⟨c6, hf⟩
      · skip
        replace hf := jbind hf
        obtain ⟨q124, e7, hf⟩ := hf
        replace e7 := (jcv_o e7).2
        rcases d5 with ⟨-, -, w, -⟩ | ⟨nt, -, R6⟩
        · exact absurd (c6.symm.trans w) (by decide)
        have A := lwR_pre f15 z15 (E_X12_readSum (F := F) H R6 (by omega) e7)
        have E := (rdG_1 (T := T) (F := F) (dp := dp) (k := k)).trans ((if_neg t1).trans ((if_neg t3).trans (if_neg nt)))
        replace hf := jite hf
        rcases hf with ⟨c8, hf⟩ | ⟨c8, hf⟩
        · skip
          cases hf
          -- leaf 0000: ((0 : Int32), q124.2)
          rcases hA : rdSum T F k with d | f
          · exact absurd (c8.symm.trans (A.1 d hA).1) (by decide)
          rw [c8] at A
          rw [E]
          exact lwR_sr A hA
        · skip
          replace hf := jbind hf
          obtain ⟨q135, e9, hf⟩ := hf
          replace e9 := (jcv_o e9).2
          rcases hA : rdSum T F k with d | f
          rotate_left
          · exact absurd (A.2.1 f hA).1 c8
          obtain ⟨-, R8⟩ := A.1 d hA
          obtain ⟨p1, p2, p3, p4⟩ := sum_i H hA
          have sk := R.2.2.2.2.1
          obtain ⟨d9, g9, f9, z9⟩ := T_sign (c := 60) H (by unfold sgn; decide) R8.1 e9
          replace hf := jite hf
          rcases hf with ⟨c10, hf⟩ | ⟨c10, hf⟩
          · skip
            replace hf := jbind hf
            obtain ⟨q146, e11, hf⟩ := hf
            replace e11 := (jcv_o e11).2
            rcases d9 with ⟨w, -⟩ | ⟨-, t9, y9⟩
            · exact absurd (c10.symm.trans w) (by decide)
            have R10 := rr_fr R8 f9 y9 (Nat.le_refl _) p2
            obtain ⟨d11, g11, f11, z11⟩ := T_sign (c := 62) H (by unfold sgn; decide) R10.1 e11
            replace hf := jite hf
            rcases hf with ⟨c12, hf⟩ | ⟨c12, hf⟩
            · skip
              cases hf
              -- leaf 000100: ((0 : Int32), q146.2)
              rcases d11 with ⟨w, -⟩ | ⟨-, t11, y11⟩
              · exact absurd (c12.symm.trans w) (by decide)
              rw [E]
              refine lwR_sq hA A.2.2.1 A.2.2.2 ?_
              rw [if_neg t9, if_neg t11]
              exact lwR_r rfl rfl g11 (frQ_tr (fr2 f9) (fr2 f11)) (z11.trans z9)
            · skip
              -- leaf 000101: F_X12_readAtom_152 n g0 g1 g2 a0 q135.1 q146.2
              rcases d11 with ⟨-, t11, y11⟩ | ⟨w, -⟩
              rotate_left
              · exact absurd w c12
              have km2 := tk_m H (k := d.1) (by rw [t11]; decide)
              have R11 := rr_fr R10 f11 y11 (Nat.le_succ _) km2
              have B := E_X12_readAtom_152 (F := F) H R11 (by omega) (by omega) hf
              rw [if_pos c10] at B
              rw [E]
              refine lwR_sq hA A.2.2.1 A.2.2.2 ?_
              rw [if_neg t9, if_pos t11]
              exact lwR_pre (frQ_tr (fr2 f9) (fr2 f11)) (z11.trans z9) B
          · skip
            -- leaf 00011: F_X12_readAtom_152 n g0 g1 g2 a0 q135.1 q135.2
            rcases d9 with ⟨-, t9, y9⟩ | ⟨w, -⟩
            rotate_left
            · exact absurd w c10
            have km2 := tk_m H (k := d.1) (by rw [t9]; decide)
            have R11 := rr_fr R8 f9 y9 (Nat.le_succ _) km2
            have B := E_X12_readAtom_152 (F := F) H R11 (by omega) (by omega) hf
            rw [if_neg c10] at B
            rw [E]
            refine lwR_sq hA A.2.2.1 A.2.2.2 ?_
            rw [if_pos t9]
            exact lwR_pre (fr2 f9) z9 B
      · skip
        cases hf
        -- leaf 001: ((1 : Int32), q115.2)
        rcases d5 with ⟨ta, tb, -, R6⟩ | ⟨-, w, -⟩
        rotate_left
        · exact absurd w c6
        exact lwR_l ((rdG_1 (T := T) (F := F) (dp := dp) (k := k)).trans ((if_neg t1).trans ((if_neg t3).trans (if_pos ⟨ta, tb⟩)))) rfl R6 f15 z15
    · skip
      replace hf := jbind hf
      obtain ⟨v66, e13, hf⟩ := hf
      have r13 := oc_gI e13
      subst r13
      clear e13
      rcases d3 with ⟨-, t3, y3⟩ | ⟨w, -⟩
      rotate_left
      · exact absurd w c4
      have km := tk_m H (k := k) (by rw [t3]; decide)
      have R22 := rr_fr R2 f3 y3 (Nat.le_succ _) km
      have d6 : oi (oc q59.2) a0 13 = nI dp := R22.2.2.2.1
      replace hf := jite hf
      rcases hf with ⟨c14, hf⟩ | ⟨c14, hf⟩
      · skip
        cases hf
        -- leaf 010: ((0 : Int32), q59.2)
        rw [d6, show (6 : Int32) = nI 6 from rfl, nI_eq (by omega) (by omega)] at c14
        exact lwR_r ((rdG_1 (T := T) (F := F) (dp := dp) (k := k)).trans ((if_neg t1).trans ((if_pos t3).trans (if_pos c14)))) rfl g3 (frQ_tr (fr2 f1) (fr2 f3)) (z3.trans z1)
      · skip
        replace hf := jbind hf
        obtain ⟨v78, e15, hf⟩ := hf
        have r15 := oc_gI e15
        subst r15
        clear e15
        replace hf := jbind hf
        obtain ⟨h83, e16, hf⟩ := hf
        obtain ⟨o16, z16⟩ := oc_pf e16
        clear e16
        replace hf := jbind hf
        obtain ⟨q87, e17, hf⟩ := hf
        replace e17 := (jcv_o e17).2
        rw [d6, show (6 : Int32) = nI 6 from rfl, nI_eq (by omega) (by omega)] at c14
        have R25 : rr (oc h83) a0 b L st m (k + 1) W s (dp + 1) := rr_dp R22 (by rw [o16, d6, nI_1])
        have A := G1 a0 (k + 1) W s (dp + 1) F h83 q87 R25 (by omega) (by omega) e17
        have fA : frQ a0 (oc h) (oc h83) := frQ_tr (fr2 f1) (frQ_tr (fr2 f3) (by rw [o16]; exact frQ_f (by decide)))
        have zA : h83.1 = h.1 := z16.trans (z3.trans z1)
        have E := (rdG_1 (T := T) (F := F) (dp := dp) (k := k)).trans ((if_neg t1).trans ((if_pos t3).trans (if_neg c14)))
        replace hf := jite hf
        rcases hf with ⟨c18, hf⟩ | ⟨c18, hf⟩
        · skip
          cases hf
          -- leaf 0110: ((0 : Int32), q87.2)
          rcases hA : rdG T F 1 (dp + 1) (k + 1) with d | f
          · exact absurd (c18.symm.trans (A.1 d hA).1) (by decide)
          obtain ⟨v9, g9⟩ := A.2.1 f hA
          rw [E]
          exact lwR_r (sq_r hA) rfl g9 (frQ_tr fA A.2.2.1) (A.2.2.2.trans zA)
        · skip
          replace hf := jbind hf
          obtain ⟨v97, e19, hf⟩ := hf
          have r19 := oc_gI e19
          subst r19
          clear e19
          rcases hA : rdG T F 1 (dp + 1) (k + 1) with d | f
          rotate_left
          · exact absurd (A.2.1 f hA).1 c18
          obtain ⟨-, R28⟩ := A.1 d hA
          have gi := g_i H F (by omega) hA
          have sk := R.2.2.2.2.1
          replace hf := jbind hf
          obtain ⟨h102, e20, hf⟩ := hf
          obtain ⟨o20, z20⟩ := oc_pf e20
          clear e20
          replace hf := jbind hf
          obtain ⟨h109, e21, hf⟩ := hf
          replace e21 := (jcv_o e21).2
          have R20 : rr (oc h102) a0 b L st m d.1 (emW W s d.2) (s + d.2.length) dp := rr_dp R28 (by rw [o20, R28.2.2.2.1, nI_pred])
          obtain ⟨R21, f21, z21⟩ := rr_em R20 (by omega) e21
          cases hf
          -- leaf 0111: ((1 : Int32), h109)
          rw [E]
          refine lwR_sq hA (frQ_tr fA (frQ_tr A.2.2.1 (by rw [o20]; exact frQ_f (by decide)))) (z20.trans (A.2.2.2.trans zA)) ?_
          exact lwR_l rfl rfl R21 f21 z21
  · skip
    replace hf := jbind hf
    obtain ⟨v10, e22, hf⟩ := hf
    have r22 := oc_gI e22
    subst r22
    clear e22
    rcases d1 with ⟨-, t1, y1⟩ | ⟨w, -⟩
    rotate_left
    · exact absurd w c2
    have km := tk_m H (k := k) (by rw [t1]; decide)
    have R22 := rr_fr R f1 y1 (Nat.le_succ _) km
    have d6 : oi (oc q3.2) a0 13 = nI dp := R22.2.2.2.1
    replace hf := jite hf
    rcases hf with ⟨c23, hf⟩ | ⟨c23, hf⟩
    · skip
      cases hf
      -- leaf 10: ((0 : Int32), q3.2)
      rw [d6, show (6 : Int32) = nI 6 from rfl, nI_eq (by omega) (by omega)] at c23
      exact lwR_r ((rdG_1 (T := T) (F := F) (dp := dp) (k := k)).trans ((if_pos t1).trans (if_pos c23))) rfl g1 (fr2 f1) z1
    · skip
      replace hf := jbind hf
      obtain ⟨v22, e24, hf⟩ := hf
      have r24 := oc_gI e24
      subst r24
      clear e24
      replace hf := jbind hf
      obtain ⟨h27, e25, hf⟩ := hf
      obtain ⟨o25, z25⟩ := oc_pf e25
      clear e25
      replace hf := jbind hf
      obtain ⟨q31, e26, hf⟩ := hf
      replace e26 := (jcv_o e26).2
      rw [d6, show (6 : Int32) = nI 6 from rfl, nI_eq (by omega) (by omega)] at c23
      have R25 : rr (oc h27) a0 b L st m (k + 1) W s (dp + 1) := rr_dp R22 (by rw [o25, d6, nI_1])
      have A := G0 a0 (k + 1) W s (dp + 1) F h27 q31 R25 (by omega) (by omega) e26
      have fA : frQ a0 (oc h) (oc h27) := frQ_tr (fr2 f1) (by rw [o25]; exact frQ_f (by decide))
      have zA : h27.1 = h.1 := z25.trans z1
      have E := (rdG_1 (T := T) (F := F) (dp := dp) (k := k)).trans ((if_pos t1).trans (if_neg c23))
      replace hf := jite hf
      rcases hf with ⟨c27, hf⟩ | ⟨c27, hf⟩
      · skip
        cases hf
        -- leaf 110: ((0 : Int32), q31.2)
        rcases hA : rdG T F 0 (dp + 1) (k + 1) with d | f
        · exact absurd (c27.symm.trans (A.1 d hA).1) (by decide)
        obtain ⟨v9, g9⟩ := A.2.1 f hA
        rw [E]
        exact lwR_r (sq_r hA) rfl g9 (frQ_tr fA A.2.2.1) (A.2.2.2.trans zA)
      · skip
        replace hf := jbind hf
        obtain ⟨v41, e28, hf⟩ := hf
        have r28 := oc_gI e28
        subst r28
        clear e28
        rcases hA : rdG T F 0 (dp + 1) (k + 1) with d | f
        rotate_left
        · exact absurd (A.2.1 f hA).1 c27
        obtain ⟨-, R28⟩ := A.1 d hA
        have gi := g_i H F (by omega) hA
        have sk := R.2.2.2.2.1
        replace hf := jbind hf
        obtain ⟨h46, e29, hf⟩ := hf
        obtain ⟨o29, z29⟩ := oc_pf e29
        clear e29
        replace hf := jbind hf
        obtain ⟨q52, e30, hf⟩ := hf
        replace e30 := (jcv_o e30).2
        have R29 : rr (oc h46) a0 b L st m d.1 (emW W s d.2) (s + d.2.length) dp := rr_dp R28 (by rw [o29, R28.2.2.2.1, nI_pred])
        obtain ⟨d30, g30, f30, z30⟩ := T_sign (c := 41) H (by unfold sgn; decide) R29.1 e30
        replace hf := jite hf
        rcases hf with ⟨c31, hf⟩ | ⟨c31, hf⟩
        · skip
          cases hf
          -- leaf 1110: (q52.1, q52.2)
          rw [E]
          refine lwR_sq hA (frQ_tr fA (frQ_tr A.2.2.1 (by rw [o29]; exact frQ_f (by decide)))) (z29.trans (A.2.2.2.trans zA)) ?_
          rcases d30 with ⟨v30, t30, y30⟩ | ⟨v30, t30, y30⟩
          · rw [if_pos t30]
            exact lwR_nl rfl v30 (rr_fr R29 f30 y30 (Nat.le_succ _) (tk_m H (by rw [t30]; decide))) (fr2 f30) z30
          · rw [if_neg t30]
            exact lwR_r rfl v30 g30 (fr2 f30) z30
        · skip
          cases hf
end
section
/-! conditions joined, the reference -/
theorem E_X12_readAllOf_9 {n : Nat} {g0 : Nat → jH → Option (Int32 × jH)} {g1 : Nat → jH → Option (Int32 × jH)} {g2 : Nat → jH → Option (Int32 × jH)} {b : Nat → Int32} {L : Nat} {m : Nat} {T : Nat → Int32 × Int32} {st : Nat → Nat} {en : Nat → Nat} {dp : Nat} (H : tkE b L m T st en) (G : gPr b L m T st 1 1 g1) (hd : dp ≤ 6) : ∀ (k : Nat) {a0 : Nat} {h : jH} {q : Int32 × jH} (F : Nat) (k0 : Nat) (W : jWd) (s : Nat) (R : rr (oc h) a0 b L st m k0 W s dp) (hF : 4 * m + 1 ≤ F + 4 * k0), F_X12_readAllOf_9 n g0 g1 g2 k a0 h = some q → lwR a0 b L st m h q.1 q.2 W s dp (rdG T F 3 dp k0)
  | 0, a0, h, q, F, k0, W, s, R, hF, hf => by cases hf
  | k + 1, a0, h, q, F, k0, W, s, R, hF, hf => by
    replace hf : F_X12_readAllOf_9_b n g0 g1 g2 (F_X12_readAllOf_9 n g0 g1 g2 k) a0 h = some q := hf
    unfold F_X12_readAllOf_9_b at hf
    have km9 := R.2.2.2.2.2.1
    obtain ⟨F, rfl⟩ : ∃ F2, F = F2 + 1 := ⟨F - 1, by omega⟩
    replace hf := jbind hf
    obtain ⟨q12, e1, hf⟩ := hf
    replace e1 := (jcv_o e1).2
    obtain ⟨d1, g1, f1, z1⟩ := T_passes (w := 12) H (by decide) R.1 e1
    replace hf := jite hf
    rcases hf with ⟨c2, hf⟩ | ⟨c2, hf⟩
    · skip
      cases hf
      -- leaf 0: ((1 : Int32), q12.2)
      rcases d1 with ⟨w, -⟩ | ⟨-, t1, y1⟩
      · exact absurd (c2.symm.trans w) (by decide)
      exact lwR_nl ((rdG_3 (T := T) (F := F) (dp := dp) (k := k0)).trans (if_neg t1)) rfl (rr_fr R f1 y1 (Nat.le_refl _) km9) (fr2 f1) z1
    · skip
      replace hf := jbind hf
      obtain ⟨q19, e3, hf⟩ := hf
      replace e3 := (jcv_o e3).2
      rcases d1 with ⟨-, t1, y1⟩ | ⟨w, -⟩
      rotate_left
      · exact absurd w c2
      have km := tk_m H (k := k0) (by rw [t1]; decide)
      have R2 := rr_fr R f1 y1 (Nat.le_succ _) km
      have A := G a0 (k0 + 1) W s dp F q12.2 q19 R2 hd (by omega) e3
      have E := (rdG_3 (T := T) (F := F) (dp := dp) (k := k0)).trans (if_pos t1)
      replace hf := jite hf
      rcases hf with ⟨c4, hf⟩ | ⟨c4, hf⟩
      · skip
        cases hf
        -- leaf 10: ((0 : Int32), q19.2)
        rcases hA : rdG T F 1 dp (k0 + 1) with d | f
        · exact absurd (c4.symm.trans (A.1 d hA).1) (by decide)
        obtain ⟨v9, g9⟩ := A.2.1 f hA
        rw [E]
        exact lwR_r (sq_r hA) rfl g9 (frQ_tr (fr2 f1) A.2.2.1) (A.2.2.2.trans z1)
      · skip
        replace hf := jbind hf
        obtain ⟨h31, e5, hf⟩ := hf
        replace e5 := (jcv_o e5).2
        rcases hA : rdG T F 1 dp (k0 + 1) with d | f
        rotate_left
        · exact absurd (A.2.1 f hA).1 c4
        obtain ⟨-, R4⟩ := A.1 d hA
        have gi := g_i H F km hA
        have sk := R.2.2.2.2.1
        obtain ⟨R5, f5, z5⟩ := rr_em R4 (by omega) e5
        -- leaf 11: rc9 a0 h31
        have B := E_X12_readAllOf_9 H G hd k F d.1 _ _ R5 (by omega) hf
        rw [E]
        exact lwR_sq hA (frQ_tr (fr2 f1) A.2.2.1) (A.2.2.2.trans z1) (lwR_sq (f := fun i => rdG T F 3 dp i) (d := (d.1, [(16, 0)])) rfl f5 z5 B)
theorem E_X12_readAllOf {b : Nat → Int32} {L : Nat} {m : Nat} {T : Nat → Int32 × Int32} {st : Nat → Nat} {en : Nat → Nat} {k : Nat} {W : jWd} {s : Nat} {dp : Nat} {F : Nat} {n : Nat} {g0 : Nat → jH → Option (Int32 × jH)} {g1 : Nat → jH → Option (Int32 × jH)} {g2 : Nat → jH → Option (Int32 × jH)} {a0 : Nat} {h : jH} {q : Int32 × jH} (H : tkE b L m T st en) (G1 : gPr b L m T st 1 1 g1) (R : rr (oc h) a0 b L st m k W s dp) (hd : dp ≤ 6) (hF : 4 * m + 2 ≤ F + 4 * k) (hf : F_X12_readAllOf n g0 g1 g2 a0 h = some q) : lwR a0 b L st m h q.1 q.2 W s dp (rdG T F 2 dp k) := by
  unfold F_X12_readAllOf at hf
  have km9 := R.2.2.2.2.2.1
  obtain ⟨F, rfl⟩ : ∃ F2, F = F2 + 1 := ⟨F - 1, by omega⟩
  replace hf := jbind hf
  obtain ⟨q1, e1, hf⟩ := hf
  replace e1 := (jcv_o e1).2
  have A := G1 a0 k W s dp F h q1 R hd (by omega) e1
  replace hf := jite hf
  rcases hf with ⟨c2, hf⟩ | ⟨c2, hf⟩
  · skip
    cases hf
    -- leaf 0: ((0 : Int32), q1.2)
    rcases hA : rdG T F 1 dp k with d | f
    · exact absurd (c2.symm.trans (A.1 d hA).1) (by decide)
    rw [c2] at A
    rw [rdG_2]
    exact lwR_sr A hA
  · skip
    -- leaf 1: F_X12_readAllOf_9 n g0 g1 g2 n a0 q1.2
    rcases hA : rdG T F 1 dp k with d | f
    rotate_left
    · exact absurd (A.2.1 f hA).1 c2
    obtain ⟨-, R4⟩ := A.1 d hA
    have gi := g_i H F km9 hA
    have gi4 := gi.2.2.2 (by decide)
    rw [rdG_2]
    exact lwR_sq hA A.2.2.1 A.2.2.2 (E_X12_readAllOf_9 H G1 hd n F d.1 _ _ R4 (by omega) hf)
theorem E_X12_readCond_9 {n : Nat} {g0 : Nat → jH → Option (Int32 × jH)} {g1 : Nat → jH → Option (Int32 × jH)} {g2 : Nat → jH → Option (Int32 × jH)} {b : Nat → Int32} {L : Nat} {m : Nat} {T : Nat → Int32 × Int32} {st : Nat → Nat} {en : Nat → Nat} {dp : Nat} (H : tkE b L m T st en) (G : gPr b L m T st 2 2 g2) (hd : dp ≤ 6) : ∀ (k : Nat) {a0 : Nat} {h : jH} {q : Int32 × jH} (F : Nat) (k0 : Nat) (W : jWd) (s : Nat) (R : rr (oc h) a0 b L st m k0 W s dp) (hF : 4 * m + 1 ≤ F + 4 * k0), F_X12_readCond_9 n g0 g1 g2 k a0 h = some q → lwR a0 b L st m h q.1 q.2 W s dp (rdG T F 4 dp k0)
  | 0, a0, h, q, F, k0, W, s, R, hF, hf => by cases hf
  | k + 1, a0, h, q, F, k0, W, s, R, hF, hf => by
    replace hf : F_X12_readCond_9_b n g0 g1 g2 (F_X12_readCond_9 n g0 g1 g2 k) a0 h = some q := hf
    unfold F_X12_readCond_9_b at hf
    have km9 := R.2.2.2.2.2.1
    obtain ⟨F, rfl⟩ : ∃ F2, F = F2 + 1 := ⟨F - 1, by omega⟩
    replace hf := jbind hf
    obtain ⟨q12, e1, hf⟩ := hf
    replace e1 := (jcv_o e1).2
    obtain ⟨d1, g1, f1, z1⟩ := T_passes (w := 13) H (by decide) R.1 e1
    replace hf := jite hf
    rcases hf with ⟨c2, hf⟩ | ⟨c2, hf⟩
    · skip
      cases hf
      -- leaf 0: ((1 : Int32), q12.2)
      rcases d1 with ⟨w, -⟩ | ⟨-, t1, y1⟩
      · exact absurd (c2.symm.trans w) (by decide)
      exact lwR_nl ((rdG_4 (T := T) (F := F) (dp := dp) (k := k0)).trans (if_neg t1)) rfl (rr_fr R f1 y1 (Nat.le_refl _) km9) (fr2 f1) z1
    · skip
      replace hf := jbind hf
      obtain ⟨q19, e3, hf⟩ := hf
      replace e3 := (jcv_o e3).2
      rcases d1 with ⟨-, t1, y1⟩ | ⟨w, -⟩
      rotate_left
      · exact absurd w c2
      have km := tk_m H (k := k0) (by rw [t1]; decide)
      have R2 := rr_fr R f1 y1 (Nat.le_succ _) km
      have A := G a0 (k0 + 1) W s dp F q12.2 q19 R2 hd (by omega) e3
      have E := (rdG_4 (T := T) (F := F) (dp := dp) (k := k0)).trans (if_pos t1)
      replace hf := jite hf
      rcases hf with ⟨c4, hf⟩ | ⟨c4, hf⟩
      · skip
        cases hf
        -- leaf 10: ((0 : Int32), q19.2)
        rcases hA : rdG T F 2 dp (k0 + 1) with d | f
        · exact absurd (c4.symm.trans (A.1 d hA).1) (by decide)
        obtain ⟨v9, g9⟩ := A.2.1 f hA
        rw [E]
        exact lwR_r (sq_r hA) rfl g9 (frQ_tr (fr2 f1) A.2.2.1) (A.2.2.2.trans z1)
      · skip
        replace hf := jbind hf
        obtain ⟨h31, e5, hf⟩ := hf
        replace e5 := (jcv_o e5).2
        rcases hA : rdG T F 2 dp (k0 + 1) with d | f
        rotate_left
        · exact absurd (A.2.1 f hA).1 c4
        obtain ⟨-, R4⟩ := A.1 d hA
        have gi := g_i H F km hA
        have sk := R.2.2.2.2.1
        obtain ⟨R5, f5, z5⟩ := rr_em R4 (by omega) e5
        -- leaf 11: rc9 a0 h31
        have B := E_X12_readCond_9 H G hd k F d.1 _ _ R5 (by omega) hf
        rw [E]
        exact lwR_sq hA (frQ_tr (fr2 f1) A.2.2.1) (A.2.2.2.trans z1) (lwR_sq (f := fun i => rdG T F 4 dp i) (d := (d.1, [(17, 0)])) rfl f5 z5 B)
theorem E_X12_readCond {b : Nat → Int32} {L : Nat} {m : Nat} {T : Nat → Int32 × Int32} {st : Nat → Nat} {en : Nat → Nat} {k : Nat} {W : jWd} {s : Nat} {dp : Nat} {F : Nat} {n : Nat} {g0 : Nat → jH → Option (Int32 × jH)} {g1 : Nat → jH → Option (Int32 × jH)} {g2 : Nat → jH → Option (Int32 × jH)} {a0 : Nat} {h : jH} {q : Int32 × jH} (H : tkE b L m T st en) (G2 : gPr b L m T st 2 2 g2) (R : rr (oc h) a0 b L st m k W s dp) (hd : dp ≤ 6) (hF : 4 * m + 3 ≤ F + 4 * k) (hf : F_X12_readCond n g0 g1 g2 a0 h = some q) : lwR a0 b L st m h q.1 q.2 W s dp (rdG T F 0 dp k) := by
  unfold F_X12_readCond at hf
  have km9 := R.2.2.2.2.2.1
  obtain ⟨F, rfl⟩ : ∃ F2, F = F2 + 1 := ⟨F - 1, by omega⟩
  replace hf := jbind hf
  obtain ⟨q1, e1, hf⟩ := hf
  replace e1 := (jcv_o e1).2
  have A := G2 a0 k W s dp F h q1 R hd (by omega) e1
  replace hf := jite hf
  rcases hf with ⟨c2, hf⟩ | ⟨c2, hf⟩
  · skip
    cases hf
    -- leaf 0: ((0 : Int32), q1.2)
    rcases hA : rdG T F 2 dp k with d | f
    · exact absurd (c2.symm.trans (A.1 d hA).1) (by decide)
    rw [c2] at A
    rw [rdG_0]
    exact lwR_sr A hA
  · skip
    -- leaf 1: F_X12_readCond_9 n g0 g1 g2 n a0 q1.2
    rcases hA : rdG T F 2 dp k with d | f
    rotate_left
    · exact absurd (A.2.1 f hA).1 c2
    obtain ⟨-, R4⟩ := A.1 d hA
    have gi := g_i H F km9 hA
    have gi4 := gi.2.2.2 (by decide)
    rw [rdG_0]
    exact lwR_sq hA A.2.2.1 A.2.2.2 (E_X12_readCond_9 H G2 hd n F d.1 _ _ R4 (by omega) hf)
theorem R_MC {b : Nat → Int32} {L m : Nat} {T : Nat → Int32 × Int32} {st en : Nat → Nat} (H : tkE b L m T st en) {n : Nat} : ∀ d : Nat, gPr b L m T st 0 3 (FG_MC n d 0) ∧ gPr b L m T st 1 1 (FG_MC n d 1) ∧ gPr b L m T st 2 2 (FG_MC n d 2)
  | 0 => ⟨fun a0 k W s dp F h q R hd hF e => (by cases e), fun a0 k W s dp F h q R hd hF e => (by cases e), fun a0 k W s dp F h q R hd hF e => (by cases e)⟩
  | d + 1 => by
    obtain ⟨i0, i1, i2⟩ := R_MC H (n := n) d
    refine ⟨fun a0 k W s dp F h q R hd hF e => ?_, fun a0 k W s dp F h q R hd hF e => ?_, fun a0 k W s dp F h q R hd hF e => ?_⟩
    · have e2 : F_X12_readCond n (FG_MC n d 0) (FG_MC n d 1) (FG_MC n d 2) a0 h = some q := e
      exact E_X12_readCond H i2 R hd hF e2
    · have e2 : F_X12_readAtom n (FG_MC n d 0) (FG_MC n d 1) (FG_MC n d 2) a0 h = some q := e
      exact E_X12_readAtom H i0 i1 R hd hF e2
    · have e2 : F_X12_readAllOf n (FG_MC n d 0) (FG_MC n d 1) (FG_MC n d 2) a0 h = some q := e
      exact E_X12_readAllOf H i1 R hd hF e2
end
section
/-! a line of a law's text, the reference -/
abbrev jLn : Type := (Int32 × Int32) × List (Int32 × Int32)
def lnW (W : jWd) (n s : Nat) (e : jLn) : jWd := upd (emW (upd (upd (upd W (1285 + 4 * n) e.1.1) (1286 + 4 * n) e.1.2) (1287 + 4 * n) (nI s)) s e.2) (1288 + 4 * n) (nI (s + e.2.length))
def lwS (W0 : jWd) (S : List jLn) : jWd × Nat × Nat := S.foldl (fun a e => (lnW a.1 a.2.1 a.2.2 e, a.2.1 + 1, a.2.2 + e.2.length)) (W0, 0, 0)
theorem lwS_app {W0 : jWd} {S : List jLn} {e : jLn} : lwS W0 (S ++ [e]) = (lnW (lwS W0 S).1 (lwS W0 S).2.1 (lwS W0 S).2.2 e, (lwS W0 S).2.1 + 1, (lwS W0 S).2.2 + e.2.length) := by
  unfold lwS
  rw [List.foldl_append]
  rfl
def kdL (w : Int32) : Int32 := if w = 3 then 0 else if w = 15 then 1 else 2
/-- what comes behind a line's first word -/
def rdLT (T : Nat → Int32 × Int32) (k : Nat) : jRd := if nOK T k 0 100 then (if (T (k + 1)).1 = 14 then rdG T 2000 0 0 (k + 2) else .inl (k + 1, [])) else .inr k
def rdLaw (T : Nat → Int32 × Int32) (S : List jLn) (k : Nat) : (Nat × List jLn) ⊕ Nat :=
  if (T k).1 = 3 ∨ (T k).1 = 15 ∨ (T k).1 = 16 then
    match rdLT T (k + 1) with
    | .inr f => .inr f
    | .inl d => .inl (d.1, S ++ [((kdL (T k).1, (T (k + 1)).2), d.2)])
  else .inr k
/-- the reference behind j lines -/
def lawP (x : Nat) (W0 : jWd) (O : jO) (S : List jLn) (j k : Nat) : Prop := wl O x = (lwS W0 S).1 ∧ oi O x 16 = nI (lwS W0 S).2.2 ∧ (lwS W0 S).2.1 = j ∧ (lwS W0 S).2.2 ≤ k
theorem nI_l1 {n : Nat} : (1285 : Int32) + (4 : Int32) * nI n = nI (1285 + 4 * n) := by
  show nI 1285 + nI 4 * nI n = _
  rw [nI_mul, nI_add]
theorem E_X12_readLawLine_53 {b : Nat → Int32} {L : Nat} {m : Nat} {T : Nat → Int32 × Int32} {st : Nat → Nat} {en : Nat → Nat} {k : Nat} {W : jWd} {s : Nat} {j : Nat} {kd : Nat} {n : Nat} {a0 : Nat} {x2 : Int32} {sa0 : Nat} {s1 : Int32} {s2 : Int32} {h : jH} {q : Int32 × jH} (H : tkE b L m T st en) (hs : a0 + 1 = sa0) (h2 : x2 = s1) (hx : s1 = nI (1285 + 4 * j)) (hj : j < 12) (hk : s2 = nI kd) (hkd : kd ≤ 2) (R : rc (oc h) a0 b L st k) (hW : wl (oc h) a0 = W) (g : oi (oc h) a0 16 = nI s) (sk : s ≤ k) (hm4 : m ≤ 400) (hf : F_X12_readLawLine_53 n a0 x2 sa0 s1 s2 h = some q) : (∀ d, rdLT T k = .inl d → q.1 = 1 ∧ rc (oc q.2) a0 b L st d.1 ∧ wl (oc q.2) a0 = lnW W j s ((nI kd, (T k).2), d.2) ∧ oi (oc q.2) a0 16 = nI (s + d.2.length) ∧ s + d.2.length ≤ d.1) ∧ (∀ f, rdLT T k = .inr f → q.1 = 0 ∧ oi (oc q.2) a0 12 = nI (st f)) ∧ frQ a0 (oc h) (oc q.2) ∧ q.2.1 = h.1 := by
  unfold F_X12_readLawLine_53 at hf
  subst h2 hs hk
  subst hx
  have M := rc_mS R
  have x_1 : nI (1285 + 4 * j) + (1 : Int32) = nI (1286 + 4 * j) := by rw [nI_1]; congr 1; omega
  have x_2 : nI (1285 + 4 * j) + (2 : Int32) = nI (1287 + 4 * j) := by have : nI (1285 + 4 * j) + nI 2 = nI (1285 + 4 * j + 2) := nI_add _ _; rw [show (2 : Int32) = nI 2 from rfl, this]; congr 1; omega
  have x_3 : nI (1285 + 4 * j) + (3 : Int32) = nI (1288 + 4 * j) := by have : nI (1285 + 4 * j) + nI 3 = nI (1285 + 4 * j + 3) := nI_add _ _; rw [show (3 : Int32) = nI 3 from rfl, this]; congr 1; omega
  replace hf := jbind hf
  obtain ⟨h53, e1, hf⟩ := hf
  obtain ⟨o1, z1, y1⟩ := oc_as e1
  rw [jnar0] at o1
  clear e1
  replace hf := jbind hf
  obtain ⟨p55, e2, hf⟩ := hf
  have r2 := oc_gR e2
  rw [o1] at r2
  rw [u2_ne (Or.inl (by omega))] at r2
  rw [M.1] at r2
  cases r2
  clear e2
  replace hf := jbind hf
  obtain ⟨v59, e3, hf⟩ := hf
  obtain ⟨r3, y3⟩ := oc_al e3
  rw [o1] at r3
  rw [oi_eq] at r3
  subst r3
  clear e3
  replace hf := jite hf
  rcases hf with ⟨c4, hf⟩ | ⟨c4, hf⟩
  · skip
    replace hf := jbind hf
    obtain ⟨p66, e5, hf⟩ := hf
    have r5 := oc_gR e5
    rw [o1] at r5
    rw [u2_ne (Or.inl (by omega))] at r5
    rw [M.1] at r5
    cases r5
    clear e5
    replace hf := jbind hf
    obtain ⟨q76, e6, hf⟩ := hf
    replace e6 := (jcv_o e6).2
    rw [nI_cl (by omega)] at o1
    have f1 : frM a0 [1] [] (oc h) (oc h53) := by rw [o1]; exact frM_c (by decide)
    have F1 : frQ a0 (oc h) (oc h53) := by rw [o1]; exact frQ_w (by omega)
    have w1 : wl (oc h53) a0 = upd W (1285 + 4 * j) (nI kd) := by rw [o1, wl_w, hW]
    have R53 : rc (oc h53) a0 b L st k := rc_fr R f1 (by decide) (by decide) (by decide) (by decide) (by decide)
    obtain ⟨d6, M6, g6, f6, z6⟩ := T_number H (by decide) R53 e6
    have g16 : oi (oc q76.2) a0 16 = nI s := (frM_oi f6 (by decide) (by decide)).trans ((frM_oi f1 (by decide) (by decide)).trans g)
    replace hf := jbind hf
    obtain ⟨h79, e7, hf⟩ := hf
    obtain ⟨o7, z7, y7⟩ := oc_as e7
    rw [jnar0] at o7
    clear e7
    replace hf := jbind hf
    obtain ⟨p81, e8, hf⟩ := hf
    have r8 := oc_gR e8
    rw [o7] at r8
    rw [u2_ne (Or.inl (by omega))] at r8
    rw [M6.1] at r8
    cases r8
    clear e8
    replace hf := jbind hf
    obtain ⟨v87, e9, hf⟩ := hf
    obtain ⟨r9, y9⟩ := oc_al e9
    rw [o7] at r9
    rw [oi_eq] at r9
    subst r9
    clear e9
    replace hf := jite hf
    rcases hf with ⟨c10, hf⟩ | ⟨c10, hf⟩
    · skip
      replace hf := jbind hf
      obtain ⟨p94, e11, hf⟩ := hf
      have r11 := oc_gR e11
      rw [o7] at r11
      rw [u2_ne (Or.inl (by omega))] at r11
      rw [M6.1] at r11
      cases r11
      clear e11
      replace hf := jbind hf
      obtain ⟨v101, e12, hf⟩ := hf
      have r12 := oc_gI e12
      rw [o7] at r12
      rw [oi_ne (Or.inl (by omega))] at r12
      subst r12
      clear e12
      replace hf := jbind hf
      obtain ⟨h104, e13, hf⟩ := hf
      obtain ⟨o13, z13, y13⟩ := oc_as e13
      rw [jnar0] at o13
      clear e13
      replace hf := jbind hf
      obtain ⟨h107, e14, hf⟩ := hf
      obtain ⟨o14, z14⟩ := oc_pf e14
      clear e14
      replace hf := jbind hf
      obtain ⟨q113, e15, hf⟩ := hf
      replace e15 := (jcv_o e15).2
      rw [x_1, nI_cl (by omega)] at o7
      rw [x_2, nI_cl (by omega), g16] at o13
      rcases d6 with ⟨v6, y6, R6⟩ | ⟨v6, y6⟩
      rotate_left
      · rw [v6] at c10; exact absurd c10 (by decide)
      have km := tk_n3 H y6.1
      rw [v6] at o7
      have f7 : frM a0 [1] [13] (oc q76.2) (oc h107) := by rw [o14, o13, o7]; exact frM_tr (frM_c (by decide)) (frM_tr (frM_c (by decide)) (frM_f (by decide)))
      have F7 : frQ a0 (oc q76.2) (oc h107) := by rw [o14, o13, o7]; exact frQ_tr (frQ_w (by omega)) (frQ_tr (frQ_w (by omega)) (frQ_f (by decide)))
      have w7 : wl (oc h107) a0 = upd (upd (upd W (1285 + 4 * j) (nI kd)) (1286 + 4 * j) (T k).2) (1287 + 4 * j) (nI s) := by rw [o14, wl_n (by omega), o13, wl_w, o7, wl_w, wl_f f6 (by decide), w1]
      have R7 : rc (oc h107) a0 b L st (k + 1) := rc_fr R6 f7 (by decide) (by decide) (by decide) (by decide) (by decide)
      have d13 : oi (oc h107) a0 13 = nI 0 := by rw [o14, oi_eq]; rfl
      have s16 : oi (oc h107) a0 16 = nI s := (frM_oi f7 (by decide) (by decide)).trans g16
      obtain ⟨d15, g15, f15, z15⟩ := T_passes (w := 14) H (by decide) R7 e15
      have w15 : wl (oc q113.2) a0 = upd (upd (upd W (1285 + 4 * j) (nI kd)) (1286 + 4 * j) (T k).2) (1287 + 4 * j) (nI s) := (wl_f f15 (by decide)).trans w7
      have s15 : oi (oc q113.2) a0 16 = nI s := (frM_oi f15 (by decide) (by decide)).trans s16
      have FF : frQ a0 (oc h) (oc q113.2) := frQ_tr F1 (frQ_tr (fr2 f6) (frQ_tr F7 (fr2 f15)))
      have ZZ : q113.2.1 = h.1 := z15.trans (z14.trans (z13.trans (z7.trans (z6.trans z1))))
      have M15 : mS (oc q113.2) a0 := mS_fr (rc_mS R7) f15 (by decide) (by decide)
      replace hf := jite hf
      rcases hf with ⟨c16, hf⟩ | ⟨c16, hf⟩
      · skip
        replace hf := jbind hf
        obtain ⟨p129, e17, hf⟩ := hf
        have r17 := oc_gR e17
        rw [M15.1] at r17
        cases r17
        clear e17
        replace hf := jbind hf
        obtain ⟨v136, e18, hf⟩ := hf
        have r18 := oc_gI e18
        subst r18
        clear e18
        replace hf := jbind hf
        obtain ⟨h139, e19, hf⟩ := hf
        obtain ⟨o19, z19, y19⟩ := oc_as e19
        rw [jnar0] at o19
        clear e19
        cases hf
        -- leaf 000: ((1 : Int32), h139)
        rcases d15 with ⟨w, -⟩ | ⟨-, t15, R15⟩
        · exact absurd (c16.symm.trans w) (by decide)
        rw [x_3, nI_cl (by omega), s15] at o19
        have E : rdLT T k = .inl (k + 1, []) := by unfold rdLT; rw [if_pos y6, if_neg (show ¬ (T (k + 1)).1 = 14 from t15)]
        have f19 : frM a0 [1] [] (oc q113.2) (oc h139) := by rw [o19]; exact frM_c (by decide)
        have w19 : wl (oc h139) a0 = lnW W j s ((nI kd, (T k).2), []) := by rw [o19, wl_w, w15]; rfl
        have s19 : oi (oc h139) a0 16 = nI s := (frM_oi f19 (by decide) (by decide)).trans s15
        refine ⟨fun d y => ?_, fun f y => (by rw [E] at y; cases y), frQ_tr FF (by rw [o19]; exact frQ_w (by omega)), z19.trans ZZ⟩
        rw [E] at y
        cases y
        exact ⟨rfl, rc_fr R15 f19 (by decide) (by decide) (by decide) (by decide) (by decide), w19, s19, by simp; omega⟩
      · skip
        replace hf := jbind hf
        obtain ⟨q120, e20, hf⟩ := hf
        replace e20 := (jcv_o e20).2
        rcases d15 with ⟨-, t15, R15⟩ | ⟨w, -⟩
        rotate_left
        · exact absurd w c16
        have km2 := tk_m H (k := k + 1) (by rw [t15]; decide)
        have hm := H.2.2.2.1
        have m4 : m ≤ 400 := hm4
        have A := (R_MC H (n := n) 30).1 a0 (k + 1 + 1) _ s 0 2000 q113.2 q120 ⟨R15, w15, s15, (frM_oi f15 (by decide) (by decide)).trans d13, by omega, by omega, m4⟩ (by omega) (by omega) e20
        have M20 : mS (oc q120.2) a0 := mS_fr M15 (frQ_M A.2.2.1) (by decide) (by decide)
        have E : rdLT T k = rdG T 2000 0 0 (k + 2) := by unfold rdLT; rw [if_pos y6, if_pos (show (T (k + 1)).1 = 14 from t15)]
        replace hf := jite hf
        rcases hf with ⟨c21, hf⟩ | ⟨c21, hf⟩
        · skip
          cases hf
          -- leaf 0010: ((0 : Int32), q120.2)
          refine ⟨fun d y => ?_, fun f y => ?_, frQ_tr FF A.2.2.1, A.2.2.2.trans ZZ⟩
          · rw [E] at y; exact absurd (c21.symm.trans (A.1 d y).1) (by decide)
          · rw [E] at y; exact ⟨rfl, (A.2.1 f y).2⟩
        · skip
          replace hf := jbind hf
          obtain ⟨p129, e22, hf⟩ := hf
          have r22 := oc_gR e22
          rw [M20.1] at r22
          cases r22
          clear e22
          replace hf := jbind hf
          obtain ⟨v136, e23, hf⟩ := hf
          have r23 := oc_gI e23
          subst r23
          clear e23
          replace hf := jbind hf
          obtain ⟨h139, e24, hf⟩ := hf
          obtain ⟨o24, z24, y24⟩ := oc_as e24
          rw [jnar0] at o24
          clear e24
          cases hf
          -- leaf 0011: ((1 : Int32), h139)
          rw [x_3, nI_cl (by omega)] at o24
          have F24 : frQ a0 (oc q120.2) (oc h139) := by rw [o24]; exact frQ_w (by omega)
          have f24 : frM a0 [1] [] (oc q120.2) (oc h139) := by rw [o24]; exact frM_c (by decide)
          refine ⟨fun d y => ?_, fun f y => ?_, frQ_tr FF (frQ_tr A.2.2.1 F24), z24.trans (A.2.2.2.trans ZZ)⟩
          · rw [E] at y
            obtain ⟨-, Rd⟩ := A.1 d y
            have s24 : oi (oc q120.2) a0 16 = nI (s + d.2.length) := Rd.2.2.1
            rw [s24] at o24
            exact ⟨rfl, rc_fr Rd.1 f24 (by decide) (by decide) (by decide) (by decide) (by decide), by rw [o24, wl_w, Rd.2.1]; rfl, (frM_oi f24 (by decide) (by decide)).trans s24, Rd.2.2.2.2.1⟩
          · rw [E] at y
            exact absurd (A.2.1 f y).1 c21
    · skip
      cases hf
      -- leaf 01: ((0 : Int32), h79)
      rw [x_1, nI_cl (by omega)] at o7
      have F7 : frQ a0 (oc q76.2) (oc h79) := by rw [o7]; exact frQ_w (by omega)
      have f7 : frM a0 [1] [] (oc q76.2) (oc h79) := by rw [o7]; exact frM_c (by decide)
      have ny : ¬ nOK T k 0 100 := by
        rcases d6 with ⟨v6, y6, -⟩ | ⟨-, y6⟩
        · exact absurd (by rw [v6]; exact y6.2.1) c10
        · exact y6
      have E : rdLT T k = .inr k := if_neg ny
      refine ⟨fun d y => (by rw [E] at y; cases y), fun f y => ?_, frQ_tr F1 (frQ_tr (fr2 f6) F7), z7.trans (z6.trans z1)⟩
      rw [E] at y
      cases y
      exact ⟨rfl, (frM_oi f7 (by decide) (by decide)).trans g6⟩
  · skip
    cases hf
    -- leaf 1: ((0 : Int32), h53)
    exact absurd (by rw [Int32.le_iff_toInt_le, nI_toInt (by omega)]; have l0 : (0 : Int32).toInt = 0 := rfl; omega) c4
theorem no_53 {n a0 : Nat} {x2 s1 : Int32} {h : jH} {q : Int32 × jH} (M : mS (oc h) a0) {j : Nat} (hj : j < 12) (h2 : x2 = s1) (hx : s1 = nI (1285 + 4 * j)) (hf : F_X12_readLawLine_53 n a0 x2 (a0 + 1) s1 (-1) h = some q) : q.1 = 0 ∧ frM a0 [1] [] (oc h) (oc q.2) ∧ frQ a0 (oc h) (oc q.2) ∧ q.2.1 = h.1 := by
  subst h2
  subst hx
  unfold F_X12_readLawLine_53 at hf
  obtain ⟨h53, e1, hf⟩ := jbind hf
  obtain ⟨o1, z1, -⟩ := oc_as e1
  rw [jnar0, nI_cl (by omega)] at o1
  obtain ⟨p55, e2, hf⟩ := jbind hf
  have r2 := oc_gR e2
  rw [o1, u2_ne (Or.inl (by omega)), M.1] at r2
  cases r2
  obtain ⟨v59, e3, hf⟩ := jbind hf
  obtain ⟨r3, -⟩ := oc_al e3
  rw [o1, nI_cl (by omega), oi_eq] at r3
  subst r3
  rw [if_neg (by decide)] at hf
  cases hf
  have f1 : frM a0 [1] [] (oc h) (oc h53) := by rw [o1]; exact frM_c (by decide)
  exact ⟨rfl, f1, by show frQ a0 (oc h) (oc h53); rw [o1]; exact frQ_w (by omega), z1⟩
end
section
/-! law, the reference -/
theorem E_X12_readLawLine {b : Nat → Int32} {L : Nat} {m : Nat} {T : Nat → Int32 × Int32} {st : Nat → Nat} {en : Nat → Nat} {k : Nat} {W : jWd} {s : Nat} {j : Nat} {n : Nat} {a0 : Nat} {x1 : Int32} {h : jH} {q : Int32 × jH} (H : tkE b L m T st en) (R : rw2 (oc h) a0 b L st k) (hx : x1 = nI j) (hj : j < 12) (hW : wl (oc h) a0 = W) (g : oi (oc h) a0 16 = nI s) (sk : s ≤ k) (hm4 : m ≤ 400) (hf : F_X12_readLawLine n a0 x1 h = some q) : (((T k).1 = 3 ∨ (T k).1 = 15 ∨ (T k).1 = 16) → (∀ d, rdLT T (k + 1) = .inl d → q.1 = 1 ∧ rc (oc q.2) a0 b L st d.1 ∧ wl (oc q.2) a0 = lnW W j s ((kdL (T k).1, (T (k + 1)).2), d.2) ∧ oi (oc q.2) a0 16 = nI (s + d.2.length) ∧ s + d.2.length ≤ d.1) ∧ (∀ f, rdLT T (k + 1) = .inr f → q.1 = 0 ∧ oi (oc q.2) a0 12 = nI (st f))) ∧ (¬ ((T k).1 = 3 ∨ (T k).1 = 15 ∨ (T k).1 = 16) → q.1 = 0 ∧ oi (oc q.2) a0 12 = nI (st k)) ∧ frQ a0 (oc h) (oc q.2) ∧ q.2.1 = h.1 := by
  unfold F_X12_readLawLine at hf
  have M := rw_mS R
  replace hf := jbind hf
  obtain ⟨p9, e1, hf⟩ := hf
  have r1 := oc_gR e1
  rw [M.1] at r1
  cases r1
  clear e1
  replace hf := jbind hf
  obtain ⟨v16, e2, hf⟩ := hf
  replace e2 := (jcv_o e2).2
  have r2 := T_isWord (w := 3) H (by decide) R e2
  replace hf := jite hf
  rcases hf with ⟨c3, hf⟩ | ⟨c3, hf⟩
  · skip
    replace hf := jbind hf
    obtain ⟨v29, e4, hf⟩ := hf
    replace e4 := (jcv_o e4).2
    have r4 := T_isWord (w := 15) H (by decide) R e4
    replace hf := jite hf
    rcases hf with ⟨c5, hf⟩ | ⟨c5, hf⟩
    · skip
      replace hf := jbind hf
      obtain ⟨v42, e6, hf⟩ := hf
      replace e6 := (jcv_o e6).2
      have r6 := T_isWord (w := 16) H (by decide) R e6
      replace hf := jite hf
      rcases hf with ⟨c7, hf⟩ | ⟨c7, hf⟩
      · skip
        -- leaf 000: F_X12_readLawLine_53 n a0 ((1285 : Int32) + ((4 : Int32) * x1)) p9 ((1285 : Int32) + ((4 : Int32) * 
        have n : ∀ w : Nat, w = 3 ∨ w = 15 ∨ w = 16 → (T k).1 ≠ nI w := fun w hw z => by
          rcases hw with y | y | y <;> subst y
          · exact absurd ((r2.2.mpr z).symm.trans c3) (by decide)
          · exact absurd ((r4.2.mpr z).symm.trans c5) (by decide)
          · exact absurd ((r6.2.mpr z).symm.trans c7) (by decide)
        obtain ⟨e, Rb, -, g9⟩ := R
        obtain ⟨a1, a2, a3, a4⟩ := no_53 M hj rfl (by rw [hx]; exact nI_l1) hf
        refine ⟨fun z => ?_, fun _ => ⟨a1, (frM_oi a2 (by decide) (by decide)).trans g9⟩, a3, a4⟩
        rcases z with z | z | z
        · exact absurd z (n 3 (by decide))
        · exact absurd z (n 15 (by decide))
        · exact absurd z (n 16 (by decide))
      · skip
        -- leaf 001: F_X12_readLawLine_53 n a0 ((1285 : Int32) + ((4 : Int32) * x1)) p9 ((1285 : Int32) + ((4 : Int32) * 
        have eT : (T k).1 = nI 16 := r6.2.mp (r6.1.resolve_left c7)
        have R1 := rw_n H (w := 16) (by decide) R eT
        obtain ⟨a1, a2, a3, a4⟩ := E_X12_readLawLine_53 (j := j) (s := s) (W := W) (kd := 2) H rfl rfl (by rw [hx]; exact nI_l1) hj rfl (by decide) R1 hW g (by omega) hm4 hf
        have ek : kdL (T k).1 = nI 2 := by rw [eT]; rfl
        refine ⟨fun _ => ⟨fun d y => ?_, a2⟩, fun n => absurd (Or.inr (Or.inr eT)) n, a3, a4⟩
        rw [ek]
        exact a1 d y
    · skip
      -- leaf 01: F_X12_readLawLine_53 n a0 ((1285 : Int32) + ((4 : Int32) * x1)) p9 ((1285 : Int32) + ((4 : Int32) * 
      have eT : (T k).1 = nI 15 := r4.2.mp (r4.1.resolve_left c5)
      have R1 := rw_n H (w := 15) (by decide) R eT
      obtain ⟨a1, a2, a3, a4⟩ := E_X12_readLawLine_53 (j := j) (s := s) (W := W) (kd := 1) H rfl rfl (by rw [hx]; exact nI_l1) hj rfl (by decide) R1 hW g (by omega) hm4 hf
      have ek : kdL (T k).1 = nI 1 := by rw [eT]; rfl
      refine ⟨fun _ => ⟨fun d y => ?_, a2⟩, fun n => absurd (Or.inr (Or.inl eT)) n, a3, a4⟩
      rw [ek]
      exact a1 d y
  · skip
    -- leaf 1: F_X12_readLawLine_53 n a0 ((1285 : Int32) + ((4 : Int32) * x1)) p9 ((1285 : Int32) + ((4 : Int32) * 
    have eT : (T k).1 = nI 3 := r2.2.mp (r2.1.resolve_left c3)
    have R1 := rw_n H (w := 3) (by decide) R eT
    obtain ⟨a1, a2, a3, a4⟩ := E_X12_readLawLine_53 (j := j) (s := s) (W := W) (kd := 0) H rfl rfl (by rw [hx]; exact nI_l1) hj rfl (by decide) R1 hW g (by omega) hm4 hf
    have ek : kdL (T k).1 = nI 0 := by rw [eT]; rfl
    refine ⟨fun _ => ⟨fun d y => ?_, a2⟩, fun n => absurd (Or.inl eT) n, a3, a4⟩
    rw [ek]
    exact a1 d y
theorem E_X12_readLine_16L {b : Nat → Int32} {L : Nat} {m : Nat} {T : Nat → Int32 × Int32} {st : Nat → Nat} {en : Nat → Nat} {k : Nat} {W : jWd} {s : Nat} {j : Nat} {n : Nat} {a0 : Nat} {x1 : Int32} {x2 : Int32} {s0 : Int32} {s1 : Int32} {h : jH} {q : Int32 × jH} (H : tkE b L m T st en) (R : rw2 (oc h) a0 b L st k) (hx : x2 = nI j) (hx0 : s0 = nI j) (hj : j ≤ 12) (h1 : x1 = 0) (hs1 : s1 = 12) (hW : wl (oc h) a0 = W) (g : oi (oc h) a0 16 = nI s) (sk : s ≤ k) (hm4 : m ≤ 400) (hf : F_X12_readLine_16 n a0 x1 x2 s0 s1 h = some q) : (j < 12 → (((T k).1 = 3 ∨ (T k).1 = 15 ∨ (T k).1 = 16) → (∀ d, rdLT T (k + 1) = .inl d → q.1 = 1 ∧ rc (oc q.2) a0 b L st d.1 ∧ wl (oc q.2) a0 = lnW W j s ((kdL (T k).1, (T (k + 1)).2), d.2) ∧ oi (oc q.2) a0 16 = nI (s + d.2.length) ∧ s + d.2.length ≤ d.1) ∧ (∀ f, rdLT T (k + 1) = .inr f → q.1 = 0 ∧ oi (oc q.2) a0 12 = nI (st f))) ∧ (¬ ((T k).1 = 3 ∨ (T k).1 = 15 ∨ (T k).1 = 16) → q.1 = 0 ∧ oi (oc q.2) a0 12 = nI (st k))) ∧ (j = 12 → q.1 = 0 ∧ oi (oc q.2) a0 12 = nI (st k)) ∧ frQ a0 (oc h) (oc q.2) ∧ q.2.1 = h.1 := by
  unfold F_X12_readLine_16 at hf
  replace hf := jite hf
  rcases hf with ⟨c1, hf⟩ | ⟨c1, hf⟩
  · skip
    cases hf
    -- leaf 0: ((0 : Int32), h)
    rw [hs1, hx0, Int32.le_iff_toInt_le, nI_toInt (by omega), show (12 : Int32).toInt = 12 from rfl] at c1
    obtain ⟨e, Rb, -, g9⟩ := R
    exact ⟨fun z => by omega, fun _ => ⟨rfl, g9⟩, frQ_0, rfl⟩
  · skip
    replace hf := jite hf
    rcases hf with ⟨c2, hf⟩ | ⟨c2, hf⟩
    · skip
      replace hf := jbind hf
      obtain ⟨q35, e3, hf⟩ := hf
      replace e3 := (jcv_o e3).2
      rw [hs1, hx0, Int32.le_iff_toInt_le, nI_toInt (by omega), show (12 : Int32).toInt = 12 from rfl] at c1
      obtain ⟨a1, a2, a3, a4⟩ := E_X12_readLawLine H R hx (by omega) hW g sk hm4 e3
      replace hf := jite hf
      rcases hf with ⟨c4, hf⟩ | ⟨c4, hf⟩
      · skip
        cases hf
        -- leaf 100: ((0 : Int32), q35.2)
        rw [c4] at a1 a2
        exact ⟨fun _ => ⟨a1, a2⟩, fun z => by omega, a3, a4⟩
      · skip
        cases hf
        -- leaf 101: ((1 : Int32), q35.2)
        have e1 : q35.1 = 1 := by
          by_cases z : (T k).1 = 3 ∨ (T k).1 = 15 ∨ (T k).1 = 16
          · rcases hR : rdLT T (k + 1) with p | f
            · exact ((a1 z).1 p hR).1
            · exact absurd ((a1 z).2 f hR).1 c4
          · exact absurd (a2 z).1 c4
        rw [e1] at a1 a2
        exact ⟨fun _ => ⟨a1, a2⟩, fun z => by omega, a3, a4⟩
    · skip
      replace hf := jbind hf
      obtain ⟨q24, e5, hf⟩ := hf
      replace e5 := (jcv_o e5).2
      replace hf := jite hf
      rcases hf with ⟨c6, hf⟩ | ⟨c6, hf⟩
      · skip
        cases hf
        -- leaf 110: ((0 : Int32), q24.2)
        exact absurd h1 c2
      · skip
        cases hf
        -- leaf 111: ((1 : Int32), q24.2)
        exact absurd h1 c2
theorem E_X12_readLineL {b : Nat → Int32} {L : Nat} {m : Nat} {T : Nat → Int32 × Int32} {st : Nat → Nat} {en : Nat → Nat} {k : Nat} {W : jWd} {s : Nat} {j : Nat} {n : Nat} {a0 : Nat} {x1 : Int32} {x2 : Int32} {h : jH} {q : Int32 × jH} (H : tkE b L m T st en) (R : rc (oc h) a0 b L st k) (hx : x2 = nI j) (hj : j ≤ 12) (hp : x1 = 0) (hW : wl (oc h) a0 = W) (g : oi (oc h) a0 16 = nI s) (sk : s ≤ k) (hm4 : m ≤ 400) (hf : F_X12_readLine n a0 x1 x2 h = some q) : (j < 12 → (((T k).1 = 3 ∨ (T k).1 = 15 ∨ (T k).1 = 16) → (∀ d, rdLT T (k + 1) = .inl d → q.1 = 1 ∧ rc (oc q.2) a0 b L st d.1 ∧ wl (oc q.2) a0 = lnW W j s ((kdL (T k).1, (T (k + 1)).2), d.2) ∧ oi (oc q.2) a0 16 = nI (s + d.2.length) ∧ s + d.2.length ≤ d.1) ∧ (∀ f, rdLT T (k + 1) = .inr f → q.1 = 0 ∧ oi (oc q.2) a0 12 = nI (st f))) ∧ (¬ ((T k).1 = 3 ∨ (T k).1 = 15 ∨ (T k).1 = 16) → q.1 = 0 ∧ oi (oc q.2) a0 12 = nI (st k))) ∧ (j = 12 → q.1 = 0 ∧ oi (oc q.2) a0 12 = nI (st k)) ∧ frQ a0 (oc h) (oc q.2) ∧ q.2.1 = h.1 := by
  unfold F_X12_readLine at hf
  replace hf := jbind hf
  obtain ⟨h1, e1, hf⟩ := hf
  replace e1 := (jcv_o e1).2
  obtain ⟨R1, f1, z1⟩ := T_letters H R e1
  replace hf := jite hf
  rcases hf with ⟨c2, hf⟩ | ⟨c2, hf⟩
  · skip
    -- leaf 0: F_X12_readLine_16 n a0 x1 x2 x2 (12 : Int32) h1
    obtain ⟨a1, a2, a3, a4⟩ := E_X12_readLine_16L (k := k) (W := W) (s := s) H R1 hx hx hj hp rfl (by rw [wl_f f1 (by decide)]; exact hW) ((frM_oi f1 (by decide) (by decide)).trans g) sk hm4 hf
    exact ⟨a1, a2, frQ_tr (fr2 f1) a3, a4.trans z1⟩
  · skip
    -- leaf 1: F_X12_readLine_16 n a0 x1 x2 x2 (14 : Int32) h1
    exact absurd hp c2
theorem frQ_Z {x : Nat} {O O2 : jO} (f : frQ x O O2) : frZ x [1] [10, 12, 13, 16] 1284 O O2 := ⟨frQ_M f, fun j hj => by unfold oi; rw [f (x + 1) j (by omega) (by omega)]⟩
theorem lawHL {n a0 : Nat} {W0 : jWd} {b : Nat → Int32} {L m : Nat} {T : Nat → Int32 × Int32} {st en : Nat → Nat} (H : tkE b L m T st en) (hm4 : m ≤ 400) : HLn (List jLn) (lawP a0 W0) (rdLaw T) n a0 0 b L st [1] [10, 12, 13, 16] 12 1284 := by
  intro kk j S h q R PW hj e
  obtain ⟨p1, p2, p3, p4⟩ := PW
  obtain ⟨a1, a2, a3, a4⟩ := E_X12_readLineL H R rfl hj rfl p1 p2 p4 hm4 e
  refine ⟨fun z => ?_, a2, frQ_Z a3, a4⟩
  obtain ⟨b1, b2⟩ := a1 z
  by_cases t : (T kk).1 = 3 ∨ (T kk).1 = 15 ∨ (T kk).1 = 16
  · obtain ⟨c1, c2⟩ := b1 t
    rcases hR : rdLT T (kk + 1) with d | f
    · have E : rdLaw T S kk = .inl (d.1, S ++ [((kdL (T kk).1, (T (kk + 1)).2), d.2)]) := by
        unfold rdLaw
        rw [if_pos t, hR]
      obtain ⟨d1, d2, d3, d4, d5⟩ := c1 d hR
      refine ⟨fun p y => ?_, fun f y => (by rw [E] at y; cases y)⟩
      rw [E] at y
      cases y
      refine ⟨d1, d2, ?_, ?_, ?_, ?_⟩
      · rw [lwS_app, p3]; exact d3
      · rw [lwS_app]; exact d4
      · rw [lwS_app]; exact congrArg (· + 1) p3
      · rw [lwS_app]; exact d5
    · have E : rdLaw T S kk = .inr f := by
        unfold rdLaw
        rw [if_pos t, hR]
      refine ⟨fun p y => (by rw [E] at y; cases y), fun g y => ?_⟩
      rw [E] at y
      cases y
      exact c2 f hR
  · have E : rdLaw T S kk = .inr kk := if_neg t
    refine ⟨fun p y => (by rw [E] at y; cases y), fun g y => ?_⟩
    rw [E] at y
    cases y
    exact b2 t
theorem lawHP {a0 : Nat} {W0 : jWd} : HPr (List jLn) (lawP a0 W0) a0 := fun O O2 S j k k2 P h f => ⟨by rw [wl_f f (by decide)]; exact P.1, (frM_oi f (by decide) (by decide)).trans P.2.1, P.2.2.1, Nat.le_trans P.2.2.2 h⟩
end
section
/-! law, the reference: what comes of the lines -/
theorem emW_lo {k : Nat} : ∀ (l : List (Int32 × Int32)) (W : jWd) (s : Nat), k < 1333 → emW W s l k = W k
  | [], W, s, h => rfl
  | e :: t, W, s, h => by
    show emW _ (s + 1) t k = _
    rw [emW_lo t _ _ h, upd_ne (by omega), upd_ne (by omega)]
theorem lnW_lo {W : jWd} {n s k : Nat} {e : jLn} (h : k < 1285) : lnW W n s e k = W k := by
  unfold lnW
  rw [upd_ne (by omega), emW_lo _ _ _ (by omega), upd_ne (by omega), upd_ne (by omega), upd_ne (by omega)]
theorem fold_lo {k : Nat} (h : k < 1285) : ∀ (S : List jLn) (a : jWd × Nat × Nat), (S.foldl (fun a e => (lnW a.1 a.2.1 a.2.2 e, a.2.1 + 1, a.2.2 + e.2.length)) a).1 k = a.1 k
  | [], a => rfl
  | e :: S, a => by
    rw [List.foldl_cons, fold_lo h S]
    exact lnW_lo h
theorem lwS_lo {W0 : jWd} {S : List jLn} {k : Nat} (h : k < 1285) : (lwS W0 S).1 k = W0 k := fold_lo h S _
/-- the world behind a law's text of lines S -/
def lawW (W : jWd) (S : List jLn) : jWd := fun j => if j = 2 then 1 else if j = 435 then nI (lwS W S).2.1 else if 435 ≤ j ∧ j < 1284 then (lwS W S).1 (j + 849) else if j = 1284 then nI (lwS W S).2.1 else (lwS W S).1 j
theorem E_X12_law_52 {n : Nat} : ∀ (k : Nat) {a0 : Nat} {x1 : Int32} {x2 : Int32} {h : jH} {q : Int32 × jH} (t : Nat) (M : mS (oc h) a0) (hx : x2 = nI t) (ht : t ≤ 849), F_X12_law_52 n k a0 x1 x2 h = some q → (∀ j, wl (oc q.2) a0 j = if j = 2 then 1 else if 435 + t ≤ j ∧ j < 1284 then wl (oc h) a0 (j + 849) else wl (oc h) a0 j) ∧ oi (oc q.2) a0 7 = 0 ∧ q.1 = x1 ∧ frM a0 [1] [7] (oc h) (oc q.2) ∧ q.2.1 = h.1
  | 0, a0, x1, x2, h, q, t, M, hx, ht, hf => by cases hf
  | k + 1, a0, x1, x2, h, q, t, M, hx, ht, hf => by
    replace hf : F_X12_law_52_b n (F_X12_law_52 n k) a0 x1 x2 h = some q := hf
    unfold F_X12_law_52_b at hf
    obtain ⟨s1, s2, s3, s4, s5, s8, s15, s17, s19, s20, s21⟩ := id M
    subst hx
    have lN : (849 : Int32).toInt = 849 := rfl
    replace hf := jite hf
    rcases hf with ⟨c1, hf⟩ | ⟨c1, hf⟩
    · skip
      replace hf := jbind hf
      obtain ⟨p86, e2, hf⟩ := hf
      have r2 := oc_gR e2
      rw [s1] at r2
      cases r2
      clear e2
      replace hf := jbind hf
      obtain ⟨h91, e3, hf⟩ := hf
      obtain ⟨o3, z3, y3⟩ := oc_as e3
      rw [jnar0] at o3
      rw [show (2 : Int32).toNatClampNeg = 2 from rfl] at o3
      clear e3
      replace hf := jbind hf
      obtain ⟨h94, e4, hf⟩ := hf
      obtain ⟨o4, z4⟩ := oc_pf e4
      clear e4
      cases hf
      -- leaf 0: (x1, h94)
      rw [Int32.le_iff_toInt_le, nI_toInt (by omega)] at c1
      have f : frM a0 [1] [7] (oc h) (oc h94) := by rw [o4, o3]; exact frM_tr (frM_c (by decide)) (frM_f (by decide))
      have w : wl (oc h94) a0 = upd (wl (oc h) a0) 2 1 := by rw [o4, wl_n (by omega), o3, wl_w]
      have g7 : oi (oc h94) a0 7 = 0 := by rw [o4, oi_eq]
      refine ⟨fun j => ?_, g7, rfl, f, z4.trans z3⟩
      show wl (oc h94) a0 j = _
      rw [w]
      by_cases y : j = 2
      · rw [y, upd_eq, if_pos rfl]
      · rw [upd_ne y, if_neg y, if_neg (by omega)]
    · skip
      replace hf := jbind hf
      obtain ⟨p60, e5, hf⟩ := hf
      have r5 := oc_gR e5
      rw [s1] at r5
      cases r5
      clear e5
      replace hf := jbind hf
      obtain ⟨p69, e6, hf⟩ := hf
      have r6 := oc_gR e6
      rw [s1] at r6
      cases r6
      clear e6
      replace hf := jbind hf
      obtain ⟨v77, e7, hf⟩ := hf
      obtain ⟨r7, y7⟩ := oc_al e7
      subst r7
      clear e7
      replace hf := jbind hf
      obtain ⟨h78, e8, hf⟩ := hf
      obtain ⟨o8, z8, y8⟩ := oc_as e8
      rw [jnar0] at o8
      clear e8
      -- leaf 1: rc52 a0 x1 (x2 + (1 : Int32)) h78
      rw [Int32.le_iff_toInt_le, nI_toInt (by omega)] at c1
      have e1 : (435 : Int32) + nI t = nI (435 + t) := nI_add 435 t
      have e2 : (1284 : Int32) + nI t = nI (1284 + t) := nI_add 1284 t
      rw [e1, e2, nI_cl (show 435 + t < 2147483648 by omega), nI_cl (show 1284 + t < 2147483648 by omega)] at o8
      have f8 : frM a0 [1] [7] (oc h) (oc h78) := by rw [o8]; exact frM_c (by decide)
      have w8 : wl (oc h78) a0 = upd (wl (oc h) a0) (435 + t) (wl (oc h) a0 (1284 + t)) := by rw [o8, wl_w]
      obtain ⟨a1, a2, a3, a4, a5⟩ := E_X12_law_52 k (t + 1) (mS_fr M f8 (by decide) (by decide)) (nI_1 t) (by omega) hf
      refine ⟨fun j => ?_, a2, a3, frM_tr f8 a4, a5.trans z8⟩
      rw [a1 j, w8]
      by_cases y : j = 2
      · rw [if_pos y, if_pos y]
      rw [if_neg y, if_neg y]
      by_cases y1 : j = 435 + t
      · rw [if_neg (by omega), if_pos (by omega), y1, upd_eq, show 435 + t + 849 = 1284 + t by omega]
      · by_cases y2 : 435 + t ≤ j ∧ j < 1284
        · rw [if_pos (by omega), if_pos y2, upd_ne (by omega)]
        · rw [if_neg (by omega), if_neg y2, upd_ne y1]
theorem E_X12_law_32 {W : jWd} {j : Nat} {n : Nat} {a0 : Nat} {x1 : Int32} {sa0 : Nat} {s1 : Int32} {h : jH} {q : Int32 × jH} (hs : a0 = sa0) (h01 : s1 = 0 ∨ s1 = 1) (M : mS (oc h) a0) (hW : wl (oc h) a0 = W) (z0 : oi (oc h) a0 0 = 0) (hf : F_X12_law_32 n a0 x1 sa0 s1 h = some q) : (s1 = 1 ∧ q.1 = 0 ∧ rTh a0 1 h q.2) ∨ (s1 = 0 ∧ q.1 = x1 ∧ (∀ j, wl (oc q.2) a0 j = if j = 2 then 1 else if j = 435 then x1 else if 435 ≤ j ∧ j < 1284 then W (j + 849) else if j = 1284 then x1 else W j) ∧ oi (oc q.2) a0 7 = 0 ∧ oi (oc q.2) a0 0 = 0 ∧ frM a0 [1] [7] (oc h) (oc q.2) ∧ q.2.1 = h.1) := by
  unfold F_X12_law_32 at hf
  subst hs
  replace hf := jbind hf
  obtain ⟨q33, e1, hf⟩ := hf
  replace e1 := (jcv_o e1).2
  have r1 := E_X12_throwsIf h01 e1
  have M1 : mS (oc q33.2) a0 := by rcases r1 with ⟨-, -, e0⟩ | ⟨-, -, T⟩; rw [e0]; exact M; exact mS_fr M T.2.1 (by decide) (by decide)
  replace hf := jite hf
  rcases hf with ⟨c2, hf⟩ | ⟨c2, hf⟩
  · skip
    replace hf := jbind hf
    obtain ⟨p42, e3, hf⟩ := hf
    have r3 := oc_gR e3
    rw [M1.1] at r3
    cases r3
    clear e3
    replace hf := jbind hf
    obtain ⟨h49, e4, hf⟩ := hf
    obtain ⟨o4, z4, y4⟩ := oc_as e4
    rw [jnar0] at o4
    rw [show (1284 : Int32).toNatClampNeg = 1284 from rfl] at o4
    clear e4
    -- leaf 0: F_X12_law_52 n n a0 x1 (0 : Int32) h49
    rcases r1 with ⟨s0, -, e0⟩ | ⟨-, y, -⟩
    rotate_left
    · exact absurd (y.symm.trans c2) (by decide)
    rw [e0] at o4 z4
    have f4 : frM a0 [1] [] (oc h) (oc h49) := by rw [o4]; exact frM_c (by decide)
    have w4 : wl (oc h49) a0 = upd W 1284 x1 := by rw [o4, wl_w, hW]
    obtain ⟨a1, a2, a3, a4, a5⟩ := E_X12_law_52 n 0 (mS_fr M f4 (by decide) (by decide)) rfl (by omega) hf
    refine Or.inr ⟨s0, a3, fun j => ?_, a2, (frM_oi a4 (by decide) (by decide)).trans ((frM_oi f4 (by decide) (by decide)).trans z0), frM_tr (frM_le f4 (by decide) (by decide)) a4, a5.trans z4⟩
    rw [a1 j, w4]
    by_cases y : j = 2
    · rw [if_pos y, if_pos y]
    rw [if_neg y, if_neg y]
    by_cases y1 : j = 435
    · rw [if_pos (by omega), if_pos y1, y1, upd_eq]
    rw [if_neg y1]
    by_cases y2 : 435 ≤ j ∧ j < 1284
    · rw [if_pos (by omega), if_pos y2, upd_ne (by omega)]
    rw [if_neg (by omega), if_neg y2]
    by_cases y3 : j = 1284
    · rw [if_pos y3, y3, upd_eq]
    · rw [if_neg y3, upd_ne y3]
  · skip
    cases hf
    -- leaf 1: ((0 : Int32), q33.2)
    rcases r1 with ⟨-, y, -⟩ | ⟨s0, -, T⟩
    · exact absurd y c2
    exact Or.inl ⟨s0, rfl, T⟩
theorem E_X12_law {b : Nat → Int32} {L : Nat} {m : Nat} {T : Nat → Int32 × Int32} {st : Nat → Nat} {en : Nat → Nat} {W : jWd} {n : Nat} {a0 : Nat} {h : jH} {q : Int32 × jH} (H : tkE b L m T st en) (M : mS (oc h) a0) (hW : wl (oc h) a0 = W) (h9 : oi (oc h) a0 9 = nI L) (hb : ∀ i, oi (oc h) (a0 + 6) i = b i) (hm4 : m ≤ 400) (hf : F_X12_law n a0 h = some q) : (∀ f, (if (T 0).1 = -1 then .inl [] else rdLines (rdLaw T) T 12 [] 0) = .inr f → q.1 = 0 ∧ oi (oc q.2) a0 0 = 1 ∧ oi (oc q.2) a0 14 = nI (st f) ∧ oi (oc q.2) a0 7 = oi (oc h) a0 7 ∧ ∀ j, j < 1284 → wl (oc q.2) a0 j = W j) ∧ (∀ S, (if (T 0).1 = -1 then .inl [] else rdLines (rdLaw T) T 12 [] 0) = .inl S → q.1 = nI (lwS W S).2.1 ∧ (lwS W S).2.1 ≤ 12 ∧ oi (oc q.2) a0 0 = 0 ∧ oi (oc q.2) a0 14 = -1 ∧ oi (oc q.2) a0 7 = 0 ∧ wl (oc q.2) a0 = lawW W S) ∧ oi (oc q.2) a0 9 = 0 ∧ frM a0 [1] [0, 7, 9, 10, 11, 12, 13, 14, 16] (oc h) (oc q.2) ∧ q.2.1 = h.1 := by
  unfold F_X12_law at hf
  replace hf := jbind hf
  obtain ⟨q2, e1, hf⟩ := hf
  replace e1 := (jcv_o e1).2
  obtain ⟨A1, A2, A0, A9, ⟨Af, AZ⟩, Az⟩ := E_X12_readAll (N := 12) (Z := 1284) (cs := [1]) (fs := [10, 12, 13, 16]) (W := ([] : List jLn)) (by decide) (by decide) (by decide) H (lawHL (W0 := W) H hm4) lawHP M h9 hb (fun O f g => ⟨by rw [wl_f f (by decide)]; exact hW, g, rfl, Nat.le_refl 0⟩) (by decide) (by decide) e1
  have M2 := mS_fr M Af (by decide) (by decide)
  have a7 : oi (oc q2.2) a0 7 = oi (oc h) a0 7 := frM_oi Af (by decide) (by decide)
  have RR : lsG (lawP a0 W) (oc q2.2) q2.1 a0 st 12 0 (if (T 0).1 = -1 then .inl [] else rdLines (rdLaw T) T 12 [] 0) := by
    split
    · rename_i z
      obtain ⟨y1, y2⟩ := A1 z
      exact lsG_l (k2 := 0) rfl ⟨Nat.le_refl 0, by omega, y1, y2⟩
    · rename_i z
      exact ⟨fun W2 y => by
        obtain ⟨j2, k2, b1, b2, b3, b4⟩ := (A2 z).1 W2 y
        exact ⟨j2, k2, by omega, b2, b3, b4⟩, (A2 z).2⟩
  replace hf := jite hf
  rcases hf with ⟨c2, hf⟩ | ⟨c2, hf⟩
  · skip
    replace hf := jbind hf
    obtain ⟨h19, e3, hf⟩ := hf
    obtain ⟨o3, z3⟩ := oc_pf e3
    clear e3
    replace hf := jite hf
    rcases hf with ⟨c4, hf⟩ | ⟨c4, hf⟩
    · skip
      -- leaf 00: F_X12_law_32 n a0 q2.1 a0 (0 : Int32) h19
      rcases hR : (if (T 0).1 = -1 then .inl [] else rdLines (rdLaw T) T 12 [] 0) with S | f
      rotate_left
      · exfalso
        have := (RR.2 f hR).1
        rw [Int32.le_iff_toInt_le, this] at c2
        exact absurd c2 (by decide)
      obtain ⟨j2, k2, -, l2, v2, w2, s2, n2, -⟩ := RR.1 S hR
      have fo : frM a0 [] [14] (oc q2.2) (oc h19) := by rw [o3]; exact frM_f (by decide)
      have M3 := mS_fr M2 fo (by decide) (by decide)
      have g0 : oi (oc h19) a0 0 = 0 := (frM_oi fo (by decide) (by decide)).trans A0
      have g9 : oi (oc h19) a0 9 = 0 := (frM_oi fo (by decide) (by decide)).trans A9
      have g7 : oi (oc h19) a0 7 = oi (oc h) a0 7 := (frM_oi fo (by decide) (by decide)).trans a7
      have gZ : ∀ j, j < 1284 → wl (oc h19) a0 j = W j := fun j hj => by rw [wl_f fo (by decide), ← hW]; exact AZ j hj
      have FF : frM a0 [1] [0, 7, 9, 10, 11, 12, 13, 14, 16] (oc h) (oc h19) := frM_tr (frM_le Af (by decide) (by decide)) (frM_le fo (by decide) (by decide))
      have g14 : oi (oc h19) a0 14 = -1 := by rw [o3, oi_eq]
      have w3 : wl (oc h19) a0 = (lwS W S).1 := (wl_f fo (by decide)).trans w2
      rcases E_X12_law_32 (j := 0) rfl (Or.inl rfl) M3 w3 g0 hf with ⟨y, -⟩ | ⟨-, v, tw, t7, t0, tf, tz⟩
      · exact absurd y (by decide)
      refine ⟨fun f y => (by rw [hR] at y; cases y), fun S2 y => ?_, (frM_oi tf (by decide) (by decide)).trans g9, frM_tr FF (frM_le tf (by decide) (by decide)), tz.trans (z3.trans Az)⟩
      rw [hR] at y
      cases y
      refine ⟨by rw [v, v2, n2], by omega, t0, (frM_oi tf (by decide) (by decide)).trans g14, t7, ?_⟩
      funext j
      rw [tw j]
      unfold lawW
      rw [v2, n2]
    · skip
      -- leaf 01: F_X12_law_32 n a0 q2.1 a0 (1 : Int32) h19
      exact absurd c2 c4
  · skip
    replace hf := jbind hf
    obtain ⟨v12, e5, hf⟩ := hf
    have r5 := oc_gI e5
    subst r5
    clear e5
    replace hf := jbind hf
    obtain ⟨h19, e6, hf⟩ := hf
    obtain ⟨o6, z6⟩ := oc_pf e6
    clear e6
    replace hf := jite hf
    rcases hf with ⟨c7, hf⟩ | ⟨c7, hf⟩
    · skip
      -- leaf 10: F_X12_law_32 n a0 q2.1 a0 (0 : Int32) h19
      exact absurd c7 c2
    · skip
      -- leaf 11: F_X12_law_32 n a0 q2.1 a0 (1 : Int32) h19
      rcases hR : (if (T 0).1 = -1 then .inl [] else rdLines (rdLaw T) T 12 [] 0) with S | f
      · exfalso
        obtain ⟨j2, k2, -, b2, b3, -⟩ := RR.1 S hR
        exact c2 (by rw [b3, Int32.le_iff_toInt_le, nI_toInt (by omega)]; have l0 : (0 : Int32).toInt = 0 := rfl; omega)
      obtain ⟨v1, g12⟩ := RR.2 f hR
      have fo : frM a0 [] [14] (oc q2.2) (oc h19) := by rw [o6]; exact frM_f (by decide)
      have M3 := mS_fr M2 fo (by decide) (by decide)
      have g0 : oi (oc h19) a0 0 = 0 := (frM_oi fo (by decide) (by decide)).trans A0
      have g9 : oi (oc h19) a0 9 = 0 := (frM_oi fo (by decide) (by decide)).trans A9
      have g7 : oi (oc h19) a0 7 = oi (oc h) a0 7 := (frM_oi fo (by decide) (by decide)).trans a7
      have gZ : ∀ j, j < 1284 → wl (oc h19) a0 j = W j := fun j hj => by rw [wl_f fo (by decide), ← hW]; exact AZ j hj
      have FF : frM a0 [1] [0, 7, 9, 10, 11, 12, 13, 14, 16] (oc h) (oc h19) := frM_tr (frM_le Af (by decide) (by decide)) (frM_le fo (by decide) (by decide))
      have g14 : oi (oc h19) a0 14 = nI (st f) := by rw [o6, oi_eq]; exact g12
      rcases E_X12_law_32 (j := 0) rfl (Or.inr rfl) M3 rfl g0 hf with ⟨-, v, T9⟩ | ⟨y, -⟩
      rotate_left
      · exact absurd y (by decide)
      obtain ⟨t0, tf, tz⟩ := T9
      exact ⟨fun f2 y => (by rw [hR] at y; cases y; exact ⟨v, t0, (frM_oi tf (by decide) (by decide)).trans g14, (frM_oi tf (by decide) (by decide)).trans g7, fun j hj => (congrFun (wl_f tf (by decide)) j).trans (gZ j hj)⟩), fun W3 y => (by rw [hR] at y; cases y), (frM_oi tf (by decide) (by decide)).trans g9, frM_tr FF (frM_le tf (by decide) (by decide)), tz.trans (z6.trans Az)⟩
end
section
/-! a law's draft of the class at x + 28: codes at x + 32, stops at x + 31, kinds at x + 29, amounts at x + 30; s codes, nl lines -/
def cod (e : Int32 × Int32) : Int32 := if e.1.toInt ≤ 10 then e.1 else if e.1 = 11 then 256 + e.2 else if e.1 = 12 then 43 else if e.1 = 13 then 60 else if e.1 = 14 then 62 else if e.1 = 15 then 11 else if e.1 = 16 then 12 else 13
def cw (O : jO) (x nl s : Nat) : Prop := lawS O (x + 28) ∧ oi O (x + 28) 6 = nI s ∧ oi O (x + 28) 8 = nI nl ∧ 1 ≤ nl ∧ nl ≤ 12
/-- the codes l were put behind the first s -/
def cwA (O O2 : jO) (x nl s : Nat) (l : List Int32) : Prop :=
  (∀ i, oi O2 (x + 32) i = if s ≤ i ∧ i < s + l.length then l.getD (i - s) 0 else oi O (x + 32) i) ∧ (∀ i, oi O2 (x + 31) i = if i + 1 = nl ∧ l ≠ [] then nI (s + l.length) else oi O (x + 31) i) ∧
  ∀ a k : Nat, ¬ (a = x + 1 ∧ k = 5) → ¬ (a = x + 28 ∧ k = 6) → a ≠ x + 31 → a ≠ x + 32 → O2 a k = O a k
theorem cwA_0 {O O2 : jO} {x nl s : Nat} (f : ∀ a k : Nat, ¬ (a = x + 1 ∧ k = 5) → O2 a k = O a k) : cwA O O2 x nl s [] :=
  ⟨fun i => by rw [if_neg (by simp)]; unfold oi; rw [f _ _ (by omega)], fun i => by rw [if_neg (by simp)]; unfold oi; rw [f _ _ (by omega)], fun a k h1 _ _ _ => f a k h1⟩
theorem cwA_tr {O O2 O3 : jO} {x nl s : Nat} {l t : List Int32} (a : cwA O O2 x nl s l) (c : cwA O2 O3 x nl (s + l.length) t) : cwA O O3 x nl s (l ++ t) := by
  obtain ⟨a1, a2, a3⟩ := a
  obtain ⟨c1, c2, c3⟩ := c
  refine ⟨fun i => ?_, fun i => ?_, fun b k h1 h2 h3 h4 => (c3 b k h1 h2 h3 h4).trans (a3 b k h1 h2 h3 h4)⟩
  · rw [c1 i, List.length_append]
    by_cases y : s + l.length ≤ i ∧ i < s + l.length + t.length
    · rw [if_pos y, if_pos (by omega), List.getD_eq_getElem?_getD, List.getD_eq_getElem?_getD, List.getElem?_append_right (by omega), show i - s - l.length = i - (s + l.length) by omega]
    · rw [if_neg y, a1 i]
      by_cases z : s ≤ i ∧ i < s + l.length
      · rw [if_pos z, if_pos (by omega), List.getD_eq_getElem?_getD, List.getD_eq_getElem?_getD, List.getElem?_append_left (by omega)]
      · rw [if_neg z, if_neg (by omega)]
  · rw [c2 i, a2 i, List.length_append]
    by_cases y : i + 1 = nl
    · by_cases z : t = []
      · subst z
        rw [if_neg (by simp), List.append_nil]
        simp
      · rw [if_pos ⟨y, z⟩, if_pos ⟨y, by simp [z]⟩, Nat.add_assoc]
    · rw [if_neg (fun z => y z.1), if_neg (fun z => y z.1), if_neg (fun z => y z.1)]
/-- what the reading of a condition leaves alone, the class -/
def frC (x : Nat) (O O2 : jO) : Prop := ∀ a k : Nat, ¬ (a = x + 1 ∧ k = 5) → ¬ (a = x + 28 ∧ k = 6) → a ≠ x + 31 → a ≠ x + 32 → O2 a k = O a k
theorem frC_tr {x : Nat} {O O2 O3 : jO} (a : frC x O O2) (c : frC x O2 O3) : frC x O O3 := fun b k h1 h2 h3 h4 => (c b k h1 h2 h3 h4).trans (a b k h1 h2 h3 h4)
theorem frC_5 {x : Nat} {O O2 : jO} (f : ∀ a j : Nat, ¬ (a = x + 1 ∧ j = 5) → O2 a j = O a j) : frC x O O2 := fun a j h _ _ _ => f a j h
theorem frC_0 {x : Nat} {O : jO} : frC x O O := fun _ _ _ _ _ _ => rfl
theorem lawS_C {x : Nat} {O O2 : jO} (S : lawS O (x + 28)) (f : frC x O O2) : lawS O2 (x + 28) := by
  obtain ⟨a, b, c, d, e⟩ := S
  exact ⟨(f _ _ (by omega) (by omega) (by omega) (by omega)).trans a, (f _ _ (by omega) (by omega) (by omega) (by omega)).trans b, (f _ _ (by omega) (by omega) (by omega) (by omega)).trans c, (f _ _ (by omega) (by omega) (by omega) (by omega)).trans d, (f _ _ (by omega) (by omega) (by omega) (by omega)).trans e⟩
/-- the class's reader of laws at x + 35 -/
def rlS (O : jO) (x : Nat) : Prop := O (x + 35) 0 = .ref (x + 1) ∧ O (x + 35) 1 = .int 12 ∧ O (x + 35) 2 = .ref (x + 28)
theorem rlS_C {x : Nat} {O O2 : jO} (S : rlS O x) (f : frC x O O2) : rlS O2 x := ⟨(f _ _ (by omega) (by omega) (by omega) (by omega)).trans S.1, (f _ _ (by omega) (by omega) (by omega) (by omega)).trans S.2.1, (f _ _ (by omega) (by omega) (by omega) (by omega)).trans S.2.2⟩
/-- the class stands before thing k with s codes -/
def cc (O : jO) (x : Nat) (b : Nat → Int32) (L m : Nat) (T : Nat → Int32 × Int32) (st : Nat → Nat) (k nl s : Nat) : Prop := ck O (x + 1) b L m T st k ∧ rlS O x ∧ cw O x nl s ∧ s ≤ k
def lwC (x : Nat) (b : Nat → Int32) (L m : Nat) (T : Nat → Int32 × Int32) (st : Nat → Nat) (h : jH) (v : Int32) (h2 : jH) (nl s : Nat) (r : jRd) : Prop :=
  (∀ d, r = .inl d → v = 1 ∧ cc (oc h2) x b L m T st d.1 nl (s + d.2.length) ∧ cwA (oc h) (oc h2) x nl s (d.2.map cod)) ∧ (∀ f, r = .inr f → v = 0 ∧ ck (oc h2) (x + 1) b L m T st f ∧ ∃ s2, cw (oc h2) x nl s2) ∧ frC x (oc h) (oc h2) ∧ h2.1 = h.1
theorem lwC_l {x L m k nl s : Nat} {b : Nat → Int32} {T : Nat → Int32 × Int32} {st : Nat → Nat} {h h2 : jH} {v : Int32} {r : jRd} {l : List (Int32 × Int32)} (e : r = .inl (k, l)) (hv : v = 1) (R : cc (oc h2) x b L m T st k nl (s + l.length)) (w : cwA (oc h) (oc h2) x nl s (l.map cod)) (f : frC x (oc h) (oc h2)) (z : h2.1 = h.1) : lwC x b L m T st h v h2 nl s r :=
  ⟨fun d y => (by rw [e] at y; cases y; exact ⟨hv, R, w⟩), fun d y => (by rw [e] at y; cases y), f, z⟩
theorem lwC_r {x L m k nl s : Nat} {b : Nat → Int32} {T : Nat → Int32 × Int32} {st : Nat → Nat} {h h2 : jH} {v : Int32} {r : jRd} (e : r = .inr k) (hv : v = 0) (g : ck (oc h2) (x + 1) b L m T st k) (c : ∃ s2, cw (oc h2) x nl s2) (f : frC x (oc h) (oc h2)) (z : h2.1 = h.1) : lwC x b L m T st h v h2 nl s r :=
  ⟨fun d y => (by rw [e] at y; cases y), fun d y => (by rw [e] at y; cases y; exact ⟨hv, g, c⟩), f, z⟩
theorem lwC_sq {x L m nl s : Nat} {b : Nat → Int32} {T : Nat → Int32 × Int32} {st : Nat → Nat} {h h2 h3 : jH} {v : Int32} {a : jRd} {f : Nat → jRd} {d : Nat × List (Int32 × Int32)} (ha : a = .inl d) (w : cwA (oc h) (oc h2) x nl s (d.2.map cod)) (f12 : frC x (oc h) (oc h2)) (z12 : h2.1 = h.1) (B : lwC x b L m T st h2 v h3 nl (s + d.2.length) (f d.1)) : lwC x b L m T st h v h3 nl s (sqP a f) := by
  obtain ⟨B1, B2, B3, B4⟩ := B
  refine ⟨fun r y => ?_, fun g y => ?_, frC_tr f12 B3, B4.trans z12⟩
  · obtain ⟨d2, e, a1, a2, a3⟩ := sq_inv y
    cases ha.symm.trans a1
    subst a3
    obtain ⟨q1, q2, q3⟩ := B1 e a2
    dsimp only
    rw [List.length_append, ← Nat.add_assoc, List.map_append]
    exact ⟨q1, q2, cwA_tr w (by rw [List.length_map]; exact q3)⟩
  · rcases hf : f d.1 with e | e
    · rw [sq_ll ha hf] at y
      cases y
    · rw [sq_lr ha hf] at y
      cases y
      exact B2 _ hf
theorem cc_5 {O O2 : jO} {x L m k k2 nl s : Nat} {b : Nat → Int32} {T : Nat → Int32 × Int32} {st : Nat → Nat} (R : cc O x b L m T st k nl s) (K : ck O2 (x + 1) b L m T st k2) (f : ∀ a j : Nat, ¬ (a = x + 1 ∧ j = 5) → O2 a j = O a j) (hk : k ≤ k2) : cc O2 x b L m T st k2 nl s := by
  obtain ⟨-, a, ⟨c1, c2, c3, c4, c5⟩, d⟩ := R
  have g : ∀ j, oi O2 (x + 28) j = oi O (x + 28) j := fun j => by unfold oi; rw [f _ _ (by omega)]
  exact ⟨K, rlS_C a (frC_5 f), ⟨lawS_C c1 (frC_5 f), (g 6).trans c2, (g 8).trans c3, c4, c5⟩, by omega⟩
theorem lwC_cw {x L m nl s : Nat} {b : Nat → Int32} {T : Nat → Int32 × Int32} {st : Nat → Nat} {h h2 : jH} {v : Int32} {r : jRd} (A : lwC x b L m T st h v h2 nl s r) : ∃ s2, cw (oc h2) x nl s2 := by
  rcases r with d | f
  · exact ⟨_, (A.1 d rfl).2.1.2.2.1⟩
  · exact (A.2.1 f rfl).2.2
theorem E_X2_addCode {x : Nat} {nl : Nat} {s : Nat} {n : Nat} {a0 : Nat} {x1 : Int32} {h : jH} {q : jH} (ha : a0 = x + 28) (C : cw (oc h) x nl s) (hf : F_X2_addCode n a0 x1 h = some q) : (s < 400 → cw (oc q) x nl (s + 1) ∧ cwA (oc h) (oc q) x nl s [x1]) ∧ (∀ a k : Nat, ¬ (a = x + 28 ∧ k = 6) → a ≠ x + 31 → a ≠ x + 32 → oc q a k = oc h a k) ∧ q.1 = h.1 ∧ ∃ s2, cw (oc q) x nl s2 := by
  unfold F_X2_addCode at hf
  subst ha
  obtain ⟨LS, g6, g8, n1, n12⟩ := C
  replace hf := jbind hf
  obtain ⟨v1, e1, hf⟩ := hf
  have r1 := oc_gI e1
  subst r1
  clear e1
  replace hf := jite hf
  rcases hf with ⟨c2, hf⟩ | ⟨c2, hf⟩
  · skip
    cases hf
    -- leaf 0: h
    rw [g6, Int32.le_iff_toInt_le] at c2
    refine ⟨fun z => ?_, fun _ _ _ _ _ => rfl, rfl, s, LS, g6, g8, n1, n12⟩
    rw [nI_toInt (by omega), show (400 : Int32).toInt = 400 from rfl] at c2
    omega
  · skip
    replace hf := jbind hf
    obtain ⟨v11, e3, hf⟩ := hf
    have r3 := oc_gI e3
    subst r3
    clear e3
    replace hf := jite hf
    rcases hf with ⟨c4, hf⟩ | ⟨c4, hf⟩
    · skip
      cases hf
      -- leaf 10: h
      rw [g8, Int32.le_iff_toInt_le, nI_toInt (by omega), show (0 : Int32).toInt = 0 from rfl] at c4
      omega
    · skip
      replace hf := jbind hf
      obtain ⟨p18, e5, hf⟩ := hf
      have r5 := oc_gR e5
      rw [LS.2.2.2.1] at r5
      cases r5
      clear e5
      replace hf := jbind hf
      obtain ⟨v22, e6, hf⟩ := hf
      have r6 := oc_gI e6
      subst r6
      clear e6
      replace hf := jbind hf
      obtain ⟨h26, e7, hf⟩ := hf
      obtain ⟨o7, z7, y7⟩ := oc_as e7
      rw [jnar0] at o7
      clear e7
      replace hf := jbind hf
      obtain ⟨v29, e8, hf⟩ := hf
      have r8 := oc_gI e8
      rw [o7] at r8
      rw [oi_ne (Or.inl (by omega))] at r8
      subst r8
      clear e8
      replace hf := jbind hf
      obtain ⟨h34, e9, hf⟩ := hf
      obtain ⟨o9, z9⟩ := oc_pf e9
      clear e9
      replace hf := jbind hf
      obtain ⟨p38, e10, hf⟩ := hf
      have r10 := oc_gR e10
      rw [o9] at r10
      rw [u2_ne (Or.inr (by decide))] at r10
      rw [o7] at r10
      rw [u2_ne (Or.inl (by omega))] at r10
      rw [LS.2.2.1] at r10
      cases r10
      clear e10
      replace hf := jbind hf
      obtain ⟨v42, e11, hf⟩ := hf
      have r11 := oc_gI e11
      rw [o9] at r11
      rw [oi_ne (Or.inr (by decide))] at r11
      rw [o7] at r11
      rw [oi_ne (Or.inl (by omega))] at r11
      subst r11
      clear e11
      replace hf := jbind hf
      obtain ⟨v48, e12, hf⟩ := hf
      have r12 := oc_gI e12
      rw [o9] at r12
      rw [oi_eq] at r12
      subst r12
      clear e12
      replace hf := jbind hf
      obtain ⟨h51, e13, hf⟩ := hf
      obtain ⟨o13, z13, y13⟩ := oc_as e13
      rw [jnar0] at o13
      clear e13
      cases hf
      -- leaf 11: h51
      have o7 : oc h26 = u2 (oc h) (x + 32) _ (.int x1) := o7
      have o13 : oc q = u2 (oc h34) (x + 31) _ (.int _) := o13
      have F0 : (∀ a k : Nat, ¬ (a = x + 28 ∧ k = 6) → a ≠ x + 31 → a ≠ x + 32 → oc q a k = oc h a k) := fun a k h2 h3 h4 => by rw [o13, u2_ne (by omega), o9, u2_ne (by omega), o7, u2_ne (by omega)]
      have F : frC x (oc h) (oc q) := fun a k _ h2 h3 h4 => F0 a k h2 h3 h4
      have g60 := g6
      rw [g6, nI_1] at o9
      refine ⟨fun hs => ?_, F0, z13.trans (z9.trans z7), s + 1, lawS_C LS F, by rw [o13, oi_ne (Or.inl (by omega)), o9, oi_eq], by rw [o13, oi_ne (Or.inl (by omega)), o9, oi_ne (Or.inr (by decide)), o7, oi_ne (Or.inl (by omega))]; exact g8, n1, n12⟩
      rw [g6, nI_cl (by omega)] at o7
      rw [g8, show (1 : Int32) = nI 1 from rfl, nI_sb n1 (by omega), nI_cl (by omega), g6] at o13
      rw [show nI s + nI 1 = nI (s + 1) from nI_add s 1] at o13
      refine ⟨⟨lawS_C LS F, ?_, ?_, n1, n12⟩, fun i => ?_, fun i => ?_, F⟩
      · rw [o13, oi_ne (Or.inl (by omega)), o9, oi_eq]
      · rw [o13, oi_ne (Or.inl (by omega)), o9, oi_ne (Or.inr (by decide)), o7, oi_ne (Or.inl (by omega))]; exact g8
      · rw [o13, oi_ne (Or.inl (by omega)), o9, oi_ne (Or.inl (by omega)), o7]
        by_cases y : i = s
        · subst y
          rw [oi_eq, if_pos (by simp)]
          simp
        · rw [oi_ne (Or.inr y), if_neg (by simp; omega)]
      · rw [o13]
        by_cases y : i + 1 = nl
        · rw [show nl - 1 = i by omega, oi_eq, if_pos ⟨y, by simp⟩]
          rfl
        · rw [oi_ne (Or.inr (by omega)), if_neg (fun z => y z.1), o9, oi_ne (Or.inl (by omega)), o7, oi_ne (Or.inl (by omega))]
theorem cc_em {x L m k nl s n : Nat} {b : Nat → Int32} {T : Nat → Int32 × Int32} {st : Nat → Nat} {c : Int32} {h q : jH} (R : cc (oc h) x b L m T st k nl s) (hs : s + 1 ≤ k) (e : F_X2_addCode n (x + 28) c h = some q) : cc (oc q) x b L m T st k nl (s + 1) ∧ cwA (oc h) (oc q) x nl s [c] ∧ frC x (oc h) (oc q) ∧ q.1 = h.1 := by
  obtain ⟨a, b2, c2, d⟩ := R
  obtain ⟨e1, e2, e3, -⟩ := E_X2_addCode rfl c2 e
  have hk := a.2.2.2.2.1
  have hm := a.2.2.1
  obtain ⟨e4, e5⟩ := e1 (by omega)
  have F : frC x (oc h) (oc q) := fun i j _ h2 h3 h4 => e2 i j h2 h3 h4
  exact ⟨⟨ck_fr a (fun i j h1 h2 => e2 i j (by omega) (by omega) (by omega)), rlS_C b2 F, e4, hs⟩, e5, F, e3⟩
theorem ck_em {x L m k nl s n : Nat} {b : Nat → Int32} {T : Nat → Int32 × Int32} {st : Nat → Nat} {v : Int32} {h q : jH} (R : ck (oc h) (x + 1) b L m T st k) (C : cw (oc h) x nl s) (e : F_X2_addCode n (x + 28) v h = some q) : ck (oc q) (x + 1) b L m T st k ∧ frC x (oc h) (oc q) ∧ q.1 = h.1 ∧ ∃ s2, cw (oc q) x nl s2 := by
  obtain ⟨-, e2, e3, e4⟩ := E_X2_addCode rfl C e
  exact ⟨ck_fr R (fun i j h1 h2 => e2 i j (by omega) (by omega) (by omega)), fun i j _ h2 h3 h4 => e2 i j h2 h3 h4, e3, e4⟩
end
section
/-! sums, the class -/
def lpS (T : Nat → Int32 × Int32) (fl : Int32) (F k : Nat) : jRd := if fl = 0 then sqP (rdPart T k) (fun j => rdSL T F j) else sqP (rdPart T k) (fun j => sqP (.inl (j, [(12, 0)])) (fun i => rdSL T F i))
def gS (x : Nat) (b : Nat → Int32) (L m : Nat) (T : Nat → Int32 × Int32) (st : Nat → Nat) (rcc : Nat → Int32 → Int32 → jH → Option (Int32 × jH)) : Prop :=
  ∀ (k nl s j F : Nat) (x1 : Int32) (h : jH) (q : Int32 × jH), cc (oc h) x b L m T st k nl s → (x1 = 0 ∨ x1 = 1) → (x1 = 1 → s + 1 ≤ k) → 2 * j ≤ k → m < k + 1 + F → rcc (x + 35) x1 (nI j) h = some q → lwC x b L m T st h q.1 q.2 nl s (lpS T x1 F k)
theorem lwC_nl {x L m k nl s : Nat} {b : Nat → Int32} {T : Nat → Int32 × Int32} {st : Nat → Nat} {h h2 : jH} {v : Int32} {r : jRd} (e : r = .inl (k, [])) (hv : v = 1) (R : cc (oc h2) x b L m T st k nl s) (f : ∀ a j : Nat, ¬ (a = x + 1 ∧ j = 5) → oc h2 a j = oc h a j) (z : h2.1 = h.1) : lwC x b L m T st h v h2 nl s r := lwC_l e hv R (cwA_0 f) (frC_5 f) z
theorem cod_p {T : Nat → Int32 × Int32} {k : Nat} (h : (T k).1.toInt ≤ 10) : cod ((T k).1, 0) = (T k).1 := if_pos h
theorem cod_n {v : Int32} : cod (11, v) = 256 + v := by
  unfold cod
  rw [if_neg (show ¬ (11 : Int32).toInt ≤ 10 by decide), if_pos rfl]
theorem cc_k {O : jO} {x L m k nl s : Nat} {b : Nat → Int32} {T : Nat → Int32 × Int32} {st : Nat → Nat} (R : cc O x b L m T st k nl s) : k ≤ m ∧ m ≤ 400 := ⟨R.1.2.2.2.2.1, R.1.2.2.1⟩
theorem E_X3_readSum_94 {b : Nat → Int32} {L : Nat} {m : Nat} {T : Nat → Int32 × Int32} {st : Nat → Nat} {en : Nat → Nat} {x : Nat} {nl : Nat} {k : Nat} {s : Nat} {j : Nat} {F : Nat} {n : Nat} {rc4 : Nat → Int32 → Int32 → jH → Option (Int32 × jH)} {a0 : Nat} {x2 : Int32} {h : jH} {q : Int32 × jH} (H : tkE b L m T st en) (G : gS x b L m T st rc4) (ha : a0 = x + 35) (R : cc (oc h) x b L m T st k nl s) (hx : x2 = nI j) (hj : 2 * j + 1 ≤ k) (hF : m < k + F) (hf : F_X3_readSum_94 n rc4 a0 x2 h = some q) : lwC x b L m T st h q.1 q.2 nl s (rdSL T F k) := by
  unfold F_X3_readSum_94 at hf
  subst ha
  have kk := cc_k R
  obtain ⟨F, rfl⟩ : ∃ F2, F = F2 + 1 := ⟨F - 1, by omega⟩
  replace hf := jbind hf
  obtain ⟨p95, e1, hf⟩ := hf
  have r1 := oc_gR e1
  rw [R.2.1.1] at r1
  cases r1
  clear e1
  replace hf := jbind hf
  obtain ⟨q100, e2, hf⟩ := hf
  replace e2 := (jcv_o e2).2
  obtain ⟨r2, f2, z2⟩ := E_X10_take (x1 := 43) R.1 (by decide) e2
  have SS2 : rlS (oc q100.2) x := rlS_C R.2.1 (frC_5 f2)
  replace hf := jite hf
  rcases hf with ⟨c3, hf⟩ | ⟨c3, hf⟩
  · skip
    cases hf
    -- leaf 0: ((1 : Int32), q100.2)
    rcases r2 with ⟨-, w, -⟩ | ⟨t2, w2⟩
    · exact absurd (c3.symm.trans w) (by decide)
    rw [w2]
    exact lwC_nl (if_neg t2) rfl R (fun _ _ _ => rfl) rfl
  · skip
    -- leaf 1: rc4 a0 q100.1 (x2 + (1 : Int32)) q100.2
    rcases r2 with ⟨t2, v2, K2⟩ | ⟨-, w⟩
    rotate_left
    · exact absurd (by rw [w]) c3
    have R2 := cc_5 R K2 f2 (Nat.le_succ _)
    have sk := R.2.2.2
    rw [hx, nI_1, v2] at hf
    have B := G (k + 1) nl s (j + 1) F 1 q100.2 q R2 (Or.inr rfl) (fun _ => by omega) (by omega) (by omega) hf
    have E : rdSL T (F + 1) k = lpS T 1 F (k + 1) := (if_pos t2).trans (if_neg (by decide)).symm
    rw [E]
    exact ⟨fun d y => by
      obtain ⟨b1, b2, b3⟩ := B.1 d y
      have b4 := cwA_tr (cwA_0 (nl := nl) (s := s) f2) (by simpa using b3)
      exact ⟨b1, b2, by simpa using b4⟩, B.2.1, frC_tr (frC_5 f2) B.2.2.1, B.2.2.2.trans z2⟩
theorem E_X3_readSum_81 {b : Nat → Int32} {L : Nat} {m : Nat} {T : Nat → Int32 × Int32} {st : Nat → Nat} {en : Nat → Nat} {x : Nat} {nl : Nat} {k : Nat} {s : Nat} {j : Nat} {F : Nat} {n : Nat} {rc4 : Nat → Int32 → Int32 → jH → Option (Int32 × jH)} {a0 : Nat} {x1 : Int32} {x2 : Int32} {h : jH} {q : Int32 × jH} (H : tkE b L m T st en) (G : gS x b L m T st rc4) (ha : a0 = x + 35) (R : cc (oc h) x b L m T st k nl s) (hx : x2 = nI j) (hj : 2 * j + 1 ≤ k) (hF : m < k + F) (hs : x1 ≠ 0 → s + 1 ≤ k) (hf : F_X3_readSum_81 n rc4 a0 x1 x2 h = some q) : lwC x b L m T st h q.1 q.2 nl s (if x1 = 0 then rdSL T F k else sqP (.inl (k, [(12, 0)])) (fun i => rdSL T F i)) := by
  unfold F_X3_readSum_81 at hf
  subst ha
  replace hf := jite hf
  rcases hf with ⟨c1, hf⟩ | ⟨c1, hf⟩
  · skip
    -- leaf 0: F_X3_readSum_94 n rc4 a0 x2 h
    rw [if_pos c1]
    exact E_X3_readSum_94 H G rfl R hx hj hF hf
  · skip
    replace hf := jbind hf
    obtain ⟨p86, e2, hf⟩ := hf
    have r2 := oc_gR e2
    rw [R.2.1.2.2] at r2
    cases r2
    clear e2
    replace hf := jbind hf
    obtain ⟨h91, e3, hf⟩ := hf
    replace e3 := (jcv_o e3).2
    have hs := hs c1
    obtain ⟨R3, w3, f3, z3⟩ := cc_em R (by omega) e3
    -- leaf 1: F_X3_readSum_94 n rc4 a0 x2 h91
    rw [if_neg c1]
    have B := E_X3_readSum_94 H G rfl R3 hx hj hF hf
    exact lwC_sq (f := fun i => rdSL T F i) (d := (k, [(12, 0)])) rfl w3 f3 z3 B
theorem E_X3_readSum_47 {b : Nat → Int32} {L : Nat} {m : Nat} {T : Nat → Int32 × Int32} {st : Nat → Nat} {en : Nat → Nat} {x : Nat} {nl : Nat} {k : Nat} {s : Nat} {j : Nat} {F : Nat} {n : Nat} {rc4 : Nat → Int32 → Int32 → jH → Option (Int32 × jH)} {a0 : Nat} {x1 : Int32} {x2 : Int32} {h : jH} {q : Int32 × jH} (H : tkE b L m T st en) (G : gS x b L m T st rc4) (ha : a0 = x + 35) (R : cc (oc h) x b L m T st k nl s) (hx : x2 = nI j) (h01 : x1 = 0 ∨ x1 = 1) (hs : x1 = 1 → s + 1 ≤ k) (hj : 2 * j ≤ k) (hF : m < k + 1 + F) (np : ¬ (0 ≤ (T k).1.toInt ∧ (T k).1.toInt ≤ 6)) (hf : F_X3_readSum_47 n rc4 a0 x1 x2 h = some q) : lwC x b L m T st h q.1 q.2 nl s (lpS T x1 F k) := by
  unfold F_X3_readSum_47 at hf
  subst ha
  have sk := R.2.2.2
  replace hf := jbind hf
  obtain ⟨p48, e1, hf⟩ := hf
  have r1 := oc_gR e1
  rw [R.2.1.1] at r1
  cases r1
  clear e1
  replace hf := jbind hf
  obtain ⟨q55, e2, hf⟩ := hf
  replace e2 := (jcv_o e2).2
  obtain ⟨r2, f2, z2⟩ := E_X10_takeNumber R.1 e2
  have SS2 : rlS (oc q55.2) x := rlS_C R.2.1 (frC_5 f2)
  replace hf := jite hf
  rcases hf with ⟨c3, hf⟩ | ⟨c3, hf⟩
  · skip
    cases hf
    -- leaf 0: ((0 : Int32), q55.2)
    rcases r2 with ⟨y2, w, -⟩ | ⟨y2, w⟩
    · exfalso
      have := y2.2.1
      rw [← w, c3] at this
      exact absurd this (by decide)
    rw [w]
    have e9 : rdPart T k = .inr k := by unfold rdPart; rw [if_neg np, if_neg y2]
    unfold lpS
    split
    · exact lwC_r (sq_r e9) rfl R.1 ⟨s, R.2.2.1⟩ frC_0 rfl
    · exact lwC_r (sq_r e9) rfl R.1 ⟨s, R.2.2.1⟩ frC_0 rfl
  · skip
    replace hf := jbind hf
    obtain ⟨p69, e4, hf⟩ := hf
    have r4 := oc_gR e4
    rw [SS2.2.2] at r4
    cases r4
    clear e4
    replace hf := jbind hf
    obtain ⟨h78, e5, hf⟩ := hf
    replace e5 := (jcv_o e5).2
    rcases r2 with ⟨y2, v2, K2⟩ | ⟨-, w⟩
    rotate_left
    · exact absurd (by rw [w]) c3
    have R2 := cc_5 R K2 f2 (Nat.le_succ _)
    obtain ⟨R5, w5, f5, z5⟩ := cc_em R2 (by omega) e5
    -- leaf 1: F_X3_readSum_81 n rc4 a0 x1 x2 h78
    rw [v2] at w5
    have w6 : cwA (oc h) (oc h78) x nl s ([(11, (T k).2)].map cod) := by
      have b4 := cwA_tr (cwA_0 (nl := nl) (s := s) f2) (by simpa using w5)
      show cwA _ _ _ _ _ [cod (11, (T k).2)]
      rw [cod_n]
      simpa using b4
    have B := E_X3_readSum_81 (F := F) H G rfl R5 hx (by omega) (by omega) (fun y => by have := hs (h01.resolve_left y); omega) hf
    unfold lpS
    have e9 : rdPart T k = .inl (k + 1, [(11, (T k).2)]) := by unfold rdPart; rw [if_neg np, if_pos y2]
    by_cases y : x1 = 0
    · rw [if_pos y]
      rw [if_pos y] at B
      exact lwC_sq e9 w6 (frC_tr (frC_5 f2) f5) (z5.trans z2) B
    · rw [if_neg y]
      rw [if_neg y] at B
      exact lwC_sq (f := fun j => sqP (.inl (j, [(12, 0)])) (fun i => rdSL T F i)) e9 w6 (frC_tr (frC_5 f2) f5) (z5.trans z2) B
theorem E_X3_readSum_4 {n : Nat} {b : Nat → Int32} {L : Nat} {m : Nat} {T : Nat → Int32 × Int32} {st : Nat → Nat} {en : Nat → Nat} {x : Nat} {nl : Nat} (H : tkE b L m T st en) : ∀ (k : Nat) {a0 : Nat} {x1 : Int32} {x2 : Int32} {h : jH} {q : Int32 × jH} (k0 : Nat) (s : Nat) (j : Nat) (F : Nat) (ha : a0 = x + 35) (R : cc (oc h) x b L m T st k0 nl s) (hx : x2 = nI j) (h01 : x1 = 0 ∨ x1 = 1) (hs : x1 = 1 → s + 1 ≤ k0) (hj : 2 * j ≤ k0) (hF : m < k0 + 1 + F), F_X3_readSum_4 n k a0 x1 x2 h = some q → lwC x b L m T st h q.1 q.2 nl s (lpS T x1 F k0)
  | 0, a0, x1, x2, h, q, k0, s, j, F, ha, R, hx, h01, hs, hj, hF, hf => by cases hf
  | k + 1, a0, x1, x2, h, q, k0, s, j, F, ha, R, hx, h01, hs, hj, hF, hf => by
    replace hf : F_X3_readSum_4_b n (F_X3_readSum_4 n k) a0 x1 x2 h = some q := hf
    unfold F_X3_readSum_4_b at hf
    subst ha
    have kk := cc_k R
    have sk := R.2.2.2
    replace hf := jite hf
    rcases hf with ⟨c1, hf⟩ | ⟨c1, hf⟩
    · skip
      cases hf
      -- leaf 0: ((0 : Int32), h)
      rw [hx, Int32.le_iff_toInt_le, nI_toInt (by omega), show (400 : Int32).toInt = 400 from rfl] at c1
      omega
    · skip
      replace hf := jbind hf
      obtain ⟨p12, e2, hf⟩ := hf
      have r2 := oc_gR e2
      rw [R.2.1.1] at r2
      cases r2
      clear e2
      replace hf := jbind hf
      obtain ⟨v15, e3, hf⟩ := hf
      replace e3 := (jcv_o e3).2
      have r3 := E_X10_kind R.1 e3
      have GG : gS x b L m T st (F_X3_readSum_4 n k) := fun k2 nl2 s2 j2 F2 y1 h2 q2 a1 a2 a3 a4 a5 a6 => E_X3_readSum_4 H k k2 s2 j2 F2 rfl a1 rfl a2 a3 a4 a5 a6
      replace hf := jite hf
      rcases hf with ⟨c4, hf⟩ | ⟨c4, hf⟩
      · skip
        -- leaf 10: F_X3_readSum_47 n rc4 a0 x1 x2 h
        exact E_X3_readSum_47 H GG rfl R hx h01 hs hj hF (fun z => by rw [r3, Int32.lt_iff_toInt_lt] at c4; have l0 : (0 : Int32).toInt = 0 := rfl; omega) hf
      · skip
        replace hf := jite hf
        rcases hf with ⟨c5, hf⟩ | ⟨c5, hf⟩
        · skip
          -- leaf 110: F_X3_readSum_47 n rc4 a0 x1 x2 h
          exact E_X3_readSum_47 H GG rfl R hx h01 hs hj hF (fun z => by rw [r3, Int32.lt_iff_toInt_lt] at c5; have l6 : (6 : Int32).toInt = 6 := rfl; omega) hf
        · skip
          replace hf := jbind hf
          obtain ⟨p30, e6, hf⟩ := hf
          have r6 := oc_gR e6
          rw [R.2.1.1] at r6
          cases r6
          clear e6
          replace hf := jbind hf
          obtain ⟨h33, e7, hf⟩ := hf
          replace e7 := (jcv_o e7).2
          have np : 0 ≤ (T k0).1.toInt ∧ (T k0).1.toInt ≤ 6 := by
            rw [r3, Int32.lt_iff_toInt_lt] at c4
            rw [r3, Int32.lt_iff_toInt_lt] at c5
            have l0 : (0 : Int32).toInt = 0 := rfl
            have l6 : (6 : Int32).toInt = 6 := rfl
            omega
          obtain ⟨K7, f7, z7⟩ := E_X10_skip R.1 (fun y => by rw [y] at np; exact absurd np.1 (by decide)) e7
          have R7 := cc_5 R K7 f7 (Nat.le_succ _)
          replace hf := jbind hf
          obtain ⟨p37, e8, hf⟩ := hf
          have r8 := oc_gR e8
          rw [R7.2.1.2.2] at r8
          cases r8
          clear e8
          replace hf := jbind hf
          obtain ⟨h41, e9, hf⟩ := hf
          replace e9 := (jcv_o e9).2
          obtain ⟨R9, w9, f9, z9⟩ := cc_em R7 (by omega) e9
          -- leaf 111: F_X3_readSum_81 n rc4 a0 x1 x2 h41
          rw [r3] at w9
          have w6 : cwA (oc h) (oc h41) x nl s ([((T k0).1, 0)].map cod) := by
            have b4 := cwA_tr (cwA_0 (nl := nl) (s := s) f7) (by simpa using w9)
            show cwA _ _ _ _ _ [cod ((T k0).1, 0)]
            rw [cod_p (by omega)]
            simpa using b4
          have B := E_X3_readSum_81 (F := F) H GG rfl R9 hx (by omega) (by omega) (fun y => by have := hs (h01.resolve_left y); omega) hf
          unfold lpS
          have e9 : rdPart T k0 = .inl (k0 + 1, [((T k0).1, 0)]) := by unfold rdPart; rw [if_pos np]
          by_cases y : x1 = 0
          · rw [if_pos y]
            rw [if_pos y] at B
            exact lwC_sq e9 w6 (frC_tr (frC_5 f7) f9) (z9.trans z7) B
          · rw [if_neg y]
            rw [if_neg y] at B
            exact lwC_sq (f := fun j => sqP (.inl (j, [(12, 0)])) (fun i => rdSL T F i)) e9 w6 (frC_tr (frC_5 f7) f9) (z9.trans z7) B
theorem E_X3_readSum {b : Nat → Int32} {L : Nat} {m : Nat} {T : Nat → Int32 × Int32} {st : Nat → Nat} {en : Nat → Nat} {x : Nat} {nl : Nat} {k : Nat} {s : Nat} {F : Nat} {n : Nat} {a0 : Nat} {h : jH} {q : Int32 × jH} (H : tkE b L m T st en) (ha : a0 = x + 35) (R : cc (oc h) x b L m T st k nl s) (hF : m < k + 1 + F) (hf : F_X3_readSum n a0 h = some q) : lwC x b L m T st h q.1 q.2 nl s (rdSum T F k) := by
  unfold F_X3_readSum at hf
  subst ha
  -- leaf : F_X3_readSum_4 n n a0 (0 : Int32) (0 : Int32) h
  exact E_X3_readSum_4 H n k s 0 F rfl R rfl (Or.inl rfl) (fun z => absurd z (by decide)) (by omega) hF hf
end
section
/-! it doesn't matter how far one may look, if it is far enough -/
theorem sq_c {a : jRd} {f g : Nat → jRd} (h : ∀ d, a = .inl d → f d.1 = g d.1) : sqP a f = sqP a g := by
  rcases a with d | e
  · have := h d rfl
    show (match f d.1 with | .inr e => .inr e | .inl e => .inl (e.1, d.2 ++ e.2) : jRd) = _
    rw [this]
    rfl
  · rfl
theorem sq_as {a : jRd} {f g : Nat → jRd} : sqP (sqP a f) g = sqP a (fun j => sqP (f j) g) := by
  rcases ha : a with d | e
  · rcases hf : f d.1 with e | e
    · rcases hg : g e.1 with r | r
      · rw [sq_ll (sq_ll rfl hf) hg, sq_ll (f := fun j => sqP (f j) g) rfl (sq_ll hf hg), List.append_assoc]
      · rw [sq_lr (sq_ll rfl hf) hg, sq_lr (f := fun j => sqP (f j) g) rfl (sq_lr hf hg)]
    · rw [sq_r (sq_lr rfl hf), sq_lr (f := fun j => sqP (f j) g) rfl (sq_r hf)]
  · rfl
theorem sq_0 {f : Nat → jRd} {k : Nat} : sqP (.inl (k, [])) f = f k := by
  rcases hf : f k with e | e
  · exact sq_ll rfl hf
  · exact sq_lr rfl hf
def cwN (w : Nat) : Nat := if w = 0 then 3 else if w = 2 then 2 else 1
section
variable {b : Nat → Int32} {L m : Nat} {T : Nat → Int32 × Int32} {st en : Nat → Nat}
theorem sl_f (H : tkE b L m T st en) : ∀ (F : Nat) {k : Nat}, k ≤ m → m < k + F → rdSL T F k = rdSL T (F + 1) k
  | 0, k, hk, hF => by omega
  | F + 1, k, hk, hF => by
    unfold rdSL
    split
    · refine sq_c fun d hd => sq_c fun e he => ?_
      cases he
      obtain ⟨c1, c2, c3⟩ := part_i H hd
      exact sl_f H F (by omega) (by omega)
    · rfl
theorem sum_f (H : tkE b L m T st en) {F k : Nat} (hF : m < k + 1 + F) : rdSum T F k = rdSum T (F + 1) k := by
  refine sq_c fun d hd => ?_
  obtain ⟨c1, c2, c3⟩ := part_i H hd
  exact sl_f H F (by omega) (by omega)
theorem g_f (H : tkE b L m T st en) : ∀ (F : Nat) {w dp k : Nat}, k ≤ m → w ≤ 4 → 4 * m + cwN w ≤ F + 4 * k → rdG T F w dp k = rdG T (F + 1) w dp k
  | 0, w, dp, k, hk, hw, hF => by
    have : 1 ≤ cwN w := by unfold cwN; split <;> (try split) <;> omega
    omega
  | F + 1, w, dp, k, hk, hw, hF => by
    have tok : ∀ {c : Int32} {j : Nat}, (T j).1 = c → c ≠ -1 → j < m := fun h1 h2 => tk_m H (by rw [h1]; exact h2)
    rcases (by omega : w = 0 ∨ w = 1 ∨ w = 2 ∨ w = 3 ∨ w = 4) with y | y | y | y | y <;> subst y
    · have c : cwN 0 = 3 := rfl
      rw [rdG_0, rdG_0, ← g_f H F hk (by decide) (by have : cwN 2 = 2 := rfl; omega)]
      refine sq_c fun d hd => ?_
      have gi := g_i H F hk hd
      have gi4 := gi.2.2.2 (by decide)
      exact g_f H F gi.2.1 (by decide) (by have : cwN 4 = 1 := rfl; omega)
    · have c : cwN 1 = 1 := rfl
      rw [rdG_1, rdG_1]
      by_cases t : (T k).1 = 40
      · have tm := tok t (by decide)
        rw [if_pos t, if_pos t]
        split
        · rfl
        · rw [← g_f H F (by omega) (by decide) (by have : cwN 0 = 3 := rfl; omega)]
      · rw [if_neg t, if_neg t]
        by_cases t : (T k).1 = 11
        · have tm := tok t (by decide)
          rw [if_pos t, if_pos t]
          split
          · rfl
          · rw [← g_f H F (by omega) (by decide) (by omega)]
        · rw [if_neg t, if_neg t]
          split
          · rfl
          · rw [← sum_f H (F := F) (k := k) (by omega)]
            refine sq_c fun d hd => ?_
            obtain ⟨c1, c2, c3, c4⟩ := sum_i H hd
            rw [← sum_f H (F := F) (k := d.1 + 1) (by omega)]
    · have c : cwN 2 = 2 := rfl
      rw [rdG_2, rdG_2, ← g_f H F hk (by decide) (by have : cwN 1 = 1 := rfl; omega)]
      refine sq_c fun d hd => ?_
      have gi := g_i H F hk hd
      have gi4 := gi.2.2.2 (by decide)
      exact g_f H F gi.2.1 (by decide) (by have : cwN 3 = 1 := rfl; omega)
    · have c : cwN 3 = 1 := rfl
      rw [rdG_3, rdG_3]
      by_cases t : (T k).1 = 12
      · have tm := tok t (by decide)
        rw [if_pos t, if_pos t, ← g_f H F (by omega) (by decide) (by have : cwN 1 = 1 := rfl; omega)]
        refine sq_c fun d hd => sq_c fun e he => ?_
        cases he
        have gi := g_i H F (by omega) hd
        exact g_f H F gi.2.1 (by decide) (by omega)
      · rw [if_neg t, if_neg t]
    · have c : cwN 4 = 1 := rfl
      rw [rdG_4, rdG_4]
      by_cases t : (T k).1 = 13
      · have tm := tok t (by decide)
        rw [if_pos t, if_pos t, ← g_f H F (by omega) (by decide) (by have : cwN 2 = 2 := rfl; omega)]
        refine sq_c fun d hd => sq_c fun e he => ?_
        cases he
        have gi := g_i H F (by omega) hd
        exact g_f H F gi.2.1 (by decide) (by omega)
      · rw [if_neg t, if_neg t]
theorem g_2 (H : tkE b L m T st en) (hm : m ≤ 400) {w dp k : Nat} (hk : k ≤ m) (hw : w ≤ 4) : rdG T 2000 w dp k = rdG T (2000 + 1) w dp k := g_f H 2000 hk hw (by
  have : cwN w ≤ 3 := by unfold cwN; split <;> (try split) <;> omega
  omega)
end
end
section
/-! comparisons and atoms, the class -/
theorem lwC_p5 {x L m nl s : Nat} {b : Nat → Int32} {T : Nat → Int32 × Int32} {st : Nat → Nat} {h h2 h3 : jH} {v : Int32} {r : jRd} (f : ∀ a j : Nat, ¬ (a = x + 1 ∧ j = 5) → oc h2 a j = oc h a j) (z : h2.1 = h.1) (B : lwC x b L m T st h2 v h3 nl s r) : lwC x b L m T st h v h3 nl s r := by
  refine ⟨fun d y => ?_, B.2.1, frC_tr (frC_5 f) B.2.2.1, B.2.2.2.trans z⟩
  obtain ⟨b1, b2, b3⟩ := B.1 d y
  have b4 := cwA_tr (cwA_0 (nl := nl) (s := s) f) (by simpa using b3)
  exact ⟨b1, b2, by simpa using b4⟩
def cmpS (T : Nat → Int32 × Int32) (k : Nat) : jRd := sqP (rdSum T 2000 k) (fun j => if (T j).1 = 60 then sqP (rdSum T 2000 (j + 1)) (fun i => .inl (i, [(13, 0)])) else if (T j).1 = 62 then sqP (rdSum T 2000 (j + 1)) (fun i => .inl (i, [(14, 0)])) else .inr j)
def gPc (x : Nat) (b : Nat → Int32) (L m : Nat) (T : Nat → Int32 × Int32) (st : Nat → Nat) (w : Nat) (g : Nat → Int32 → jH → Option (Int32 × jH)) : Prop :=
  ∀ (k nl s dp : Nat) (h : jH) (q : Int32 × jH), cc (oc h) x b L m T st k nl s → dp ≤ 6 → g (x + 35) (nI dp) h = some q → lwC x b L m T st h q.1 q.2 nl s (rdG T 2000 w dp k)
theorem E_X3_readComparison_43 {b : Nat → Int32} {L : Nat} {m : Nat} {T : Nat → Int32 × Int32} {st : Nat → Nat} {en : Nat → Nat} {x : Nat} {nl : Nat} {k : Nat} {s : Nat} {c : Int32} {n : Nat} {a0 : Nat} {x1 : Int32} {h : jH} {q : Int32 × jH} (H : tkE b L m T st en) (ha : a0 = x + 35) (R : cc (oc h) x b L m T st k nl s) (hs : s + 1 ≤ k) (hc : cod (c, 0) = x1) (hf : F_X3_readComparison_43 n a0 x1 h = some q) : lwC x b L m T st h q.1 q.2 nl s (sqP (rdSum T 2000 k) (fun i => .inl (i, [(c, 0)]))) := by
  unfold F_X3_readComparison_43 at hf
  subst ha
  replace hf := jbind hf
  obtain ⟨q44, e1, hf⟩ := hf
  replace e1 := (jcv_o e1).2
  have kk := cc_k R
  have A := E_X3_readSum (F := 2000) H rfl R (by omega) e1
  have SS1 : rlS (oc q44.2) x := rlS_C R.2.1 A.2.2.1
  replace hf := jbind hf
  obtain ⟨p49, e2, hf⟩ := hf
  have r2 := oc_gR e2
  rw [SS1.2.2] at r2
  cases r2
  clear e2
  replace hf := jbind hf
  obtain ⟨h53, e3, hf⟩ := hf
  replace e3 := (jcv_o e3).2
  replace hf := jite hf
  rcases hf with ⟨c4, hf⟩ | ⟨c4, hf⟩
  · skip
    cases hf
    -- leaf 0: (q44.1, h53)
    rcases hA : rdSum T 2000 k with d | f
    · obtain ⟨v, R4, w4⟩ := A.1 d hA
      obtain ⟨p1, p2, p3, p4⟩ := sum_i H hA
      obtain ⟨R5, w5, f5, z5⟩ := cc_em R4 (by omega) e3
      rw [← hA]
      exact lwC_sq hA w4 A.2.2.1 A.2.2.2 (lwC_l rfl v R5 (by rw [List.map_cons, hc]; exact w5) f5 z5)
    · obtain ⟨v, k4, s4, c5⟩ := A.2.1 f hA
      obtain ⟨k5, f5, z5, c6⟩ := ck_em k4 c5 e3
      exact lwC_r (sq_r rfl) v k5 c6 (frC_tr A.2.2.1 f5) (z5.trans A.2.2.2)
  · skip
    cases hf
theorem E_X3_readComparison {b : Nat → Int32} {L : Nat} {m : Nat} {T : Nat → Int32 × Int32} {st : Nat → Nat} {en : Nat → Nat} {x : Nat} {nl : Nat} {k : Nat} {s : Nat} {n : Nat} {a0 : Nat} {h : jH} {q : Int32 × jH} (H : tkE b L m T st en) (ha : a0 = x + 35) (R : cc (oc h) x b L m T st k nl s) (hf : F_X3_readComparison n a0 h = some q) : lwC x b L m T st h q.1 q.2 nl s (cmpS T k) := by
  unfold F_X3_readComparison at hf
  subst ha
  replace hf := jbind hf
  obtain ⟨q1, e1, hf⟩ := hf
  replace e1 := (jcv_o e1).2
  have kk := cc_k R
  have A := E_X3_readSum (F := 2000) H rfl R (by omega) e1
  have SS1 : rlS (oc q1.2) x := rlS_C R.2.1 A.2.2.1
  replace hf := jite hf
  rcases hf with ⟨c2, hf⟩ | ⟨c2, hf⟩
  · skip
    cases hf
    -- leaf 0: ((0 : Int32), q1.2)
    rcases hA : rdSum T 2000 k with d | f
    · exact absurd (c2.symm.trans (A.1 d hA).1) (by decide)
    obtain ⟨-, k4, c5⟩ := A.2.1 f hA
    exact lwC_r (sq_r hA) rfl k4 c5 A.2.2.1 A.2.2.2
  · skip
    replace hf := jbind hf
    obtain ⟨p10, e3, hf⟩ := hf
    have r3 := oc_gR e3
    rw [SS1.1] at r3
    cases r3
    clear e3
    replace hf := jbind hf
    obtain ⟨v13, e4, hf⟩ := hf
    replace e4 := (jcv_o e4).2
    rcases hA : rdSum T 2000 k with d | f
    rotate_left
    · exact absurd (A.2.1 f hA).1 c2
    obtain ⟨-, R4, w4⟩ := A.1 d hA
    obtain ⟨p1, p2, p3, p4⟩ := sum_i H hA
    have r4 := E_X10_kind R4.1 e4
    replace hf := jbind hf
    obtain ⟨p18, e5, hf⟩ := hf
    have r5 := oc_gR e5
    rw [SS1.1] at r5
    cases r5
    clear e5
    replace hf := jbind hf
    obtain ⟨q23, e6, hf⟩ := hf
    replace e6 := (jcv_o e6).2
    obtain ⟨r6, f6, z6⟩ := E_X10_take (x1 := 60) R4.1 (by decide) e6
    have SS6 : rlS (oc q23.2) x := rlS_C R4.2.1 (frC_5 f6)
    replace hf := jite hf
    rcases hf with ⟨c7, hf⟩ | ⟨c7, hf⟩
    · skip
      replace hf := jbind hf
      obtain ⟨p30, e8, hf⟩ := hf
      have r8 := oc_gR e8
      rw [SS6.1] at r8
      cases r8
      clear e8
      replace hf := jbind hf
      obtain ⟨q35, e9, hf⟩ := hf
      replace e9 := (jcv_o e9).2
      rcases r6 with ⟨-, w, -⟩ | ⟨t6, w6⟩
      · exact absurd (c7.symm.trans w) (by decide)
      have R6 : cc (oc q23.2) x b L m T st d.1 nl (s + d.2.length) := by rw [w6]; exact R4
      obtain ⟨r9, f9, z9⟩ := E_X10_take (x1 := 62) R6.1 (by decide) e9
      have SS9 : rlS (oc q35.2) x := rlS_C R6.2.1 (frC_5 f9)
      replace hf := jite hf
      rcases hf with ⟨c10, hf⟩ | ⟨c10, hf⟩
      · skip
        cases hf
        -- leaf 100: ((0 : Int32), q35.2)
        rcases r9 with ⟨-, w, -⟩ | ⟨t9, w9⟩
        · exact absurd (c10.symm.trans w) (by decide)
        refine lwC_sq hA w4 A.2.2.1 A.2.2.2 ?_
        rw [if_neg t6, if_neg t9]
        exact lwC_r rfl rfl (by rw [w9]; exact R6.1) ⟨_, by rw [w9]; exact R6.2.2.1⟩ (frC_tr (frC_5 f6) (frC_5 f9)) (z9.trans z6)
      · skip
        -- leaf 101: F_X3_readComparison_43 n a0 v13 q35.2
        rcases r9 with ⟨t9, v9, K9⟩ | ⟨-, w⟩
        rotate_left
        · exact absurd (by rw [w]) c10
        have R9 := cc_5 R6 K9 f9 (Nat.le_succ _)
        have sk := R.2.2.2
        have B := E_X3_readComparison_43 (c := 14) H rfl R9 (by omega) (by rw [r4, t9]; rfl) hf
        refine lwC_sq hA w4 A.2.2.1 A.2.2.2 ?_
        rw [if_neg t6, if_pos t9]
        exact lwC_p5 f6 z6 (lwC_p5 f9 z9 B)
    · skip
      -- leaf 11: F_X3_readComparison_43 n a0 v13 q23.2
      rcases r6 with ⟨t6, v6, K6⟩ | ⟨-, w⟩
      rotate_left
      · exact absurd (by rw [w]) c7
      have R6 := cc_5 R4 K6 f6 (Nat.le_succ _)
      have sk := R.2.2.2
      have B := E_X3_readComparison_43 (c := 13) H rfl R6 (by omega) (by rw [r4, t6]; rfl) hf
      refine lwC_sq hA w4 A.2.2.1 A.2.2.2 ?_
      rw [if_pos t6]
      exact lwC_p5 f6 z6 B
theorem E_X3_readAtom_128 {b : Nat → Int32} {L : Nat} {m : Nat} {T : Nat → Int32 × Int32} {st : Nat → Nat} {en : Nat → Nat} {x : Nat} {nl : Nat} {k : Nat} {s : Nat} {n : Nat} {g0 : Nat → Int32 → jH → Option (Int32 × jH)} {g1 : Nat → Int32 → jH → Option (Int32 × jH)} {a0 : Nat} {h : jH} {q : Int32 × jH} (H : tkE b L m T st en) (ha : a0 = x + 35) (R : cc (oc h) x b L m T st k nl s) (hf : F_X3_readAtom_128 n g0 g1 a0 h = some q) : lwC x b L m T st h q.1 q.2 nl s (cmpS T k) := by
  unfold F_X3_readAtom_128 at hf
  subst ha
  replace hf := jbind hf
  obtain ⟨q129, e1, hf⟩ := hf
  replace e1 := (jcv_o e1).2
  have A := E_X3_readComparison H rfl R e1
  replace hf := jite hf
  rcases hf with ⟨c2, hf⟩ | ⟨c2, hf⟩
  · skip
    cases hf
    -- leaf 0: (q129.1, q129.2)
    exact A
  · skip
    cases hf
theorem E_X3_readAtom_28 {b : Nat → Int32} {L : Nat} {m : Nat} {T : Nat → Int32 × Int32} {st : Nat → Nat} {en : Nat → Nat} {x : Nat} {nl : Nat} {k : Nat} {s : Nat} {dp : Nat} {n : Nat} {g0 : Nat → Int32 → jH → Option (Int32 × jH)} {g1 : Nat → Int32 → jH → Option (Int32 × jH)} {a0 : Nat} {x1 : Int32} {x2 : Int32} {h : jH} {q : Int32 × jH} (H : tkE b L m T st en) (G0 : gPc x b L m T st 0 g0) (G1 : gPc x b L m T st 1 g1) (ha : a0 = x + 35) (R : cc (oc h) x b L m T st k nl s) (hx : x1 = nI dp) (hk : x2 = (T k).1) (hd : dp ≤ 6) (hd2 : (T k).1 = 11 ∨ (T k).1 = 40 → dp < 6) (hf : F_X3_readAtom_28 n g0 g1 a0 x1 x2 h = some q) : lwC x b L m T st h q.1 q.2 nl s (rdG T 2000 1 dp k) := by
  unfold F_X3_readAtom_28 at hf
  subst ha
  have kk := cc_k R
  have sk := R.2.2.2
  have E := (g_2 (w := 1) (dp := dp) H kk.2 kk.1 (by decide)).trans rdG_1
  replace hf := jbind hf
  obtain ⟨p29, e1, hf⟩ := hf
  have r1 := oc_gR e1
  rw [R.2.1.1] at r1
  cases r1
  clear e1
  replace hf := jbind hf
  obtain ⟨q34, e2, hf⟩ := hf
  replace e2 := (jcv_o e2).2
  obtain ⟨r2, f2, z2⟩ := E_X10_take (x1 := 11) R.1 (by decide) e2
  have SS2 : rlS (oc q34.2) x := rlS_C R.2.1 (frC_5 f2)
  replace hf := jite hf
  rcases hf with ⟨c3, hf⟩ | ⟨c3, hf⟩
  · skip
    replace hf := jbind hf
    obtain ⟨p60, e4, hf⟩ := hf
    have r4 := oc_gR e4
    rw [SS2.1] at r4
    cases r4
    clear e4
    replace hf := jbind hf
    obtain ⟨q65, e5, hf⟩ := hf
    replace e5 := (jcv_o e5).2
    rcases r2 with ⟨-, w, -⟩ | ⟨t2, w2⟩
    · exact absurd (c3.symm.trans w) (by decide)
    have R2 : cc (oc q34.2) x b L m T st k nl s := by rw [w2]; exact R
    obtain ⟨r5, f5, z5⟩ := E_X10_take (x1 := 40) R2.1 (by decide) e5
    have SS5 : rlS (oc q65.2) x := rlS_C R2.2.1 (frC_5 f5)
    replace hf := jite hf
    rcases hf with ⟨c6, hf⟩ | ⟨c6, hf⟩
    · skip
      replace hf := jite hf
      rcases hf with ⟨c7, hf⟩ | ⟨c7, hf⟩
      · skip
        -- leaf 000: F_X3_readAtom_128 n g0 g1 a0 q65.2
        rcases r5 with ⟨-, w, -⟩ | ⟨t5, w5⟩
        · exact absurd (c6.symm.trans w) (by decide)
        have R5 : cc (oc q65.2) x b L m T st k nl s := by rw [w5]; exact R2
        have f25 : ∀ a j : Nat, ¬ (a = x + 1 ∧ j = 5) → oc q65.2 a j = oc h a j := fun a j u => (f5 a j u).trans (f2 a j u)
        have nt : ¬ (7 ≤ (T k).1.toInt ∧ (T k).1.toInt ≤ 10) := fun z => by
          rw [hk, Int32.lt_iff_toInt_lt] at c7
          have l7 : (7 : Int32).toInt = 7 := rfl
          have l10 : (10 : Int32).toInt = 10 := rfl
          omega
        have B := E_X3_readAtom_128 H rfl R5 hf
        rw [E, if_neg t5, if_neg t2, if_neg nt]
        exact lwC_p5 f25 (z5.trans z2) B
      · skip
        replace hf := jite hf
        rcases hf with ⟨c8, hf⟩ | ⟨c8, hf⟩
        · skip
          -- leaf 0010: F_X3_readAtom_128 n g0 g1 a0 q65.2
          rcases r5 with ⟨-, w, -⟩ | ⟨t5, w5⟩
          · exact absurd (c6.symm.trans w) (by decide)
          have R5 : cc (oc q65.2) x b L m T st k nl s := by rw [w5]; exact R2
          have f25 : ∀ a j : Nat, ¬ (a = x + 1 ∧ j = 5) → oc q65.2 a j = oc h a j := fun a j u => (f5 a j u).trans (f2 a j u)
          have nt : ¬ (7 ≤ (T k).1.toInt ∧ (T k).1.toInt ≤ 10) := fun z => by
            rw [hk, Int32.lt_iff_toInt_lt] at c8
            have l7 : (7 : Int32).toInt = 7 := rfl
            have l10 : (10 : Int32).toInt = 10 := rfl
            omega
          have B := E_X3_readAtom_128 H rfl R5 hf
          rw [E, if_neg t5, if_neg t2, if_neg nt]
          exact lwC_p5 f25 (z5.trans z2) B
        · skip
          replace hf := jbind hf
          obtain ⟨p112, e9, hf⟩ := hf
          have r9 := oc_gR e9
          rw [SS5.1] at r9
          cases r9
          clear e9
          replace hf := jbind hf
          obtain ⟨h115, e10, hf⟩ := hf
          replace e10 := (jcv_o e10).2
          rcases r5 with ⟨-, w, -⟩ | ⟨t5, w5⟩
          · exact absurd (c6.symm.trans w) (by decide)
          have R5 : cc (oc q65.2) x b L m T st k nl s := by rw [w5]; exact R2
          have f25 : ∀ a j : Nat, ¬ (a = x + 1 ∧ j = 5) → oc q65.2 a j = oc h a j := fun a j u => (f5 a j u).trans (f2 a j u)
          have tg : 7 ≤ (T k).1.toInt ∧ (T k).1.toInt ≤ 10 := by
            rw [hk, Int32.lt_iff_toInt_lt] at c7
            rw [hk, Int32.lt_iff_toInt_lt] at c8
            have l7 : (7 : Int32).toInt = 7 := rfl
            have l10 : (10 : Int32).toInt = 10 := rfl
            omega
          obtain ⟨K10, f10, z10⟩ := E_X10_skip R5.1 (fun y => by rw [y] at tg; exact absurd tg.1 (by decide)) e10
          have R10 := cc_5 R5 K10 f10 (Nat.le_succ _)
          replace hf := jbind hf
          obtain ⟨p119, e11, hf⟩ := hf
          have r11 := oc_gR e11
          rw [R10.2.1.2.2] at r11
          cases r11
          clear e11
          replace hf := jbind hf
          obtain ⟨h123, e12, hf⟩ := hf
          replace e12 := (jcv_o e12).2
          cases hf
          -- leaf 0011: ((1 : Int32), h123)
          obtain ⟨R12, w12, f12, z12⟩ := cc_em R10 (by omega) e12
          rw [hk] at w12
          rw [E, if_neg t5, if_neg t2, if_pos tg]
          exact lwC_p5 f25 (z5.trans z2) (lwC_p5 f10 z10 (lwC_l rfl rfl R12 (by rw [List.map_cons, cod_p (by omega)]; exact w12) f12 z12))
    · skip
      replace hf := jbind hf
      obtain ⟨q75, e13, hf⟩ := hf
      replace e13 := (jcv_o e13).2
      rcases r5 with ⟨t5, v5, K5⟩ | ⟨-, w⟩
      rotate_left
      · exact absurd (by rw [w]) c6
      have R5 := cc_5 R2 K5 f5 (Nat.le_succ _)
      have dl := hd2 (Or.inr t5)
      rw [hx, nI_1] at e13
      have A := G0 (k + 1) nl s (dp + 1) q65.2 q75 R5 (by omega) e13
      have E1 := E.trans ((if_pos t5).trans (if_neg (show ¬ dp = 6 by omega)))
      have f25 : ∀ a j : Nat, ¬ (a = x + 1 ∧ j = 5) → oc q65.2 a j = oc h a j := fun a j u => (f5 a j u).trans (f2 a j u)
      have SS13 : rlS (oc q75.2) x := rlS_C R5.2.1 A.2.2.1
      replace hf := jite hf
      rcases hf with ⟨c14, hf⟩ | ⟨c14, hf⟩
      · skip
        cases hf
        -- leaf 010: ((0 : Int32), q75.2)
        rcases hA : rdG T 2000 0 (dp + 1) (k + 1) with d | f
        · exact absurd (c14.symm.trans (A.1 d hA).1) (by decide)
        obtain ⟨-, k4, c5⟩ := A.2.1 f hA
        rw [E1]
        exact lwC_p5 f25 (z5.trans z2) (lwC_r (sq_r hA) rfl k4 c5 A.2.2.1 A.2.2.2)
      · skip
        replace hf := jbind hf
        obtain ⟨p82, e15, hf⟩ := hf
        have r15 := oc_gR e15
        rw [SS13.1] at r15
        cases r15
        clear e15
        replace hf := jbind hf
        obtain ⟨q87, e16, hf⟩ := hf
        replace e16 := (jcv_o e16).2
        rcases hA : rdG T 2000 0 (dp + 1) (k + 1) with d | f
        rotate_left
        · exact absurd (A.2.1 f hA).1 c14
        obtain ⟨-, R14, w14⟩ := A.1 d hA
        obtain ⟨r16, f16, z16⟩ := E_X10_take (x1 := 41) R14.1 (by decide) e16
        have SS16 : rlS (oc q87.2) x := rlS_C R14.2.1 (frC_5 f16)
        replace hf := jite hf
        rcases hf with ⟨c17, hf⟩ | ⟨c17, hf⟩
        · skip
          cases hf
          -- leaf 0110: ((0 : Int32), q87.2)
          rcases r16 with ⟨-, w, -⟩ | ⟨t16, w16⟩
          · exact absurd (c17.symm.trans w) (by decide)
          rw [E1]
          refine lwC_p5 f25 (z5.trans z2) (lwC_sq hA w14 A.2.2.1 A.2.2.2 ?_)
          rw [if_neg t16]
          exact lwC_r rfl rfl (by rw [w16]; exact R14.1) ⟨_, by rw [w16]; exact R14.2.2.1⟩ (frC_5 f16) z16
        · skip
          cases hf
          -- leaf 0111: ((1 : Int32), q87.2)
          rcases r16 with ⟨t16, v16, K16⟩ | ⟨-, w⟩
          rotate_left
          · exact absurd (by rw [w]) c17
          rw [E1]
          refine lwC_p5 f25 (z5.trans z2) (lwC_sq hA w14 A.2.2.1 A.2.2.2 ?_)
          rw [if_pos t16]
          exact lwC_nl rfl rfl (cc_5 R14 K16 f16 (Nat.le_succ _)) f16 z16
  · skip
    replace hf := jbind hf
    obtain ⟨q44, e18, hf⟩ := hf
    replace e18 := (jcv_o e18).2
    rcases r2 with ⟨t2, v2, K2⟩ | ⟨-, w⟩
    rotate_left
    · exact absurd (by rw [w]) c3
    have R2 := cc_5 R K2 f2 (Nat.le_succ _)
    have dl := hd2 (Or.inl t2)
    rw [hx, nI_1] at e18
    have A := G1 (k + 1) nl s (dp + 1) q34.2 q44 R2 (by omega) e18
    have E1 := E.trans ((if_neg (show ¬ (T k).1 = 40 by rw [t2]; decide)).trans ((if_pos t2).trans (if_neg (show ¬ dp = 6 by omega))))
    have SS18 : rlS (oc q44.2) x := rlS_C R2.2.1 A.2.2.1
    replace hf := jbind hf
    obtain ⟨p49, e19, hf⟩ := hf
    have r19 := oc_gR e19
    rw [SS18.2.2] at r19
    cases r19
    clear e19
    replace hf := jbind hf
    obtain ⟨h54, e20, hf⟩ := hf
    replace e20 := (jcv_o e20).2
    replace hf := jite hf
    rcases hf with ⟨c21, hf⟩ | ⟨c21, hf⟩
    · skip
      cases hf
      -- leaf 10: (q44.1, h54)
      rw [E1]
      refine lwC_p5 f2 z2 ?_
      rcases hA : rdG T 2000 1 (dp + 1) (k + 1) with d | f
      · obtain ⟨v, R4, w4⟩ := A.1 d hA
        have gi := g_i H 2000 (by have := cc_k R2; omega) hA
        obtain ⟨R5, w5, f5, z5⟩ := cc_em R4 (by omega) e20
        rw [← hA]
        exact lwC_sq hA w4 A.2.2.1 A.2.2.2 (lwC_l rfl v R5 w5 f5 z5)
      · obtain ⟨v, k4, s4, c5⟩ := A.2.1 f hA
        obtain ⟨k5, f5, z5, c6⟩ := ck_em k4 c5 e20
        exact lwC_r (sq_r rfl) v k5 c6 (frC_tr A.2.2.1 f5) (z5.trans A.2.2.2)
    · skip
      cases hf
theorem E_X3_readAtom_20 {b : Nat → Int32} {L : Nat} {m : Nat} {T : Nat → Int32 × Int32} {st : Nat → Nat} {en : Nat → Nat} {x : Nat} {nl : Nat} {k : Nat} {s : Nat} {dp : Nat} {n : Nat} {g0 : Nat → Int32 → jH → Option (Int32 × jH)} {g1 : Nat → Int32 → jH → Option (Int32 × jH)} {a0 : Nat} {x1 : Int32} {x2 : Int32} {h : jH} {q : Int32 × jH} (H : tkE b L m T st en) (G0 : gPc x b L m T st 0 g0) (G1 : gPc x b L m T st 1 g1) (ha : a0 = x + 35) (R : cc (oc h) x b L m T st k nl s) (hx : x1 = nI dp) (hk : x2 = (T k).1) (hd : dp ≤ 6) (ht : (T k).1 = 11 ∨ (T k).1 = 40) (hf : F_X3_readAtom_20 n g0 g1 a0 x1 x2 h = some q) : lwC x b L m T st h q.1 q.2 nl s (rdG T 2000 1 dp k) := by
  unfold F_X3_readAtom_20 at hf
  subst ha
  replace hf := jite hf
  rcases hf with ⟨c1, hf⟩ | ⟨c1, hf⟩
  · skip
    -- leaf 0: F_X3_readAtom_28 n g0 g1 a0 x1 x2 h
    rw [hx, Int32.lt_iff_toInt_lt, nI_toInt (by omega), show (6 : Int32).toInt = 6 from rfl] at c1
    exact E_X3_readAtom_28 H G0 G1 rfl R hx hk hd (fun _ => by omega) hf
  · skip
    cases hf
    -- leaf 1: ((0 : Int32), h)
    rw [hx, Int32.lt_iff_toInt_lt, nI_toInt (by omega), show (6 : Int32).toInt = 6 from rfl] at c1
    have kk := cc_k R
    have d6 : dp = 6 := by omega
    have E := (g_2 (w := 1) (dp := dp) H kk.2 kk.1 (by decide)).trans rdG_1
    refine lwC_r (k := k) ?_ rfl R.1 ⟨s, R.2.2.1⟩ frC_0 rfl
    rw [E]
    by_cases t : (T k).1 = 40
    · rw [if_pos t, if_pos d6]
    · rw [if_neg t, if_pos (ht.resolve_right t), if_pos d6]
theorem E_X3_readAtom {b : Nat → Int32} {L : Nat} {m : Nat} {T : Nat → Int32 × Int32} {st : Nat → Nat} {en : Nat → Nat} {x : Nat} {nl : Nat} {k : Nat} {s : Nat} {dp : Nat} {n : Nat} {g0 : Nat → Int32 → jH → Option (Int32 × jH)} {g1 : Nat → Int32 → jH → Option (Int32 × jH)} {a0 : Nat} {x1 : Int32} {h : jH} {q : Int32 × jH} (H : tkE b L m T st en) (G0 : gPc x b L m T st 0 g0) (G1 : gPc x b L m T st 1 g1) (ha : a0 = x + 35) (R : cc (oc h) x b L m T st k nl s) (hx : x1 = nI dp) (hd : dp ≤ 6) (hf : F_X3_readAtom n g0 g1 a0 x1 h = some q) : lwC x b L m T st h q.1 q.2 nl s (rdG T 2000 1 dp k) := by
  unfold F_X3_readAtom at hf
  subst ha
  replace hf := jbind hf
  obtain ⟨p1, e1, hf⟩ := hf
  have r1 := oc_gR e1
  rw [R.2.1.1] at r1
  cases r1
  clear e1
  replace hf := jbind hf
  obtain ⟨v4, e2, hf⟩ := hf
  replace e2 := (jcv_o e2).2
  have r2 := E_X10_kind R.1 e2
  replace hf := jite hf
  rcases hf with ⟨c3, hf⟩ | ⟨c3, hf⟩
  · skip
    -- leaf 0: F_X3_readAtom_20 n g0 g1 a0 x1 v4 h
    exact E_X3_readAtom_20 H G0 G1 rfl R hx r2 hd (Or.inl (r2.symm.trans c3)) hf
  · skip
    replace hf := jite hf
    rcases hf with ⟨c4, hf⟩ | ⟨c4, hf⟩
    · skip
      -- leaf 10: F_X3_readAtom_20 n g0 g1 a0 x1 v4 h
      exact E_X3_readAtom_20 H G0 G1 rfl R hx r2 hd (Or.inr (r2.symm.trans c4)) hf
    · skip
      -- leaf 11: F_X3_readAtom_28 n g0 g1 a0 x1 v4 h
      exact E_X3_readAtom_28 H G0 G1 rfl R hx r2 hd (fun z => by rcases z with z | z; exact absurd (r2.trans z) c3; exact absurd (r2.trans z) c4) hf
end
