/-! acts of the reference: the fault, what is remembered, the world after -/
def rTh (m : Nat) (c : Int32) (h h2 : jH) : Prop := oi (oc h2) m 0 = c ∧ frM m [] [0] (oc h) (oc h2) ∧ h2.1 = h.1
def rRM (m r : Nat) (h q : jH) : Prop := oi (oc q) m 7 = nI (if r < 12 then r + 1 else 12) ∧ (∀ k, k < 435 → oi (oc q) (m + 5) (435 * ((if r < 12 then r + 1 else 12) - 1) + k) = wl (oc h) m k) ∧ (∀ j, 1 ≤ j → j < (if r < 12 then r + 1 else 12) → ∀ k, k < 435 → oi (oc q) (m + 5) (435 * ((if r < 12 then r + 1 else 12) - 1 - j) + k) = oi (oc h) (m + 5) (435 * (r - j) + k)) ∧ frM m [5] [7] (oc h) (oc q) ∧ q.1 = h.1
/-- one act: fault 0, the world W2, the world before it remembered -/
def rAct (m r : Nat) (W2 : jWd) (h q : jH) : Prop := oi (oc q) m 0 = 0 ∧ wl (oc q) m = W2 ∧ oi (oc q) m 7 = nI (if r < 12 then r + 1 else 12) ∧ (∀ k, k < 435 → oi (oc q) (m + 5) (435 * ((if r < 12 then r + 1 else 12) - 1) + k) = wl (oc h) m k) ∧ (∀ j, 1 ≤ j → j < (if r < 12 then r + 1 else 12) → ∀ k, k < 435 → oi (oc q) (m + 5) (435 * ((if r < 12 then r + 1 else 12) - 1 - j) + k) = oi (oc h) (m + 5) (435 * (r - j) + k)) ∧ frM m [1, 5, 8] [0, 7, 18] (oc h) (oc q) ∧ q.1 = h.1
theorem wl_f {m : Nat} {cs fs : List Nat} {O O2 : jO} (f : frM m cs fs O O2) (h : 1 ∉ cs) : wl O2 m = wl O m := by
  refine funext fun k => oi_M f (fun c hc q => h ?_) (fun q => by omega)
  have e : c = 1 := by omega
  rw [← e]; exact hc
theorem rTh_rfl {m : Nat} {h : jH} {c : Int32} (z : oi (oc h) m 0 = c) : rTh m c h h := ⟨z, frM_rfl, rfl⟩
theorem rTh_tr {m : Nat} {c d : Int32} {h h2 h3 : jH} (a : rTh m c h h2) (b : rTh m d h2 h3) : rTh m d h h3 := ⟨b.1, frM_tr a.2.1 b.2.1, b.2.2.trans a.2.2⟩
theorem rAct_tr {m r : Nat} {c : Int32} {W2 : jWd} {h h2 h3 : jH} (a : rTh m c h h2) (b : rAct m r W2 h2 h3) : rAct m r W2 h h3 := by
  obtain ⟨b1, b2, b3, b4, b5, b6, b7⟩ := b
  exact ⟨b1, b2, b3, fun k hk => (b4 k hk).trans (congrFun (wl_f a.2.1 (by decide)) k), fun j j1 j2 k hk => (b5 j j1 j2 k hk).trans (oi_M a.2.1 (fun c hc => by cases hc) (fun q => by omega)), frM_tr (frM_le a.2.1 (fun c hc => by cases hc) (by decide)) b6, b7.trans a.2.2⟩
theorem rAct_mk18 {m r : Nat} {W2 : jWd} {h hB hC : jH} (T : oi (oc h) m 0 = 0) (R : rRM m r h hB) (f2 : frM m [1, 8] [18] (oc hB) (oc hC)) (w : wl (oc hC) m = W2) (z : hC.1 = hB.1) : rAct m r W2 h hC := by
  obtain ⟨b1, b2, b3, b4, b5⟩ := R
  have n5 : ∀ c ∈ [1, 8], m + 5 ≠ m + c := fun c hc => by simp at hc; omega
  have n0 : ∀ c ∈ [1, 8], m ≠ m + c := fun c hc => by simp at hc; omega
  exact ⟨(oi_M f2 n0 (fun _ => by decide)).trans ((oi_M b4 (fun c hc => by simp at hc; omega) (fun _ => by decide)).trans T), w, (oi_M f2 n0 (fun _ => by decide)).trans b1, fun k hk => (oi_M f2 n5 (fun q => by omega)).trans (b2 k hk), fun j j1 j2 k hk => (oi_M f2 n5 (fun q => by omega)).trans (b3 j j1 j2 k hk), frM_tr (frM_le b4 (by decide) (by decide)) (frM_le f2 (by decide) (by decide)), z.trans b5⟩
theorem rAct_mk {m r : Nat} {W2 : jWd} {h hB hC : jH} (T : oi (oc h) m 0 = 0) (R : rRM m r h hB) (f2 : frM m [1, 8] [] (oc hB) (oc hC)) (w : wl (oc hC) m = W2) (z : hC.1 = hB.1) : rAct m r W2 h hC := rAct_mk18 T R (frM_le f2 (fun c h => h) (fun c h => by cases h)) w z
theorem rTh_W {m : Nat} {c : Int32} {W : jWd} {h h2 : jH} (T : rTh m c h h2) (M : mS (oc h) m) (hW : wl (oc h) m = W) {v : Int32} (h7 : oi (oc h) m 7 = v) : mS (oc h2) m ∧ wl (oc h2) m = W ∧ oi (oc h2) m 7 = v := ⟨mS_fr M T.2.1 (by decide) (by decide), (wl_f T.2.1 (by decide)).trans hW, (oi_M T.2.1 (fun c hc => by cases hc) (fun _ => by decide)).trans h7⟩
theorem i_ring {W : jWd} {x : Int32} (K : wOK W) (h : 0 ≤ x.toInt ∧ x.toInt < (W 0).toInt) : ∃ i : Nat, i < 8 ∧ x = nI i ∧ (i : Int) < (W 0).toInt := by
  have k := K.1
  exact ⟨x.toInt.toNat, by omega, nI_k (by omega), by omega⟩
theorem E_X12_throwsIf {n : Nat} {a0 : Nat} {x1 : Int32} {x2 : Int32} {h : jH} {q : Int32 × jH} (hx : x1 = 0 ∨ x1 = 1) (hf : F_X12_throwsIf n a0 x1 x2 h = some q) : (x1 = 0 ∧ q.1 = 0 ∧ q.2 = h) ∨ (x1 = 1 ∧ q.1 = 1 ∧ rTh a0 x2 h q.2) := by
  unfold F_X12_throwsIf at hf
  replace hf := jite hf
  rcases hf with ⟨c1, hf⟩ | ⟨c1, hf⟩
  · skip
    replace hf := jite hf
    rcases hf with ⟨c2, hf⟩ | ⟨c2, hf⟩
    · skip
      cases hf
      -- leaf 00: (x1, h)
      exact Or.inl ⟨c1, c1, rfl⟩
    · skip
      cases hf
  · skip
    replace hf := jbind hf
    obtain ⟨h6, e3, hf⟩ := hf
    obtain ⟨o3, z3⟩ := oc_pf e3
    clear e3
    replace hf := jite hf
    rcases hf with ⟨c4, hf⟩ | ⟨c4, hf⟩
    · skip
      cases hf
      -- leaf 10: (x1, h6)
      have y := hx.resolve_left c1
      have g0 : oi (oc h6) a0 0 = x2 := by rw [o3, oi_eq]
      have g1 : frM a0 [] [0] (oc h) (oc h6) := by rw [o3]; exact frM_f (by decide)
      exact Or.inr ⟨y, y, g0, g1, z3⟩
    · skip
      cases hf
theorem E_X12_noRing {W : jWd} {n : Nat} {a0 : Nat} {x1 : Int32} {h : jH} {q : Int32} (M : mS (oc h) a0) (hW : wl (oc h) a0 = W) (K : wOK W) (hf : F_X12_noRing n a0 x1 h = some q) : (q = 0 ∨ q = 1) ∧ (q = 1 ↔ ¬ (0 ≤ x1.toInt ∧ x1.toInt < (W 0).toInt)) := by
  unfold F_X12_noRing at hf
  replace hf := jbind hf
  obtain ⟨v3, e1, hf⟩ := hf
  replace e1 := (jcv_o e1).2
  have r1 := E_X12_lastRing M e1
  rw [hW] at r1
  subst r1
  replace hf := jbind hf
  obtain ⟨v6, e2, hf⟩ := hf
  have r2 := E_X12_in e2
  replace hf := jite hf
  rcases hf with ⟨c3, hf⟩ | ⟨c3, hf⟩
  · skip
    cases hf
    -- leaf 0: (1 : Int32)
    have k0 := K.1
    have l0 : (0 : Int32).toInt = 0 := rfl
    have l1 : (1 : Int32).toInt = 1 := rfl
    have e3 : (W 0 - 1).toInt = (W 0).toInt - 1 := by rw [jsub (by omega) (by omega)]; omega
    rw [e3, l0] at r2
    exact ⟨Or.inr rfl, fun _ z => absurd (c3.symm.trans (r2.2.mpr (by omega))) (by decide), fun _ => rfl⟩
  · skip
    cases hf
    -- leaf 1: (0 : Int32)
    have k0 := K.1
    have l0 : (0 : Int32).toInt = 0 := rfl
    have l1 : (1 : Int32).toInt = 1 := rfl
    have e3 : (W 0 - 1).toInt = (W 0).toInt - 1 := by rw [jsub (by omega) (by omega)]; omega
    rw [e3, l0] at r2
    have y := r2.2.mp (r2.1.resolve_left c3)
    exact ⟨Or.inl rfl, fun z => absurd z (by decide), fun z => absurd (by omega) z⟩
theorem E_X12_let_34 {W : jWd} {r : Nat} {i : Nat} {n : Nat} {a0 : Nat} {x1 : Int32} {x2 : Int32} {sa0 : Nat} {s1 : Int32} {h : jH} {q : Int32 × jH} (M : mS (oc h) a0) (hW : wl (oc h) a0 = W) (K : wOK W) (h7 : oi (oc h) a0 7 = nI r) (hr : r ≤ 12) (z0 : oi (oc h) a0 0 = 0) (hs : a0 = sa0) (h01 : s1 = 0 ∨ s1 = 1) (hi : x1 = nI i) (h8 : i < 8) (hf : F_X12_let_34 n a0 x1 x2 sa0 s1 h = some q) : (s1 = 1 ∧ q.1 = 0 ∧ rTh a0 2 h q.2) ∨ (s1 = 0 ∧ q.1 = W (16 + 8 * i) ∧ rAct a0 r (upd W (16 + 8 * i) x2) h q.2) := by
  unfold F_X12_let_34 at hf
  subst hs
  replace hf := jbind hf
  obtain ⟨q35, e1, hf⟩ := hf
  replace e1 := (jcv_o e1).2
  have r1 := E_X12_throwsIf h01 e1
  replace hf := jite hf
  rcases hf with ⟨c2, hf⟩ | ⟨c2, hf⟩
  · skip
    replace hf := jbind hf
    obtain ⟨h44, e3, hf⟩ := hf
    replace e3 := (jcv_o e3).2
    have hq : q35.2 = h := by
      rcases r1 with ⟨-, -, y⟩ | ⟨-, y, -⟩
      · exact y
      · exact absurd (y.symm.trans c2) (by decide)
    rw [hq] at e3
    have R3 : rRM a0 r h h44 := E_X12_remembers M h7 hr e3
    have M3 : mS (oc h44) a0 := mS_fr M R3.2.2.2.1 (by decide) (by decide)
    obtain ⟨t1, t2, t3, t4, t5, t8, t15, t17, t19, t20, t21⟩ := id M3
    have w3 : wl (oc h44) a0 = W := (wl_f R3.2.2.2.1 (by decide)).trans hW
    replace hf := jbind hf
    obtain ⟨v50, e4, hf⟩ := hf
    replace e4 := (jcv_o e4).2
    have r4 := E_X12_of (i := i) (j := 5) (t := 16 + 8 * i) M3 hi rfl (by omega) (by omega) e4
    rw [w3] at r4
    replace hf := jbind hf
    obtain ⟨p55, e5, hf⟩ := hf
    have r5 := oc_gR e5
    rw [t1] at r5
    cases r5
    clear e5
    replace hf := jbind hf
    obtain ⟨v60, e6, hf⟩ := hf
    have r6 := E_X12_at (i := i) (j := 5) (t := 16 + 8 * i) hi rfl (by omega) e6
    replace hf := jbind hf
    obtain ⟨h64, e7, hf⟩ := hf
    obtain ⟨o7, z7, y7⟩ := oc_as e7
    rw [jnar0] at o7
    clear e7
    cases hf
    -- leaf 0: (v50, h64)
    rcases r1 with ⟨s, -, -⟩ | ⟨-, y, -⟩
    · rw [r6, nI_cl (by omega)] at o7
      have f7 : frM a0 [1, 8] [] (oc h44) (oc h64) := by rw [o7]; exact frM_c (by decide)
      have w7 : wl (oc h64) a0 = upd W (16 + 8 * i) x2 := by rw [o7, wl_w, w3]
      exact Or.inr ⟨s, r4, rAct_mk z0 R3 f7 w7 z7⟩
    · exact absurd (y.symm.trans c2) (by decide)
  · skip
    cases hf
    -- leaf 1: ((0 : Int32), q35.2)
    rcases r1 with ⟨-, y, -⟩ | ⟨s, -, T⟩
    · exact absurd y c2
    · exact Or.inl ⟨s, rfl, T⟩
