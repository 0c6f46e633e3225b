/-! acts remembered, of the reference -/
theorem wOK_cg {W W2 : jWd} (K : wOK W) (h : ∀ k, k < 75 → W2 k = W k) : wOK W2 := by
  obtain ⟨k0, k1, k2, k3, k4, k5, k6, k7, k8, k9, k10⟩ := K
  unfold wOK
  rw [h 0 (by omega), h 3 (by omega), h 4 (by omega), h 5 (by omega), h 6 (by omega), h 8 (by omega), h 9 (by omega), h 1 (by omega)]
  refine ⟨k0, fun i hi => ?_, fun i hi => ?_, fun i hi => ?_, k4, k5, k6, k7, k8, k9, k10⟩
  · rw [h _ (by omega), h _ (by omega), h _ (by omega), h _ (by omega), h _ (by omega), h _ (by omega), h _ (by omega), h _ (by omega)]
    exact k1 i hi
  · rw [h _ (by omega), h _ (by omega)]
    exact k2 i hi
  · rw [h _ (by omega)]
    exact k3 i hi
theorem rodE_cg {O : jO} {b : Nat} {W W2 : jWd} (R : rodE O b W) (K : wOK W) (h : ∀ k, k < 435 → W2 k = W k) : rodE O b W2 := by
  have K0 := K.1
  have k9 := K.2.2.2.2.2.2.2.2.2.1
  obtain ⟨S, I, RB, RC, L1, L2, L3⟩ := R
  unfold rodE
  rw [h 0 (by omega), h 7 (by omega), h 5 (by omega), h 6 (by omega), h 3 (by omega), h 4 (by omega), h 8 (by omega), h 10 (by omega), h 1 (by omega)]
  refine ⟨S, I, fun i hi => ?_, RC, ?_⟩
  · rw [h _ (by omega), h _ (by omega), h _ (by omega), h _ (by omega), h _ (by omega), h _ (by omega), h _ (by omega), h _ (by omega)]
    exact RB i hi
  · unfold logE
    rw [h 9 (by omega)]
    refine ⟨L1, L2, fun a ha => ?_⟩
    rw [h _ (by omega), h _ (by omega), h _ (by omega), h _ (by omega), h _ (by omega), h _ (by omega)]
    exact L3 a ha
theorem E_X12_remembers {r : Nat} {n : Nat} {a0 : Nat} {h : jH} {q : jH} (M : mS (oc h) a0) (h7 : oi (oc h) a0 7 = nI r) (hr : r ≤ 12) (hf : F_X12_remembers n a0 h = some q) : oi (oc q) a0 7 = nI (if r < 12 then r + 1 else 12) ∧ (∀ k, k < 435 → oi (oc q) (a0 + 5) (435 * ((if r < 12 then r + 1 else 12) - 1) + k) = wl (oc h) a0 k) ∧ (∀ j, 1 ≤ j → j < (if r < 12 then r + 1 else 12) → ∀ k, k < 435 → oi (oc q) (a0 + 5) (435 * ((if r < 12 then r + 1 else 12) - 1 - j) + k) = oi (oc h) (a0 + 5) (435 * (r - j) + k)) ∧ frM a0 [5] [7] (oc h) (oc q) ∧ q.1 = h.1 := by
  unfold F_X12_remembers at hf
  replace hf := jbind hf
  obtain ⟨v1, e1, hf⟩ := hf
  have r1 := oc_gI e1
  subst r1
  clear e1
  replace hf := jite hf
  rcases hf with ⟨c2, hf⟩ | ⟨c2, hf⟩
  · skip
    -- leaf 0: F_X12_remembers_11 n n a0 (0 : Int32) h
    rw [h7] at c2
    have r9 : r = 12 := by rw [show (12 : Int32) = nI 12 from rfl, nI_eq (by omega) (by omega)] at c2; exact c2
    subst r9
    obtain ⟨h2, ⟨a1, a2, a3⟩, hf⟩ := E_X12_remembers_11 n 0 M rfl (by omega) hf
    have M2 := mS_fr M a2 (by decide) (by decide)
    have g7 : oi (oc h2) a0 7 = nI 12 := (frM_oi a2 (by decide) (by decide)).trans h7
    obtain ⟨b1, b2, b3⟩ := E_X12_remembers_55 (r := 12) n 0 M2 rfl (by omega) g7 (by omega) (by omega) hf
    have w2 : ∀ k, oi (oc h2) (a0 + 1) k = oi (oc h) (a0 + 1) k := fun k => by unfold oi; rw [a2 _ _ (fun c hc q => by simp at hc; omega) (fun q => by omega)]
    rw [if_neg (by omega)]
    refine ⟨(frM_oi b2 (by decide) (by decide)).trans g7, fun k hk => ?_, fun j j1 j2 k hk => ?_, frM_tr (frM_le a2 (fun c h => h) (fun c h => by cases h)) (frM_le b2 (fun c h => h) (fun c h => by cases h)), b3.trans a3⟩
    · rw [b1, if_pos (by omega), w2, show 435 * (12 - 1) + k - 435 * (12 - 1) = k by omega]
    · rw [b1, if_neg (by omega), a1, if_pos (by omega)]; congr 1; omega
  · skip
    replace hf := jbind hf
    obtain ⟨v45, e3, hf⟩ := hf
    have r3 := oc_gI e3
    subst r3
    clear e3
    replace hf := jbind hf
    obtain ⟨h50, e4, hf⟩ := hf
    obtain ⟨o4, z4⟩ := oc_pf e4
    clear e4
    -- leaf 1: F_X12_remembers_55 n n a0 (0 : Int32) h50
    rw [h7] at c2
    have r9 : r < 12 := by have : r ≠ 12 := fun z => c2 (by rw [z]; rfl); omega
    rw [h7, nI_1] at o4
    have f4 : frM a0 [5] [7] (oc h) (oc h50) := by rw [o4]; exact frM_f (by decide)
    have M2 := mS_fr M f4 (by decide) (by decide)
    have g7 : oi (oc h50) a0 7 = nI (r + 1) := by rw [o4, oi_eq]
    obtain ⟨b1, b2, b3⟩ := E_X12_remembers_55 (r := r + 1) n 0 M2 rfl (by omega) g7 (by omega) (by omega) hf
    have w2 : ∀ c k, c ≠ 0 → oi (oc h50) (a0 + c) k = oi (oc h) (a0 + c) k := fun c k hc => by rw [o4, oi_ne (Or.inl (by omega))]
    rw [if_pos r9]
    refine ⟨(frM_oi b2 (by decide) (by decide)).trans g7, fun k hk => ?_, fun j j1 j2 k hk => ?_, frM_tr f4 (frM_le b2 (fun c h => h) (fun c h => by cases h)), b3.trans z4⟩
    · rw [b1, if_pos (by omega), w2 1 _ (by omega)]; congr 1; omega
    · rw [b1, if_neg (by omega), w2 5 _ (by omega), show r + 1 - 1 = r by omega]
theorem E_X12_undo {r : Nat} {n : Nat} {a0 : Nat} {h : jH} {q : Int32 × jH} (M : mS (oc h) a0) (h7 : oi (oc h) a0 7 = nI r) (hr : r ≤ 12) (hf : F_X12_undo n a0 h = some q) : (r = 0 ∧ q.1 = 0 ∧ frM a0 [] [0] (oc h) (oc q.2) ∧ q.2.1 = h.1 ∧ oi (oc q.2) a0 0 = 0) ∨ (1 ≤ r ∧ q.1 = 1 ∧ oi (oc q.2) a0 7 = nI (r - 1) ∧ (∀ k, wl (oc q.2) a0 k = if k < 435 then oi (oc h) (a0 + 5) (435 * (r - 1) + k) else wl (oc h) a0 k) ∧ frM a0 [1] [0, 7] (oc h) (oc q.2) ∧ q.2.1 = h.1 ∧ oi (oc q.2) a0 0 = 0) := by
  unfold F_X12_undo at hf
  replace hf := jbind hf
  obtain ⟨h2, e1, hf⟩ := hf
  obtain ⟨o1, z1⟩ := oc_pf e1
  clear e1
  replace hf := jbind hf
  obtain ⟨v6, e2, hf⟩ := hf
  have r2 := oc_gI e2
  rw [o1] at r2
  rw [oi_ne (Or.inr (by decide))] at r2
  subst r2
  clear e2
  replace hf := jite hf
  rcases hf with ⟨c3, hf⟩ | ⟨c3, hf⟩
  · skip
    cases hf
    -- leaf 0: ((0 : Int32), h2)
    rw [h7] at c3
    have r9 : r = 0 := by rw [show (0 : Int32) = nI 0 from rfl, nI_eq (by omega) (by omega)] at c3; exact c3
    exact Or.inl ⟨r9, rfl, by show frM a0 [] [0] (oc h) (oc h2); rw [o1]; exact frM_f (by decide), z1, by show oi (oc h2) a0 0 = 0; rw [o1, oi_eq]⟩
  · skip
    replace hf := jbind hf
    obtain ⟨v16, e4, hf⟩ := hf
    have r4 := oc_gI e4
    rw [o1] at r4
    rw [oi_ne (Or.inr (by decide))] at r4
    subst r4
    clear e4
    replace hf := jbind hf
    obtain ⟨h21, e5, hf⟩ := hf
    obtain ⟨o5, z5⟩ := oc_pf e5
    clear e5
    -- leaf 1: F_X12_undo_26 n n a0 (0 : Int32) h21
    rw [h7] at c3
    have r9 : 1 ≤ r := by have : r ≠ 0 := fun z => c3 (by rw [z]; rfl); omega
    obtain ⟨r2, rfl⟩ : ∃ r2, r = r2 + 1 := ⟨r - 1, by omega⟩
    rw [h7, nI_pred] at o5
    have f5 : frM a0 [1] [0, 7] (oc h) (oc h21) := by rw [o5, o1]; exact frM_tr (frM_f (by decide)) (frM_f (by decide))
    have M2 := mS_fr M f5 (by decide) (by decide)
    obtain ⟨b1, b2, b3, b4⟩ := E_X12_undo_26 (r := r2) n 0 M2 rfl (by omega) (by rw [o5, oi_eq]) (by omega) hf
    have w2 : ∀ c k, c ≠ 0 → oi (oc h21) (a0 + c) k = oi (oc h) (a0 + c) k := fun c k hc => by rw [o5, oi_ne (Or.inl (by omega)), o1, oi_ne (Or.inl (by omega))]
    refine Or.inr ⟨by omega, b4, ?_, fun k => ?_, frM_tr f5 (frM_le b2 (fun c h => h) (fun c h => by cases h)), b3.trans (z5.trans z1), by rw [frM_oi b2 (by decide) (by decide), o5, oi_ne (Or.inr (by decide)), o1, oi_eq]⟩
    · rw [frM_oi b2 (by decide) (by decide), o5, oi_eq]; rfl
    · show oi (oc q.2) (a0 + 1) k = _
      rw [b1]
      by_cases y : k < 435
      · rw [if_pos (by omega), if_pos y, w2 5 _ (by omega)]; rfl
      · rw [if_neg (by omega), if_neg y, w2 1 _ (by omega)]
