section
/-! acts of the class -/
theorem E_rodnew {n : Nat} {h q : jH} (e : F_X8_init n h.1 (jnew h (.inl (6, [.null, .null, .null, .null, .null, .int 0, .int 0, .int 0, .int 0, .int 0, .int 0, .int 0, .int 0, .int 0, .int 0, .int 0, .int 0, .int 0]))) = some q) : rodS (oc q) h.1 ∧ q.1 = h.1 + 7 ∧ ∀ a k, a < h.1 → oc q a k = oc h a k := by
  obtain ⟨v, e2, j⟩ := I_X8_init (n := n) (h := h)
  cases e.symm.trans e2
  obtain ⟨j1, j2, j3⟩ := j
  have o : ∀ i, oc q (h.1 + 0) i = ([.ref (h.1 + 1), .ref (h.1 + 2), .ref (h.1 + 3), .ref (h.1 + 4), .ref (h.1 + 5), .int 0, .int 0, .int 0, .int 0, .int 0, .int 0, .int 16, .int 8, .int 0, .int 0, .int 0, .int 1, .int 0] : List Value).getD i .null := fun i => by
    unfold oc
    rw [j3 0 _ rfl]
  have o5 : ∀ i, oc q (h.1 + 5) i = ([.ref (h.1 + 6), .int 0, .int 0] : List Value).getD i .null := fun i => by
    unfold oc
    rw [j3 5 _ rfl]
  refine ⟨⟨o 0, o 1, o 2, o 3, o 4, o5 0⟩, j1, fun a k ha => ?_⟩
  unfold oc
  rw [j2 a ha]
theorem rodS_fr {O O2 : jO} {b : Nat} (s : rodS O b) (h : ∀ k, O2 b k = O b k) (h5 : O2 (b + 5) 0 = O (b + 5) 0) : rodS O2 b := by
  obtain ⟨s0, s1, s2, s3, s4, s5⟩ := s
  exact ⟨(h 0).trans s0, (h 1).trans s1, (h 2).trans s2, (h 3).trans s3, (h 4).trans s4, h5.trans s5⟩
theorem logE_fr {O O2 : jO} {l : Nat} {W : jWd} (L : logE O l W) (h : ∀ k, O2 l k = O l k) (h2 : ∀ k, O2 (l + 1) k = O (l + 1) k) : logE O2 l W := logE_cg L (fun k => by unfold oi; rw [h]) (fun k => by unfold oi; rw [h2]) (fun _ _ => rfl)
theorem rodE_fr {O O2 : jO} {b : Nat} {W : jWd} (R : rodE O b W) (h : ∀ a k, b ≤ a → a ≤ b + 6 → O2 a k = O a k) : rodE O2 b W := by
  obtain ⟨S, I, RB, RC, RL⟩ := R
  have e : ∀ a k, b ≤ a → a ≤ b + 6 → oi O2 a k = oi O a k := fun a k h1 h2 => by unfold oi; rw [h a k h1 h2]
  refine ⟨rodS_fr S (fun k => h _ _ (by omega) (by omega)) (h _ _ (by omega) (by omega)), ?_, fun i hi => ?_, fun i hi h32 => ?_, logE_fr RL (fun k => h _ _ (by omega) (by omega)) (fun k => h _ _ (by omega) (by omega))⟩
  · rw [e _ _ (by omega) (by omega), e _ _ (by omega) (by omega), e _ _ (by omega) (by omega), e _ _ (by omega) (by omega), e _ _ (by omega) (by omega), e _ _ (by omega) (by omega), e _ _ (by omega) (by omega), e _ _ (by omega) (by omega), e _ _ (by omega) (by omega)]
    exact I
  · rw [e _ _ (by omega) (by omega), e _ _ (by omega) (by omega), e _ _ (by omega) (by omega), e _ _ (by omega) (by omega), e _ _ (by omega) (by omega), e _ _ (by omega) (by omega), e _ _ (by omega) (by omega), e _ _ (by omega) (by omega)]
    exact RB i hi
  · rw [e _ _ (by omega) (by omega), e _ _ (by omega) (by omega)]
    exact RC i hi h32
theorem va_rf_s {o : Option Nat} {b : Nat} (h : va_rf o = .ref b) : o = some b := by
  cases o with
  | none => cases h
  | some c => cases h; rfl
theorem E_X0_remember_28 {n A r b nx : Nat} {W : jWd} {h q : jH} (sA : oc h A 0 = .ref (A + 1)) (hx : oi (oc h) A 1 = nI nx) (hnx : nx ≤ 11) (hb : oc h (A + 1) nx = .ref b) (R : rodE (oc h) r W) (K : wOK W) (sb : rodS (oc h) b) (dj : b + 6 < r ∨ r + 6 < b) (dA : b + 6 < A ∨ A + 1 < b) (sz : 0 ≤ (oi (oc h) A 2).toInt ∧ (oi (oc h) A 2).toInt ≤ 12) (hf : F_X0_remember_28 n A r h = some q) : rodE (oc q) b W ∧ oi (oc q) A 1 = nI ((nx + 1) % 12) ∧ (oi (oc q) A 2).toInt = (if (oi (oc h) A 2).toInt < 12 then (oi (oc h) A 2).toInt + 1 else 12) ∧ q.1 = h.1 ∧ (∀ a k, ¬ (b ≤ a ∧ a ≤ b + 6) → ¬ (a = A ∧ (k = 1 ∨ k = 2)) → oc q a k = oc h a k) := by
  unfold F_X0_remember_28 at hf
  have l12 : (12 : Int32).toInt = 12 := rfl
  have l1 : (1 : Int32).toInt = 1 := rfl
  obtain ⟨p29, e1, hf⟩ := jbind hf
  have r1 := oc_gR e1
  rw [sA] at r1
  cases r1
  obtain ⟨v33, e2, hf⟩ := jbind hf
  have r2 := oc_gI e2
  rw [hx] at r2
  subst r2
  obtain ⟨o36, e3, hf⟩ := jbind hf
  have r3 := oc_alq e3
  rw [nI_cl (by omega), hb] at r3
  have r3 := va_rf_s r3.symm
  subst r3
  replace hf : ((jcv 6 h b (F_X8_copyFrom n b r h)).bind fun h38 => (jgI 0 h38 A 1).bind fun v43 => if (12 : Int32) ≤ (v43 + (1 : Int32)) then (F_X0_remember_63 n A A (0 : Int32) h38) else ((jgI 0 h38 A 1).bind fun v54 => F_X0_remember_63 n A A (v54 + (1 : Int32)) h38)) = some q := hf
  obtain ⟨h38, e4, hf⟩ := jbind hf
  replace e4 := (jcv_o e4).2
  obtain ⟨R2, f2, z2⟩ := E_X8_copyFrom (d := b) (r := r) rfl rfl dj sb R K e4
  have iA : ∀ k, oi (oc h38) A k = oi (oc h) A k := fun k => by unfold oi; rw [f2 A k (by omega)]
  obtain ⟨v43, e5, hf⟩ := jbind hf
  have r5 := oc_gI e5
  rw [iA, hx] at r5
  subst r5
  have fin : ∀ (s : Int32), s = nI ((nx + 1) % 12) → F_X0_remember_63 n A A s h38 = some q → rodE (oc q) b W ∧ oi (oc q) A 1 = nI ((nx + 1) % 12) ∧ (oi (oc q) A 2).toInt = (if (oi (oc h) A 2).toInt < 12 then (oi (oc h) A 2).toInt + 1 else 12) ∧ q.1 = h.1 ∧ (∀ a k, ¬ (b ≤ a ∧ a ≤ b + 6) → ¬ (a = A ∧ (k = 1 ∨ k = 2)) → oc q a k = oc h a k) := by
    intro s hs hf
    unfold F_X0_remember_63 at hf
    obtain ⟨h63, g1, hf⟩ := jbind hf
    obtain ⟨o1, y1⟩ := oc_pf g1
    obtain ⟨v70, g2, hf⟩ := jbind hf
    have t2 := oc_gI g2
    rw [o1, oi_ne (Or.inr (by decide)), iA] at t2
    subst t2
    obtain ⟨h78, g3, hf⟩ := jbind hf
    obtain ⟨o3, y3⟩ := oc_pf g3
    cases hf
    refine ⟨?_, ?_, ?_, y3.trans (y1.trans z2), fun a k ha hk => ?_⟩
    · refine rodE_fr R2 (fun a k u w => ?_)
      rw [o3, u2_ne (Or.inl (by omega)), o1, u2_ne (Or.inl (by omega))]
    · rw [o3, oi_ne (Or.inr (by decide)), o1, oi_eq, hs]
    · rw [o3, oi_eq]
      have j1 := jadd (x := oi (oc h) A 2) (y := 1) (by omega) (by omega)
      by_cases z : oi (oc h) A 2 + 1 < (12 : Int32)
      · rw [if_pos z, j1]
        rw [Int32.lt_iff_toInt_lt, j1] at z
        rw [if_pos (by omega), l1]
      · rw [if_neg z, l12]
        rw [Int32.lt_iff_toInt_lt, j1] at z
        split <;> omega
    · rw [o3, u2_ne (by omega), o1, u2_ne (by omega)]
      exact f2 a k (by omega)
  have j2 := jadd (x := nI nx) (y := 1) (by rw [nI_toInt (by omega)]; omega) (by rw [nI_toInt (by omega)]; omega)
  rw [nI_toInt (by omega)] at j2
  split at hf
  · rename_i c
    rw [Int32.le_iff_toInt_le, j2] at c
    exact fin 0 (by rw [show (nx + 1) % 12 = 0 by omega]; rfl) hf
  · rename_i c
    rw [Int32.le_iff_toInt_le, j2] at c
    obtain ⟨v54, e6, hf⟩ := jbind hf
    have r6 := oc_gI e6
    rw [iA, hx] at r6
    subst r6
    exact fin _ (by rw [nI_1, show (nx + 1) % 12 = nx + 1 by omega]) hf
/-- the rod that remembers: that of its place, or a new one -/
theorem E_X0_remember {n A r nx : Nat} {W : jWd} {h q : jH} (sA : oc h A 0 = .ref (A + 1)) (hx : oi (oc h) A 1 = nI nx) (hnx : nx ≤ 11) (R : rodE (oc h) r W) (K : wOK W) (hb : ∀ b : Nat, oc h (A + 1) nx = .ref b → rodS (oc h) b ∧ (b + 6 < r ∨ r + 6 < b) ∧ (b + 6 < A ∨ A + 1 < b)) (hr : r + 6 < h.1) (hA : A + 1 < h.1) (rA : r + 6 < A ∨ A + 1 < r) (sz : 0 ≤ (oi (oc h) A 2).toInt ∧ (oi (oc h) A 2).toInt ≤ 12) (hf : F_X0_remember n A r h = some q) : ∃ b, ((oc h (A + 1) nx = .ref b ∧ q.1 = h.1) ∨ (oc h (A + 1) nx = .null ∧ b = h.1 ∧ q.1 = h.1 + 7)) ∧ oc q (A + 1) nx = .ref b ∧ rodE (oc q) b W ∧ oi (oc q) A 1 = nI ((nx + 1) % 12) ∧ (oi (oc q) A 2).toInt = (if (oi (oc h) A 2).toInt < 12 then (oi (oc h) A 2).toInt + 1 else 12) ∧ (∀ a k, a < h.1 → ¬ (b ≤ a ∧ a ≤ b + 6) → ¬ (a = A ∧ (k = 1 ∨ k = 2)) → ¬ (a = A + 1 ∧ k = nx) → oc q a k = oc h a k) := by
  unfold F_X0_remember at hf
  obtain ⟨p1, e1, hf⟩ := jbind hf
  have r1 := oc_gR e1
  rw [sA] at r1
  cases r1
  obtain ⟨v5, e2, hf⟩ := jbind hf
  have r2 := oc_gI e2
  rw [hx] at r2
  subst r2
  obtain ⟨o8, e3, hf⟩ := jbind hf
  have r3 := oc_alq e3
  rw [nI_cl (by omega)] at r3
  cases o8 with
  | some b =>
    have r3 : oc h (A + 1) nx = .ref b := r3
    obtain ⟨sb, d1, d2⟩ := hb b r3
    obtain ⟨a1, a2, a3, a4, a5⟩ := E_X0_remember_28 sA hx hnx r3 R K sb d1 d2 sz hf
    exact ⟨b, Or.inl ⟨r3, a4⟩, (a5 (A + 1) nx (by rcases d2 with z | z <;> omega) (by omega)).trans r3, a1, a2, a3, fun a k _ u w _ => a5 a k u w⟩
  | none =>
    have r3 : oc h (A + 1) nx = .null := r3
    replace hf : ((jgR 0 h A 0).bind fun p13 => (jgI 0 h A 1).bind fun v17 => (jnw h (.inl (6, [.null, .null, .null, .null, .null, .int 0, .int 0, .int 0, .int 0, .int 0, .int 0, .int 0, .int 0, .int 0, .int 0, .int 0, .int 0, .int 0]))).bind fun h20 => (F_X8_init n h.1 h20).bind fun h24 => (jasq 6 h24 p13 v17 h.1).bind fun h27 => F_X0_remember_28 n A r h27) = some q := hf
    obtain ⟨p13, e4, hf⟩ := jbind hf
    have r4 := oc_gR e4
    rw [sA] at r4
    cases r4
    obtain ⟨v17, e5, hf⟩ := jbind hf
    have r5 := oc_gI e5
    rw [hx] at r5
    subst r5
    obtain ⟨h20, e6, hf⟩ := jbind hf
    cases e6
    obtain ⟨h24, e7, hf⟩ := jbind hf
    obtain ⟨n1, n2, n3⟩ := E_rodnew e7
    obtain ⟨h27, e8, hf⟩ := jbind hf
    obtain ⟨o8, z8⟩ := oc_asq e8
    rw [nI_cl (by omega)] at o8
    have f9 : ∀ a k, a < h.1 → ¬ (a = A + 1 ∧ k = nx) → oc h27 a k = oc h a k := fun a k u w => by rw [o8, u2_ne (by omega)]; exact n3 a k u
    have i9 : ∀ k, oi (oc h27) A k = oi (oc h) A k := fun k => by unfold oi; rw [f9 A k (by omega) (by omega)]
    have s9 : rodS (oc h27) h.1 := rodS_fr n1 (fun k => by rw [o8, u2_ne (by omega)]) (by rw [o8, u2_ne (by omega)])
    obtain ⟨a1, a2, a3, a4, a5⟩ := E_X0_remember_28 (b := h.1) (W := W) ((f9 A 0 (by omega) (by omega)).trans sA) (by rw [i9]; exact hx) hnx (by rw [o8, u2_eq]) (rodE_fr R (fun a k u w => f9 a k (by omega) (by omega))) K s9 (by omega) (by omega) (by rw [i9]; exact sz) hf
    rw [i9] at a3
    exact ⟨h.1, Or.inr ⟨r3, rfl, a4.trans (z8.trans n2)⟩, by rw [a5 _ _ (by omega) (by omega), o8, u2_eq], a1, a2, a3, fun a k u w y v => (a5 a k w y).trans (f9 a k u v)⟩
end
section
theorem E_X0_takeBack_18 {n A r b s : Nat} {W : jWd} {h : jH} {q : Int32 × jH} (sA : oc h A 0 = .ref (A + 1)) (hs : s ≤ 11) (hb : oc h (A + 1) s = .ref b) (R : rodE (oc h) b W) (K : wOK W) (sr : rodS (oc h) r) (dj : r + 6 < b ∨ b + 6 < r) (dA : r + 6 < A ∨ A + 1 < r) (sz : 0 < (oi (oc h) A 2).toInt ∧ (oi (oc h) A 2).toInt ≤ 12) (hf : F_X0_takeBack_18 n A r (nI s) h = some q) : q.1 = 1 ∧ rodE (oc q.2) r W ∧ oi (oc q.2) A 1 = nI s ∧ (oi (oc q.2) A 2).toInt = (oi (oc h) A 2).toInt - 1 ∧ q.2.1 = h.1 ∧ (∀ a k, ¬ (r ≤ a ∧ a ≤ r + 6) → ¬ (a = A ∧ (k = 1 ∨ k = 2)) → oc q.2 a k = oc h a k) := by
  unfold F_X0_takeBack_18 at hf
  have l0 : (0 : Int32).toInt = 0 := rfl
  have l1 : (1 : Int32).toInt = 1 := rfl
  obtain ⟨v20, e1, hf⟩ := jbind hf
  have r1 := oc_gI e1
  subst r1
  rw [if_neg (fun z => by rw [i_eq] at z; omega)] at hf
  obtain ⟨p27, e2, hf⟩ := jbind hf
  have r2 := oc_gR e2
  rw [sA] at r2
  cases r2
  obtain ⟨o31, e3, hf⟩ := jbind hf
  have r3 := oc_alq e3
  rw [nI_cl (by omega), hb] at r3
  have r3 := va_rf_s r3.symm
  subst r3
  replace hf : ((jgR 0 h A 0).bind fun p39 => (jalq h p39 (nI s)).bind fun o43 => match o43 with | none => none | some p44_0 => ((jcv 6 h r (F_X8_copyFrom n r p44_0 h)).bind fun h44 => (jpf 0 h44 A 1 (.int (nI s))).bind fun h49 => (jgI 0 h49 A 2).bind fun v54 => (jpf 0 h49 A 2 (.int (v54 - (1 : Int32)))).bind fun h59 => some ((1 : Int32), h59))) = some q := hf
  obtain ⟨p39, e4, hf⟩ := jbind hf
  have r4 := oc_gR e4
  rw [sA] at r4
  cases r4
  obtain ⟨o43, e5, hf⟩ := jbind hf
  have r5 := oc_alq e5
  rw [nI_cl (by omega), hb] at r5
  have r5 := va_rf_s r5.symm
  subst r5
  replace hf : ((jcv 6 h r (F_X8_copyFrom n r b h)).bind fun h44 => (jpf 0 h44 A 1 (.int (nI s))).bind fun h49 => (jgI 0 h49 A 2).bind fun v54 => (jpf 0 h49 A 2 (.int (v54 - (1 : Int32)))).bind fun h59 => some ((1 : Int32), h59)) = some q := hf
  obtain ⟨h44, e6, hf⟩ := jbind hf
  replace e6 := (jcv_o e6).2
  obtain ⟨R2, f2, z2⟩ := E_X8_copyFrom (d := r) (r := b) rfl rfl dj sr R K e6
  obtain ⟨h49, e7, hf⟩ := jbind hf
  obtain ⟨o7, z7⟩ := oc_pf e7
  obtain ⟨v54, e8, hf⟩ := jbind hf
  have r8 := oc_gI e8
  rw [o7, oi_ne (Or.inr (by decide)), show oi (oc h44) A 2 = oi (oc h) A 2 by unfold oi; rw [f2 A 2 (by omega)]] at r8
  subst r8
  obtain ⟨h59, e9, hf⟩ := jbind hf
  obtain ⟨o9, z9⟩ := oc_pf e9
  cases hf
  refine ⟨rfl, rodE_fr R2 (fun a k u w => by show oc h59 a k = oc h44 a k; rw [o9, u2_ne (Or.inl (by omega)), o7, u2_ne (Or.inl (by omega))]), ?_, ?_, z9.trans (z7.trans z2), fun a k ha hk => ?_⟩
  · show oi (oc h59) A 1 = nI s
    rw [o9, oi_ne (Or.inr (by decide)), o7, oi_eq]
  · show (oi (oc h59) A 2).toInt = _
    rw [o9, oi_eq, jsub (by omega) (by omega), l1]
  · show oc h59 a k = oc h a k
    rw [o9, u2_ne (by omega), o7, u2_ne (by omega)]
    exact f2 a k (by omega)
theorem E_X0_takeBack {n A r b nx : Nat} {W : jWd} {h : jH} {q : Int32 × jH} (sA : oc h A 0 = .ref (A + 1)) (hx : oi (oc h) A 1 = nI nx) (hnx : nx ≤ 11) (hb : oc h (A + 1) ((nx + 11) % 12) = .ref b) (R : rodE (oc h) b W) (K : wOK W) (sr : rodS (oc h) r) (dj : r + 6 < b ∨ b + 6 < r) (dA : r + 6 < A ∨ A + 1 < r) (sz : 0 < (oi (oc h) A 2).toInt ∧ (oi (oc h) A 2).toInt ≤ 12) (hf : F_X0_takeBack n A r h = some q) : q.1 = 1 ∧ rodE (oc q.2) r W ∧ oi (oc q.2) A 1 = nI ((nx + 11) % 12) ∧ (oi (oc q.2) A 2).toInt = (oi (oc h) A 2).toInt - 1 ∧ q.2.1 = h.1 ∧ (∀ a k, ¬ (r ≤ a ∧ a ≤ r + 6) → ¬ (a = A ∧ (k = 1 ∨ k = 2)) → oc q.2 a k = oc h a k) := by
  unfold F_X0_takeBack at hf
  have l0 : (0 : Int32).toInt = 0 := rfl
  obtain ⟨v1, e1, hf⟩ := jbind hf
  have r1 := oc_gI e1
  rw [hx] at r1
  subst r1
  split at hf
  · rename_i c
    rw [Int32.le_iff_toInt_le, nI_toInt (by omega)] at c
    have : nx = 0 := by omega
    subst this
    exact E_X0_takeBack_18 (s := 11) sA (by omega) hb R K sr dj dA sz hf
  · rename_i c
    rw [Int32.le_iff_toInt_le, nI_toInt (by omega)] at c
    obtain ⟨v8, e2, hf⟩ := jbind hf
    have r2 := oc_gI e2
    rw [hx] at r2
    subst r2
    obtain ⟨y, rfl⟩ : ∃ y, nx = y + 1 := ⟨nx - 1, by omega⟩
    rw [nI_pred y] at hf
    have en : (y + 1 + 11) % 12 = y := by omega
    rw [en] at hb ⊢
    exact E_X0_takeBack_18 sA (by omega) hb R K sr dj dA sz hf
/-- nothing to take back -/
theorem E_X0_takeBack_0 {n A r : Nat} {h : jH} {q : Int32 × jH} (sz : oi (oc h) A 2 = 0) (hf : F_X0_takeBack n A r h = some q) : q = (0, h) := by
  unfold F_X0_takeBack at hf
  obtain ⟨v1, e1, hf⟩ := jbind hf
  have go : ∀ s, F_X0_takeBack_18 n A r s h = some q → q = (0, h) := by
    intro s hf
    unfold F_X0_takeBack_18 at hf
    obtain ⟨v20, e1, hf⟩ := jbind hf
    have r1 := oc_gI e1
    rw [sz] at r1
    subst r1
    rw [if_pos rfl] at hf
    cases hf
    rfl
  split at hf
  · exact go _ hf
  · obtain ⟨v8, e2, hf⟩ := jbind hf
    exact go _ hf
theorem E_X0_forget {n A : Nat} {h q : jH} (hf : F_X0_forget n A h = some q) : oc q = u2 (oc h) A 2 (.int 0) ∧ q.1 = h.1 := by
  unfold F_X0_forget at hf
  obtain ⟨h2, e, hf⟩ := jbind hf
  cases hf
  exact oc_pf e
/-! the reference's copies -/
/-- the number of a place, of a remembered act -/
theorem nI_act {r t : Nat} (h : 1 ≤ r) : ((435 : Int32) * (nI r - (1 : Int32))) + nI t = nI (435 * (r - 1) + t) := by
  obtain ⟨b, rfl⟩ : ∃ b, r = b + 1 := ⟨r - 1, by omega⟩
  rw [nI_pred b]
  show nI 435 * nI b + nI t = _
  rw [nI_mul, nI_add]
  rfl
theorem nI_act2 {r t : Nat} : ((435 : Int32) * nI r) + nI t = nI (435 * r + t) := by
  show nI 435 * nI r + nI t = _
  rw [nI_mul, nI_add]
theorem nI_a435 {t : Nat} : nI t + (435 : Int32) = nI (435 + t) := by
  show nI t + nI 435 = _
  rw [nI_add, Nat.add_comm]
theorem E_X12_keepsAll_2 {n : Nat} : ∀ (k : Nat) {a0 : Nat} {x1 : Int32} {h : jH} {q : jH} (t : Nat) (M : mS (oc h) a0) (hx : x1 = nI t) (ht : t ≤ 435), F_X12_keepsAll_2 n k a0 x1 h = some q → (∀ j, oi (oc q) (a0 + 4) j = if t ≤ j ∧ j < 435 then oi (oc h) (a0 + 1) (j) else oi (oc h) (a0 + 4) j) ∧ frM a0 [4] [] (oc h) (oc q) ∧ q.1 = h.1
  | 0, a0, x1, h, q, t, M, hx, ht, hf => by cases hf
  | k + 1, a0, x1, h, q, t, M, hx, ht, hf => by
    replace hf : F_X12_keepsAll_2_b n (F_X12_keepsAll_2 n k) a0 x1 h = some q := hf
    unfold F_X12_keepsAll_2_b at hf
    obtain ⟨s1, s2, s3, s4, s5, s8, s15, s17, s19, s20, s21⟩ := id M
    subst hx
    have lN : (435 : Int32).toInt = 435 := rfl
    replace hf := jite hf
    rcases hf with ⟨c1, hf⟩ | ⟨c1, hf⟩
    · skip
      cases hf
      -- leaf 0: h
      rw [Int32.le_iff_toInt_le, nI_toInt (by omega)] at c1
      exact ⟨fun j => by rw [if_neg (by omega)], frM_rfl, rfl⟩
    · skip
      replace hf := jbind hf
      obtain ⟨p10, e2, hf⟩ := hf
      have r2 := oc_gR e2
      rw [s4] at r2
      cases r2
      clear e2
      replace hf := jbind hf
      obtain ⟨p15, e3, hf⟩ := hf
      have r3 := oc_gR e3
      rw [s1] at r3
      cases r3
      clear e3
      replace hf := jbind hf
      obtain ⟨v19, e4, hf⟩ := hf
      obtain ⟨r4, y4⟩ := oc_al e4
      subst r4
      clear e4
      replace hf := jbind hf
      obtain ⟨h20, e5, hf⟩ := hf
      obtain ⟨o5, z5, y5⟩ := oc_as e5
      rw [jnar0] at o5
      clear e5
      -- leaf 1: rc2 a0 (x1 + (1 : Int32)) h20
      rw [Int32.le_iff_toInt_le, nI_toInt (by omega)] at c1
      rw [nI_cl (by omega)] at o5
      have f9 : frM a0 [4] [] (oc h) (oc h20) := by rw [o5]; exact frM_c (by decide)
      obtain ⟨a1, a2, a3⟩ := E_X12_keepsAll_2 k (t + 1) (mS_fr M f9 (by decide) (by decide)) (nI_1 t) (by omega)  hf
      refine ⟨?_, frM_tr f9 a2, a3.trans z5⟩
      intro j
      rw [a1 j]
      by_cases q1 : j = t
      · subst q1
        rw [if_neg (by omega), if_pos (by omega), o5, oi_eq]
      · by_cases q2 : t ≤ j ∧ j < 435
        · rw [if_pos (by omega), if_pos q2, o5, oi_ne (Or.inl (by omega))]
        · rw [if_neg (by omega), if_neg q2, o5, oi_ne (Or.inr (by omega))]
theorem E_X12_bringsBack_2 {n : Nat} : ∀ (k : Nat) {a0 : Nat} {x1 : Int32} {h : jH} {q : jH} (t : Nat) (M : mS (oc h) a0) (hx : x1 = nI t) (ht : t ≤ 435), F_X12_bringsBack_2 n k a0 x1 h = some q → (∀ j, oi (oc q) (a0 + 1) j = if t ≤ j ∧ j < 435 then oi (oc h) (a0 + 4) (j) else oi (oc h) (a0 + 1) j) ∧ frM a0 [1] [] (oc h) (oc q) ∧ q.1 = h.1
  | 0, a0, x1, h, q, t, M, hx, ht, hf => by cases hf
  | k + 1, a0, x1, h, q, t, M, hx, ht, hf => by
    replace hf : F_X12_bringsBack_2_b n (F_X12_bringsBack_2 n k) a0 x1 h = some q := hf
    unfold F_X12_bringsBack_2_b at hf
    obtain ⟨s1, s2, s3, s4, s5, s8, s15, s17, s19, s20, s21⟩ := id M
    subst hx
    have lN : (435 : Int32).toInt = 435 := rfl
    replace hf := jite hf
    rcases hf with ⟨c1, hf⟩ | ⟨c1, hf⟩
    · skip
      cases hf
      -- leaf 0: h
      rw [Int32.le_iff_toInt_le, nI_toInt (by omega)] at c1
      exact ⟨fun j => by rw [if_neg (by omega)], frM_rfl, rfl⟩
    · skip
      replace hf := jbind hf
      obtain ⟨p10, e2, hf⟩ := hf
      have r2 := oc_gR e2
      rw [s1] at r2
      cases r2
      clear e2
      replace hf := jbind hf
      obtain ⟨p15, e3, hf⟩ := hf
      have r3 := oc_gR e3
      rw [s4] at r3
      cases r3
      clear e3
      replace hf := jbind hf
      obtain ⟨v19, e4, hf⟩ := hf
      obtain ⟨r4, y4⟩ := oc_al e4
      subst r4
      clear e4
      replace hf := jbind hf
      obtain ⟨h20, e5, hf⟩ := hf
      obtain ⟨o5, z5, y5⟩ := oc_as e5
      rw [jnar0] at o5
      clear e5
      -- leaf 1: rc2 a0 (x1 + (1 : Int32)) h20
      rw [Int32.le_iff_toInt_le, nI_toInt (by omega)] at c1
      rw [nI_cl (by omega)] at o5
      have f9 : frM a0 [1] [] (oc h) (oc h20) := by rw [o5]; exact frM_c (by decide)
      obtain ⟨a1, a2, a3⟩ := E_X12_bringsBack_2 k (t + 1) (mS_fr M f9 (by decide) (by decide)) (nI_1 t) (by omega)  hf
      refine ⟨?_, frM_tr f9 a2, a3.trans z5⟩
      intro j
      rw [a1 j]
      by_cases q1 : j = t
      · subst q1
        rw [if_neg (by omega), if_pos (by omega), o5, oi_eq]
      · by_cases q2 : t ≤ j ∧ j < 435
        · rw [if_pos (by omega), if_pos q2, o5, oi_ne (Or.inl (by omega))]
        · rw [if_neg (by omega), if_neg q2, o5, oi_ne (Or.inr (by omega))]
theorem E_X12_remembers_55 {n : Nat} {r : Nat} : ∀ (k : Nat) {a0 : Nat} {x1 : Int32} {h : jH} {q : jH} (t : Nat) (M : mS (oc h) a0) (hx : x1 = nI t) (ht : t ≤ 435) (h7 : oi (oc h) a0 7 = nI r) (r1 : 1 ≤ r) (r12 : r ≤ 12), F_X12_remembers_55 n k a0 x1 h = some q → (∀ j, oi (oc q) (a0 + 5) j = if 435 * (r - 1) + t ≤ j ∧ j < 435 * (r - 1) + 435 then oi (oc h) (a0 + 1) ((j - 435 * (r - 1))) else oi (oc h) (a0 + 5) j) ∧ frM a0 [5] [] (oc h) (oc q) ∧ q.1 = h.1
  | 0, a0, x1, h, q, t, M, hx, ht, h7, r1, r12, hf => by cases hf
  | k + 1, a0, x1, h, q, t, M, hx, ht, h7, r1, r12, hf => by
    replace hf : F_X12_remembers_55_b n (F_X12_remembers_55 n k) a0 x1 h = some q := hf
    unfold F_X12_remembers_55_b at hf
    obtain ⟨s1, s2, s3, s4, s5, s8, s15, s17, s19, s20, s21⟩ := id M
    subst hx
    have lN : (435 : Int32).toInt = 435 := rfl
    replace hf := jite hf
    rcases hf with ⟨c1, hf⟩ | ⟨c1, hf⟩
    · skip
      cases hf
      -- leaf 0: h
      rw [Int32.le_iff_toInt_le, nI_toInt (by omega)] at c1
      exact ⟨fun j => by rw [if_neg (by omega)], frM_rfl, rfl⟩
    · skip
      replace hf := jbind hf
      obtain ⟨p63, e2, hf⟩ := hf
      have r2 := oc_gR e2
      rw [s5] at r2
      cases r2
      clear e2
      replace hf := jbind hf
      obtain ⟨v70, e3, hf⟩ := hf
      have r3 := oc_gI e3
      subst r3
      clear e3
      replace hf := jbind hf
      obtain ⟨p79, e4, hf⟩ := hf
      have r4 := oc_gR e4
      rw [s1] at r4
      cases r4
      clear e4
      replace hf := jbind hf
      obtain ⟨v83, e5, hf⟩ := hf
      obtain ⟨r5, y5⟩ := oc_al e5
      subst r5
      clear e5
      replace hf := jbind hf
      obtain ⟨h84, e6, hf⟩ := hf
      obtain ⟨o6, z6, y6⟩ := oc_as e6
      rw [jnar0] at o6
      clear e6
      -- leaf 1: rc55 a0 (x1 + (1 : Int32)) h84
      rw [Int32.le_iff_toInt_le, nI_toInt (by omega)] at c1
      rw [h7, nI_act r1, nI_cl (by omega), nI_cl (by omega)] at o6
      have f9 : frM a0 [5] [] (oc h) (oc h84) := by rw [o6]; exact frM_c (by decide)
      obtain ⟨a1, a2, a3⟩ := E_X12_remembers_55 k (t + 1) (mS_fr M f9 (by decide) (by decide)) (nI_1 t) (by omega) (by rw [o6, oi_ne (Or.inl (by omega))]; exact h7) r1 r12 hf
      refine ⟨?_, frM_tr f9 a2, a3.trans z6⟩
      intro j
      rw [a1 j]
      by_cases q1 : j = 435 * (r - 1) + t
      · subst q1
        rw [if_neg (by omega), if_pos (by omega), o6, oi_eq, show (435 * (r - 1) + t - 435 * (r - 1)) = t by omega]
      · by_cases q2 : 435 * (r - 1) + t ≤ j ∧ j < 435 * (r - 1) + 435
        · rw [if_pos (by omega), if_pos q2, o6, oi_ne (Or.inl (by omega))]
        · rw [if_neg (by omega), if_neg q2, o6, oi_ne (Or.inr (by omega))]
theorem E_X12_remembers_11 {n : Nat} : ∀ (k : Nat) {a0 : Nat} {x1 : Int32} {h : jH} {q : jH} (t : Nat) (M : mS (oc h) a0) (hx : x1 = nI t) (ht : t ≤ 4785), F_X12_remembers_11 n k a0 x1 h = some q → ∃ h2 : jH, ((∀ j, oi (oc h2) (a0 + 5) j = if t ≤ j ∧ j < 4785 then oi (oc h) (a0 + 5) (435 + j) else oi (oc h) (a0 + 5) j) ∧ frM a0 [5] [] (oc h) (oc h2) ∧ h2.1 = h.1) ∧ F_X12_remembers_55 n n a0 (0 : Int32) h2 = some q
  | 0, a0, x1, h, q, t, M, hx, ht, hf => by cases hf
  | k + 1, a0, x1, h, q, t, M, hx, ht, hf => by
    replace hf : F_X12_remembers_11_b n (F_X12_remembers_11 n k) a0 x1 h = some q := hf
    unfold F_X12_remembers_11_b at hf
    obtain ⟨s1, s2, s3, s4, s5, s8, s15, s17, s19, s20, s21⟩ := id M
    subst hx
    have lN : (4785 : Int32).toInt = 4785 := rfl
    replace hf := jite hf
    rcases hf with ⟨c1, hf⟩ | ⟨c1, hf⟩
    · skip
      -- leaf 0: F_X12_remembers_55 n n a0 (0 : Int32) h
      rw [Int32.le_iff_toInt_le, nI_toInt (by omega)] at c1
      exact ⟨h, ⟨fun j => by rw [if_neg (by omega)], frM_rfl, rfl⟩, hf⟩
    · skip
      replace hf := jbind hf
      obtain ⟨p19, e2, hf⟩ := hf
      have r2 := oc_gR e2
      rw [s5] at r2
      cases r2
      clear e2
      replace hf := jbind hf
      obtain ⟨p24, e3, hf⟩ := hf
      have r3 := oc_gR e3
      rw [s5] at r3
      cases r3
      clear e3
      replace hf := jbind hf
      obtain ⟨v32, e4, hf⟩ := hf
      obtain ⟨r4, y4⟩ := oc_al e4
      subst r4
      clear e4
      replace hf := jbind hf
      obtain ⟨h33, e5, hf⟩ := hf
      obtain ⟨o5, z5, y5⟩ := oc_as e5
      rw [jnar0] at o5
      clear e5
      -- leaf 1: rc11 a0 (x1 + (1 : Int32)) h33
      rw [Int32.le_iff_toInt_le, nI_toInt (by omega)] at c1
      rw [nI_a435, nI_cl (by omega), nI_cl (by omega)] at o5
      have f9 : frM a0 [5] [] (oc h) (oc h33) := by rw [o5]; exact frM_c (by decide)
      obtain ⟨h2, ⟨a1, a2, a3⟩, a4⟩ := E_X12_remembers_11 k (t + 1) (mS_fr M f9 (by decide) (by decide)) (nI_1 t) (by omega)  hf
      refine ⟨h2, ⟨?_, frM_tr f9 a2, a3.trans z5⟩, a4⟩
      intro j
      rw [a1 j]
      by_cases q1 : j = t
      · subst q1
        rw [if_neg (by omega), if_pos (by omega), o5, oi_eq]
      · by_cases q2 : t ≤ j ∧ j < 4785
        · rw [if_pos (by omega), if_pos q2, o5, oi_ne (Or.inr (by omega))]
        · rw [if_neg (by omega), if_neg q2, o5, oi_ne (Or.inr (by omega))]
theorem E_X12_undo_26 {n : Nat} {r : Nat} : ∀ (k : Nat) {a0 : Nat} {x1 : Int32} {h : jH} {q : Int32 × jH} (t : Nat) (M : mS (oc h) a0) (hx : x1 = nI t) (ht : t ≤ 435) (h7 : oi (oc h) a0 7 = nI r) (r12 : r ≤ 11), F_X12_undo_26 n k a0 x1 h = some q → (∀ j, oi (oc q.2) (a0 + 1) j = if t ≤ j ∧ j < 435 then oi (oc h) (a0 + 5) (435 * r + j) else oi (oc h) (a0 + 1) j) ∧ frM a0 [1] [] (oc h) (oc q.2) ∧ q.2.1 = h.1 ∧ q.1 = 1
  | 0, a0, x1, h, q, t, M, hx, ht, h7, r12, hf => by cases hf
  | k + 1, a0, x1, h, q, t, M, hx, ht, h7, r12, hf => by
    replace hf : F_X12_undo_26_b n (F_X12_undo_26 n k) a0 x1 h = some q := hf
    unfold F_X12_undo_26_b at hf
    obtain ⟨s1, s2, s3, s4, s5, s8, s15, s17, s19, s20, s21⟩ := id M
    subst hx
    have lN : (435 : Int32).toInt = 435 := rfl
    replace hf := jite hf
    rcases hf with ⟨c1, hf⟩ | ⟨c1, hf⟩
    · skip
      cases hf
      -- leaf 0: ((1 : Int32), h)
      rw [Int32.le_iff_toInt_le, nI_toInt (by omega)] at c1
      exact ⟨fun j => by rw [if_neg (by omega)], frM_rfl, rfl, rfl⟩
    · skip
      replace hf := jbind hf
      obtain ⟨p34, e2, hf⟩ := hf
      have r2 := oc_gR e2
      rw [s1] at r2
      cases r2
      clear e2
      replace hf := jbind hf
      obtain ⟨p39, e3, hf⟩ := hf
      have r3 := oc_gR e3
      rw [s5] at r3
      cases r3
      clear e3
      replace hf := jbind hf
      obtain ⟨v46, e4, hf⟩ := hf
      have r4 := oc_gI e4
      subst r4
      clear e4
      replace hf := jbind hf
      obtain ⟨v52, e5, hf⟩ := hf
      obtain ⟨r5, y5⟩ := oc_al e5
      subst r5
      clear e5
      replace hf := jbind hf
      obtain ⟨h53, e6, hf⟩ := hf
      obtain ⟨o6, z6, y6⟩ := oc_as e6
      rw [jnar0] at o6
      clear e6
      -- leaf 1: rc26 a0 (x1 + (1 : Int32)) h53
      rw [Int32.le_iff_toInt_le, nI_toInt (by omega)] at c1
      rw [h7, nI_act2, nI_cl (by omega), nI_cl (by omega)] at o6
      have f9 : frM a0 [1] [] (oc h) (oc h53) := by rw [o6]; exact frM_c (by decide)
      obtain ⟨a1, a2, a3, a4⟩ := E_X12_undo_26 k (t + 1) (mS_fr M f9 (by decide) (by decide)) (nI_1 t) (by omega) (by rw [o6, oi_ne (Or.inl (by omega))]; exact h7) r12 hf
      refine ⟨?_, frM_tr f9 a2, a3.trans z6, a4⟩
      intro j
      rw [a1 j]
      by_cases q1 : j = t
      · subst q1
        rw [if_neg (by omega), if_pos (by omega), o6, oi_eq]
      · by_cases q2 : t ≤ j ∧ j < 435
        · rw [if_pos (by omega), if_pos q2, o6, oi_ne (Or.inl (by omega))]
        · rw [if_neg (by omega), if_neg q2, o6, oi_ne (Or.inr (by omega))]
end
section
/-! acts remembered, of the reference -/
theorem wOK_cg {W W2 : jWd} (K : wOK W) (h : ∀ k, k < 75 → W2 k = W k) : wOK W2 := by
  obtain ⟨k0, k1, k2, k3, k4, k5, k6, k7, k8, k9, k10⟩ := K
  unfold wOK
  rw [h 0 (by omega), h 3 (by omega), h 4 (by omega), h 5 (by omega), h 6 (by omega), h 8 (by omega), h 9 (by omega), h 1 (by omega)]
  refine ⟨k0, fun i hi => ?_, fun i hi => ?_, fun i hi => ?_, k4, k5, k6, k7, k8, k9, k10⟩
  · rw [h _ (by omega), h _ (by omega), h _ (by omega), h _ (by omega), h _ (by omega), h _ (by omega), h _ (by omega), h _ (by omega)]
    exact k1 i hi
  · rw [h _ (by omega), h _ (by omega)]
    exact k2 i hi
  · rw [h _ (by omega)]
    exact k3 i hi
theorem rodE_cg {O : jO} {b : Nat} {W W2 : jWd} (R : rodE O b W) (K : wOK W) (h : ∀ k, k < 435 → W2 k = W k) : rodE O b W2 := by
  have K0 := K.1
  have k9 := K.2.2.2.2.2.2.2.2.2.1
  obtain ⟨S, I, RB, RC, L1, L2, L3⟩ := R
  unfold rodE
  rw [h 0 (by omega), h 7 (by omega), h 5 (by omega), h 6 (by omega), h 3 (by omega), h 4 (by omega), h 8 (by omega), h 10 (by omega), h 1 (by omega)]
  refine ⟨S, I, fun i hi => ?_, RC, ?_⟩
  · rw [h _ (by omega), h _ (by omega), h _ (by omega), h _ (by omega), h _ (by omega), h _ (by omega), h _ (by omega), h _ (by omega)]
    exact RB i hi
  · unfold logE
    rw [h 9 (by omega)]
    refine ⟨L1, L2, fun a ha => ?_⟩
    rw [h _ (by omega), h _ (by omega), h _ (by omega), h _ (by omega), h _ (by omega), h _ (by omega)]
    exact L3 a ha
theorem E_X12_remembers {r : Nat} {n : Nat} {a0 : Nat} {h : jH} {q : jH} (M : mS (oc h) a0) (h7 : oi (oc h) a0 7 = nI r) (hr : r ≤ 12) (hf : F_X12_remembers n a0 h = some q) : oi (oc q) a0 7 = nI (if r < 12 then r + 1 else 12) ∧ (∀ k, k < 435 → oi (oc q) (a0 + 5) (435 * ((if r < 12 then r + 1 else 12) - 1) + k) = wl (oc h) a0 k) ∧ (∀ j, 1 ≤ j → j < (if r < 12 then r + 1 else 12) → ∀ k, k < 435 → oi (oc q) (a0 + 5) (435 * ((if r < 12 then r + 1 else 12) - 1 - j) + k) = oi (oc h) (a0 + 5) (435 * (r - j) + k)) ∧ frM a0 [5] [7] (oc h) (oc q) ∧ q.1 = h.1 := by
  unfold F_X12_remembers at hf
  replace hf := jbind hf
  obtain ⟨v1, e1, hf⟩ := hf
  have r1 := oc_gI e1
  subst r1
  clear e1
  replace hf := jite hf
  rcases hf with ⟨c2, hf⟩ | ⟨c2, hf⟩
  · skip
    -- leaf 0: F_X12_remembers_11 n n a0 (0 : Int32) h
    rw [h7] at c2
    have r9 : r = 12 := by rw [show (12 : Int32) = nI 12 from rfl, nI_eq (by omega) (by omega)] at c2; exact c2
    subst r9
    obtain ⟨h2, ⟨a1, a2, a3⟩, hf⟩ := E_X12_remembers_11 n 0 M rfl (by omega) hf
    have M2 := mS_fr M a2 (by decide) (by decide)
    have g7 : oi (oc h2) a0 7 = nI 12 := (frM_oi a2 (by decide) (by decide)).trans h7
    obtain ⟨b1, b2, b3⟩ := E_X12_remembers_55 (r := 12) n 0 M2 rfl (by omega) g7 (by omega) (by omega) hf
    have w2 : ∀ k, oi (oc h2) (a0 + 1) k = oi (oc h) (a0 + 1) k := fun k => by unfold oi; rw [a2 _ _ (fun c hc q => by simp at hc; omega) (fun q => by omega)]
    rw [if_neg (by omega)]
    refine ⟨(frM_oi b2 (by decide) (by decide)).trans g7, fun k hk => ?_, fun j j1 j2 k hk => ?_, frM_tr (frM_le a2 (fun c h => h) (fun c h => by cases h)) (frM_le b2 (fun c h => h) (fun c h => by cases h)), b3.trans a3⟩
    · rw [b1, if_pos (by omega), w2, show 435 * (12 - 1) + k - 435 * (12 - 1) = k by omega]
    · rw [b1, if_neg (by omega), a1, if_pos (by omega)]; congr 1; omega
  · skip
    replace hf := jbind hf
    obtain ⟨v45, e3, hf⟩ := hf
    have r3 := oc_gI e3
    subst r3
    clear e3
    replace hf := jbind hf
    obtain ⟨h50, e4, hf⟩ := hf
    obtain ⟨o4, z4⟩ := oc_pf e4
    clear e4
    -- leaf 1: F_X12_remembers_55 n n a0 (0 : Int32) h50
    rw [h7] at c2
    have r9 : r < 12 := by have : r ≠ 12 := fun z => c2 (by rw [z]; rfl); omega
    rw [h7, nI_1] at o4
    have f4 : frM a0 [5] [7] (oc h) (oc h50) := by rw [o4]; exact frM_f (by decide)
    have M2 := mS_fr M f4 (by decide) (by decide)
    have g7 : oi (oc h50) a0 7 = nI (r + 1) := by rw [o4, oi_eq]
    obtain ⟨b1, b2, b3⟩ := E_X12_remembers_55 (r := r + 1) n 0 M2 rfl (by omega) g7 (by omega) (by omega) hf
    have w2 : ∀ c k, c ≠ 0 → oi (oc h50) (a0 + c) k = oi (oc h) (a0 + c) k := fun c k hc => by rw [o4, oi_ne (Or.inl (by omega))]
    rw [if_pos r9]
    refine ⟨(frM_oi b2 (by decide) (by decide)).trans g7, fun k hk => ?_, fun j j1 j2 k hk => ?_, frM_tr f4 (frM_le b2 (fun c h => h) (fun c h => by cases h)), b3.trans z4⟩
    · rw [b1, if_pos (by omega), w2 1 _ (by omega)]; congr 1; omega
    · rw [b1, if_neg (by omega), w2 5 _ (by omega), show r + 1 - 1 = r by omega]
theorem E_X12_undo {r : Nat} {n : Nat} {a0 : Nat} {h : jH} {q : Int32 × jH} (M : mS (oc h) a0) (h7 : oi (oc h) a0 7 = nI r) (hr : r ≤ 12) (hf : F_X12_undo n a0 h = some q) : (r = 0 ∧ q.1 = 0 ∧ frM a0 [] [0] (oc h) (oc q.2) ∧ q.2.1 = h.1 ∧ oi (oc q.2) a0 0 = 0) ∨ (1 ≤ r ∧ q.1 = 1 ∧ oi (oc q.2) a0 7 = nI (r - 1) ∧ (∀ k, wl (oc q.2) a0 k = if k < 435 then oi (oc h) (a0 + 5) (435 * (r - 1) + k) else wl (oc h) a0 k) ∧ frM a0 [1] [0, 7] (oc h) (oc q.2) ∧ q.2.1 = h.1 ∧ oi (oc q.2) a0 0 = 0) := by
  unfold F_X12_undo at hf
  replace hf := jbind hf
  obtain ⟨h2, e1, hf⟩ := hf
  obtain ⟨o1, z1⟩ := oc_pf e1
  clear e1
  replace hf := jbind hf
  obtain ⟨v6, e2, hf⟩ := hf
  have r2 := oc_gI e2
  rw [o1] at r2
  rw [oi_ne (Or.inr (by decide))] at r2
  subst r2
  clear e2
  replace hf := jite hf
  rcases hf with ⟨c3, hf⟩ | ⟨c3, hf⟩
  · skip
    cases hf
    -- leaf 0: ((0 : Int32), h2)
    rw [h7] at c3
    have r9 : r = 0 := by rw [show (0 : Int32) = nI 0 from rfl, nI_eq (by omega) (by omega)] at c3; exact c3
    exact Or.inl ⟨r9, rfl, by show frM a0 [] [0] (oc h) (oc h2); rw [o1]; exact frM_f (by decide), z1, by show oi (oc h2) a0 0 = 0; rw [o1, oi_eq]⟩
  · skip
    replace hf := jbind hf
    obtain ⟨v16, e4, hf⟩ := hf
    have r4 := oc_gI e4
    rw [o1] at r4
    rw [oi_ne (Or.inr (by decide))] at r4
    subst r4
    clear e4
    replace hf := jbind hf
    obtain ⟨h21, e5, hf⟩ := hf
    obtain ⟨o5, z5⟩ := oc_pf e5
    clear e5
    -- leaf 1: F_X12_undo_26 n n a0 (0 : Int32) h21
    rw [h7] at c3
    have r9 : 1 ≤ r := by have : r ≠ 0 := fun z => c3 (by rw [z]; rfl); omega
    obtain ⟨r2, rfl⟩ : ∃ r2, r = r2 + 1 := ⟨r - 1, by omega⟩
    rw [h7, nI_pred] at o5
    have f5 : frM a0 [1] [0, 7] (oc h) (oc h21) := by rw [o5, o1]; exact frM_tr (frM_f (by decide)) (frM_f (by decide))
    have M2 := mS_fr M f5 (by decide) (by decide)
    obtain ⟨b1, b2, b3, b4⟩ := E_X12_undo_26 (r := r2) n 0 M2 rfl (by omega) (by rw [o5, oi_eq]) (by omega) hf
    have w2 : ∀ c k, c ≠ 0 → oi (oc h21) (a0 + c) k = oi (oc h) (a0 + c) k := fun c k hc => by rw [o5, oi_ne (Or.inl (by omega)), o1, oi_ne (Or.inl (by omega))]
    refine Or.inr ⟨by omega, b4, ?_, fun k => ?_, frM_tr f5 (frM_le b2 (fun c h => h) (fun c h => by cases h)), b3.trans (z5.trans z1), by rw [frM_oi b2 (by decide) (by decide), o5, oi_ne (Or.inr (by decide)), o1, oi_eq]⟩
    · rw [frM_oi b2 (by decide) (by decide), o5, oi_eq]; rfl
    · show oi (oc q.2) (a0 + 1) k = _
      rw [b1]
      by_cases y : k < 435
      · rw [if_pos (by omega), if_pos y, w2 5 _ (by omega)]; rfl
      · rw [if_neg (by omega), if_neg y, w2 1 _ (by omega)]
end
section
/-! what a ring fades, catches and falls by, of a world -/
def litW (W : jWd) (i : Nat) (hr : Int32) : Int32 := if (4 : Int32) * hr ≤ W (11 + 8 * i) ∧ W (11 + 8 * i) ≤ (4 : Int32) * hr + W 6 then 1 else 0
def gapW (W : jWd) (i : Nat) (last : Int32) : Int32 := if (i : Int) + 1 < (W 0).toInt then W (11 + 8 * (i + 1)) - W (11 + 8 * i) else last
def factW (W : jWd) (i : Nat) (s n : Int32) : Int32 := if s = 0 then nI i else if s = 1 then W (11 + 8 * i) else if s = 2 then gapW W i 99 else if s = 3 then W (15 + 8 * i) else if s = 4 then W (16 + 8 * i) else if s = 5 then W 3 else if s = 6 then W 4 else if s = 7 then W (14 + 8 * i) else if s = 8 then W (13 + 8 * i) else if s = 9 then litW W i (W 3) else if s = 10 then W (17 + 8 * i) else n
def opW (s a b : Int32) : Int32 := if s = 12 then a + b else if (if s = 13 then decide (a < b) else if s = 14 then decide (b < a) else if s = 16 then decide (a + b = 2) else decide (0 < a + b)) = true then 1 else 0
/-- one step of a condition on the values so far, the latest first -/
def stpC (W : jWd) (i : Nat) (s n : Int32) (st : List Int32) : List Int32 := if s.toInt ≤ 11 then factW W i s n :: st else if s = 15 then (match st with | a :: t => (1 - a) :: t | [] => []) else (match st with | b :: a :: t => opW s a b :: t | _ => [])
def runC (W : jWd) (i a : Nat) : Nat → List Int32
  | 0 => []
  | k + 1 => stpC W i (W (484 + 2 * (a + k))) (W (485 + 2 * (a + k))) (runC W i a k)
/-- kinds of the values so far: true of one that is 0 or 1 -/
def tyC (s : Int32) (ty : List Bool) : Option (List Bool) := if s.toInt ≤ 11 then (if ty.length ≤ 22 then some ((decide (7 ≤ s.toInt) && decide (s.toInt ≤ 10)) :: ty) else none) else if s = 15 then (match ty with | true :: t => some (true :: t) | _ => none) else if s = 12 then (match ty with | false :: false :: t => some (false :: t) | _ => none) else if s = 13 ∨ s = 14 then (match ty with | false :: false :: t => some (true :: t) | _ => none) else if s = 16 ∨ s = 17 then (match ty with | true :: true :: t => some (true :: t) | _ => none) else none
def tyR (W : jWd) (a : Nat) : Nat → Option (List Bool)
  | 0 => some []
  | k + 1 => (tyR W a k).bind fun ty => tyC (W (484 + 2 * (a + k))) ty
/-- values of their kinds -/
def tyV : List Bool → List Int32 → Prop
  | [], [] => True
  | b :: t, v :: u => (b = true → v = 0 ∨ v = 1) ∧ tyV t u
  | _, _ => False
theorem tyV_len : ∀ {t : List Bool} {u : List Int32}, tyV t u → t.length = u.length
  | [], [], _ => rfl
  | _ :: _, _ :: _, h => congrArg (· + 1) (tyV_len h.2)
  | [], _ :: _, h => h.elim
  | _ :: _, [], h => h.elim
theorem litW_01 {W : jWd} {i : Nat} {h : Int32} : litW W i h = 0 ∨ litW W i h = 1 := by
  unfold litW
  split
  · exact Or.inr rfl
  · exact Or.inl rfl
theorem opW_01 {s a b : Int32} (h : s ≠ 12) : opW s a b = 0 ∨ opW s a b = 1 := by
  unfold opW
  rw [if_neg h]
  by_cases q : (if s = 13 then decide (a < b) else if s = 14 then decide (b < a) else if s = 16 then decide (a + b = 2) else decide (0 < a + b)) = true
  · rw [if_pos q]; exact Or.inr rfl
  · rw [if_neg q]; exact Or.inl rfl
theorem fact_01 {W : jWd} {i : Nat} {s n : Int32} (K : wOK W) (hi : (i : Int) < (W 0).toInt) (h7 : 7 ≤ s.toInt) (h10 : s.toInt ≤ 10) : factW W i s n = 0 ∨ factW W i s n = 1 := by
  obtain ⟨-, -, f2, f3, -, -, f6, -⟩ := K.2.1 i hi
  have l : ∀ k : Int32, s = k → s.toInt = k.toInt := fun k h => by rw [h]
  have c : s = 7 ∨ s = 8 ∨ s = 9 ∨ s = 10 := by
    have : s.toInt = 7 ∨ s.toInt = 8 ∨ s.toInt = 9 ∨ s.toInt = 10 := by omega
    rcases this with h | h | h | h
    · exact Or.inl (i_eq.mpr h)
    · exact Or.inr (Or.inl (i_eq.mpr h))
    · exact Or.inr (Or.inr (Or.inl (i_eq.mpr h)))
    · exact Or.inr (Or.inr (Or.inr (i_eq.mpr h)))
  rcases c with rfl | rfl | rfl | rfl
  · exact f3
  · exact f2
  · exact litW_01
  · exact f6
/-- a step keeps the kinds -/
theorem tyC_ok {W : jWd} {i : Nat} {s n : Int32} {ty ty2 : List Bool} {st : List Int32} (K : wOK W) (hi : (i : Int) < (W 0).toInt) (h : tyV ty st) (e : tyC s ty = some ty2) : tyV ty2 (stpC W i s n st) := by
  unfold tyC at e
  unfold stpC
  by_cases c : s.toInt ≤ 11
  · rw [if_pos c] at e ⊢
    split at e
    · cases e
      refine ⟨fun z => ?_, h⟩
      rw [Bool.and_eq_true, decide_eq_true_iff, decide_eq_true_iff] at z
      exact fact_01 K hi z.1 z.2
    · cases e
  rw [if_neg c] at e ⊢
  by_cases c15 : s = 15
  · rw [if_pos c15] at e ⊢
    match ty, st, h, e with
    | true :: t, v :: u, h, e =>
      cases e
      refine ⟨fun _ => ?_, h.2⟩
      rcases h.1 rfl with q | q <;> subst q
      · exact Or.inr (by decide)
      · exact Or.inl (by decide)
    | false :: t, v :: u, h, e => cases e
    | [], [], h, e => cases e
  rw [if_neg c15] at e ⊢
  by_cases c12 : s = 12
  · rw [if_pos c12] at e
    match ty, st, h, e with
    | false :: false :: t, b :: a :: u, h, e =>
      cases e
      exact ⟨fun z => (by cases z), h.2.2⟩
    | true :: t, _, h, e => cases e
    | [], _, h, e => cases e
    | [false], _, h, e => cases e
    | false :: true :: t, _, h, e => cases e
  rw [if_neg c12] at e
  by_cases c13 : s = 13 ∨ s = 14
  · rw [if_pos c13] at e
    match ty, st, h, e with
    | false :: false :: t, b :: a :: u, h, e =>
      cases e
      exact ⟨fun _ => opW_01 c12, h.2.2⟩
    | true :: t, _, h, e => cases e
    | [], _, h, e => cases e
    | [false], _, h, e => cases e
    | false :: true :: t, _, h, e => cases e
  rw [if_neg c13] at e
  by_cases c16 : s = 16 ∨ s = 17
  · rw [if_pos c16] at e
    match ty, st, h, e with
    | true :: true :: t, b :: a :: u, h, e =>
      cases e
      exact ⟨fun _ => opW_01 c12, h.2.2⟩
    | false :: t, _, h, e => cases e
    | [], _, h, e => cases e
    | [true], _, h, e => cases e
    | true :: false :: t, _, h, e => cases e
  · rw [if_neg c16] at e
    cases e
theorem tyR_ok {W : jWd} {i a : Nat} (K : wOK W) (hi : (i : Int) < (W 0).toInt) : ∀ (k : Nat) {ty : List Bool}, tyR W a k = some ty → tyV ty (runC W i a k)
  | 0, ty, e => by cases e; trivial
  | k + 1, ty, e => by
    unfold tyR at e
    obtain ⟨t0, e0, e1⟩ := jbind e
    exact tyC_ok K hi (tyR_ok K hi k e0) e1
def holdsW (W : jWd) (i n : Nat) : Prop := (runC W i (W (438 + 4 * n)).toInt.toNat ((W (439 + 4 * n)).toInt.toNat - (W (438 + 4 * n)).toInt.toNat)).headD 1 = 1
noncomputable def sumW (W : jWd) (kind : Int32) (i : Nat) : Nat → Int32
  | 0 => 0
  | n + 1 => @ite _ (W (436 + 4 * n) = kind ∧ holdsW W i n) (Classical.propDecidable _) (sumW W kind i n + W (437 + 4 * n)) (sumW W kind i n)
/-- what ring i fades, catches, falls by -/
noncomputable def byW (W : jWd) (kind : Int32) (i : Nat) : Int32 := if W 2 = 1 then sumW W kind i (W 435).toInt.toNat else if kind = 0 then litW W i (W 3) else if kind = 1 then 10 else 0
/-- a code of the class, and the reference's two numbers -/
def codeR (c s n : Int32) : Prop := (0 ≤ s.toInt ∧ s.toInt ≤ 10 ∧ c = s) ∨ (s = 11 ∧ 0 ≤ n.toInt ∧ n.toInt ≤ 999 ∧ c.toInt = 256 + n.toInt) ∨ (s = 12 ∧ c = 43) ∨ (s = 13 ∧ c = 60) ∨ (s = 14 ∧ c = 62) ∨ (s = 15 ∧ c = 11) ∨ (s = 16 ∧ c = 12) ∨ (s = 17 ∧ c = 13)
def lawS (O : jO) (l : Nat) : Prop := O l 0 = .ref (l + 1) ∧ O l 1 = .ref (l + 2) ∧ O l 2 = .ref (l + 3) ∧ O l 3 = .ref (l + 4) ∧ O l 4 = .ref (l + 5)
/-- the lines of a law, n of them, and their codes -/
def linE (O : jO) (l : Nat) (W : jWd) (n : Nat) : Prop := ∀ i : Nat, i < n → oi O (l + 1) i = W (436 + 4 * i) ∧ oi O (l + 2) i = W (437 + 4 * i) ∧ oi O (l + 3) i = W (439 + 4 * i) ∧ W (438 + 4 * i) = (if i = 0 then 0 else W (439 + 4 * (i - 1))) ∧ 0 ≤ (W (438 + 4 * i)).toInt ∧ (W (438 + 4 * i)).toInt ≤ (W (439 + 4 * i)).toInt ∧ (W (439 + 4 * i)).toInt ≤ 400 ∧ 0 ≤ (W (437 + 4 * i)).toInt ∧ (W (437 + 4 * i)).toInt ≤ 100 ∧
  (∀ j : Nat, (W (438 + 4 * i)).toInt ≤ (j : Int) → (j : Int) < (W (439 + 4 * i)).toInt → codeR (oi O (l + 4) j) (W (484 + 2 * j)) (W (485 + 2 * j))) ∧
  (∃ ty, tyR W (W (438 + 4 * i)).toInt.toNat ((W (439 + 4 * i)).toInt.toNat - (W (438 + 4 * i)).toInt.toNat) = some ty ∧ (ty = [] ∨ ty = [true]))
def lawE (O : jO) (l : Nat) (W : jWd) : Prop := lawS O l ∧ oi O l 7 = W 2 ∧ (W 2 = 0 ∨ W 2 = 1) ∧ (W 2 = 1 → oi O l 8 = W 435 ∧ (0 ≤ (W 435).toInt ∧ (W 435).toInt ≤ 12) ∧ linE O l W (W 435).toInt.toNat)
end
section
/-! the class's law: facts of a ring, the stack -/
theorem bitW {v w : Int32} {i : Nat} (hi : i < 32) (h : bt v i = true ↔ w = 1) (hw : w = 0 ∨ w = 1) : (jushr v (nI i)) &&& (1 : Int32) = w := by
  rw [b_ask0 hi]
  rcases hw with q | q
  · rw [q]
    have : ¬ bt v i = true := fun z => absurd (q.symm.trans (h.mp z)) (by decide)
    rw [if_neg this]
  · rw [q, if_pos (h.mpr q)]
/-- the values on the stack of the law at l, the latest first -/
def stkE (O : jO) (l : Nat) (st : List Int32) : Prop := oi O l 5 = nI st.length ∧ ∀ k, k < st.length → oi O (l + 5) k = st.getD (st.length - 1 - k) 0
theorem E_X8_isLit {W : jWd} {i : Nat} {n : Nat} {a0 : Nat} {x1 : Int32} {x2 : Int32} {h : jH} {q : Int32} (R : rodE (oc h) a0 W) (K : wOK W) (hx : x1 = nI i) (hi : (i : Int) < (W 0).toInt) (hf : F_X8_isLit n a0 x1 x2 h = some q) : q = litW W i x2 := by
  unfold F_X8_isLit at hf
  obtain ⟨⟨s0, s1, s2, s3, s4, s5⟩, ⟨u5, u10, u11, u12, u13, u14, u15, u16, u17⟩, RB, RC, RL⟩ := id R
  subst hx
  have K0 := K.1
  obtain ⟨g0, -⟩ := RB i hi
  replace hf := jbind hf
  obtain ⟨p1, e1, hf⟩ := hf
  have r1 := oc_gR e1
  rw [s0] at r1
  cases r1
  clear e1
  replace hf := jbind hf
  obtain ⟨v5, e2, hf⟩ := hf
  obtain ⟨r2, y2⟩ := oc_al e2
  subst r2
  clear e2
  replace hf := jite hf
  rcases hf with ⟨c3, hf⟩ | ⟨c3, hf⟩
  · skip
    cases hf
    -- leaf 0: (0 : Int32)
    rw [nI_cl (by omega), g0, Int32.lt_iff_toInt_lt] at c3
    unfold litW
    rw [if_neg (fun z => by have := Int32.le_iff_toInt_le.mp z.1; omega)]
  · skip
    replace hf := jbind hf
    obtain ⟨p13, e4, hf⟩ := hf
    have r4 := oc_gR e4
    rw [s0] at r4
    cases r4
    clear e4
    replace hf := jbind hf
    obtain ⟨v17, e5, hf⟩ := hf
    obtain ⟨r5, y5⟩ := oc_al e5
    subst r5
    clear e5
    replace hf := jbind hf
    obtain ⟨v22, e6, hf⟩ := hf
    have r6 := oc_gI e6
    subst r6
    clear e6
    replace hf := jite hf
    rcases hf with ⟨c7, hf⟩ | ⟨c7, hf⟩
    · skip
      cases hf
      -- leaf 10: (0 : Int32)
      rw [nI_cl (by omega), g0, Int32.lt_iff_toInt_lt] at c3 c7
      rw [u12] at c7
      unfold litW
      rw [if_neg (fun z => by have := Int32.le_iff_toInt_le.mp z.2; omega)]
    · skip
      cases hf
      -- leaf 11: (1 : Int32)
      rw [nI_cl (by omega), g0, Int32.lt_iff_toInt_lt] at c3 c7
      rw [u12] at c7
      unfold litW
      rw [if_pos ⟨Int32.le_iff_toInt_le.mpr (by omega), Int32.le_iff_toInt_le.mpr (by omega)⟩]
theorem E_X2_value {W : jWd} {i : Nat} {s : Int32} {m : Int32} {n : Nat} {x0 : Int32} {a1 : Nat} {x2 : Int32} {h : jH} {q : Int32} (R : rodE (oc h) a1 W) (K : wOK W) (hx : x2 = nI i) (hi : (i : Int) < (W 0).toInt) (hc : (0 ≤ s.toInt ∧ s.toInt ≤ 10 ∧ x0 = s) ∨ (s = 11 ∧ 0 ≤ m.toInt ∧ x0.toInt = 256 + m.toInt)) (hf : F_X2_value n x0 a1 x2 h = some q) : q = factW W i s m := by
  unfold F_X2_value at hf
  obtain ⟨⟨s0, s1, s2, s3, s4, s5⟩, ⟨u5, u10, u11, u12, u13, u14, u15, u16, u17⟩, RB, RC, RL⟩ := id R
  subst hx
  have K0 := K.1
  obtain ⟨g0, g1, g2, g3, g4, g5, g6, g7⟩ := RB i hi
  obtain ⟨-, -, f2, f3, -, -, f6, -⟩ := K.2.1 i hi
  replace hf := jite hf
  rcases hf with ⟨c1, hf⟩ | ⟨c1, hf⟩
  · skip
    cases hf
    -- leaf 0: x2
    have cc := c1
    have es : s = 0 := by
      rcases hc with ⟨-, -, z⟩ | ⟨-, z0, z⟩
      · exact z.symm.trans cc
      · exfalso; rw [cc, show (0 : Int32).toInt = 0 from rfl] at z; omega
    rw [es]
    rfl
  · skip
    replace hf := jite hf
    rcases hf with ⟨c2, hf⟩ | ⟨c2, hf⟩
    · skip
      replace hf := jbind hf
      obtain ⟨p63, e3, hf⟩ := hf
      have r3 := oc_gR e3
      rw [s0] at r3
      cases r3
      clear e3
      replace hf := jbind hf
      obtain ⟨v67, e4, hf⟩ := hf
      obtain ⟨r4, y4⟩ := oc_al e4
      subst r4
      clear e4
      cases hf
      -- leaf 10: v67
      have cc := c2
      have es : s = 1 := by
        rcases hc with ⟨-, -, z⟩ | ⟨-, z0, z⟩
        · exact z.symm.trans cc
        · exfalso; rw [cc, show (1 : Int32).toInt = 1 from rfl] at z; omega
      rw [es]
      rw [nI_cl (by omega)]
      exact g0
    · skip
      replace hf := jite hf
      rcases hf with ⟨c5, hf⟩ | ⟨c5, hf⟩
      · skip
        replace hf := jbind hf
        obtain ⟨v73, e6, hf⟩ := hf
        replace e6 := (jcv_o e6).2
        have r6 := E_X8_gap (i := i) R K rfl (by omega) e6
        cases hf
        -- leaf 110: v73
        have cc := c5
        have es : s = 2 := by
          rcases hc with ⟨-, -, z⟩ | ⟨-, z0, z⟩
          · exact z.symm.trans cc
          · exfalso; rw [cc, show (2 : Int32).toInt = 2 from rfl] at z; omega
        rw [es]
        exact r6
      · skip
        replace hf := jite hf
        rcases hf with ⟨c7, hf⟩ | ⟨c7, hf⟩
        · skip
          replace hf := jbind hf
          obtain ⟨p78, e8, hf⟩ := hf
          have r8 := oc_gR e8
          rw [s2] at r8
          cases r8
          clear e8
          replace hf := jbind hf
          obtain ⟨v82, e9, hf⟩ := hf
          obtain ⟨r9, y9⟩ := oc_al e9
          subst r9
          clear e9
          cases hf
          -- leaf 1110: v82
          have cc := c7
          have es : s = 3 := by
            rcases hc with ⟨-, -, z⟩ | ⟨-, z0, z⟩
            · exact z.symm.trans cc
            · exfalso; rw [cc, show (3 : Int32).toInt = 3 from rfl] at z; omega
          rw [es]
          rw [nI_cl (by omega)]
          exact g4
        · skip
          replace hf := jite hf
          rcases hf with ⟨c10, hf⟩ | ⟨c10, hf⟩
          · skip
            replace hf := jbind hf
            obtain ⟨p85, e11, hf⟩ := hf
            have r11 := oc_gR e11
            rw [s3] at r11
            cases r11
            clear e11
            replace hf := jbind hf
            obtain ⟨v89, e12, hf⟩ := hf
            obtain ⟨r12, y12⟩ := oc_al e12
            subst r12
            clear e12
            cases hf
            -- leaf 11110: v89
            have cc := c10
            have es : s = 4 := by
              rcases hc with ⟨-, -, z⟩ | ⟨-, z0, z⟩
              · exact z.symm.trans cc
              · exfalso; rw [cc, show (4 : Int32).toInt = 4 from rfl] at z; omega
            rw [es]
            rw [nI_cl (by omega)]
            exact g5
          · skip
            replace hf := jite hf
            rcases hf with ⟨c13, hf⟩ | ⟨c13, hf⟩
            · skip
              replace hf := jbind hf
              obtain ⟨v92, e14, hf⟩ := hf
              have r14 := oc_gI e14
              subst r14
              clear e14
              cases hf
              -- leaf 111110: v92
              have cc := c13
              have es : s = 5 := by
                rcases hc with ⟨-, -, z⟩ | ⟨-, z0, z⟩
                · exact z.symm.trans cc
                · exfalso; rw [cc, show (5 : Int32).toInt = 5 from rfl] at z; omega
              rw [es]
              exact u13
            · skip
              replace hf := jite hf
              rcases hf with ⟨c15, hf⟩ | ⟨c15, hf⟩
              · skip
                replace hf := jbind hf
                obtain ⟨v97, e16, hf⟩ := hf
                have r16 := oc_gI e16
                subst r16
                clear e16
                cases hf
                -- leaf 1111110: v97
                have cc := c15
                have es : s = 6 := by
                  rcases hc with ⟨-, -, z⟩ | ⟨-, z0, z⟩
                  · exact z.symm.trans cc
                  · exfalso; rw [cc, show (6 : Int32).toInt = 6 from rfl] at z; omega
                rw [es]
                exact u14
              · skip
                replace hf := jite hf
                rcases hf with ⟨c17, hf⟩ | ⟨c17, hf⟩
                · skip
                  replace hf := jbind hf
                  obtain ⟨v102, e18, hf⟩ := hf
                  have r18 := oc_gI e18
                  subst r18
                  clear e18
                  replace hf := jbind hf
                  obtain ⟨v106, e19, hf⟩ := hf
                  unfold F_X11_bit at e19
                  cases e19
                  cases hf
                  -- leaf 11111110: v106
                  have cc := c17
                  have es : s = 7 := by
                    rcases hc with ⟨-, -, z⟩ | ⟨-, z0, z⟩
                    · exact z.symm.trans cc
                    · exfalso; rw [cc, show (7 : Int32).toInt = 7 from rfl] at z; omega
                  rw [es]
                  exact bitW (by omega) g3 f3
                · skip
                  replace hf := jite hf
                  rcases hf with ⟨c20, hf⟩ | ⟨c20, hf⟩
                  · skip
                    replace hf := jbind hf
                    obtain ⟨v111, e21, hf⟩ := hf
                    have r21 := oc_gI e21
                    subst r21
                    clear e21
                    replace hf := jbind hf
                    obtain ⟨v115, e22, hf⟩ := hf
                    unfold F_X11_bit at e22
                    cases e22
                    cases hf
                    -- leaf 111111110: v115
                    have cc := c20
                    have es : s = 8 := by
                      rcases hc with ⟨-, -, z⟩ | ⟨-, z0, z⟩
                      · exact z.symm.trans cc
                      · exfalso; rw [cc, show (8 : Int32).toInt = 8 from rfl] at z; omega
                    rw [es]
                    exact bitW (by omega) g2 f2
                  · skip
                    replace hf := jite hf
                    rcases hf with ⟨c23, hf⟩ | ⟨c23, hf⟩
                    · skip
                      replace hf := jbind hf
                      obtain ⟨v122, e24, hf⟩ := hf
                      have r24 := oc_gI e24
                      subst r24
                      clear e24
                      replace hf := jbind hf
                      obtain ⟨v125, e25, hf⟩ := hf
                      replace e25 := (jcv_o e25).2
                      have r25 := E_X8_isLit (i := i) R K rfl hi e25
                      replace hf := jite hf
                      rcases hf with ⟨c26, hf⟩ | ⟨c26, hf⟩
                      · skip
                        cases hf
                        -- leaf 11111111100: (0 : Int32)
                        have cc := c23
                        have es : s = 9 := by
                          rcases hc with ⟨-, -, z⟩ | ⟨-, z0, z⟩
                          · exact z.symm.trans cc
                          · exfalso; rw [cc, show (9 : Int32).toInt = 9 from rfl] at z; omega
                        rw [es]
                        rw [u13] at r25
                        exact (r25.symm.trans c26).symm
                      · skip
                        cases hf
                        -- leaf 11111111101: (1 : Int32)
                        have cc := c23
                        have es : s = 9 := by
                          rcases hc with ⟨-, -, z⟩ | ⟨-, z0, z⟩
                          · exact z.symm.trans cc
                          · exfalso; rw [cc, show (9 : Int32).toInt = 9 from rfl] at z; omega
                        rw [es]
                        rw [u13] at r25
                        have := litW_01 (W := W) (i := i) (h := W 3)
                        show 1 = litW W i (W 3)
                        rw [← r25] at this ⊢
                        exact (this.resolve_left c26).symm
                    · skip
                      replace hf := jite hf
                      rcases hf with ⟨c27, hf⟩ | ⟨c27, hf⟩
                      · skip
                        replace hf := jbind hf
                        obtain ⟨v138, e28, hf⟩ := hf
                        have r28 := oc_gI e28
                        subst r28
                        clear e28
                        replace hf := jbind hf
                        obtain ⟨v142, e29, hf⟩ := hf
                        unfold F_X11_bit at e29
                        cases e29
                        cases hf
                        -- leaf 11111111110: v142
                        have cc := c27
                        have es : s = 10 := by
                          rcases hc with ⟨-, -, z⟩ | ⟨-, z0, z⟩
                          · exact z.symm.trans cc
                          · exfalso; rw [cc, show (10 : Int32).toInt = 10 from rfl] at z; omega
                        rw [es]
                        exact bitW (by omega) g6 f6
                      · skip
                        cases hf
                        -- leaf 11111111111: (x0 - (256 : Int32))
                        have es : s = 11 ∧ 0 ≤ m.toInt ∧ x0.toInt = 256 + m.toInt := by
                          rcases hc with ⟨z1, z2, z⟩ | z
                          · exfalso
                            have n : ∀ k : Int32, x0.toInt = k.toInt → x0 = k := fun k h => i_eq.mpr h
                            rw [← z] at z1 z2
                            have : x0.toInt = 0 ∨ x0.toInt = 1 ∨ x0.toInt = 2 ∨ x0.toInt = 3 ∨ x0.toInt = 4 ∨ x0.toInt = 5 ∨ x0.toInt = 6 ∨ x0.toInt = 7 ∨ x0.toInt = 8 ∨ x0.toInt = 9 ∨ x0.toInt = 10 := by omega
                            rcases this with h | h | h | h | h | h | h | h | h | h | h
                            · exact c1 (n 0 h)
                            · exact c2 (n 1 h)
                            · exact c5 (n 2 h)
                            · exact c7 (n 3 h)
                            · exact c10 (n 4 h)
                            · exact c13 (n 5 h)
                            · exact c15 (n 6 h)
                            · exact c17 (n 7 h)
                            · exact c20 (n 8 h)
                            · exact c23 (n 9 h)
                            · exact c27 (n 10 h)
                          · exact z
                        obtain ⟨rfl, m0, mx⟩ := es
                        show x0 - 256 = m
                        have := Int32.toInt_lt m
                        have l256 : (256 : Int32).toInt = 256 := rfl
                        have xl := Int32.toInt_lt x0
                        exact i_eq.mpr (by rw [jsub (by omega) (by omega)]; omega)
theorem E_X2_push {st : List Int32} {n : Nat} {a0 : Nat} {x1 : Int32} {h : jH} {q : jH} (LS : lawS (oc h) a0) (T : stkE (oc h) a0 st) (hl : st.length ≤ 23) (hf : F_X2_push n a0 x1 h = some q) : stkE (oc q) a0 (x1 :: st) ∧ q.1 = h.1 ∧ (∀ a k, a ≠ a0 + 5 → ¬ (a = a0 ∧ k = 5) → oc q a k = oc h a k) := by
  unfold F_X2_push at hf
  obtain ⟨w0, w1, w2, w3, w4⟩ := id LS
  obtain ⟨t1, t2⟩ := T
  replace hf := jbind hf
  obtain ⟨v1, e1, hf⟩ := hf
  have r1 := oc_gI e1
  subst r1
  clear e1
  replace hf := jite hf
  rcases hf with ⟨c2, hf⟩ | ⟨c2, hf⟩
  · skip
    cases hf
    -- leaf 0: h
    rw [t1, Int32.le_iff_toInt_le, nI_toInt (by omega), show (24 : Int32).toInt = 24 from rfl] at c2
    omega
  · skip
    replace hf := jbind hf
    obtain ⟨p10, e3, hf⟩ := hf
    have r3 := oc_gR e3
    rw [w4] at r3
    cases r3
    clear e3
    replace hf := jbind hf
    obtain ⟨v14, e4, hf⟩ := hf
    have r4 := oc_gI e4
    subst r4
    clear e4
    replace hf := jbind hf
    obtain ⟨h18, e5, hf⟩ := hf
    obtain ⟨o5, z5, y5⟩ := oc_as e5
    rw [jnar0] at o5
    clear e5
    replace hf := jbind hf
    obtain ⟨v21, e6, hf⟩ := hf
    have r6 := oc_gI e6
    rw [o5] at r6
    rw [oi_ne (Or.inl (by omega))] at r6
    subst r6
    clear e6
    replace hf := jbind hf
    obtain ⟨h26, e7, hf⟩ := hf
    obtain ⟨o7, z7⟩ := oc_pf e7
    clear e7
    cases hf
    -- leaf 1: h26
    rw [t1, nI_cl (by omega)] at o5
    rw [t1, nI_1] at o7
    refine ⟨⟨by rw [o7, oi_eq]; rfl, fun k hk => ?_⟩, z7.trans z5, fun a k h1 h2 => by rw [o7, u2_ne (by omega), o5, u2_ne (by omega)]⟩
    rw [o7, oi_ne (Or.inl (by omega)), o5]
    by_cases y : k = st.length
    · subst y
      rw [oi_eq]
      show x1 = (x1 :: st).getD (st.length + 1 - 1 - st.length) 0
      rw [show st.length + 1 - 1 - st.length = 0 by omega]
      rfl
    · have hk2 : k < st.length + 1 := hk
      rw [oi_ne (Or.inr y), t2 k (by omega)]
      show _ = (x1 :: st).getD (st.length + 1 - 1 - k) 0
      rw [show st.length + 1 - 1 - k = (st.length - 1 - k) + 1 by omega]
      rfl
theorem E_X2_pop {st : List Int32} {v : Int32} {n : Nat} {a0 : Nat} {h : jH} {q : Int32 × jH} (LS : lawS (oc h) a0) (T : stkE (oc h) a0 (v :: st)) (hl : st.length ≤ 24) (hf : F_X2_pop n a0 h = some q) : q.1 = v ∧ stkE (oc q.2) a0 st ∧ q.2.1 = h.1 ∧ (∀ a k, ¬ (a = a0 ∧ k = 5) → oc q.2 a k = oc h a k) := by
  unfold F_X2_pop at hf
  obtain ⟨w0, w1, w2, w3, w4⟩ := id LS
  obtain ⟨t1, t2⟩ := T
  have t1 : oi (oc h) a0 5 = nI (st.length + 1) := t1
  replace hf := jbind hf
  obtain ⟨v1, e1, hf⟩ := hf
  have r1 := oc_gI e1
  subst r1
  clear e1
  replace hf := jite hf
  rcases hf with ⟨c2, hf⟩ | ⟨c2, hf⟩
  · skip
    replace hf := jbind hf
    obtain ⟨v11, e3, hf⟩ := hf
    have r3 := oc_gI e3
    subst r3
    clear e3
    replace hf := jbind hf
    obtain ⟨h16, e4, hf⟩ := hf
    obtain ⟨o4, z4⟩ := oc_pf e4
    clear e4
    replace hf := jbind hf
    obtain ⟨p20, e5, hf⟩ := hf
    have r5 := oc_gR e5
    rw [o4] at r5
    rw [u2_ne (Or.inr (by decide))] at r5
    rw [w4] at r5
    cases r5
    clear e5
    replace hf := jbind hf
    obtain ⟨v24, e6, hf⟩ := hf
    have r6 := oc_gI e6
    rw [o4] at r6
    rw [oi_eq] at r6
    subst r6
    clear e6
    replace hf := jbind hf
    obtain ⟨v27, e7, hf⟩ := hf
    obtain ⟨r7, y7⟩ := oc_al e7
    rw [o4] at r7
    rw [oi_ne (Or.inl (by omega))] at r7
    subst r7
    clear e7
    cases hf
    -- leaf 0: (v27, h16)
    rw [t1, nI_pred] at o4
    refine ⟨?_, ⟨?_, fun k hk => ?_⟩, z4, fun a k ha => ?_⟩
    · show oi (oc h) (a0 + 5) (oi (oc h) a0 5 - 1).toNatClampNeg = v
      rw [t1, nI_pred, nI_cl (by omega), t2 _ (show st.length < (v :: st).length from Nat.lt_succ_self _)]
      show (v :: st).getD (st.length + 1 - 1 - st.length) 0 = v
      rw [show st.length + 1 - 1 - st.length = 0 by omega]
      rfl
    · show oi (oc h16) a0 5 = _
      rw [o4, oi_eq]
    · show oi (oc h16) (a0 + 5) k = _
      rw [o4, oi_ne (Or.inl (by omega)), t2 k (show k < st.length + 1 by omega)]
      show (v :: st).getD (st.length + 1 - 1 - k) 0 = st.getD (st.length - 1 - k) 0
      rw [show st.length + 1 - 1 - k = (st.length - 1 - k) + 1 by omega]
      rfl
    · show oc h16 a k = _
      rw [o4, u2_ne (by omega)]
  · skip
    cases hf
    -- leaf 1: ((0 : Int32), h)
    rw [t1, Int32.lt_iff_toInt_lt, nI_toInt (by omega), show (0 : Int32).toInt = 0 from rfl] at c2
    omega
end
