/-! acts of the class -/
theorem E_rodnew {n : Nat} {h q : jH} (e : F_X8_init n h.1 (jnew h (.inl (6, [.null, .null, .null, .null, .null, .int 0, .int 0, .int 0, .int 0, .int 0, .int 0, .int 0, .int 0, .int 0, .int 0, .int 0, .int 0, .int 0]))) = some q) : rodS (oc q) h.1 ∧ q.1 = h.1 + 7 ∧ ∀ a k, a < h.1 → oc q a k = oc h a k := by
  obtain ⟨v, e2, j⟩ := I_X8_init (n := n) (h := h)
  cases e.symm.trans e2
  obtain ⟨j1, j2, j3⟩ := j
  have o : ∀ i, oc q (h.1 + 0) i = ([.ref (h.1 + 1), .ref (h.1 + 2), .ref (h.1 + 3), .ref (h.1 + 4), .ref (h.1 + 5), .int 0, .int 0, .int 0, .int 0, .int 0, .int 0, .int 16, .int 8, .int 0, .int 0, .int 0, .int 1, .int 0] : List Value).getD i .null := fun i => by
    unfold oc
    rw [j3 0 _ rfl]
  have o5 : ∀ i, oc q (h.1 + 5) i = ([.ref (h.1 + 6), .int 0, .int 0] : List Value).getD i .null := fun i => by
    unfold oc
    rw [j3 5 _ rfl]
  refine ⟨⟨o 0, o 1, o 2, o 3, o 4, o5 0⟩, j1, fun a k ha => ?_⟩
  unfold oc
  rw [j2 a ha]
theorem rodS_fr {O O2 : jO} {b : Nat} (s : rodS O b) (h : ∀ k, O2 b k = O b k) (h5 : O2 (b + 5) 0 = O (b + 5) 0) : rodS O2 b := by
  obtain ⟨s0, s1, s2, s3, s4, s5⟩ := s
  exact ⟨(h 0).trans s0, (h 1).trans s1, (h 2).trans s2, (h 3).trans s3, (h 4).trans s4, h5.trans s5⟩
theorem logE_fr {O O2 : jO} {l : Nat} {W : jWd} (L : logE O l W) (h : ∀ k, O2 l k = O l k) (h2 : ∀ k, O2 (l + 1) k = O (l + 1) k) : logE O2 l W := logE_cg L (fun k => by unfold oi; rw [h]) (fun k => by unfold oi; rw [h2]) (fun _ _ => rfl)
theorem rodE_fr {O O2 : jO} {b : Nat} {W : jWd} (R : rodE O b W) (h : ∀ a k, b ≤ a → a ≤ b + 6 → O2 a k = O a k) : rodE O2 b W := by
  obtain ⟨S, I, RB, RC, RL⟩ := R
  have e : ∀ a k, b ≤ a → a ≤ b + 6 → oi O2 a k = oi O a k := fun a k h1 h2 => by unfold oi; rw [h a k h1 h2]
  refine ⟨rodS_fr S (fun k => h _ _ (by omega) (by omega)) (h _ _ (by omega) (by omega)), ?_, fun i hi => ?_, fun i hi h32 => ?_, logE_fr RL (fun k => h _ _ (by omega) (by omega)) (fun k => h _ _ (by omega) (by omega))⟩
  · rw [e _ _ (by omega) (by omega), e _ _ (by omega) (by omega), e _ _ (by omega) (by omega), e _ _ (by omega) (by omega), e _ _ (by omega) (by omega), e _ _ (by omega) (by omega), e _ _ (by omega) (by omega), e _ _ (by omega) (by omega), e _ _ (by omega) (by omega)]
    exact I
  · rw [e _ _ (by omega) (by omega), e _ _ (by omega) (by omega), e _ _ (by omega) (by omega), e _ _ (by omega) (by omega), e _ _ (by omega) (by omega), e _ _ (by omega) (by omega), e _ _ (by omega) (by omega), e _ _ (by omega) (by omega)]
    exact RB i hi
  · rw [e _ _ (by omega) (by omega), e _ _ (by omega) (by omega)]
    exact RC i hi h32
theorem va_rf_s {o : Option Nat} {b : Nat} (h : va_rf o = .ref b) : o = some b := by
  cases o with
  | none => cases h
  | some c => cases h; rfl
theorem E_X0_remember_28 {n A r b nx : Nat} {W : jWd} {h q : jH} (sA : oc h A 0 = .ref (A + 1)) (hx : oi (oc h) A 1 = nI nx) (hnx : nx ≤ 11) (hb : oc h (A + 1) nx = .ref b) (R : rodE (oc h) r W) (K : wOK W) (sb : rodS (oc h) b) (dj : b + 6 < r ∨ r + 6 < b) (dA : b + 6 < A ∨ A + 1 < b) (sz : 0 ≤ (oi (oc h) A 2).toInt ∧ (oi (oc h) A 2).toInt ≤ 12) (hf : F_X0_remember_28 n A r h = some q) : rodE (oc q) b W ∧ oi (oc q) A 1 = nI ((nx + 1) % 12) ∧ (oi (oc q) A 2).toInt = (if (oi (oc h) A 2).toInt < 12 then (oi (oc h) A 2).toInt + 1 else 12) ∧ q.1 = h.1 ∧ (∀ a k, ¬ (b ≤ a ∧ a ≤ b + 6) → ¬ (a = A ∧ (k = 1 ∨ k = 2)) → oc q a k = oc h a k) := by
  unfold F_X0_remember_28 at hf
  have l12 : (12 : Int32).toInt = 12 := rfl
  have l1 : (1 : Int32).toInt = 1 := rfl
  obtain ⟨p29, e1, hf⟩ := jbind hf
  have r1 := oc_gR e1
  rw [sA] at r1
  cases r1
  obtain ⟨v33, e2, hf⟩ := jbind hf
  have r2 := oc_gI e2
  rw [hx] at r2
  subst r2
  obtain ⟨o36, e3, hf⟩ := jbind hf
  have r3 := oc_alq e3
  rw [nI_cl (by omega), hb] at r3
  have r3 := va_rf_s r3.symm
  subst r3
  replace hf : ((jcv 6 h b (F_X8_copyFrom n b r h)).bind fun h38 => (jgI 0 h38 A 1).bind fun v43 => if (12 : Int32) ≤ (v43 + (1 : Int32)) then (F_X0_remember_63 n A A (0 : Int32) h38) else ((jgI 0 h38 A 1).bind fun v54 => F_X0_remember_63 n A A (v54 + (1 : Int32)) h38)) = some q := hf
  obtain ⟨h38, e4, hf⟩ := jbind hf
  replace e4 := (jcv_o e4).2
  obtain ⟨R2, f2, z2⟩ := E_X8_copyFrom (d := b) (r := r) rfl rfl dj sb R K e4
  have iA : ∀ k, oi (oc h38) A k = oi (oc h) A k := fun k => by unfold oi; rw [f2 A k (by omega)]
  obtain ⟨v43, e5, hf⟩ := jbind hf
  have r5 := oc_gI e5
  rw [iA, hx] at r5
  subst r5
  have fin : ∀ (s : Int32), s = nI ((nx + 1) % 12) → F_X0_remember_63 n A A s h38 = some q → rodE (oc q) b W ∧ oi (oc q) A 1 = nI ((nx + 1) % 12) ∧ (oi (oc q) A 2).toInt = (if (oi (oc h) A 2).toInt < 12 then (oi (oc h) A 2).toInt + 1 else 12) ∧ q.1 = h.1 ∧ (∀ a k, ¬ (b ≤ a ∧ a ≤ b + 6) → ¬ (a = A ∧ (k = 1 ∨ k = 2)) → oc q a k = oc h a k) := by
    intro s hs hf
    unfold F_X0_remember_63 at hf
    obtain ⟨h63, g1, hf⟩ := jbind hf
    obtain ⟨o1, y1⟩ := oc_pf g1
    obtain ⟨v70, g2, hf⟩ := jbind hf
    have t2 := oc_gI g2
    rw [o1, oi_ne (Or.inr (by decide)), iA] at t2
    subst t2
    obtain ⟨h78, g3, hf⟩ := jbind hf
    obtain ⟨o3, y3⟩ := oc_pf g3
    cases hf
    refine ⟨?_, ?_, ?_, y3.trans (y1.trans z2), fun a k ha hk => ?_⟩
    · refine rodE_fr R2 (fun a k u w => ?_)
      rw [o3, u2_ne (Or.inl (by omega)), o1, u2_ne (Or.inl (by omega))]
    · rw [o3, oi_ne (Or.inr (by decide)), o1, oi_eq, hs]
    · rw [o3, oi_eq]
      have j1 := jadd (x := oi (oc h) A 2) (y := 1) (by omega) (by omega)
      by_cases z : oi (oc h) A 2 + 1 < (12 : Int32)
      · rw [if_pos z, j1]
        rw [Int32.lt_iff_toInt_lt, j1] at z
        rw [if_pos (by omega), l1]
      · rw [if_neg z, l12]
        rw [Int32.lt_iff_toInt_lt, j1] at z
        split <;> omega
    · rw [o3, u2_ne (by omega), o1, u2_ne (by omega)]
      exact f2 a k (by omega)
  have j2 := jadd (x := nI nx) (y := 1) (by rw [nI_toInt (by omega)]; omega) (by rw [nI_toInt (by omega)]; omega)
  rw [nI_toInt (by omega)] at j2
  split at hf
  · rename_i c
    rw [Int32.le_iff_toInt_le, j2] at c
    exact fin 0 (by rw [show (nx + 1) % 12 = 0 by omega]; rfl) hf
  · rename_i c
    rw [Int32.le_iff_toInt_le, j2] at c
    obtain ⟨v54, e6, hf⟩ := jbind hf
    have r6 := oc_gI e6
    rw [iA, hx] at r6
    subst r6
    exact fin _ (by rw [nI_1, show (nx + 1) % 12 = nx + 1 by omega]) hf
/-- the rod that remembers: that of its place, or a new one -/
theorem E_X0_remember {n A r nx : Nat} {W : jWd} {h q : jH} (sA : oc h A 0 = .ref (A + 1)) (hx : oi (oc h) A 1 = nI nx) (hnx : nx ≤ 11) (R : rodE (oc h) r W) (K : wOK W) (hb : ∀ b : Nat, oc h (A + 1) nx = .ref b → rodS (oc h) b ∧ (b + 6 < r ∨ r + 6 < b) ∧ (b + 6 < A ∨ A + 1 < b)) (hr : r + 6 < h.1) (hA : A + 1 < h.1) (rA : r + 6 < A ∨ A + 1 < r) (sz : 0 ≤ (oi (oc h) A 2).toInt ∧ (oi (oc h) A 2).toInt ≤ 12) (hf : F_X0_remember n A r h = some q) : ∃ b, ((oc h (A + 1) nx = .ref b ∧ q.1 = h.1) ∨ (oc h (A + 1) nx = .null ∧ b = h.1 ∧ q.1 = h.1 + 7)) ∧ oc q (A + 1) nx = .ref b ∧ rodE (oc q) b W ∧ oi (oc q) A 1 = nI ((nx + 1) % 12) ∧ (oi (oc q) A 2).toInt = (if (oi (oc h) A 2).toInt < 12 then (oi (oc h) A 2).toInt + 1 else 12) ∧ (∀ a k, a < h.1 → ¬ (b ≤ a ∧ a ≤ b + 6) → ¬ (a = A ∧ (k = 1 ∨ k = 2)) → ¬ (a = A + 1 ∧ k = nx) → oc q a k = oc h a k) := by
  unfold F_X0_remember at hf
  obtain ⟨p1, e1, hf⟩ := jbind hf
  have r1 := oc_gR e1
  rw [sA] at r1
  cases r1
  obtain ⟨v5, e2, hf⟩ := jbind hf
  have r2 := oc_gI e2
  rw [hx] at r2
  subst r2
  obtain ⟨o8, e3, hf⟩ := jbind hf
  have r3 := oc_alq e3
  rw [nI_cl (by omega)] at r3
  cases o8 with
  | some b =>
    have r3 : oc h (A + 1) nx = .ref b := r3
    obtain ⟨sb, d1, d2⟩ := hb b r3
    obtain ⟨a1, a2, a3, a4, a5⟩ := E_X0_remember_28 sA hx hnx r3 R K sb d1 d2 sz hf
    exact ⟨b, Or.inl ⟨r3, a4⟩, (a5 (A + 1) nx (by rcases d2 with z | z <;> omega) (by omega)).trans r3, a1, a2, a3, fun a k _ u w _ => a5 a k u w⟩
  | none =>
    have r3 : oc h (A + 1) nx = .null := r3
    replace hf : ((jgR 0 h A 0).bind fun p13 => (jgI 0 h A 1).bind fun v17 => (jnw h (.inl (6, [.null, .null, .null, .null, .null, .int 0, .int 0, .int 0, .int 0, .int 0, .int 0, .int 0, .int 0, .int 0, .int 0, .int 0, .int 0, .int 0]))).bind fun h20 => (F_X8_init n h.1 h20).bind fun h24 => (jasq 6 h24 p13 v17 h.1).bind fun h27 => F_X0_remember_28 n A r h27) = some q := hf
    obtain ⟨p13, e4, hf⟩ := jbind hf
    have r4 := oc_gR e4
    rw [sA] at r4
    cases r4
    obtain ⟨v17, e5, hf⟩ := jbind hf
    have r5 := oc_gI e5
    rw [hx] at r5
    subst r5
    obtain ⟨h20, e6, hf⟩ := jbind hf
    cases e6
    obtain ⟨h24, e7, hf⟩ := jbind hf
    obtain ⟨n1, n2, n3⟩ := E_rodnew e7
    obtain ⟨h27, e8, hf⟩ := jbind hf
    obtain ⟨o8, z8⟩ := oc_asq e8
    rw [nI_cl (by omega)] at o8
    have f9 : ∀ a k, a < h.1 → ¬ (a = A + 1 ∧ k = nx) → oc h27 a k = oc h a k := fun a k u w => by rw [o8, u2_ne (by omega)]; exact n3 a k u
    have i9 : ∀ k, oi (oc h27) A k = oi (oc h) A k := fun k => by unfold oi; rw [f9 A k (by omega) (by omega)]
    have s9 : rodS (oc h27) h.1 := rodS_fr n1 (fun k => by rw [o8, u2_ne (by omega)]) (by rw [o8, u2_ne (by omega)])
    obtain ⟨a1, a2, a3, a4, a5⟩ := E_X0_remember_28 (b := h.1) (W := W) ((f9 A 0 (by omega) (by omega)).trans sA) (by rw [i9]; exact hx) hnx (by rw [o8, u2_eq]) (rodE_fr R (fun a k u w => f9 a k (by omega) (by omega))) K s9 (by omega) (by omega) (by rw [i9]; exact sz) hf
    rw [i9] at a3
    exact ⟨h.1, Or.inr ⟨r3, rfl, a4.trans (z8.trans n2)⟩, by rw [a5 _ _ (by omega) (by omega), o8, u2_eq], a1, a2, a3, fun a k u w y v => (a5 a k w y).trans (f9 a k u v)⟩
