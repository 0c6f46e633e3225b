theorem E_X0_takeBack_18 {n A r b s : Nat} {W : jWd} {h : jH} {q : Int32 × jH} (sA : oc h A 0 = .ref (A + 1)) (hs : s ≤ 11) (hb : oc h (A + 1) s = .ref b) (R : rodE (oc h) b W) (K : wOK W) (sr : rodS (oc h) r) (dj : r + 6 < b ∨ b + 6 < r) (dA : r + 6 < A ∨ A + 1 < r) (sz : 0 < (oi (oc h) A 2).toInt ∧ (oi (oc h) A 2).toInt ≤ 12) (hf : F_X0_takeBack_18 n A r (nI s) h = some q) : q.1 = 1 ∧ rodE (oc q.2) r W ∧ oi (oc q.2) A 1 = nI s ∧ (oi (oc q.2) A 2).toInt = (oi (oc h) A 2).toInt - 1 ∧ q.2.1 = h.1 ∧ (∀ a k, ¬ (r ≤ a ∧ a ≤ r + 6) → ¬ (a = A ∧ (k = 1 ∨ k = 2)) → oc q.2 a k = oc h a k) := by
  unfold F_X0_takeBack_18 at hf
  have l0 : (0 : Int32).toInt = 0 := rfl
  have l1 : (1 : Int32).toInt = 1 := rfl
  obtain ⟨v20, e1, hf⟩ := jbind hf
  have r1 := oc_gI e1
  subst r1
  rw [if_neg (fun z => by rw [i_eq] at z; omega)] at hf
  obtain ⟨p27, e2, hf⟩ := jbind hf
  have r2 := oc_gR e2
  rw [sA] at r2
  cases r2
  obtain ⟨o31, e3, hf⟩ := jbind hf
  have r3 := oc_alq e3
  rw [nI_cl (by omega), hb] at r3
  have r3 := va_rf_s r3.symm
  subst r3
  replace hf : ((jgR 0 h A 0).bind fun p39 => (jalq h p39 (nI s)).bind fun o43 => match o43 with | none => none | some p44_0 => ((jcv 6 h r (F_X8_copyFrom n r p44_0 h)).bind fun h44 => (jpf 0 h44 A 1 (.int (nI s))).bind fun h49 => (jgI 0 h49 A 2).bind fun v54 => (jpf 0 h49 A 2 (.int (v54 - (1 : Int32)))).bind fun h59 => some ((1 : Int32), h59))) = some q := hf
  obtain ⟨p39, e4, hf⟩ := jbind hf
  have r4 := oc_gR e4
  rw [sA] at r4
  cases r4
  obtain ⟨o43, e5, hf⟩ := jbind hf
  have r5 := oc_alq e5
  rw [nI_cl (by omega), hb] at r5
  have r5 := va_rf_s r5.symm
  subst r5
  replace hf : ((jcv 6 h r (F_X8_copyFrom n r b h)).bind fun h44 => (jpf 0 h44 A 1 (.int (nI s))).bind fun h49 => (jgI 0 h49 A 2).bind fun v54 => (jpf 0 h49 A 2 (.int (v54 - (1 : Int32)))).bind fun h59 => some ((1 : Int32), h59)) = some q := hf
  obtain ⟨h44, e6, hf⟩ := jbind hf
  replace e6 := (jcv_o e6).2
  obtain ⟨R2, f2, z2⟩ := E_X8_copyFrom (d := r) (r := b) rfl rfl dj sr R K e6
  obtain ⟨h49, e7, hf⟩ := jbind hf
  obtain ⟨o7, z7⟩ := oc_pf e7
  obtain ⟨v54, e8, hf⟩ := jbind hf
  have r8 := oc_gI e8
  rw [o7, oi_ne (Or.inr (by decide)), show oi (oc h44) A 2 = oi (oc h) A 2 by unfold oi; rw [f2 A 2 (by omega)]] at r8
  subst r8
  obtain ⟨h59, e9, hf⟩ := jbind hf
  obtain ⟨o9, z9⟩ := oc_pf e9
  cases hf
  refine ⟨rfl, rodE_fr R2 (fun a k u w => by show oc h59 a k = oc h44 a k; rw [o9, u2_ne (Or.inl (by omega)), o7, u2_ne (Or.inl (by omega))]), ?_, ?_, z9.trans (z7.trans z2), fun a k ha hk => ?_⟩
  · show oi (oc h59) A 1 = nI s
    rw [o9, oi_ne (Or.inr (by decide)), o7, oi_eq]
  · show (oi (oc h59) A 2).toInt = _
    rw [o9, oi_eq, jsub (by omega) (by omega), l1]
  · show oc h59 a k = oc h a k
    rw [o9, u2_ne (by omega), o7, u2_ne (by omega)]
    exact f2 a k (by omega)
theorem E_X0_takeBack {n A r b nx : Nat} {W : jWd} {h : jH} {q : Int32 × jH} (sA : oc h A 0 = .ref (A + 1)) (hx : oi (oc h) A 1 = nI nx) (hnx : nx ≤ 11) (hb : oc h (A + 1) ((nx + 11) % 12) = .ref b) (R : rodE (oc h) b W) (K : wOK W) (sr : rodS (oc h) r) (dj : r + 6 < b ∨ b + 6 < r) (dA : r + 6 < A ∨ A + 1 < r) (sz : 0 < (oi (oc h) A 2).toInt ∧ (oi (oc h) A 2).toInt ≤ 12) (hf : F_X0_takeBack n A r h = some q) : q.1 = 1 ∧ rodE (oc q.2) r W ∧ oi (oc q.2) A 1 = nI ((nx + 11) % 12) ∧ (oi (oc q.2) A 2).toInt = (oi (oc h) A 2).toInt - 1 ∧ q.2.1 = h.1 ∧ (∀ a k, ¬ (r ≤ a ∧ a ≤ r + 6) → ¬ (a = A ∧ (k = 1 ∨ k = 2)) → oc q.2 a k = oc h a k) := by
  unfold F_X0_takeBack at hf
  have l0 : (0 : Int32).toInt = 0 := rfl
  obtain ⟨v1, e1, hf⟩ := jbind hf
  have r1 := oc_gI e1
  rw [hx] at r1
  subst r1
  split at hf
  · rename_i c
    rw [Int32.le_iff_toInt_le, nI_toInt (by omega)] at c
    have : nx = 0 := by omega
    subst this
    exact E_X0_takeBack_18 (s := 11) sA (by omega) hb R K sr dj dA sz hf
  · rename_i c
    rw [Int32.le_iff_toInt_le, nI_toInt (by omega)] at c
    obtain ⟨v8, e2, hf⟩ := jbind hf
    have r2 := oc_gI e2
    rw [hx] at r2
    subst r2
    obtain ⟨y, rfl⟩ : ∃ y, nx = y + 1 := ⟨nx - 1, by omega⟩
    rw [nI_pred y] at hf
    have en : (y + 1 + 11) % 12 = y := by omega
    rw [en] at hb ⊢
    exact E_X0_takeBack_18 sA (by omega) hb R K sr dj dA sz hf
/-- nothing to take back -/
theorem E_X0_takeBack_0 {n A r : Nat} {h : jH} {q : Int32 × jH} (sz : oi (oc h) A 2 = 0) (hf : F_X0_takeBack n A r h = some q) : q = (0, h) := by
  unfold F_X0_takeBack at hf
  obtain ⟨v1, e1, hf⟩ := jbind hf
  have go : ∀ s, F_X0_takeBack_18 n A r s h = some q → q = (0, h) := by
    intro s hf
    unfold F_X0_takeBack_18 at hf
    obtain ⟨v20, e1, hf⟩ := jbind hf
    have r1 := oc_gI e1
    rw [sz] at r1
    subst r1
    rw [if_pos rfl] at hf
    cases hf
    rfl
  split at hf
  · exact go _ hf
  · obtain ⟨v8, e2, hf⟩ := jbind hf
    exact go _ hf
theorem E_X0_forget {n A : Nat} {h q : jH} (hf : F_X0_forget n A h = some q) : oc q = u2 (oc h) A 2 (.int 0) ∧ q.1 = h.1 := by
  unfold F_X0_forget at hf
  obtain ⟨h2, e, hf⟩ := jbind hf
  cases hf
  exact oc_pf e
/-! the reference's copies -/
/-- the number of a place, of a remembered act -/
theorem nI_act {r t : Nat} (h : 1 ≤ r) : ((435 : Int32) * (nI r - (1 : Int32))) + nI t = nI (435 * (r - 1) + t) := by
  obtain ⟨b, rfl⟩ : ∃ b, r = b + 1 := ⟨r - 1, by omega⟩
  rw [nI_pred b]
  show nI 435 * nI b + nI t = _
  rw [nI_mul, nI_add]
  rfl
theorem nI_act2 {r t : Nat} : ((435 : Int32) * nI r) + nI t = nI (435 * r + t) := by
  show nI 435 * nI r + nI t = _
  rw [nI_mul, nI_add]
theorem nI_a435 {t : Nat} : nI t + (435 : Int32) = nI (435 + t) := by
  show nI t + nI 435 = _
  rw [nI_add, Nat.add_comm]
theorem E_X12_keepsAll_2 {n : Nat} : ∀ (k : Nat) {a0 : Nat} {x1 : Int32} {h : jH} {q : jH} (t : Nat) (M : mS (oc h) a0) (hx : x1 = nI t) (ht : t ≤ 435), F_X12_keepsAll_2 n k a0 x1 h = some q → (∀ j, oi (oc q) (a0 + 4) j = if t ≤ j ∧ j < 435 then oi (oc h) (a0 + 1) (j) else oi (oc h) (a0 + 4) j) ∧ frM a0 [4] [] (oc h) (oc q) ∧ q.1 = h.1
  | 0, a0, x1, h, q, t, M, hx, ht, hf => by cases hf
  | k + 1, a0, x1, h, q, t, M, hx, ht, hf => by
    replace hf : F_X12_keepsAll_2_b n (F_X12_keepsAll_2 n k) a0 x1 h = some q := hf
    unfold F_X12_keepsAll_2_b at hf
    obtain ⟨s1, s2, s3, s4, s5, s8, s15, s17, s19, s20, s21⟩ := id M
    subst hx
    have lN : (435 : Int32).toInt = 435 := rfl
    replace hf := jite hf
    rcases hf with ⟨c1, hf⟩ | ⟨c1, hf⟩
    · skip
      cases hf
      -- leaf 0: h
      rw [Int32.le_iff_toInt_le, nI_toInt (by omega)] at c1
      exact ⟨fun j => by rw [if_neg (by omega)], frM_rfl, rfl⟩
    · skip
      replace hf := jbind hf
      obtain ⟨p10, e2, hf⟩ := hf
      have r2 := oc_gR e2
      rw [s4] at r2
      cases r2
      clear e2
      replace hf := jbind hf
      obtain ⟨p15, e3, hf⟩ := hf
      have r3 := oc_gR e3
      rw [s1] at r3
      cases r3
      clear e3
      replace hf := jbind hf
      obtain ⟨v19, e4, hf⟩ := hf
      obtain ⟨r4, y4⟩ := oc_al e4
      subst r4
      clear e4
      replace hf := jbind hf
      obtain ⟨h20, e5, hf⟩ := hf
      obtain ⟨o5, z5, y5⟩ := oc_as e5
      rw [jnar0] at o5
      clear e5
      -- leaf 1: rc2 a0 (x1 + (1 : Int32)) h20
      rw [Int32.le_iff_toInt_le, nI_toInt (by omega)] at c1
      rw [nI_cl (by omega)] at o5
      have f9 : frM a0 [4] [] (oc h) (oc h20) := by rw [o5]; exact frM_c (by decide)
      obtain ⟨a1, a2, a3⟩ := E_X12_keepsAll_2 k (t + 1) (mS_fr M f9 (by decide) (by decide)) (nI_1 t) (by omega)  hf
      refine ⟨?_, frM_tr f9 a2, a3.trans z5⟩
      intro j
      rw [a1 j]
      by_cases q1 : j = t
      · subst q1
        rw [if_neg (by omega), if_pos (by omega), o5, oi_eq]
      · by_cases q2 : t ≤ j ∧ j < 435
        · rw [if_pos (by omega), if_pos q2, o5, oi_ne (Or.inl (by omega))]
        · rw [if_neg (by omega), if_neg q2, o5, oi_ne (Or.inr (by omega))]
theorem E_X12_bringsBack_2 {n : Nat} : ∀ (k : Nat) {a0 : Nat} {x1 : Int32} {h : jH} {q : jH} (t : Nat) (M : mS (oc h) a0) (hx : x1 = nI t) (ht : t ≤ 435), F_X12_bringsBack_2 n k a0 x1 h = some q → (∀ j, oi (oc q) (a0 + 1) j = if t ≤ j ∧ j < 435 then oi (oc h) (a0 + 4) (j) else oi (oc h) (a0 + 1) j) ∧ frM a0 [1] [] (oc h) (oc q) ∧ q.1 = h.1
  | 0, a0, x1, h, q, t, M, hx, ht, hf => by cases hf
  | k + 1, a0, x1, h, q, t, M, hx, ht, hf => by
    replace hf : F_X12_bringsBack_2_b n (F_X12_bringsBack_2 n k) a0 x1 h = some q := hf
    unfold F_X12_bringsBack_2_b at hf
    obtain ⟨s1, s2, s3, s4, s5, s8, s15, s17, s19, s20, s21⟩ := id M
    subst hx
    have lN : (435 : Int32).toInt = 435 := rfl
    replace hf := jite hf
    rcases hf with ⟨c1, hf⟩ | ⟨c1, hf⟩
    · skip
      cases hf
      -- leaf 0: h
      rw [Int32.le_iff_toInt_le, nI_toInt (by omega)] at c1
      exact ⟨fun j => by rw [if_neg (by omega)], frM_rfl, rfl⟩
    · skip
      replace hf := jbind hf
      obtain ⟨p10, e2, hf⟩ := hf
      have r2 := oc_gR e2
      rw [s1] at r2
      cases r2
      clear e2
      replace hf := jbind hf
      obtain ⟨p15, e3, hf⟩ := hf
      have r3 := oc_gR e3
      rw [s4] at r3
      cases r3
      clear e3
      replace hf := jbind hf
      obtain ⟨v19, e4, hf⟩ := hf
      obtain ⟨r4, y4⟩ := oc_al e4
      subst r4
      clear e4
      replace hf := jbind hf
      obtain ⟨h20, e5, hf⟩ := hf
      obtain ⟨o5, z5, y5⟩ := oc_as e5
      rw [jnar0] at o5
      clear e5
      -- leaf 1: rc2 a0 (x1 + (1 : Int32)) h20
      rw [Int32.le_iff_toInt_le, nI_toInt (by omega)] at c1
      rw [nI_cl (by omega)] at o5
      have f9 : frM a0 [1] [] (oc h) (oc h20) := by rw [o5]; exact frM_c (by decide)
      obtain ⟨a1, a2, a3⟩ := E_X12_bringsBack_2 k (t + 1) (mS_fr M f9 (by decide) (by decide)) (nI_1 t) (by omega)  hf
      refine ⟨?_, frM_tr f9 a2, a3.trans z5⟩
      intro j
      rw [a1 j]
      by_cases q1 : j = t
      · subst q1
        rw [if_neg (by omega), if_pos (by omega), o5, oi_eq]
      · by_cases q2 : t ≤ j ∧ j < 435
        · rw [if_pos (by omega), if_pos q2, o5, oi_ne (Or.inl (by omega))]
        · rw [if_neg (by omega), if_neg q2, o5, oi_ne (Or.inr (by omega))]
theorem E_X12_remembers_55 {n : Nat} {r : Nat} : ∀ (k : Nat) {a0 : Nat} {x1 : Int32} {h : jH} {q : jH} (t : Nat) (M : mS (oc h) a0) (hx : x1 = nI t) (ht : t ≤ 435) (h7 : oi (oc h) a0 7 = nI r) (r1 : 1 ≤ r) (r12 : r ≤ 12), F_X12_remembers_55 n k a0 x1 h = some q → (∀ j, oi (oc q) (a0 + 5) j = if 435 * (r - 1) + t ≤ j ∧ j < 435 * (r - 1) + 435 then oi (oc h) (a0 + 1) ((j - 435 * (r - 1))) else oi (oc h) (a0 + 5) j) ∧ frM a0 [5] [] (oc h) (oc q) ∧ q.1 = h.1
  | 0, a0, x1, h, q, t, M, hx, ht, h7, r1, r12, hf => by cases hf
  | k + 1, a0, x1, h, q, t, M, hx, ht, h7, r1, r12, hf => by
    replace hf : F_X12_remembers_55_b n (F_X12_remembers_55 n k) a0 x1 h = some q := hf
    unfold F_X12_remembers_55_b at hf
    obtain ⟨s1, s2, s3, s4, s5, s8, s15, s17, s19, s20, s21⟩ := id M
    subst hx
    have lN : (435 : Int32).toInt = 435 := rfl
    replace hf := jite hf
    rcases hf with ⟨c1, hf⟩ | ⟨c1, hf⟩
    · skip
      cases hf
      -- leaf 0: h
      rw [Int32.le_iff_toInt_le, nI_toInt (by omega)] at c1
      exact ⟨fun j => by rw [if_neg (by omega)], frM_rfl, rfl⟩
    · skip
      replace hf := jbind hf
      obtain ⟨p63, e2, hf⟩ := hf
      have r2 := oc_gR e2
      rw [s5] at r2
      cases r2
      clear e2
      replace hf := jbind hf
      obtain ⟨v70, e3, hf⟩ := hf
      have r3 := oc_gI e3
      subst r3
      clear e3
      replace hf := jbind hf
      obtain ⟨p79, e4, hf⟩ := hf
      have r4 := oc_gR e4
      rw [s1] at r4
      cases r4
      clear e4
      replace hf := jbind hf
      obtain ⟨v83, e5, hf⟩ := hf
      obtain ⟨r5, y5⟩ := oc_al e5
      subst r5
      clear e5
      replace hf := jbind hf
      obtain ⟨h84, e6, hf⟩ := hf
      obtain ⟨o6, z6, y6⟩ := oc_as e6
      rw [jnar0] at o6
      clear e6
      -- leaf 1: rc55 a0 (x1 + (1 : Int32)) h84
      rw [Int32.le_iff_toInt_le, nI_toInt (by omega)] at c1
      rw [h7, nI_act r1, nI_cl (by omega), nI_cl (by omega)] at o6
      have f9 : frM a0 [5] [] (oc h) (oc h84) := by rw [o6]; exact frM_c (by decide)
      obtain ⟨a1, a2, a3⟩ := E_X12_remembers_55 k (t + 1) (mS_fr M f9 (by decide) (by decide)) (nI_1 t) (by omega) (by rw [o6, oi_ne (Or.inl (by omega))]; exact h7) r1 r12 hf
      refine ⟨?_, frM_tr f9 a2, a3.trans z6⟩
      intro j
      rw [a1 j]
      by_cases q1 : j = 435 * (r - 1) + t
      · subst q1
        rw [if_neg (by omega), if_pos (by omega), o6, oi_eq, show (435 * (r - 1) + t - 435 * (r - 1)) = t by omega]
      · by_cases q2 : 435 * (r - 1) + t ≤ j ∧ j < 435 * (r - 1) + 435
        · rw [if_pos (by omega), if_pos q2, o6, oi_ne (Or.inl (by omega))]
        · rw [if_neg (by omega), if_neg q2, o6, oi_ne (Or.inr (by omega))]
theorem E_X12_remembers_11 {n : Nat} : ∀ (k : Nat) {a0 : Nat} {x1 : Int32} {h : jH} {q : jH} (t : Nat) (M : mS (oc h) a0) (hx : x1 = nI t) (ht : t ≤ 4785), F_X12_remembers_11 n k a0 x1 h = some q → ∃ h2 : jH, ((∀ j, oi (oc h2) (a0 + 5) j = if t ≤ j ∧ j < 4785 then oi (oc h) (a0 + 5) (435 + j) else oi (oc h) (a0 + 5) j) ∧ frM a0 [5] [] (oc h) (oc h2) ∧ h2.1 = h.1) ∧ F_X12_remembers_55 n n a0 (0 : Int32) h2 = some q
  | 0, a0, x1, h, q, t, M, hx, ht, hf => by cases hf
  | k + 1, a0, x1, h, q, t, M, hx, ht, hf => by
    replace hf : F_X12_remembers_11_b n (F_X12_remembers_11 n k) a0 x1 h = some q := hf
    unfold F_X12_remembers_11_b at hf
    obtain ⟨s1, s2, s3, s4, s5, s8, s15, s17, s19, s20, s21⟩ := id M
    subst hx
    have lN : (4785 : Int32).toInt = 4785 := rfl
    replace hf := jite hf
    rcases hf with ⟨c1, hf⟩ | ⟨c1, hf⟩
    · skip
      -- leaf 0: F_X12_remembers_55 n n a0 (0 : Int32) h
      rw [Int32.le_iff_toInt_le, nI_toInt (by omega)] at c1
      exact ⟨h, ⟨fun j => by rw [if_neg (by omega)], frM_rfl, rfl⟩, hf⟩
    · skip
      replace hf := jbind hf
      obtain ⟨p19, e2, hf⟩ := hf
      have r2 := oc_gR e2
      rw [s5] at r2
      cases r2
      clear e2
      replace hf := jbind hf
      obtain ⟨p24, e3, hf⟩ := hf
      have r3 := oc_gR e3
      rw [s5] at r3
      cases r3
      clear e3
      replace hf := jbind hf
      obtain ⟨v32, e4, hf⟩ := hf
      obtain ⟨r4, y4⟩ := oc_al e4
      subst r4
      clear e4
      replace hf := jbind hf
      obtain ⟨h33, e5, hf⟩ := hf
      obtain ⟨o5, z5, y5⟩ := oc_as e5
      rw [jnar0] at o5
      clear e5
      -- leaf 1: rc11 a0 (x1 + (1 : Int32)) h33
      rw [Int32.le_iff_toInt_le, nI_toInt (by omega)] at c1
      rw [nI_a435, nI_cl (by omega), nI_cl (by omega)] at o5
      have f9 : frM a0 [5] [] (oc h) (oc h33) := by rw [o5]; exact frM_c (by decide)
      obtain ⟨h2, ⟨a1, a2, a3⟩, a4⟩ := E_X12_remembers_11 k (t + 1) (mS_fr M f9 (by decide) (by decide)) (nI_1 t) (by omega)  hf
      refine ⟨h2, ⟨?_, frM_tr f9 a2, a3.trans z5⟩, a4⟩
      intro j
      rw [a1 j]
      by_cases q1 : j = t
      · subst q1
        rw [if_neg (by omega), if_pos (by omega), o5, oi_eq]
      · by_cases q2 : t ≤ j ∧ j < 4785
        · rw [if_pos (by omega), if_pos q2, o5, oi_ne (Or.inr (by omega))]
        · rw [if_neg (by omega), if_neg q2, o5, oi_ne (Or.inr (by omega))]
theorem E_X12_undo_26 {n : Nat} {r : Nat} : ∀ (k : Nat) {a0 : Nat} {x1 : Int32} {h : jH} {q : Int32 × jH} (t : Nat) (M : mS (oc h) a0) (hx : x1 = nI t) (ht : t ≤ 435) (h7 : oi (oc h) a0 7 = nI r) (r12 : r ≤ 11), F_X12_undo_26 n k a0 x1 h = some q → (∀ j, oi (oc q.2) (a0 + 1) j = if t ≤ j ∧ j < 435 then oi (oc h) (a0 + 5) (435 * r + j) else oi (oc h) (a0 + 1) j) ∧ frM a0 [1] [] (oc h) (oc q.2) ∧ q.2.1 = h.1 ∧ q.1 = 1
  | 0, a0, x1, h, q, t, M, hx, ht, h7, r12, hf => by cases hf
  | k + 1, a0, x1, h, q, t, M, hx, ht, h7, r12, hf => by
    replace hf : F_X12_undo_26_b n (F_X12_undo_26 n k) a0 x1 h = some q := hf
    unfold F_X12_undo_26_b at hf
    obtain ⟨s1, s2, s3, s4, s5, s8, s15, s17, s19, s20, s21⟩ := id M
    subst hx
    have lN : (435 : Int32).toInt = 435 := rfl
    replace hf := jite hf
    rcases hf with ⟨c1, hf⟩ | ⟨c1, hf⟩
    · skip
      cases hf
      -- leaf 0: ((1 : Int32), h)
      rw [Int32.le_iff_toInt_le, nI_toInt (by omega)] at c1
      exact ⟨fun j => by rw [if_neg (by omega)], frM_rfl, rfl, rfl⟩
    · skip
      replace hf := jbind hf
      obtain ⟨p34, e2, hf⟩ := hf
      have r2 := oc_gR e2
      rw [s1] at r2
      cases r2
      clear e2
      replace hf := jbind hf
      obtain ⟨p39, e3, hf⟩ := hf
      have r3 := oc_gR e3
      rw [s5] at r3
      cases r3
      clear e3
      replace hf := jbind hf
      obtain ⟨v46, e4, hf⟩ := hf
      have r4 := oc_gI e4
      subst r4
      clear e4
      replace hf := jbind hf
      obtain ⟨v52, e5, hf⟩ := hf
      obtain ⟨r5, y5⟩ := oc_al e5
      subst r5
      clear e5
      replace hf := jbind hf
      obtain ⟨h53, e6, hf⟩ := hf
      obtain ⟨o6, z6, y6⟩ := oc_as e6
      rw [jnar0] at o6
      clear e6
      -- leaf 1: rc26 a0 (x1 + (1 : Int32)) h53
      rw [Int32.le_iff_toInt_le, nI_toInt (by omega)] at c1
      rw [h7, nI_act2, nI_cl (by omega), nI_cl (by omega)] at o6
      have f9 : frM a0 [1] [] (oc h) (oc h53) := by rw [o6]; exact frM_c (by decide)
      obtain ⟨a1, a2, a3, a4⟩ := E_X12_undo_26 k (t + 1) (mS_fr M f9 (by decide) (by decide)) (nI_1 t) (by omega) (by rw [o6, oi_ne (Or.inl (by omega))]; exact h7) r12 hf
      refine ⟨?_, frM_tr f9 a2, a3.trans z6, a4⟩
      intro j
      rw [a1 j]
      by_cases q1 : j = t
      · subst q1
        rw [if_neg (by omega), if_pos (by omega), o6, oi_eq]
      · by_cases q2 : t ≤ j ∧ j < 435
        · rw [if_pos (by omega), if_pos q2, o6, oi_ne (Or.inl (by omega))]
        · rw [if_neg (by omega), if_neg q2, o6, oi_ne (Or.inr (by omega))]
