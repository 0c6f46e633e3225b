/-! what always holds of a world holds after the simple acts; the law is as it was -/
theorem wOK_ln {W : jWd} {i : Nat} {x : Int32} (K : wOK W) (hx : 0 ≤ x.toInt ∧ x.toInt ≤ 9) : wOK (upd W (16 + 8 * i) x) := by
  have e : ∀ k, k ≠ 16 + 8 * i → upd W (16 + 8 * i) x k = W k := fun k h => upd_ne h
  obtain ⟨k0, k1, k2, k3, k4, k5, k6, k7, k8, k9, k10⟩ := K
  unfold wOK
  rw [e 0 (by omega), e 3 (by omega), e 4 (by omega), e 5 (by omega), e 6 (by omega), e 8 (by omega), e 9 (by omega), e 1 (by omega)]
  refine ⟨k0, fun j hj => ?_, fun j hj => ?_, fun j hj => ?_, k4, k5, k6, k7, k8, k9, k10⟩
  · rw [e (11 + 8 * j) (by omega), e (12 + 8 * j) (by omega), e (13 + 8 * j) (by omega), e (14 + 8 * j) (by omega), e (15 + 8 * j) (by omega), e (17 + 8 * j) (by omega), e (18 + 8 * j) (by omega)]
    obtain ⟨a1, a2, a3, a4, a5, a6, a7, a8⟩ := k1 j hj
    refine ⟨a1, a2, a3, a4, a5, ?_, a7, a8⟩
    by_cases q : j = i
    · subst q; rw [upd_eq]; exact hx
    · rw [e (16 + 8 * j) (by omega)]; exact a6
  · rw [e _ (by omega), e _ (by omega)]; exact k2 j hj
  · rw [e _ (by omega)]; exact k3 j hj
theorem wOK_7 {W : jWd} {x : Int32} (K : wOK W) : wOK (upd W 7 x) := by
  have e : ∀ k, k ≠ 7 → upd W 7 x k = W k := fun k h => upd_ne h
  obtain ⟨k0, k1, k2, k3, k4, k5, k6, k7, k8, k9, k10⟩ := K
  unfold wOK
  rw [e 0 (by omega), e 3 (by omega), e 4 (by omega), e 5 (by omega), e 6 (by omega), e 8 (by omega), e 9 (by omega), e 1 (by omega)]
  refine ⟨k0, fun j hj => ?_, fun j hj => ?_, fun j hj => ?_, k4, k5, k6, k7, k8, k9, k10⟩
  · rw [e _ (by omega), e _ (by omega), e _ (by omega), e _ (by omega), e _ (by omega), e _ (by omega), e _ (by omega), e _ (by omega)]; exact k1 j hj
  · rw [e _ (by omega), e _ (by omega)]; exact k2 j hj
  · rw [e _ (by omega)]; exact k3 j hj
theorem wOK_hg {W : jWd} {x y : Int32} (K : wOK W) (hx : 0 ≤ x.toInt ∧ x.toInt ≤ 31) (hy : 1 ≤ y.toInt ∧ y.toInt ≤ 9) (c : canS W x) : wOK (hgW W x y) := by
  have n8 := cN_lt K c.1
  have le := c.2.1
  have K0 := K.1
  have l1 : (1 : Int32).toInt = 1 := rfl
  have ec : (cN W : Int) = (W 0).toInt := by unfold cN; omega
  have g0 : hgW W x y 0 = W 0 + 1 := if_pos rfl
  have g0i : (hgW W x y 0).toInt = (W 0).toInt + 1 := by rw [g0, jadd (by omega) (by omega)]; omega
  have lo : ∀ k, k ≠ 0 → k < 11 + 8 * cN W ∨ 19 + 8 * cN W ≤ k → hgW W x y k = W k := fun k h1 h2 => hg_lo h1 h2
  have lst : 1 ≤ cN W → (W (11 + 8 * (cN W - 1))).toInt < x.toInt := fun h => by
    have b := ((K.2.1 (cN W - 1) (by omega)).1)
    have n0 : ¬ W 0 = 0 := fun z => by rw [z] at ec; have : (0 : Int32).toInt = 0 := rfl; omega
    have q : leW W = W (11 + 8 * (cN W - 1)) + 1 := if_neg n0
    rw [q, jadd (by omega) (by omega)] at le
    omega
  obtain ⟨k0, k1, k2, k3, k4, k5, k6, k7, k8, k9, k10⟩ := K
  unfold wOK
  rw [lo 3 (by omega) (by omega), lo 4 (by omega) (by omega), lo 5 (by omega) (by omega), lo 6 (by omega) (by omega), lo 8 (by omega) (by omega), lo 9 (by omega) (by omega), lo 1 (by omega) (by omega), g0i]
  refine ⟨by omega, fun j hj => ?_, fun j hj => ?_, fun j hj => ?_, k4, k5, k6, k7, k8, k9, k10⟩
  · by_cases q : j = cN W
    · subst q
      rw [hg_pl, hg_cl, hg_hk, hg_z (show _ by omega), hg_z (show _ by omega), hg_z (show _ by omega), hg_z (show _ by omega), hg_z (show _ by omega)]
      exact ⟨hx, hy, Or.inl rfl, Or.inl rfl, by decide, by decide, Or.inr rfl, Or.inl rfl⟩
    · rw [lo _ (by omega) (by omega), lo _ (by omega) (by omega), lo _ (by omega) (by omega), lo _ (by omega) (by omega), lo _ (by omega) (by omega), lo _ (by omega) (by omega), lo _ (by omega) (by omega), lo _ (by omega) (by omega)]
      exact k1 j (by omega)
  · by_cases q : j + 1 = cN W
    · have e1 := lst (by omega)
      rw [q, hg_pl, lo _ (by omega) (by omega)]
      rw [show cN W - 1 = j by omega] at e1
      exact e1
    · rw [lo _ (by omega) (by omega), lo _ (by omega) (by omega)]
      exact k2 j (by omega)
  · have q : j = cN W := by omega
    subst q
    exact hg_z (by omega)
/-- the law's places are left alone -/
theorem hg_law {W : jWd} {x y : Int32} (h : cN W < 8) : ∀ k, k = 2 ∨ 435 ≤ k → hgW W x y k = W k := fun k hk => hg_lo (by omega) (by omega)
theorem up_law {W : jWd} {i : Nat} {x : Int32} (h : i < 435 ∧ i ≠ 2) : ∀ k, k = 2 ∨ 435 ≤ k → upd W i x k = W k := fun k hk => upd_n (by omega)
theorem mvO_hi {W : jWd} {r : Nat} {d : Bool} {k : Nat} (h : 75 ≤ k) : ∀ t, mvO W r d t k = W k
  | 0 => rfl
  | t + 1 => by
    show stW (mvO W r d t) (gv (mvO W r d t) r d) d 8 k = W k
    unfold stW
    rw [if_neg (fun z => by omega)]
    exact mvO_hi h t
theorem pl_law {W : jWd} {r i f : Nat} {d : Bool} {x y z : Int32} : ∀ k, k = 2 ∨ 435 ≤ k → tlW (plW W r d f) i x y z k = W k := fun k hk => by
  rw [tlW_n (by omega)]
  by_cases q : k = 2
  · subst q; exact (upd_n (by decide)).trans (mvO_ot (Or.inl (by decide)) f)
  · exact (upd_n (by omega)).trans (mvO_hi (by omega) f)
