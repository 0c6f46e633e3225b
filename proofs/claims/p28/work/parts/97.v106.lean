/-! sew, the class -/
theorem hg_lo {W : jWd} {x y : Int32} {k : Nat} (h0 : k ≠ 0) (h : k < 11 + 8 * cN W ∨ 19 + 8 * cN W ≤ k) : hgW W x y k = W k := by
  unfold hgW
  rw [if_neg h0, if_neg (by omega), if_neg (by omega), if_neg (by omega), if_neg (by omega)]
theorem hg_pl {W : jWd} {x y : Int32} : hgW W x y (11 + 8 * cN W) = x := by
  unfold hgW
  rw [if_neg (by omega), if_pos rfl]
theorem hg_cl {W : jWd} {x y : Int32} : hgW W x y (12 + 8 * cN W) = y := by
  unfold hgW
  rw [if_neg (by omega), if_neg (by omega), if_pos rfl]
theorem hg_hk {W : jWd} {x y : Int32} : hgW W x y (17 + 8 * cN W) = 1 := by
  unfold hgW
  rw [if_neg (by omega), if_neg (by omega), if_neg (by omega), if_pos rfl]
theorem hg_z {W : jWd} {x y : Int32} {k : Nat} (h : 13 + 8 * cN W ≤ k ∧ k < 19 + 8 * cN W ∧ k ≠ 17 + 8 * cN W) : hgW W x y k = 0 := by
  unfold hgW
  rw [if_neg (by omega), if_neg (by omega), if_neg (by omega), if_neg (by omega), if_pos (by omega)]
theorem chV_f {v x : Int32} {k i : Nat} (hk : k < 32) (hx : x = 0 ∨ x = 1) (hi : i < 32) (n : i ≠ k) (h : bt v i = false) : bt (chV v k x) i = false := by
  have y := chV_bit (v := v) hk hx i hi
  rw [if_neg n, h] at y
  cases z : bt (chV v k x) i
  · rfl
  · exact absurd (y.mp z) (by decide)
/-- the class's rod with one ring more -/
theorem rodE_hg {O O2 : jO} {a0 : Nat} {W : jWd} {x1 x2 : Int32} (R : rodE O a0 W) (K : wOK W) (hc : cN W < 8)
    (E : O2 = u2 (u2 (u2 (u2 (u2 (u2 (u2 (u2 (u2 O (a0 + 1) (cN W) (.int x1)) (a0 + 2) (cN W) (.int x2)) (a0 + 3) (cN W) (.int 0)) (a0 + 4) (cN W) (.int 0)) a0 6 (.int (chV (oi O a0 6) (cN W) 0))) a0 7 (.int (chV (oi O a0 7) (cN W) 0))) a0 8 (.int (chV (oi O a0 8) (cN W) 1))) a0 9 (.int (chV (oi O a0 9) (cN W) 0))) a0 5 (.int (oi O a0 5 + 1))) : rodE O2 a0 (hgW W x1 x2) := by
  obtain ⟨⟨s0, s1, s2, s3, s4, s5⟩, ⟨u5, u10, u11, u12, u13, u14, u15, u16, u17⟩, RB, RC, RL⟩ := R
  have k0 := K.1
  have l1 : (1 : Int32).toInt = 1 := rfl
  have g0 : hgW W x1 x2 0 = W 0 + 1 := if_pos rfl
  have g0i : (hgW W x1 x2 0).toInt = (W 0).toInt + 1 := by rw [g0, jadd (by omega) (by omega)]; omega
  have ec : (cN W : Int) = (W 0).toInt := by unfold cN; omega
  have q6 : oi O2 a0 6 = chV (oi O a0 6) (cN W) 0 := by subst E; simp (disch := omega) only [oi_ne, oi_eq]
  have q7 : oi O2 a0 7 = chV (oi O a0 7) (cN W) 0 := by subst E; simp (disch := omega) only [oi_ne, oi_eq]
  have q8 : oi O2 a0 8 = chV (oi O a0 8) (cN W) 1 := by subst E; simp (disch := omega) only [oi_ne, oi_eq]
  have q9 : oi O2 a0 9 = chV (oi O a0 9) (cN W) 0 := by subst E; simp (disch := omega) only [oi_ne, oi_eq]
  have n : ∀ a k, (a ≠ a0 ∨ 10 ≤ k ∨ k < 5) → (a < a0 + 1 ∨ a0 + 4 < a ∨ k ≠ cN W) → O2 a k = O a k := fun a k h1 h2 => by subst E; simp (disch := omega) only [u2_ne]
  have ni : ∀ a k, (a ≠ a0 ∨ 10 ≤ k ∨ k < 5) → (a < a0 + 1 ∨ a0 + 4 < a ∨ k ≠ cN W) → oi O2 a k = oi O a k := fun a k h1 h2 => by unfold oi; rw [n a k h1 h2]
  have p1 : oi O2 (a0 + 1) (cN W) = x1 := by subst E; simp (disch := omega) only [oi_ne, oi_eq]
  have p2 : oi O2 (a0 + 2) (cN W) = x2 := by subst E; simp (disch := omega) only [oi_ne, oi_eq]
  have p3 : oi O2 (a0 + 3) (cN W) = 0 := by subst E; simp (disch := omega) only [oi_ne, oi_eq]
  have p4 : oi O2 (a0 + 4) (cN W) = 0 := by subst E; simp (disch := omega) only [oi_ne, oi_eq]
  have q5 : oi O2 a0 5 = hgW W x1 x2 0 := by rw [g0, ← u5]; subst E; exact oi_eq
  have lo : ∀ k, k ≠ 0 → k < 11 + 8 * cN W ∨ 19 + 8 * cN W ≤ k → hgW W x1 x2 k = W k := fun k h1 h2 => hg_lo h1 h2
  refine ⟨⟨(n _ _ (by omega) (by omega)).trans s0, (n _ _ (by omega) (by omega)).trans s1, (n _ _ (by omega) (by omega)).trans s2, (n _ _ (by omega) (by omega)).trans s3, (n _ _ (by omega) (by omega)).trans s4, (n _ _ (by omega) (by omega)).trans s5⟩, ⟨q5, ?_, ?_, ?_, ?_, ?_, ?_, ?_, ?_⟩, fun i hi => ?_, fun i hi h32 => ?_, ?_⟩
  · rw [ni _ _ (by omega) (by omega), lo 7 (by omega) (by omega)]; exact u10
  · rw [ni _ _ (by omega) (by omega), lo 5 (by omega) (by omega)]; exact u11
  · rw [ni _ _ (by omega) (by omega), lo 6 (by omega) (by omega)]; exact u12
  · rw [ni _ _ (by omega) (by omega), lo 3 (by omega) (by omega)]; exact u13
  · rw [ni _ _ (by omega) (by omega), lo 4 (by omega) (by omega)]; exact u14
  · rw [ni _ _ (by omega) (by omega), lo 8 (by omega) (by omega)]; exact u15
  · rw [ni _ _ (by omega) (by omega), lo 10 (by omega) (by omega)]; exact u16
  · rw [ni _ _ (by omega) (by omega), lo 1 (by omega) (by omega)]; exact u17
  · rw [g0i] at hi
    have b6 := chV_bit (v := oi O a0 6) (show cN W < 32 by omega) (Or.inl rfl : (0 : Int32) = 0 ∨ (0 : Int32) = 1) i (by omega)
    have b7 := chV_bit (v := oi O a0 7) (show cN W < 32 by omega) (Or.inl rfl : (0 : Int32) = 0 ∨ (0 : Int32) = 1) i (by omega)
    have b8 := chV_bit (v := oi O a0 8) (show cN W < 32 by omega) (Or.inr rfl : (1 : Int32) = 0 ∨ (1 : Int32) = 1) i (by omega)
    have b9 := chV_bit (v := oi O a0 9) (show cN W < 32 by omega) (Or.inl rfl : (0 : Int32) = 0 ∨ (0 : Int32) = 1) i (by omega)
    rw [← q6] at b6
    rw [← q7] at b7
    rw [← q8] at b8
    rw [← q9] at b9
    by_cases y : i = cN W
    · subst y
      rw [if_pos rfl] at b6 b7 b8 b9
      rw [hg_pl, hg_cl, hg_hk, hg_z (show _ by omega), hg_z (show _ by omega), hg_z (show _ by omega), hg_z (show _ by omega), hg_z (show _ by omega)]
      exact ⟨p1, p2, b6, b7, p3, p4, b8, b9⟩
    · rw [if_neg y] at b6 b7 b8 b9
      obtain ⟨r1, r2, r3, r4, r5, r6, r7, r8⟩ := RB i (by omega)
      rw [lo _ (by omega) (by omega), lo _ (by omega) (by omega), lo _ (by omega) (by omega), lo _ (by omega) (by omega), lo _ (by omega) (by omega), lo _ (by omega) (by omega), lo _ (by omega) (by omega), lo _ (by omega) (by omega)]
      exact ⟨(ni _ _ (by omega) (by omega)).trans r1, (ni _ _ (by omega) (by omega)).trans r2, b6.trans r3, b7.trans r4, (ni _ _ (by omega) (by omega)).trans r5, (ni _ _ (by omega) (by omega)).trans r6, b8.trans r7, b9.trans r8⟩
  · rw [g0i] at hi
    obtain ⟨r1, r2⟩ := RC i (by omega) h32
    rw [q7, q9]
    exact ⟨chV_f (by omega) (Or.inl rfl) h32 (by omega) r1, chV_f (by omega) (Or.inl rfl) h32 (by omega) r2⟩
  · exact logE_cg RL (fun k => ni _ _ (by omega) (by omega)) (fun k => ni _ _ (by omega) (by omega)) (fun k hk => lo k (by omega) (by omega))
