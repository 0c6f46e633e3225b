/-! the class's rod behind one write -/
theorem logE_cg {O O2 : jO} {l : Nat} {W W2 : jWd} (L : logE O l W) (h1 : ∀ k, oi O2 l k = oi O l k) (h2 : ∀ k, oi O2 (l + 1) k = oi O (l + 1) k) (hw : ∀ k, k = 9 ∨ 75 ≤ k → W2 k = W k) : logE O2 l W2 := by
  obtain ⟨a, b, c⟩ := L
  unfold logE
  rw [h1, h1, hw 9 (Or.inl rfl)]
  refine ⟨a, b, fun k hk => ?_⟩
  rw [h2, hw _ (Or.inr (by omega)), hw _ (Or.inr (by omega)), hw _ (Or.inr (by omega)), hw _ (Or.inr (by omega)), hw _ (Or.inr (by omega)), hw _ (Or.inr (by omega))]
  exact c k hk
theorem rodE_pl {O : jO} {r i : Nat} {W : jWd} {x : Int32} (R : rodE O r W) (hi : i < 8) : rodE (u2 O (r + 1) i (.int x)) r (upd W (11 + 8 * i) x) := by
  obtain ⟨⟨s0, s1, s2, s3, s4, s5⟩, ⟨u5, u10, u11, u12, u13, u14, u15, u16, u17⟩, RB, RC, RL⟩ := R
  have e0 : upd W (11 + 8 * i) x 0 = W 0 := upd_ne (by omega)
  refine ⟨⟨?_, ?_, ?_, ?_, ?_, ?_⟩, ⟨?_, ?_, ?_, ?_, ?_, ?_, ?_, ?_, ?_⟩, fun j hj => ?_, fun j hj => ?_, ?_⟩
  · simp (disch := omega) only [u2_ne, oi_ne, upd_ne]; exact s0
  · simp (disch := omega) only [u2_ne, oi_ne, upd_ne]; exact s1
  · simp (disch := omega) only [u2_ne, oi_ne, upd_ne]; exact s2
  · simp (disch := omega) only [u2_ne, oi_ne, upd_ne]; exact s3
  · simp (disch := omega) only [u2_ne, oi_ne, upd_ne]; exact s4
  · simp (disch := omega) only [u2_ne, oi_ne, upd_ne]; exact s5
  · simp (disch := omega) only [u2_ne, oi_ne, upd_ne]; exact u5
  · simp (disch := omega) only [u2_ne, oi_ne, upd_ne]; exact u10
  · simp (disch := omega) only [u2_ne, oi_ne, upd_ne]; exact u11
  · simp (disch := omega) only [u2_ne, oi_ne, upd_ne]; exact u12
  · simp (disch := omega) only [u2_ne, oi_ne, upd_ne]; exact u13
  · simp (disch := omega) only [u2_ne, oi_ne, upd_ne]; exact u14
  · simp (disch := omega) only [u2_ne, oi_ne, upd_ne]; exact u15
  · simp (disch := omega) only [u2_ne, oi_ne, upd_ne]; exact u16
  · simp (disch := omega) only [u2_ne, oi_ne, upd_ne]; exact u17
  · rw [e0] at hj
    obtain ⟨g0, g1, g2, g3, g4, g5, g6, g7⟩ := RB j hj
    refine ⟨?_, ?_, ?_, ?_, ?_, ?_, ?_, ?_⟩
    · by_cases q : j = i
      · subst q; rw [oi_eq, upd_eq]
      · rw [oi_ne (Or.inr q), upd_ne (by omega)]; exact g0
    · simp (disch := omega) only [u2_ne, oi_ne, upd_ne]; exact g1
    · simp (disch := omega) only [u2_ne, oi_ne, upd_ne]; exact g2
    · simp (disch := omega) only [u2_ne, oi_ne, upd_ne]; exact g3
    · simp (disch := omega) only [u2_ne, oi_ne, upd_ne]; exact g4
    · simp (disch := omega) only [u2_ne, oi_ne, upd_ne]; exact g5
    · simp (disch := omega) only [u2_ne, oi_ne, upd_ne]; exact g6
    · simp (disch := omega) only [u2_ne, oi_ne, upd_ne]; exact g7
  · rw [e0] at hj
    rw [oi_ne (Or.inl (by omega)), oi_ne (Or.inl (by omega))]
    exact RC j hj
  · exact logE_cg RL (fun k => oi_ne (Or.inl (by omega))) (fun k => oi_ne (Or.inl (by omega))) (fun k hk => upd_ne (by omega))
theorem rodE_cl {O : jO} {r i : Nat} {W : jWd} {x : Int32} (R : rodE O r W) (hi : i < 8) : rodE (u2 O (r + 2) i (.int x)) r (upd W (12 + 8 * i) x) := by
  obtain ⟨⟨s0, s1, s2, s3, s4, s5⟩, ⟨u5, u10, u11, u12, u13, u14, u15, u16, u17⟩, RB, RC, RL⟩ := R
  have e0 : upd W (12 + 8 * i) x 0 = W 0 := upd_ne (by omega)
  refine ⟨⟨?_, ?_, ?_, ?_, ?_, ?_⟩, ⟨?_, ?_, ?_, ?_, ?_, ?_, ?_, ?_, ?_⟩, fun j hj => ?_, fun j hj => ?_, ?_⟩
  · simp (disch := omega) only [u2_ne, oi_ne, upd_ne]; exact s0
  · simp (disch := omega) only [u2_ne, oi_ne, upd_ne]; exact s1
  · simp (disch := omega) only [u2_ne, oi_ne, upd_ne]; exact s2
  · simp (disch := omega) only [u2_ne, oi_ne, upd_ne]; exact s3
  · simp (disch := omega) only [u2_ne, oi_ne, upd_ne]; exact s4
  · simp (disch := omega) only [u2_ne, oi_ne, upd_ne]; exact s5
  · simp (disch := omega) only [u2_ne, oi_ne, upd_ne]; exact u5
  · simp (disch := omega) only [u2_ne, oi_ne, upd_ne]; exact u10
  · simp (disch := omega) only [u2_ne, oi_ne, upd_ne]; exact u11
  · simp (disch := omega) only [u2_ne, oi_ne, upd_ne]; exact u12
  · simp (disch := omega) only [u2_ne, oi_ne, upd_ne]; exact u13
  · simp (disch := omega) only [u2_ne, oi_ne, upd_ne]; exact u14
  · simp (disch := omega) only [u2_ne, oi_ne, upd_ne]; exact u15
  · simp (disch := omega) only [u2_ne, oi_ne, upd_ne]; exact u16
  · simp (disch := omega) only [u2_ne, oi_ne, upd_ne]; exact u17
  · rw [e0] at hj
    obtain ⟨g0, g1, g2, g3, g4, g5, g6, g7⟩ := RB j hj
    refine ⟨?_, ?_, ?_, ?_, ?_, ?_, ?_, ?_⟩
    · simp (disch := omega) only [u2_ne, oi_ne, upd_ne]; exact g0
    · by_cases q : j = i
      · subst q; rw [oi_eq, upd_eq]
      · rw [oi_ne (Or.inr q), upd_ne (by omega)]; exact g1
    · simp (disch := omega) only [u2_ne, oi_ne, upd_ne]; exact g2
    · simp (disch := omega) only [u2_ne, oi_ne, upd_ne]; exact g3
    · simp (disch := omega) only [u2_ne, oi_ne, upd_ne]; exact g4
    · simp (disch := omega) only [u2_ne, oi_ne, upd_ne]; exact g5
    · simp (disch := omega) only [u2_ne, oi_ne, upd_ne]; exact g6
    · simp (disch := omega) only [u2_ne, oi_ne, upd_ne]; exact g7
  · rw [e0] at hj
    rw [oi_ne (Or.inl (by omega)), oi_ne (Or.inl (by omega))]
    exact RC j hj
  · exact logE_cg RL (fun k => oi_ne (Or.inl (by omega))) (fun k => oi_ne (Or.inl (by omega))) (fun k hk => upd_ne (by omega))
theorem rodE_fd {O : jO} {r i : Nat} {W : jWd} {x : Int32} (R : rodE O r W) (hi : i < 8) : rodE (u2 O (r + 3) i (.int x)) r (upd W (15 + 8 * i) x) := by
  obtain ⟨⟨s0, s1, s2, s3, s4, s5⟩, ⟨u5, u10, u11, u12, u13, u14, u15, u16, u17⟩, RB, RC, RL⟩ := R
  have e0 : upd W (15 + 8 * i) x 0 = W 0 := upd_ne (by omega)
  refine ⟨⟨?_, ?_, ?_, ?_, ?_, ?_⟩, ⟨?_, ?_, ?_, ?_, ?_, ?_, ?_, ?_, ?_⟩, fun j hj => ?_, fun j hj => ?_, ?_⟩
  · simp (disch := omega) only [u2_ne, oi_ne, upd_ne]; exact s0
  · simp (disch := omega) only [u2_ne, oi_ne, upd_ne]; exact s1
  · simp (disch := omega) only [u2_ne, oi_ne, upd_ne]; exact s2
  · simp (disch := omega) only [u2_ne, oi_ne, upd_ne]; exact s3
  · simp (disch := omega) only [u2_ne, oi_ne, upd_ne]; exact s4
  · simp (disch := omega) only [u2_ne, oi_ne, upd_ne]; exact s5
  · simp (disch := omega) only [u2_ne, oi_ne, upd_ne]; exact u5
  · simp (disch := omega) only [u2_ne, oi_ne, upd_ne]; exact u10
  · simp (disch := omega) only [u2_ne, oi_ne, upd_ne]; exact u11
  · simp (disch := omega) only [u2_ne, oi_ne, upd_ne]; exact u12
  · simp (disch := omega) only [u2_ne, oi_ne, upd_ne]; exact u13
  · simp (disch := omega) only [u2_ne, oi_ne, upd_ne]; exact u14
  · simp (disch := omega) only [u2_ne, oi_ne, upd_ne]; exact u15
  · simp (disch := omega) only [u2_ne, oi_ne, upd_ne]; exact u16
  · simp (disch := omega) only [u2_ne, oi_ne, upd_ne]; exact u17
  · rw [e0] at hj
    obtain ⟨g0, g1, g2, g3, g4, g5, g6, g7⟩ := RB j hj
    refine ⟨?_, ?_, ?_, ?_, ?_, ?_, ?_, ?_⟩
    · simp (disch := omega) only [u2_ne, oi_ne, upd_ne]; exact g0
    · simp (disch := omega) only [u2_ne, oi_ne, upd_ne]; exact g1
    · simp (disch := omega) only [u2_ne, oi_ne, upd_ne]; exact g2
    · simp (disch := omega) only [u2_ne, oi_ne, upd_ne]; exact g3
    · by_cases q : j = i
      · subst q; rw [oi_eq, upd_eq]
      · rw [oi_ne (Or.inr q), upd_ne (by omega)]; exact g4
    · simp (disch := omega) only [u2_ne, oi_ne, upd_ne]; exact g5
    · simp (disch := omega) only [u2_ne, oi_ne, upd_ne]; exact g6
    · simp (disch := omega) only [u2_ne, oi_ne, upd_ne]; exact g7
  · rw [e0] at hj
    rw [oi_ne (Or.inl (by omega)), oi_ne (Or.inl (by omega))]
    exact RC j hj
  · exact logE_cg RL (fun k => oi_ne (Or.inl (by omega))) (fun k => oi_ne (Or.inl (by omega))) (fun k hk => upd_ne (by omega))
theorem rodE_ln {O : jO} {r i : Nat} {W : jWd} {x : Int32} (R : rodE O r W) (hi : i < 8) : rodE (u2 O (r + 4) i (.int x)) r (upd W (16 + 8 * i) x) := by
  obtain ⟨⟨s0, s1, s2, s3, s4, s5⟩, ⟨u5, u10, u11, u12, u13, u14, u15, u16, u17⟩, RB, RC, RL⟩ := R
  have e0 : upd W (16 + 8 * i) x 0 = W 0 := upd_ne (by omega)
  refine ⟨⟨?_, ?_, ?_, ?_, ?_, ?_⟩, ⟨?_, ?_, ?_, ?_, ?_, ?_, ?_, ?_, ?_⟩, fun j hj => ?_, fun j hj => ?_, ?_⟩
  · simp (disch := omega) only [u2_ne, oi_ne, upd_ne]; exact s0
  · simp (disch := omega) only [u2_ne, oi_ne, upd_ne]; exact s1
  · simp (disch := omega) only [u2_ne, oi_ne, upd_ne]; exact s2
  · simp (disch := omega) only [u2_ne, oi_ne, upd_ne]; exact s3
  · simp (disch := omega) only [u2_ne, oi_ne, upd_ne]; exact s4
  · simp (disch := omega) only [u2_ne, oi_ne, upd_ne]; exact s5
  · simp (disch := omega) only [u2_ne, oi_ne, upd_ne]; exact u5
  · simp (disch := omega) only [u2_ne, oi_ne, upd_ne]; exact u10
  · simp (disch := omega) only [u2_ne, oi_ne, upd_ne]; exact u11
  · simp (disch := omega) only [u2_ne, oi_ne, upd_ne]; exact u12
  · simp (disch := omega) only [u2_ne, oi_ne, upd_ne]; exact u13
  · simp (disch := omega) only [u2_ne, oi_ne, upd_ne]; exact u14
  · simp (disch := omega) only [u2_ne, oi_ne, upd_ne]; exact u15
  · simp (disch := omega) only [u2_ne, oi_ne, upd_ne]; exact u16
  · simp (disch := omega) only [u2_ne, oi_ne, upd_ne]; exact u17
  · rw [e0] at hj
    obtain ⟨g0, g1, g2, g3, g4, g5, g6, g7⟩ := RB j hj
    refine ⟨?_, ?_, ?_, ?_, ?_, ?_, ?_, ?_⟩
    · simp (disch := omega) only [u2_ne, oi_ne, upd_ne]; exact g0
    · simp (disch := omega) only [u2_ne, oi_ne, upd_ne]; exact g1
    · simp (disch := omega) only [u2_ne, oi_ne, upd_ne]; exact g2
    · simp (disch := omega) only [u2_ne, oi_ne, upd_ne]; exact g3
    · simp (disch := omega) only [u2_ne, oi_ne, upd_ne]; exact g4
    · by_cases q : j = i
      · subst q; rw [oi_eq, upd_eq]
      · rw [oi_ne (Or.inr q), upd_ne (by omega)]; exact g5
    · simp (disch := omega) only [u2_ne, oi_ne, upd_ne]; exact g6
    · simp (disch := omega) only [u2_ne, oi_ne, upd_ne]; exact g7
  · rw [e0] at hj
    rw [oi_ne (Or.inl (by omega)), oi_ne (Or.inl (by omega))]
    exact RC j hj
  · exact logE_cg RL (fun k => oi_ne (Or.inl (by omega))) (fun k => oi_ne (Or.inl (by omega))) (fun k hk => upd_ne (by omega))
theorem rodE_i10 {O : jO} {r : Nat} {W : jWd} {x : Int32} (R : rodE O r W) : rodE (u2 O r 10 (.int x)) r (upd W 7 x) := by
  obtain ⟨⟨s0, s1, s2, s3, s4, s5⟩, ⟨u5, u10, u11, u12, u13, u14, u15, u16, u17⟩, RB, RC, RL⟩ := R
  have e0 : upd W 7 x 0 = W 0 := upd_ne (by omega)
  refine ⟨⟨?_, ?_, ?_, ?_, ?_, ?_⟩, ⟨?_, ?_, ?_, ?_, ?_, ?_, ?_, ?_, ?_⟩, fun j hj => ?_, fun j hj => ?_, ?_⟩
  · simp (disch := omega) only [u2_ne, oi_ne, upd_ne]; exact s0
  · simp (disch := omega) only [u2_ne, oi_ne, upd_ne]; exact s1
  · simp (disch := omega) only [u2_ne, oi_ne, upd_ne]; exact s2
  · simp (disch := omega) only [u2_ne, oi_ne, upd_ne]; exact s3
  · simp (disch := omega) only [u2_ne, oi_ne, upd_ne]; exact s4
  · simp (disch := omega) only [u2_ne, oi_ne, upd_ne]; exact s5
  · simp (disch := omega) only [u2_ne, oi_ne, upd_ne]; exact u5
  · rw [oi_eq, upd_eq]
  · simp (disch := omega) only [u2_ne, oi_ne, upd_ne]; exact u11
  · simp (disch := omega) only [u2_ne, oi_ne, upd_ne]; exact u12
  · simp (disch := omega) only [u2_ne, oi_ne, upd_ne]; exact u13
  · simp (disch := omega) only [u2_ne, oi_ne, upd_ne]; exact u14
  · simp (disch := omega) only [u2_ne, oi_ne, upd_ne]; exact u15
  · simp (disch := omega) only [u2_ne, oi_ne, upd_ne]; exact u16
  · simp (disch := omega) only [u2_ne, oi_ne, upd_ne]; exact u17
  · rw [e0] at hj
    have RB := RB j hj
    simp (disch := omega) only [u2_ne, oi_ne, upd_ne]
    exact RB
  · rw [e0] at hj
    rw [oi_ne (Or.inr (by omega)), oi_ne (Or.inr (by omega))]
    exact RC j hj
  · exact logE_cg RL (fun k => oi_ne (Or.inl (by omega))) (fun k => oi_ne (Or.inl (by omega))) (fun k hk => upd_ne (by omega))
theorem rodE_i11 {O : jO} {r : Nat} {W : jWd} {x : Int32} (R : rodE O r W) : rodE (u2 O r 11 (.int x)) r (upd W 5 x) := by
  obtain ⟨⟨s0, s1, s2, s3, s4, s5⟩, ⟨u5, u10, u11, u12, u13, u14, u15, u16, u17⟩, RB, RC, RL⟩ := R
  have e0 : upd W 5 x 0 = W 0 := upd_ne (by omega)
  refine ⟨⟨?_, ?_, ?_, ?_, ?_, ?_⟩, ⟨?_, ?_, ?_, ?_, ?_, ?_, ?_, ?_, ?_⟩, fun j hj => ?_, fun j hj => ?_, ?_⟩
  · simp (disch := omega) only [u2_ne, oi_ne, upd_ne]; exact s0
  · simp (disch := omega) only [u2_ne, oi_ne, upd_ne]; exact s1
  · simp (disch := omega) only [u2_ne, oi_ne, upd_ne]; exact s2
  · simp (disch := omega) only [u2_ne, oi_ne, upd_ne]; exact s3
  · simp (disch := omega) only [u2_ne, oi_ne, upd_ne]; exact s4
  · simp (disch := omega) only [u2_ne, oi_ne, upd_ne]; exact s5
  · simp (disch := omega) only [u2_ne, oi_ne, upd_ne]; exact u5
  · simp (disch := omega) only [u2_ne, oi_ne, upd_ne]; exact u10
  · rw [oi_eq, upd_eq]
  · simp (disch := omega) only [u2_ne, oi_ne, upd_ne]; exact u12
  · simp (disch := omega) only [u2_ne, oi_ne, upd_ne]; exact u13
  · simp (disch := omega) only [u2_ne, oi_ne, upd_ne]; exact u14
  · simp (disch := omega) only [u2_ne, oi_ne, upd_ne]; exact u15
  · simp (disch := omega) only [u2_ne, oi_ne, upd_ne]; exact u16
  · simp (disch := omega) only [u2_ne, oi_ne, upd_ne]; exact u17
  · rw [e0] at hj
    have RB := RB j hj
    simp (disch := omega) only [u2_ne, oi_ne, upd_ne]
    exact RB
  · rw [e0] at hj
    rw [oi_ne (Or.inr (by omega)), oi_ne (Or.inr (by omega))]
    exact RC j hj
  · exact logE_cg RL (fun k => oi_ne (Or.inl (by omega))) (fun k => oi_ne (Or.inl (by omega))) (fun k hk => upd_ne (by omega))
theorem rodE_i12 {O : jO} {r : Nat} {W : jWd} {x : Int32} (R : rodE O r W) : rodE (u2 O r 12 (.int x)) r (upd W 6 x) := by
  obtain ⟨⟨s0, s1, s2, s3, s4, s5⟩, ⟨u5, u10, u11, u12, u13, u14, u15, u16, u17⟩, RB, RC, RL⟩ := R
  have e0 : upd W 6 x 0 = W 0 := upd_ne (by omega)
  refine ⟨⟨?_, ?_, ?_, ?_, ?_, ?_⟩, ⟨?_, ?_, ?_, ?_, ?_, ?_, ?_, ?_, ?_⟩, fun j hj => ?_, fun j hj => ?_, ?_⟩
  · simp (disch := omega) only [u2_ne, oi_ne, upd_ne]; exact s0
  · simp (disch := omega) only [u2_ne, oi_ne, upd_ne]; exact s1
  · simp (disch := omega) only [u2_ne, oi_ne, upd_ne]; exact s2
  · simp (disch := omega) only [u2_ne, oi_ne, upd_ne]; exact s3
  · simp (disch := omega) only [u2_ne, oi_ne, upd_ne]; exact s4
  · simp (disch := omega) only [u2_ne, oi_ne, upd_ne]; exact s5
  · simp (disch := omega) only [u2_ne, oi_ne, upd_ne]; exact u5
  · simp (disch := omega) only [u2_ne, oi_ne, upd_ne]; exact u10
  · simp (disch := omega) only [u2_ne, oi_ne, upd_ne]; exact u11
  · rw [oi_eq, upd_eq]
  · simp (disch := omega) only [u2_ne, oi_ne, upd_ne]; exact u13
  · simp (disch := omega) only [u2_ne, oi_ne, upd_ne]; exact u14
  · simp (disch := omega) only [u2_ne, oi_ne, upd_ne]; exact u15
  · simp (disch := omega) only [u2_ne, oi_ne, upd_ne]; exact u16
  · simp (disch := omega) only [u2_ne, oi_ne, upd_ne]; exact u17
  · rw [e0] at hj
    have RB := RB j hj
    simp (disch := omega) only [u2_ne, oi_ne, upd_ne]
    exact RB
  · rw [e0] at hj
    rw [oi_ne (Or.inr (by omega)), oi_ne (Or.inr (by omega))]
    exact RC j hj
  · exact logE_cg RL (fun k => oi_ne (Or.inl (by omega))) (fun k => oi_ne (Or.inl (by omega))) (fun k hk => upd_ne (by omega))
theorem rodE_i13 {O : jO} {r : Nat} {W : jWd} {x : Int32} (R : rodE O r W) : rodE (u2 O r 13 (.int x)) r (upd W 3 x) := by
  obtain ⟨⟨s0, s1, s2, s3, s4, s5⟩, ⟨u5, u10, u11, u12, u13, u14, u15, u16, u17⟩, RB, RC, RL⟩ := R
  have e0 : upd W 3 x 0 = W 0 := upd_ne (by omega)
  refine ⟨⟨?_, ?_, ?_, ?_, ?_, ?_⟩, ⟨?_, ?_, ?_, ?_, ?_, ?_, ?_, ?_, ?_⟩, fun j hj => ?_, fun j hj => ?_, ?_⟩
  · simp (disch := omega) only [u2_ne, oi_ne, upd_ne]; exact s0
  · simp (disch := omega) only [u2_ne, oi_ne, upd_ne]; exact s1
  · simp (disch := omega) only [u2_ne, oi_ne, upd_ne]; exact s2
  · simp (disch := omega) only [u2_ne, oi_ne, upd_ne]; exact s3
  · simp (disch := omega) only [u2_ne, oi_ne, upd_ne]; exact s4
  · simp (disch := omega) only [u2_ne, oi_ne, upd_ne]; exact s5
  · simp (disch := omega) only [u2_ne, oi_ne, upd_ne]; exact u5
  · simp (disch := omega) only [u2_ne, oi_ne, upd_ne]; exact u10
  · simp (disch := omega) only [u2_ne, oi_ne, upd_ne]; exact u11
  · simp (disch := omega) only [u2_ne, oi_ne, upd_ne]; exact u12
  · rw [oi_eq, upd_eq]
  · simp (disch := omega) only [u2_ne, oi_ne, upd_ne]; exact u14
  · simp (disch := omega) only [u2_ne, oi_ne, upd_ne]; exact u15
  · simp (disch := omega) only [u2_ne, oi_ne, upd_ne]; exact u16
  · simp (disch := omega) only [u2_ne, oi_ne, upd_ne]; exact u17
  · rw [e0] at hj
    have RB := RB j hj
    simp (disch := omega) only [u2_ne, oi_ne, upd_ne]
    exact RB
  · rw [e0] at hj
    rw [oi_ne (Or.inr (by omega)), oi_ne (Or.inr (by omega))]
    exact RC j hj
  · exact logE_cg RL (fun k => oi_ne (Or.inl (by omega))) (fun k => oi_ne (Or.inl (by omega))) (fun k hk => upd_ne (by omega))
theorem rodE_i14 {O : jO} {r : Nat} {W : jWd} {x : Int32} (R : rodE O r W) : rodE (u2 O r 14 (.int x)) r (upd W 4 x) := by
  obtain ⟨⟨s0, s1, s2, s3, s4, s5⟩, ⟨u5, u10, u11, u12, u13, u14, u15, u16, u17⟩, RB, RC, RL⟩ := R
  have e0 : upd W 4 x 0 = W 0 := upd_ne (by omega)
  refine ⟨⟨?_, ?_, ?_, ?_, ?_, ?_⟩, ⟨?_, ?_, ?_, ?_, ?_, ?_, ?_, ?_, ?_⟩, fun j hj => ?_, fun j hj => ?_, ?_⟩
  · simp (disch := omega) only [u2_ne, oi_ne, upd_ne]; exact s0
  · simp (disch := omega) only [u2_ne, oi_ne, upd_ne]; exact s1
  · simp (disch := omega) only [u2_ne, oi_ne, upd_ne]; exact s2
  · simp (disch := omega) only [u2_ne, oi_ne, upd_ne]; exact s3
  · simp (disch := omega) only [u2_ne, oi_ne, upd_ne]; exact s4
  · simp (disch := omega) only [u2_ne, oi_ne, upd_ne]; exact s5
  · simp (disch := omega) only [u2_ne, oi_ne, upd_ne]; exact u5
  · simp (disch := omega) only [u2_ne, oi_ne, upd_ne]; exact u10
  · simp (disch := omega) only [u2_ne, oi_ne, upd_ne]; exact u11
  · simp (disch := omega) only [u2_ne, oi_ne, upd_ne]; exact u12
  · simp (disch := omega) only [u2_ne, oi_ne, upd_ne]; exact u13
  · rw [oi_eq, upd_eq]
  · simp (disch := omega) only [u2_ne, oi_ne, upd_ne]; exact u15
  · simp (disch := omega) only [u2_ne, oi_ne, upd_ne]; exact u16
  · simp (disch := omega) only [u2_ne, oi_ne, upd_ne]; exact u17
  · rw [e0] at hj
    have RB := RB j hj
    simp (disch := omega) only [u2_ne, oi_ne, upd_ne]
    exact RB
  · rw [e0] at hj
    rw [oi_ne (Or.inr (by omega)), oi_ne (Or.inr (by omega))]
    exact RC j hj
  · exact logE_cg RL (fun k => oi_ne (Or.inl (by omega))) (fun k => oi_ne (Or.inl (by omega))) (fun k hk => upd_ne (by omega))
theorem rodE_i15 {O : jO} {r : Nat} {W : jWd} {x : Int32} (R : rodE O r W) : rodE (u2 O r 15 (.int x)) r (upd W 8 x) := by
  obtain ⟨⟨s0, s1, s2, s3, s4, s5⟩, ⟨u5, u10, u11, u12, u13, u14, u15, u16, u17⟩, RB, RC, RL⟩ := R
  have e0 : upd W 8 x 0 = W 0 := upd_ne (by omega)
  refine ⟨⟨?_, ?_, ?_, ?_, ?_, ?_⟩, ⟨?_, ?_, ?_, ?_, ?_, ?_, ?_, ?_, ?_⟩, fun j hj => ?_, fun j hj => ?_, ?_⟩
  · simp (disch := omega) only [u2_ne, oi_ne, upd_ne]; exact s0
  · simp (disch := omega) only [u2_ne, oi_ne, upd_ne]; exact s1
  · simp (disch := omega) only [u2_ne, oi_ne, upd_ne]; exact s2
  · simp (disch := omega) only [u2_ne, oi_ne, upd_ne]; exact s3
  · simp (disch := omega) only [u2_ne, oi_ne, upd_ne]; exact s4
  · simp (disch := omega) only [u2_ne, oi_ne, upd_ne]; exact s5
  · simp (disch := omega) only [u2_ne, oi_ne, upd_ne]; exact u5
  · simp (disch := omega) only [u2_ne, oi_ne, upd_ne]; exact u10
  · simp (disch := omega) only [u2_ne, oi_ne, upd_ne]; exact u11
  · simp (disch := omega) only [u2_ne, oi_ne, upd_ne]; exact u12
  · simp (disch := omega) only [u2_ne, oi_ne, upd_ne]; exact u13
  · simp (disch := omega) only [u2_ne, oi_ne, upd_ne]; exact u14
  · rw [oi_eq, upd_eq]
  · simp (disch := omega) only [u2_ne, oi_ne, upd_ne]; exact u16
  · simp (disch := omega) only [u2_ne, oi_ne, upd_ne]; exact u17
  · rw [e0] at hj
    have RB := RB j hj
    simp (disch := omega) only [u2_ne, oi_ne, upd_ne]
    exact RB
  · rw [e0] at hj
    rw [oi_ne (Or.inr (by omega)), oi_ne (Or.inr (by omega))]
    exact RC j hj
  · exact logE_cg RL (fun k => oi_ne (Or.inl (by omega))) (fun k => oi_ne (Or.inl (by omega))) (fun k hk => upd_ne (by omega))
theorem rodE_i16 {O : jO} {r : Nat} {W : jWd} {x : Int32} (R : rodE O r W) : rodE (u2 O r 16 (.int x)) r (upd W 10 x) := by
  obtain ⟨⟨s0, s1, s2, s3, s4, s5⟩, ⟨u5, u10, u11, u12, u13, u14, u15, u16, u17⟩, RB, RC, RL⟩ := R
  have e0 : upd W 10 x 0 = W 0 := upd_ne (by omega)
  refine ⟨⟨?_, ?_, ?_, ?_, ?_, ?_⟩, ⟨?_, ?_, ?_, ?_, ?_, ?_, ?_, ?_, ?_⟩, fun j hj => ?_, fun j hj => ?_, ?_⟩
  · simp (disch := omega) only [u2_ne, oi_ne, upd_ne]; exact s0
  · simp (disch := omega) only [u2_ne, oi_ne, upd_ne]; exact s1
  · simp (disch := omega) only [u2_ne, oi_ne, upd_ne]; exact s2
  · simp (disch := omega) only [u2_ne, oi_ne, upd_ne]; exact s3
  · simp (disch := omega) only [u2_ne, oi_ne, upd_ne]; exact s4
  · simp (disch := omega) only [u2_ne, oi_ne, upd_ne]; exact s5
  · simp (disch := omega) only [u2_ne, oi_ne, upd_ne]; exact u5
  · simp (disch := omega) only [u2_ne, oi_ne, upd_ne]; exact u10
  · simp (disch := omega) only [u2_ne, oi_ne, upd_ne]; exact u11
  · simp (disch := omega) only [u2_ne, oi_ne, upd_ne]; exact u12
  · simp (disch := omega) only [u2_ne, oi_ne, upd_ne]; exact u13
  · simp (disch := omega) only [u2_ne, oi_ne, upd_ne]; exact u14
  · simp (disch := omega) only [u2_ne, oi_ne, upd_ne]; exact u15
  · rw [oi_eq, upd_eq]
  · simp (disch := omega) only [u2_ne, oi_ne, upd_ne]; exact u17
  · rw [e0] at hj
    have RB := RB j hj
    simp (disch := omega) only [u2_ne, oi_ne, upd_ne]
    exact RB
  · rw [e0] at hj
    rw [oi_ne (Or.inr (by omega)), oi_ne (Or.inr (by omega))]
    exact RC j hj
  · exact logE_cg RL (fun k => oi_ne (Or.inl (by omega))) (fun k => oi_ne (Or.inl (by omega))) (fun k hk => upd_ne (by omega))
theorem rodE_i17 {O : jO} {r : Nat} {W : jWd} {x : Int32} (R : rodE O r W) : rodE (u2 O r 17 (.int x)) r (upd W 1 x) := by
  obtain ⟨⟨s0, s1, s2, s3, s4, s5⟩, ⟨u5, u10, u11, u12, u13, u14, u15, u16, u17⟩, RB, RC, RL⟩ := R
  have e0 : upd W 1 x 0 = W 0 := upd_ne (by omega)
  refine ⟨⟨?_, ?_, ?_, ?_, ?_, ?_⟩, ⟨?_, ?_, ?_, ?_, ?_, ?_, ?_, ?_, ?_⟩, fun j hj => ?_, fun j hj => ?_, ?_⟩
  · simp (disch := omega) only [u2_ne, oi_ne, upd_ne]; exact s0
  · simp (disch := omega) only [u2_ne, oi_ne, upd_ne]; exact s1
  · simp (disch := omega) only [u2_ne, oi_ne, upd_ne]; exact s2
  · simp (disch := omega) only [u2_ne, oi_ne, upd_ne]; exact s3
  · simp (disch := omega) only [u2_ne, oi_ne, upd_ne]; exact s4
  · simp (disch := omega) only [u2_ne, oi_ne, upd_ne]; exact s5
  · simp (disch := omega) only [u2_ne, oi_ne, upd_ne]; exact u5
  · simp (disch := omega) only [u2_ne, oi_ne, upd_ne]; exact u10
  · simp (disch := omega) only [u2_ne, oi_ne, upd_ne]; exact u11
  · simp (disch := omega) only [u2_ne, oi_ne, upd_ne]; exact u12
  · simp (disch := omega) only [u2_ne, oi_ne, upd_ne]; exact u13
  · simp (disch := omega) only [u2_ne, oi_ne, upd_ne]; exact u14
  · simp (disch := omega) only [u2_ne, oi_ne, upd_ne]; exact u15
  · simp (disch := omega) only [u2_ne, oi_ne, upd_ne]; exact u16
  · rw [oi_eq, upd_eq]
  · rw [e0] at hj
    have RB := RB j hj
    simp (disch := omega) only [u2_ne, oi_ne, upd_ne]
    exact RB
  · rw [e0] at hj
    rw [oi_ne (Or.inr (by omega)), oi_ne (Or.inr (by omega))]
    exact RC j hj
  · exact logE_cg RL (fun k => oi_ne (Or.inl (by omega))) (fun k => oi_ne (Or.inl (by omega))) (fun k hk => upd_ne (by omega))
theorem rodE_th {O : jO} {r i : Nat} {W : jWd} {x y : Int32} (R : rodE O r W) (hi : (i : Int) < (W 0).toInt) (h8 : i < 8) (hy : ∀ j, j < 32 → (bt y j = true ↔ (if j = i then x = 1 else bt (oi O r 6) j = true))) (h0 : 0 ≤ (W 0).toInt ∧ (W 0).toInt ≤ 8) : rodE (u2 O r 6 (.int y)) r (upd W (13 + 8 * i) x) := by
  obtain ⟨⟨s0, s1, s2, s3, s4, s5⟩, ⟨u5, u10, u11, u12, u13, u14, u15, u16, u17⟩, RB, RC, RL⟩ := R
  have e0 : upd W (13 + 8 * i) x 0 = W 0 := upd_ne (by omega)
  refine ⟨⟨?_, ?_, ?_, ?_, ?_, ?_⟩, ⟨?_, ?_, ?_, ?_, ?_, ?_, ?_, ?_, ?_⟩, fun j hj => ?_, fun j hj h32 => ?_, ?_⟩
  · simp (disch := omega) only [u2_ne, oi_ne, upd_ne]; exact s0
  · simp (disch := omega) only [u2_ne, oi_ne, upd_ne]; exact s1
  · simp (disch := omega) only [u2_ne, oi_ne, upd_ne]; exact s2
  · simp (disch := omega) only [u2_ne, oi_ne, upd_ne]; exact s3
  · simp (disch := omega) only [u2_ne, oi_ne, upd_ne]; exact s4
  · simp (disch := omega) only [u2_ne, oi_ne, upd_ne]; exact s5
  · simp (disch := omega) only [u2_ne, oi_ne, upd_ne]; exact u5
  · simp (disch := omega) only [u2_ne, oi_ne, upd_ne]; exact u10
  · simp (disch := omega) only [u2_ne, oi_ne, upd_ne]; exact u11
  · simp (disch := omega) only [u2_ne, oi_ne, upd_ne]; exact u12
  · simp (disch := omega) only [u2_ne, oi_ne, upd_ne]; exact u13
  · simp (disch := omega) only [u2_ne, oi_ne, upd_ne]; exact u14
  · simp (disch := omega) only [u2_ne, oi_ne, upd_ne]; exact u15
  · simp (disch := omega) only [u2_ne, oi_ne, upd_ne]; exact u16
  · simp (disch := omega) only [u2_ne, oi_ne, upd_ne]; exact u17
  · rw [e0] at hj
    obtain ⟨g0, g1, g2, g3, g4, g5, g6, g7⟩ := RB j hj
    refine ⟨?_, ?_, ?_, ?_, ?_, ?_, ?_, ?_⟩
    · simp (disch := omega) only [u2_ne, oi_ne, upd_ne]; exact g0
    · simp (disch := omega) only [u2_ne, oi_ne, upd_ne]; exact g1
    · rw [oi_eq]
      refine (hy j (by omega)).trans ?_
      by_cases q : j = i
      · subst q; rw [if_pos rfl, upd_eq]
      · rw [if_neg q, upd_ne (by omega)]; exact g2
    · simp (disch := omega) only [u2_ne, oi_ne, upd_ne]; exact g3
    · simp (disch := omega) only [u2_ne, oi_ne, upd_ne]; exact g4
    · simp (disch := omega) only [u2_ne, oi_ne, upd_ne]; exact g5
    · simp (disch := omega) only [u2_ne, oi_ne, upd_ne]; exact g6
    · simp (disch := omega) only [u2_ne, oi_ne, upd_ne]; exact g7
  · rw [e0] at hj
    rw [oi_ne (Or.inr (by omega)), oi_ne (Or.inr (by omega))]
    exact RC j hj h32
  · exact logE_cg RL (fun k => oi_ne (Or.inl (by omega))) (fun k => oi_ne (Or.inl (by omega))) (fun k hk => upd_ne (by omega))
theorem rodE_wd {O : jO} {r i : Nat} {W : jWd} {x y : Int32} (R : rodE O r W) (hi : (i : Int) < (W 0).toInt) (h8 : i < 8) (hy : ∀ j, j < 32 → (bt y j = true ↔ (if j = i then x = 1 else bt (oi O r 7) j = true))) (h0 : 0 ≤ (W 0).toInt ∧ (W 0).toInt ≤ 8) : rodE (u2 O r 7 (.int y)) r (upd W (14 + 8 * i) x) := by
  obtain ⟨⟨s0, s1, s2, s3, s4, s5⟩, ⟨u5, u10, u11, u12, u13, u14, u15, u16, u17⟩, RB, RC, RL⟩ := R
  have e0 : upd W (14 + 8 * i) x 0 = W 0 := upd_ne (by omega)
  refine ⟨⟨?_, ?_, ?_, ?_, ?_, ?_⟩, ⟨?_, ?_, ?_, ?_, ?_, ?_, ?_, ?_, ?_⟩, fun j hj => ?_, fun j hj h32 => ?_, ?_⟩
  · simp (disch := omega) only [u2_ne, oi_ne, upd_ne]; exact s0
  · simp (disch := omega) only [u2_ne, oi_ne, upd_ne]; exact s1
  · simp (disch := omega) only [u2_ne, oi_ne, upd_ne]; exact s2
  · simp (disch := omega) only [u2_ne, oi_ne, upd_ne]; exact s3
  · simp (disch := omega) only [u2_ne, oi_ne, upd_ne]; exact s4
  · simp (disch := omega) only [u2_ne, oi_ne, upd_ne]; exact s5
  · simp (disch := omega) only [u2_ne, oi_ne, upd_ne]; exact u5
  · simp (disch := omega) only [u2_ne, oi_ne, upd_ne]; exact u10
  · simp (disch := omega) only [u2_ne, oi_ne, upd_ne]; exact u11
  · simp (disch := omega) only [u2_ne, oi_ne, upd_ne]; exact u12
  · simp (disch := omega) only [u2_ne, oi_ne, upd_ne]; exact u13
  · simp (disch := omega) only [u2_ne, oi_ne, upd_ne]; exact u14
  · simp (disch := omega) only [u2_ne, oi_ne, upd_ne]; exact u15
  · simp (disch := omega) only [u2_ne, oi_ne, upd_ne]; exact u16
  · simp (disch := omega) only [u2_ne, oi_ne, upd_ne]; exact u17
  · rw [e0] at hj
    obtain ⟨g0, g1, g2, g3, g4, g5, g6, g7⟩ := RB j hj
    refine ⟨?_, ?_, ?_, ?_, ?_, ?_, ?_, ?_⟩
    · simp (disch := omega) only [u2_ne, oi_ne, upd_ne]; exact g0
    · simp (disch := omega) only [u2_ne, oi_ne, upd_ne]; exact g1
    · simp (disch := omega) only [u2_ne, oi_ne, upd_ne]; exact g2
    · rw [oi_eq]
      refine (hy j (by omega)).trans ?_
      by_cases q : j = i
      · subst q; rw [if_pos rfl, upd_eq]
      · rw [if_neg q, upd_ne (by omega)]; exact g3
    · simp (disch := omega) only [u2_ne, oi_ne, upd_ne]; exact g4
    · simp (disch := omega) only [u2_ne, oi_ne, upd_ne]; exact g5
    · simp (disch := omega) only [u2_ne, oi_ne, upd_ne]; exact g6
    · simp (disch := omega) only [u2_ne, oi_ne, upd_ne]; exact g7
  · rw [e0] at hj
    have z : bt y j = false := by
      have a := (hy j h32).mp
      rw [if_neg (by omega : ¬ j = i)] at a
      cases q : bt y j with
      | false => rfl
      | true => exact absurd (a q) (by rw [(RC j hj h32).1]; decide)
    refine ⟨by rw [oi_eq]; exact z, by rw [oi_ne (Or.inr (by decide))]; exact (RC j hj h32).2⟩
  · exact logE_cg RL (fun k => oi_ne (Or.inl (by omega))) (fun k => oi_ne (Or.inl (by omega))) (fun k hk => upd_ne (by omega))
theorem rodE_hk {O : jO} {r i : Nat} {W : jWd} {x y : Int32} (R : rodE O r W) (hi : (i : Int) < (W 0).toInt) (h8 : i < 8) (hy : ∀ j, j < 32 → (bt y j = true ↔ (if j = i then x = 1 else bt (oi O r 8) j = true))) (h0 : 0 ≤ (W 0).toInt ∧ (W 0).toInt ≤ 8) : rodE (u2 O r 8 (.int y)) r (upd W (17 + 8 * i) x) := by
  obtain ⟨⟨s0, s1, s2, s3, s4, s5⟩, ⟨u5, u10, u11, u12, u13, u14, u15, u16, u17⟩, RB, RC, RL⟩ := R
  have e0 : upd W (17 + 8 * i) x 0 = W 0 := upd_ne (by omega)
  refine ⟨⟨?_, ?_, ?_, ?_, ?_, ?_⟩, ⟨?_, ?_, ?_, ?_, ?_, ?_, ?_, ?_, ?_⟩, fun j hj => ?_, fun j hj h32 => ?_, ?_⟩
  · simp (disch := omega) only [u2_ne, oi_ne, upd_ne]; exact s0
  · simp (disch := omega) only [u2_ne, oi_ne, upd_ne]; exact s1
  · simp (disch := omega) only [u2_ne, oi_ne, upd_ne]; exact s2
  · simp (disch := omega) only [u2_ne, oi_ne, upd_ne]; exact s3
  · simp (disch := omega) only [u2_ne, oi_ne, upd_ne]; exact s4
  · simp (disch := omega) only [u2_ne, oi_ne, upd_ne]; exact s5
  · simp (disch := omega) only [u2_ne, oi_ne, upd_ne]; exact u5
  · simp (disch := omega) only [u2_ne, oi_ne, upd_ne]; exact u10
  · simp (disch := omega) only [u2_ne, oi_ne, upd_ne]; exact u11
  · simp (disch := omega) only [u2_ne, oi_ne, upd_ne]; exact u12
  · simp (disch := omega) only [u2_ne, oi_ne, upd_ne]; exact u13
  · simp (disch := omega) only [u2_ne, oi_ne, upd_ne]; exact u14
  · simp (disch := omega) only [u2_ne, oi_ne, upd_ne]; exact u15
  · simp (disch := omega) only [u2_ne, oi_ne, upd_ne]; exact u16
  · simp (disch := omega) only [u2_ne, oi_ne, upd_ne]; exact u17
  · rw [e0] at hj
    obtain ⟨g0, g1, g2, g3, g4, g5, g6, g7⟩ := RB j hj
    refine ⟨?_, ?_, ?_, ?_, ?_, ?_, ?_, ?_⟩
    · simp (disch := omega) only [u2_ne, oi_ne, upd_ne]; exact g0
    · simp (disch := omega) only [u2_ne, oi_ne, upd_ne]; exact g1
    · simp (disch := omega) only [u2_ne, oi_ne, upd_ne]; exact g2
    · simp (disch := omega) only [u2_ne, oi_ne, upd_ne]; exact g3
    · simp (disch := omega) only [u2_ne, oi_ne, upd_ne]; exact g4
    · simp (disch := omega) only [u2_ne, oi_ne, upd_ne]; exact g5
    · rw [oi_eq]
      refine (hy j (by omega)).trans ?_
      by_cases q : j = i
      · subst q; rw [if_pos rfl, upd_eq]
      · rw [if_neg q, upd_ne (by omega)]; exact g6
    · simp (disch := omega) only [u2_ne, oi_ne, upd_ne]; exact g7
  · rw [e0] at hj
    rw [oi_ne (Or.inr (by omega)), oi_ne (Or.inr (by omega))]
    exact RC j hj h32
  · exact logE_cg RL (fun k => oi_ne (Or.inl (by omega))) (fun k => oi_ne (Or.inl (by omega))) (fun k hk => upd_ne (by omega))
theorem rodE_ct {O : jO} {r i : Nat} {W : jWd} {x y : Int32} (R : rodE O r W) (hi : (i : Int) < (W 0).toInt) (h8 : i < 8) (hy : ∀ j, j < 32 → (bt y j = true ↔ (if j = i then x = 1 else bt (oi O r 9) j = true))) (h0 : 0 ≤ (W 0).toInt ∧ (W 0).toInt ≤ 8) : rodE (u2 O r 9 (.int y)) r (upd W (18 + 8 * i) x) := by
  obtain ⟨⟨s0, s1, s2, s3, s4, s5⟩, ⟨u5, u10, u11, u12, u13, u14, u15, u16, u17⟩, RB, RC, RL⟩ := R
  have e0 : upd W (18 + 8 * i) x 0 = W 0 := upd_ne (by omega)
  refine ⟨⟨?_, ?_, ?_, ?_, ?_, ?_⟩, ⟨?_, ?_, ?_, ?_, ?_, ?_, ?_, ?_, ?_⟩, fun j hj => ?_, fun j hj h32 => ?_, ?_⟩
  · simp (disch := omega) only [u2_ne, oi_ne, upd_ne]; exact s0
  · simp (disch := omega) only [u2_ne, oi_ne, upd_ne]; exact s1
  · simp (disch := omega) only [u2_ne, oi_ne, upd_ne]; exact s2
  · simp (disch := omega) only [u2_ne, oi_ne, upd_ne]; exact s3
  · simp (disch := omega) only [u2_ne, oi_ne, upd_ne]; exact s4
  · simp (disch := omega) only [u2_ne, oi_ne, upd_ne]; exact s5
  · simp (disch := omega) only [u2_ne, oi_ne, upd_ne]; exact u5
  · simp (disch := omega) only [u2_ne, oi_ne, upd_ne]; exact u10
  · simp (disch := omega) only [u2_ne, oi_ne, upd_ne]; exact u11
  · simp (disch := omega) only [u2_ne, oi_ne, upd_ne]; exact u12
  · simp (disch := omega) only [u2_ne, oi_ne, upd_ne]; exact u13
  · simp (disch := omega) only [u2_ne, oi_ne, upd_ne]; exact u14
  · simp (disch := omega) only [u2_ne, oi_ne, upd_ne]; exact u15
  · simp (disch := omega) only [u2_ne, oi_ne, upd_ne]; exact u16
  · simp (disch := omega) only [u2_ne, oi_ne, upd_ne]; exact u17
  · rw [e0] at hj
    obtain ⟨g0, g1, g2, g3, g4, g5, g6, g7⟩ := RB j hj
    refine ⟨?_, ?_, ?_, ?_, ?_, ?_, ?_, ?_⟩
    · simp (disch := omega) only [u2_ne, oi_ne, upd_ne]; exact g0
    · simp (disch := omega) only [u2_ne, oi_ne, upd_ne]; exact g1
    · simp (disch := omega) only [u2_ne, oi_ne, upd_ne]; exact g2
    · simp (disch := omega) only [u2_ne, oi_ne, upd_ne]; exact g3
    · simp (disch := omega) only [u2_ne, oi_ne, upd_ne]; exact g4
    · simp (disch := omega) only [u2_ne, oi_ne, upd_ne]; exact g5
    · simp (disch := omega) only [u2_ne, oi_ne, upd_ne]; exact g6
    · rw [oi_eq]
      refine (hy j (by omega)).trans ?_
      by_cases q : j = i
      · subst q; rw [if_pos rfl, upd_eq]
      · rw [if_neg q, upd_ne (by omega)]; exact g7
  · rw [e0] at hj
    have z : bt y j = false := by
      have a := (hy j h32).mp
      rw [if_neg (by omega : ¬ j = i)] at a
      cases q : bt y j with
      | false => rfl
      | true => exact absurd (a q) (by rw [(RC j hj h32).2]; decide)
    refine ⟨by rw [oi_ne (Or.inr (by decide))]; exact (RC j hj h32).1, by rw [oi_eq]; exact z⟩
  · exact logE_cg RL (fun k => oi_ne (Or.inl (by omega))) (fun k => oi_ne (Or.inl (by omega))) (fun k hk => upd_ne (by omega))
/-- all but the seven cells of the rod at r is left alone -/
def frR (r : Nat) (O O2 : jO) : Prop := ∀ b k, (b < r ∨ r + 6 < b) → O2 b k = O b k
theorem frR_rfl {r : Nat} {O : jO} : frR r O O := fun _ _ _ => rfl
theorem frR_tr {r : Nat} {O O2 O3 : jO} (a : frR r O O2) (b : frR r O2 O3) : frR r O O3 := fun x k h => (b x k h).trans (a x k h)
theorem frR_u2 {r a i : Nat} {O : jO} {v : Value} (h : r ≤ a ∧ a ≤ r + 6) : frR r O (u2 O a i v) := fun b k q => u2_ne (Or.inl (by omega))
