section
set_option maxHeartbeats 1000000 in
theorem S_X7_stepsToShade_11 {g : jGh} {Γ : Nat → Option Nat} {n : Nat} (hn : 6000 ≤ n) (hg : jgok g)  (k : Nat) : ∀ {a0 : Nat} {x2 : Int32} {x3 : Int32} {x4 : Int32} {h : jH}, jW (jKd g) Γ h → (Γ a0 = some 18) → (0 ≤ x3.toInt) → (x3.toInt ≤ 15) → (0 ≤ x4.toInt) → (x4.toInt ≤ 32) → (32 : Int) - x4.toInt < (k : Int) → jok (F_X7_stepsToShade_11 n k a0 x2 x3 x4 h) (fun q => jW (jKd g) Γ q.2 ∧ (fun v : Int32 => True) q.1) := by
  induction k with
  | zero =>
    intro a0 x2 x3 x4 h w ta0 lx3 ux3 lx4 ux4 mk
    omega
  | succ k ih =>
    intro a0 x2 x3 x4 h w ta0 lx3 ux3 lx4 ux4 mk
    show jok (F_X7_stepsToShade_11_b n (F_X7_stepsToShade_11 n k) a0 x2 x3 x4 h) _
    unfold F_X7_stepsToShade_11_b
    have f1 : ((31 : Int32)).toInt = 31 := rfl
    refine jok_lt (fun c2 => ?_) (fun c2 => ?_)
    · exact jok_s ⟨w, trivial⟩
    · refine jok_b (t_gR w ta0 rfl rfl) (fun p19_3 tp19_3 => ?_)
      have f4 : ((2 : Int32)).toInt = 2 := rfl
      have f5 : ((x3 / (2 : Int32))).toInt = (x3).toInt / 2 := jdivL (c := 2) (by omega) rfl (by decide)
      have f6 : (((x3 / (2 : Int32)) * (2 : Int32))).toInt = 2 * ((x3 / (2 : Int32))).toInt := jmulR (c := 2) (by omega) (by omega) (by omega)
      have f7 : ((x3 - ((x3 / (2 : Int32)) * (2 : Int32)))).toInt = (x3).toInt - (((x3 / (2 : Int32)) * (2 : Int32))).toInt := jsub (by omega) (by omega)
      have f8 : ((1 : Int32)).toInt = 1 := rfl
      refine jok_eq (fun c9 d9 => ?_) (fun c9 => ?_)
      · unfold F_X7_stepsToShade_37
        try rw [t_cv w tp19_3 rfl]
        refine jok_b (S_X8_move hn hg w tp19_3 (by omega) (by omega) (by omega) (by omega)) (fun q38_10 wq38_10 => ?_)
        obtain ⟨wq38_10, pq38_10⟩ := wq38_10
        obtain ⟨lq38_10, uq38_10⟩ := pq38_10
        refine jok_eq (fun c11 d11 => ?_) (fun c11 => ?_)
        · refine jok_b (t_gR wq38_10 ta0 rfl rfl) (fun p46_12 tp46_12 => ?_)
          try rw [t_cv wq38_10 tp46_12 rfl]
          refine jok_b (S_X8_shadow hn hg wq38_10 tp46_12) (fun v49_13 pv49_13 => ?_)
          refine jok_eq (fun c14 d14 => ?_) (fun c14 => ?_)
          · exact jok_s ⟨wq38_10, trivial⟩
          · have f15 : ((x4 + (1 : Int32))).toInt = (x4).toInt + ((1 : Int32)).toInt := jadd (by omega) (by omega)
            exact ih wq38_10 ta0 (by omega) (by omega) (by omega) (by omega) (by omega)
        · exact jok_s ⟨wq38_10, trivial⟩
      · unfold F_X7_stepsToShade_37
        try rw [t_cv w tp19_3 rfl]
        refine jok_b (S_X8_move hn hg w tp19_3 (by omega) (by omega) (by omega) (by omega)) (fun q38_16 wq38_16 => ?_)
        obtain ⟨wq38_16, pq38_16⟩ := wq38_16
        obtain ⟨lq38_16, uq38_16⟩ := pq38_16
        refine jok_eq (fun c17 d17 => ?_) (fun c17 => ?_)
        · refine jok_b (t_gR wq38_16 ta0 rfl rfl) (fun p46_18 tp46_18 => ?_)
          try rw [t_cv wq38_16 tp46_18 rfl]
          refine jok_b (S_X8_shadow hn hg wq38_16 tp46_18) (fun v49_19 pv49_19 => ?_)
          refine jok_eq (fun c20 d20 => ?_) (fun c20 => ?_)
          · exact jok_s ⟨wq38_16, trivial⟩
          · have f21 : ((x4 + (1 : Int32))).toInt = (x4).toInt + ((1 : Int32)).toInt := jadd (by omega) (by omega)
            exact ih wq38_16 ta0 (by omega) (by omega) (by omega) (by omega) (by omega)
        · exact jok_s ⟨wq38_16, trivial⟩
set_option maxHeartbeats 1000000 in
theorem S_X7_stepsToShade {g : jGh} {Γ : Nat → Option Nat} {n : Nat} {a0 : Nat} {a1 : Nat} {x2 : Int32} {x3 : Int32} {h : jH} (hn : 6000 ≤ n) (hg : jgok g) (w : jW (jKd g) Γ h) (ta0 : Γ a0 = some 18) (ta1 : Γ a1 = some 3) (lx3 : 0 ≤ x3.toInt) (ux3 : x3.toInt ≤ 15) : jok (F_X7_stepsToShade n a0 a1 x2 x3 h) (fun q => jW (jKd g) Γ q.2 ∧ (fun v : Int32 => True) q.1) := by
  unfold F_X7_stepsToShade
  refine jok_b (t_gR w ta0 rfl rfl) (fun p1_1 tp1_1 => ?_)
  try rw [t_cv w tp1_1 rfl]
  refine jok_b (S_X8_hangAs hn hg w tp1_1 ta1) (fun h5_2 wh5_2 => ?_)
  have f3 : ((1 : Int32)).toInt = 1 := rfl
  exact S_X7_stepsToShade_11 hn hg  n wh5_2 ta0 (by omega) (by omega) (by omega) (by omega) (by omega)
set_option maxHeartbeats 1000000 in
theorem S_X7_seekShade_42 {g : jGh} {Γ : Nat → Option Nat} {n : Nat} (hn : 6000 ≤ n) (hg : jgok g)  (k : Nat) : ∀ {a0 : Nat} {a1 : Nat} {x2 : Int32} {x3 : Int32} {h : jH}, jW (jKd g) Γ h → (Γ a0 = some 18) → (Γ a1 = some 3) → (0 ≤ x3.toInt) → (x3.toInt ≤ 16) → (16 : Int) - x3.toInt < (k : Int) → jok (F_X7_seekShade_42 n k a0 a1 x2 x3 h) (fun q => jW (jKd g) Γ q) := by
  induction k with
  | zero =>
    intro a0 a1 x2 x3 h w ta0 ta1 lx3 ux3 mk
    omega
  | succ k ih =>
    intro a0 a1 x2 x3 h w ta0 ta1 lx3 ux3 mk
    show jok (F_X7_seekShade_42_b n (F_X7_seekShade_42 n k) a0 a1 x2 x3 h) _
    unfold F_X7_seekShade_42_b
    refine jok_b2 (t_gI w ta1 rfl rfl) (fun v45_1 ev45_1 pv45_1 => ?_)
    obtain ⟨lv45_1, uv45_1⟩ := pv45_1
    have f2 : ((2 : Int32)).toInt = 2 := rfl
    have f3 : (((2 : Int32) * v45_1)).toInt = 2 * (v45_1).toInt := jmulL (c := 2) (by omega) (by omega) (by omega)
    refine jok_le (fun c4 => ?_) (fun c4 => ?_)
    · exact jok_s w
    · try rw [t_cv w ta0 rfl]
      refine jok_b (S_X7_stepsToShade hn hg w ta0 ta1 (by omega) (by omega)) (fun q56_5 wq56_5 => ?_)
      obtain ⟨wq56_5, pq56_5⟩ := wq56_5
      have f6 : ((-1 : Int32)).toInt = -1 := rfl
      refine jok_eq (fun c7 d7 => ?_) (fun c7 => ?_)
      · have f8 : ((1 : Int32)).toInt = 1 := rfl
        have f9 : ((x3 + (1 : Int32))).toInt = (x3).toInt + ((1 : Int32)).toInt := jadd (by omega) (by omega)
        exact ih wq56_5 ta0 ta1 (by omega) (by omega) (by omega)
      · refine jok_b2 (t_gI wq56_5 ta0 rfl rfl) (fun v68_10 ev68_10 pv68_10 => ?_)
        refine jok_eq (fun c11 d11 => ?_) (fun c11 => ?_)
        · refine jok_b (t_pI wq56_5 ta0 rfl rfl trivial) (fun h87_12 wh87_12 => ?_)
          obtain ⟨wh87_12, jh87_12, rh87_12⟩ := wh87_12
          refine jok_b (t_pI wh87_12 ta0 rfl rfl trivial) (fun h92_13 wh92_13 => ?_)
          obtain ⟨wh92_13, jh92_13, rh92_13⟩ := wh92_13
          have f14 : ((1 : Int32)).toInt = 1 := rfl
          have f15 : ((x3 + (1 : Int32))).toInt = (x3).toInt + ((1 : Int32)).toInt := jadd (by omega) (by omega)
          exact ih wh92_13 ta0 ta1 (by omega) (by omega) (by omega)
        · refine jok_r ev68_10 ?_
          refine jok_le (fun c17 => ?_) (fun c17 => ?_)
          · have f18 : ((1 : Int32)).toInt = 1 := rfl
            have f19 : ((x3 + (1 : Int32))).toInt = (x3).toInt + ((1 : Int32)).toInt := jadd (by omega) (by omega)
            exact ih wq56_5 ta0 ta1 (by omega) (by omega) (by omega)
          · refine jok_b (t_pI wq56_5 ta0 rfl rfl trivial) (fun h87_20 wh87_20 => ?_)
            obtain ⟨wh87_20, jh87_20, rh87_20⟩ := wh87_20
            refine jok_b (t_pI wh87_20 ta0 rfl rfl trivial) (fun h92_21 wh92_21 => ?_)
            obtain ⟨wh92_21, jh92_21, rh92_21⟩ := wh92_21
            have f22 : ((1 : Int32)).toInt = 1 := rfl
            have f23 : ((x3 + (1 : Int32))).toInt = (x3).toInt + ((1 : Int32)).toInt := jadd (by omega) (by omega)
            exact ih wh92_21 ta0 ta1 (by omega) (by omega) (by omega)
set_option maxHeartbeats 1000000 in
theorem S_X7_seekShade {g : jGh} {Γ : Nat → Option Nat} {n : Nat} {a0 : Nat} {a1 : Nat} {x2 : Int32} {h : jH} (hn : 6000 ≤ n) (hg : jgok g) (w : jW (jKd g) Γ h) (ta0 : Γ a0 = some 18) (ta1 : Γ a1 = some 3) : jok (F_X7_seekShade n a0 a1 x2 h) (fun q => jW (jKd g) Γ q) := by
  unfold F_X7_seekShade
  have f2 : ((-1 : Int32)).toInt = -1 := rfl
  refine jok_b (t_pI w ta0 rfl rfl trivial) (fun h2_1 wh2_1 => ?_)
  obtain ⟨wh2_1, jh2_1, rh2_1⟩ := wh2_1
  try rw [t_cv wh2_1 ta1 rfl]
  refine jok_b (S_X8_shadow hn hg wh2_1 ta1) (fun v7_3 pv7_3 => ?_)
  refine jok_eq (fun c4 d4 => ?_) (fun c4 => ?_)
  · unfold F_X7_seekShade_21
    have f6 : ((0 : Int32)).toInt = 0 := rfl
    refine jok_b (t_pI wh2_1 ta0 rfl rfl trivial) (fun h21_5 wh21_5 => ?_)
    obtain ⟨wh21_5, jh21_5, rh21_5⟩ := wh21_5
    refine jok_r (fJ jh21_5) ?_
    refine jok_eq (fun c8 d8 => ?_) (fun c8 => ?_)
    · exact jok_s wh21_5
    · refine jok_b (t_gR wh21_5 ta0 rfl rfl) (fun p33_9 tp33_9 => ?_)
      try rw [t_cv wh21_5 tp33_9 rfl]
      refine jok_b (S_X8_copyFrom hn hg wh21_5 tp33_9 ta1) (fun h37_10 wh37_10 => ?_)
      exact S_X7_seekShade_42 hn hg  n wh37_10 ta0 ta1 (by omega) (by omega) (by omega)
  · unfold F_X7_seekShade_21
    refine jok_b (t_pI wh2_1 ta0 rfl rfl trivial) (fun h21_11 wh21_11 => ?_)
    obtain ⟨wh21_11, jh21_11, rh21_11⟩ := wh21_11
    refine jok_r (fJ jh21_11) ?_
    have f13 : ((0 : Int32)).toInt = 0 := rfl
    refine jok_eq (fun c14 d14 => ?_) (fun c14 => ?_)
    · exact jok_s wh21_11
    · refine jok_b (t_gR wh21_11 ta0 rfl rfl) (fun p33_15 tp33_15 => ?_)
      try rw [t_cv wh21_11 tp33_15 rfl]
      refine jok_b (S_X8_copyFrom hn hg wh21_11 tp33_15 ta1) (fun h37_16 wh37_16 => ?_)
      exact S_X7_seekShade_42 hn hg  n wh37_16 ta0 ta1 (by omega) (by omega) (by omega)
set_option maxHeartbeats 1000000 in
theorem S_X7_fewestFreed_14 {g : jGh} {Γ : Nat → Option Nat} {n : Nat} (hn : 6000 ≤ n) (hg : jgok g)  (k : Nat) : ∀ {a0 : Nat} {a1 : Nat} {x2 : Int32} {x3 : Int32} {x4 : Int32} {x5 : Int32} {x6 : Int32} {h : jH}, jW (jKd g) Γ h → (Γ a0 = some 18) → (Γ a1 = some 3) → (0 ≤ x2.toInt) → (x2.toInt ≤ 7) → (0 ≤ x4.toInt) → (x4.toInt ≤ 31) → (0 ≤ x6.toInt) → (x6.toInt ≤ 128) → (128 : Int) - x6.toInt < (k : Int) → jok (F_X7_fewestFreed_14 n k a0 a1 x2 x3 x4 x5 x6 h) (fun q => jW (jKd g) Γ q.2 ∧ (fun v : Int32 => True) q.1) := by
  induction k with
  | zero =>
    intro a0 a1 x2 x3 x4 x5 x6 h w ta0 ta1 lx2 ux2 lx4 ux4 lx6 ux6 mk
    omega
  | succ k ih =>
    intro a0 a1 x2 x3 x4 x5 x6 h w ta0 ta1 lx2 ux2 lx4 ux4 lx6 ux6 mk
    show jok (F_X7_fewestFreed_14_b n (F_X7_fewestFreed_14 n k) a0 a1 x2 x3 x4 x5 x6 h) _
    unfold F_X7_fewestFreed_14_b
    have f1 : ((128 : Int32)).toInt = 128 := rfl
    refine jok_le (fun c2 => ?_) (fun c2 => ?_)
    · exact jok_s ⟨w, trivial⟩
    · have f3 : ((-1 : Int32)).toInt = -1 := rfl
      refine jok_eq (fun c4 d4 => ?_) (fun c4 => ?_)
      · unfold F_X7_fewestFreed_46
        refine jok_b2 (t_gI w ta1 rfl rfl) (fun v51_5 ev51_5 pv51_5 => ?_)
        have f6 : ((0 : Int32)).toInt = 0 := rfl
        refine jok_eq (fun c7 d7 => ?_) (fun c7 => ?_)
        · have f8 : ((1 : Int32)).toInt = 1 := rfl
          refine jok_eq (fun c9 d9 => ?_) (fun c9 => ?_)
          · have f10 : ((x6 + (1 : Int32))).toInt = (x6).toInt + ((1 : Int32)).toInt := jadd (by omega) (by omega)
            exact ih w ta0 ta1 (by omega) (by omega) (by omega) (by omega) (by omega) (by omega) (by omega)
          · refine jok_r ev51_5 ?_
            try rw [t_cv w ta0 rfl]
            refine jok_b (S_X7_farWith hn hg w ta0 ta1 (by omega) (by omega) (by omega) (by omega)) (fun q80_12 wq80_12 => ?_)
            obtain ⟨wq80_12, pq80_12⟩ := wq80_12
            obtain ⟨lq80_12, uq80_12⟩ := pq80_12
            refine jok_eq (fun c13 d13 => ?_) (fun c13 => ?_)
            · have f14 : ((x6 + (1 : Int32))).toInt = (x6).toInt + ((1 : Int32)).toInt := jadd (by omega) (by omega)
              exact ih wq80_12 ta0 ta1 (by omega) (by omega) (by omega) (by omega) (by omega) (by omega) (by omega)
            · have f15 : ((x6 + (1 : Int32))).toInt = (x6).toInt + ((1 : Int32)).toInt := jadd (by omega) (by omega)
              exact ih wq80_12 ta0 ta1 (by omega) (by omega) (by omega) (by omega) (by omega) (by omega) (by omega)
        · have f16 : ((1 : Int32)).toInt = 1 := rfl
          have f17 : ((x6 + (1 : Int32))).toInt = (x6).toInt + ((1 : Int32)).toInt := jadd (by omega) (by omega)
          exact ih w ta0 ta1 (by omega) (by omega) (by omega) (by omega) (by omega) (by omega) (by omega)
      · refine jok_b (S_J6_bitCount_0f7a4 hn hg w) (fun v30_18 pv30_18 => ?_)
        refine jok_b (S_J6_bitCount_0f7a4 hn hg w) (fun v35_19 pv35_19 => ?_)
        refine jok_le (fun c20 => ?_) (fun c20 => ?_)
        · unfold F_X7_fewestFreed_46
          refine jok_b2 (t_gI w ta1 rfl rfl) (fun v51_21 ev51_21 pv51_21 => ?_)
          have f22 : ((0 : Int32)).toInt = 0 := rfl
          refine jok_eq (fun c23 d23 => ?_) (fun c23 => ?_)
          · refine jok_eq (fun c24 d24 => ?_) (fun c24 => ?_)
            · have f25 : ((1 : Int32)).toInt = 1 := rfl
              have f26 : ((x6 + (1 : Int32))).toInt = (x6).toInt + ((1 : Int32)).toInt := jadd (by omega) (by omega)
              exact ih w ta0 ta1 (by omega) (by omega) (by omega) (by omega) (by omega) (by omega) (by omega)
            · refine jok_r ev51_21 ?_
              try rw [t_cv w ta0 rfl]
              refine jok_b (S_X7_farWith hn hg w ta0 ta1 (by omega) (by omega) (by omega) (by omega)) (fun q80_28 wq80_28 => ?_)
              obtain ⟨wq80_28, pq80_28⟩ := wq80_28
              obtain ⟨lq80_28, uq80_28⟩ := pq80_28
              refine jok_eq (fun c29 d29 => ?_) (fun c29 => ?_)
              · have f30 : ((1 : Int32)).toInt = 1 := rfl
                have f31 : ((x6 + (1 : Int32))).toInt = (x6).toInt + ((1 : Int32)).toInt := jadd (by omega) (by omega)
                exact ih wq80_28 ta0 ta1 (by omega) (by omega) (by omega) (by omega) (by omega) (by omega) (by omega)
              · have f32 : ((1 : Int32)).toInt = 1 := rfl
                have f33 : ((x6 + (1 : Int32))).toInt = (x6).toInt + ((1 : Int32)).toInt := jadd (by omega) (by omega)
                exact ih wq80_28 ta0 ta1 (by omega) (by omega) (by omega) (by omega) (by omega) (by omega) (by omega)
          · have f34 : ((1 : Int32)).toInt = 1 := rfl
            have f35 : ((x6 + (1 : Int32))).toInt = (x6).toInt + ((1 : Int32)).toInt := jadd (by omega) (by omega)
            exact ih w ta0 ta1 (by omega) (by omega) (by omega) (by omega) (by omega) (by omega) (by omega)
        · unfold F_X7_fewestFreed_46
          refine jok_b2 (t_gI w ta1 rfl rfl) (fun v51_36 ev51_36 pv51_36 => ?_)
          have f37 : ((0 : Int32)).toInt = 0 := rfl
          refine jok_eq (fun c38 d38 => ?_) (fun c38 => ?_)
          · have f39 : ((1 : Int32)).toInt = 1 := rfl
            refine jok_eq (fun c40 d40 => ?_) (fun c40 => ?_)
            · have f41 : ((x6 + (1 : Int32))).toInt = (x6).toInt + ((1 : Int32)).toInt := jadd (by omega) (by omega)
              exact ih w ta0 ta1 (by omega) (by omega) (by omega) (by omega) (by omega) (by omega) (by omega)
            · refine jok_r ev51_36 ?_
              try rw [t_cv w ta0 rfl]
              refine jok_b (S_X7_farWith hn hg w ta0 ta1 (by omega) (by omega) (by omega) (by omega)) (fun q80_43 wq80_43 => ?_)
              obtain ⟨wq80_43, pq80_43⟩ := wq80_43
              obtain ⟨lq80_43, uq80_43⟩ := pq80_43
              refine jok_eq (fun c44 d44 => ?_) (fun c44 => ?_)
              · have f45 : ((x6 + (1 : Int32))).toInt = (x6).toInt + ((1 : Int32)).toInt := jadd (by omega) (by omega)
                exact ih wq80_43 ta0 ta1 (by omega) (by omega) (by omega) (by omega) (by omega) (by omega) (by omega)
              · have f46 : ((x6 + (1 : Int32))).toInt = (x6).toInt + ((1 : Int32)).toInt := jadd (by omega) (by omega)
                exact ih wq80_43 ta0 ta1 (by omega) (by omega) (by omega) (by omega) (by omega) (by omega) (by omega)
          · have f47 : ((1 : Int32)).toInt = 1 := rfl
            have f48 : ((x6 + (1 : Int32))).toInt = (x6).toInt + ((1 : Int32)).toInt := jadd (by omega) (by omega)
            exact ih w ta0 ta1 (by omega) (by omega) (by omega) (by omega) (by omega) (by omega) (by omega)
set_option maxHeartbeats 1000000 in
theorem S_X7_fewestFreed {g : jGh} {Γ : Nat → Option Nat} {n : Nat} {a0 : Nat} {a1 : Nat} {x2 : Int32} {x3 : Int32} {x4 : Int32} {h : jH} (hn : 6000 ≤ n) (hg : jgok g) (w : jW (jKd g) Γ h) (ta0 : Γ a0 = some 18) (ta1 : Γ a1 = some 3) (lx2 : 0 ≤ x2.toInt) (ux2 : x2.toInt ≤ 7) (lx4 : 0 ≤ x4.toInt) (ux4 : x4.toInt ≤ 31) : jok (F_X7_fewestFreed n a0 a1 x2 x3 x4 h) (fun q => jW (jKd g) Γ q.2 ∧ (fun v : Int32 => True) q.1) := by
  unfold F_X7_fewestFreed
  refine jok_b (t_gR w ta0 rfl rfl) (fun p1_1 tp1_1 => ?_)
  try rw [t_cv w tp1_1 rfl]
  refine jok_b (S_X8_copyFrom hn hg w tp1_1 ta1) (fun h5_2 wh5_2 => ?_)
  have f3 : ((0 : Int32)).toInt = 0 := rfl
  exact S_X7_fewestFreed_14 hn hg  n wh5_2 ta0 ta1 (by omega) (by omega) (by omega) (by omega) (by omega) (by omega) (by omega)
set_option maxHeartbeats 1000000 in
theorem S_X7_inAllFitting_20 {g : jGh} {Γ : Nat → Option Nat} {n : Nat} (hn : 6000 ≤ n) (hg : jgok g)  (k : Nat) : ∀ {a0 : Nat} {x1 : Int32} {x2 : Int32} {h : jH}, jW (jKd g) Γ h → (Γ a0 = some 18) → (0 ≤ x2.toInt) → (x2.toInt ≤ 128) → (128 : Int) - x2.toInt < (k : Int) → jok (F_X7_inAllFitting_20 n k a0 x1 x2 h) (fun v => True) := by
  induction k with
  | zero =>
    intro a0 x1 x2 h w ta0 lx2 ux2 mk
    omega
  | succ k ih =>
    intro a0 x1 x2 h w ta0 lx2 ux2 mk
    show jok (F_X7_inAllFitting_20_b n (F_X7_inAllFitting_20 n k) a0 x1 x2 h) _
    unfold F_X7_inAllFitting_20_b
    refine jok_b2 (t_gI w ta0 rfl rfl) (fun v22_1 ev22_1 pv22_1 => ?_)
    obtain ⟨lv22_1, uv22_1⟩ := pv22_1
    refine jok_le (fun c2 => ?_) (fun c2 => ?_)
    · exact jok_s trivial
    · refine jok_b (t_gR w ta0 rfl rfl) (fun p30_3 tp30_3 => ?_)
      refine jok_b (t_al w tp30_3 rfl (by omega) (by omega)) (fun v34_4 pv34_4 => ?_)
      have f5 : ((1 : Int32)).toInt = 1 := rfl
      have f6 : ((x2 + (1 : Int32))).toInt = (x2).toInt + ((1 : Int32)).toInt := jadd (by omega) (by omega)
      exact ih w ta0 (by omega) (by omega) (by omega)
set_option maxHeartbeats 1000000 in
theorem S_X7_inAllFitting {g : jGh} {Γ : Nat → Option Nat} {n : Nat} {a0 : Nat} {h : jH} (hn : 6000 ≤ n) (hg : jgok g) (w : jW (jKd g) Γ h) (ta0 : Γ a0 = some 18) : jok (F_X7_inAllFitting n a0 h) (fun v => True) := by
  unfold F_X7_inAllFitting
  refine jok_b2 (t_gI w ta0 rfl rfl) (fun v1_1 ev1_1 pv1_1 => ?_)
  obtain ⟨lv1_1, uv1_1⟩ := pv1_1
  have f2 : ((0 : Int32)).toInt = 0 := rfl
  refine jok_eq (fun c3 d3 => ?_) (fun c3 => ?_)
  · have f4 : ((1 : Int32)).toInt = 1 := rfl
    exact S_X7_inAllFitting_20 hn hg  n w ta0 (by omega) (by omega) (by omega)
  · refine jok_b (t_gR w ta0 rfl rfl) (fun p12_5 tp12_5 => ?_)
    refine jok_b (t_al w tp12_5 rfl (by omega) (by omega)) (fun v16_6 pv16_6 => ?_)
    have f7 : ((1 : Int32)).toInt = 1 := rfl
    exact S_X7_inAllFitting_20 hn hg  n w ta0 (by omega) (by omega) (by omega)
set_option maxHeartbeats 1000000 in
theorem S_X7_greatestPart_29 {g : jGh} {Γ : Nat → Option Nat} {n : Nat} (hn : 6000 ≤ n) (hg : jgok g)  (k : Nat) : ∀ {a0 : Nat} {a1 : Nat} {x2 : Int32} {x3 : Int32} {x4 : Int32} {h : jH}, jW (jKd g) Γ h → (Γ a0 = some 18) → (Γ a1 = some 3) → (0 ≤ x2.toInt) → (x2.toInt ≤ 15) → (0 ≤ x4.toInt) → (x4.toInt ≤ 128) → (128 : Int) - x4.toInt < (k : Int) → jok (F_X7_greatestPart_29 n k a0 a1 x2 x3 x4 h) (fun q => jW (jKd g) Γ q.2 ∧ (fun v : Int32 => True) q.1) := by
  induction k with
  | zero =>
    intro a0 a1 x2 x3 x4 h w ta0 ta1 lx2 ux2 lx4 ux4 mk
    omega
  | succ k ih =>
    intro a0 a1 x2 x3 x4 h w ta0 ta1 lx2 ux2 lx4 ux4 mk
    show jok (F_X7_greatestPart_29_b n (F_X7_greatestPart_29 n k) a0 a1 x2 x3 x4 h) _
    unfold F_X7_greatestPart_29_b
    refine jok_b2 (t_gI w ta0 rfl rfl) (fun v32_1 ev32_1 pv32_1 => ?_)
    obtain ⟨lv32_1, uv32_1⟩ := pv32_1
    refine jok_le (fun c2 => ?_) (fun c2 => ?_)
    · exact jok_s ⟨w, trivial⟩
    · refine jok_b (t_gR w ta0 rfl rfl) (fun p41_3 tp41_3 => ?_)
      refine jok_b (t_al w tp41_3 rfl (by omega) (by omega)) (fun v46_4 pv46_4 => ?_)
      have f5 : ((2 : Int32)).toInt = 2 := rfl
      have f6 : ((x2 / (2 : Int32))).toInt = (x2).toInt / 2 := jdivL (c := 2) (by omega) rfl (by decide)
      have f7 : (((x2 / (2 : Int32)) * (2 : Int32))).toInt = 2 * ((x2 / (2 : Int32))).toInt := jmulR (c := 2) (by omega) (by omega) (by omega)
      have f8 : ((x2 - ((x2 / (2 : Int32)) * (2 : Int32)))).toInt = (x2).toInt - (((x2 / (2 : Int32)) * (2 : Int32))).toInt := jsub (by omega) (by omega)
      have f9 : ((1 : Int32)).toInt = 1 := rfl
      refine jok_eq (fun c10 d10 => ?_) (fun c10 => ?_)
      · unfold F_X7_greatestPart_62
        try rw [t_cv w ta0 rfl]
        have f12 : ((31 : Int32)).toInt = 31 := rfl
        refine jok_b (S_X7_farWith hn hg w ta0 ta1 (by omega) (by omega) (by omega) (by omega)) (fun q64_11 wq64_11 => ?_)
        obtain ⟨wq64_11, pq64_11⟩ := wq64_11
        obtain ⟨lq64_11, uq64_11⟩ := pq64_11
        refine jok_b (t_gR wq64_11 ta0 rfl rfl) (fun p70_13 tp70_13 => ?_)
        refine jok_b (t_al wq64_11 tp70_13 rfl (by omega) (by omega)) (fun v76_14 pv76_14 => ?_)
        refine jok_b (t_as wq64_11 tp70_13 rfl (by omega) (by omega) trivial (fun q => by cases q)) (fun h79_15 wh79_15 => ?_)
        obtain ⟨wh79_15, rh79_15⟩ := wh79_15
        refine jok_b (t_gR wh79_15 ta0 rfl rfl) (fun p82_16 tp82_16 => ?_)
        refine jok_b (t_al wh79_15 tp82_16 rfl (by omega) (by omega)) (fun v87_17 pv87_17 => ?_)
        have f18 : ((x4 + (1 : Int32))).toInt = (x4).toInt + ((1 : Int32)).toInt := jadd (by omega) (by omega)
        exact ih wh79_15 ta0 ta1 (by omega) (by omega) (by omega) (by omega) (by omega)
      · unfold F_X7_greatestPart_62
        try rw [t_cv w ta0 rfl]
        have f20 : ((31 : Int32)).toInt = 31 := rfl
        refine jok_b (S_X7_farWith hn hg w ta0 ta1 (by omega) (by omega) (by omega) (by omega)) (fun q64_19 wq64_19 => ?_)
        obtain ⟨wq64_19, pq64_19⟩ := wq64_19
        obtain ⟨lq64_19, uq64_19⟩ := pq64_19
        refine jok_b (t_gR wq64_19 ta0 rfl rfl) (fun p70_21 tp70_21 => ?_)
        refine jok_b (t_al wq64_19 tp70_21 rfl (by omega) (by omega)) (fun v76_22 pv76_22 => ?_)
        refine jok_b (t_as wq64_19 tp70_21 rfl (by omega) (by omega) trivial (fun q => by cases q)) (fun h79_23 wh79_23 => ?_)
        obtain ⟨wh79_23, rh79_23⟩ := wh79_23
        refine jok_b (t_gR wh79_23 ta0 rfl rfl) (fun p82_24 tp82_24 => ?_)
        refine jok_b (t_al wh79_23 tp82_24 rfl (by omega) (by omega)) (fun v87_25 pv87_25 => ?_)
        have f26 : ((x4 + (1 : Int32))).toInt = (x4).toInt + ((1 : Int32)).toInt := jadd (by omega) (by omega)
        exact ih wh79_23 ta0 ta1 (by omega) (by omega) (by omega) (by omega) (by omega)
set_option maxHeartbeats 1000000 in
theorem S_X7_greatestPart_2 {g : jGh} {Γ : Nat → Option Nat} {n : Nat} (hn : 6000 ≤ n) (hg : jgok g)  (k : Nat) : ∀ {a0 : Nat} {a1 : Nat} {x2 : Int32} {x3 : Int32} {h : jH}, jW (jKd g) Γ h → (Γ a0 = some 18) → (Γ a1 = some 3) → (0 ≤ x2.toInt) → (x2.toInt ≤ 15) → (0 ≤ x3.toInt) → (x3.toInt ≤ 32) → (32 : Int) - x3.toInt < (k : Int) → jok (F_X7_greatestPart_2 n k a0 a1 x2 x3 h) (fun q => jW (jKd g) Γ q.2 ∧ (fun v : Int32 => True) q.1) := by
  induction k with
  | zero =>
    intro a0 a1 x2 x3 h w ta0 ta1 lx2 ux2 lx3 ux3 mk
    omega
  | succ k ih =>
    intro a0 a1 x2 x3 h w ta0 ta1 lx2 ux2 lx3 ux3 mk
    show jok (F_X7_greatestPart_2_b n (F_X7_greatestPart_2 n k) a0 a1 x2 x3 h) _
    unfold F_X7_greatestPart_2_b
    refine jok_b (t_gR w ta0 rfl rfl) (fun p4_1 tp4_1 => ?_)
    refine jok_b (t_len w tp4_1 rfl (by decide)) (fun v7_2 pv7_2 => ?_)
    have pv7_2 : (v7_2).toInt = 32 := by rw [pv7_2]; rfl
    refine jok_le (fun c3 => ?_) (fun c3 => ?_)
    · have f4 : ((0 : Int32)).toInt = 0 := rfl
      exact S_X7_greatestPart_29 hn hg  n w ta0 ta1 (by omega) (by omega) (by omega) (by omega) (by omega)
    · refine jok_b (t_gR w ta0 rfl rfl) (fun p12_5 tp12_5 => ?_)
      have f7 : ((0 : Int32)).toInt = 0 := rfl
      refine jok_b (t_as w tp12_5 rfl (by omega) (by omega) trivial (fun q => by cases q)) (fun h17_6 wh17_6 => ?_)
      obtain ⟨wh17_6, rh17_6⟩ := wh17_6
      have f8 : ((1 : Int32)).toInt = 1 := rfl
      have f9 : ((x3 + (1 : Int32))).toInt = (x3).toInt + ((1 : Int32)).toInt := jadd (by omega) (by omega)
      exact ih wh17_6 ta0 ta1 (by omega) (by omega) (by omega) (by omega) (by omega)
set_option maxHeartbeats 1000000 in
theorem S_X7_greatestPart {g : jGh} {Γ : Nat → Option Nat} {n : Nat} {a0 : Nat} {a1 : Nat} {x2 : Int32} {h : jH} (hn : 6000 ≤ n) (hg : jgok g) (w : jW (jKd g) Γ h) (ta0 : Γ a0 = some 18) (ta1 : Γ a1 = some 3) (lx2 : 0 ≤ x2.toInt) (ux2 : x2.toInt ≤ 15) : jok (F_X7_greatestPart n a0 a1 x2 h) (fun q => jW (jKd g) Γ q.2 ∧ (fun v : Int32 => True) q.1) := by
  unfold F_X7_greatestPart
  have f1 : ((0 : Int32)).toInt = 0 := rfl
  exact S_X7_greatestPart_2 hn hg  n w ta0 ta1 (by omega) (by omega) (by omega) (by omega) (by omega)
set_option maxHeartbeats 1000000 in
theorem S_X7_partingPull_19 {g : jGh} {Γ : Nat → Option Nat} {n : Nat} (hn : 6000 ≤ n) (hg : jgok g)  (k : Nat) : ∀ {a0 : Nat} {a1 : Nat} {x2 : Int32} {x3 : Int32} {x4 : Int32} {h : jH}, jW (jKd g) Γ h → (Γ a0 = some 18) → (Γ a1 = some 3) → (0 ≤ x4.toInt) → (x4.toInt ≤ 16) → (16 : Int) - x4.toInt < (k : Int) → jok (F_X7_partingPull_19 n k a0 a1 x2 x3 x4 h) (fun q => jW (jKd g) Γ q.2 ∧ (fun v : Int32 => True) q.1) := by
  induction k with
  | zero =>
    intro a0 a1 x2 x3 x4 h w ta0 ta1 lx4 ux4 mk
    omega
  | succ k ih =>
    intro a0 a1 x2 x3 x4 h w ta0 ta1 lx4 ux4 mk
    show jok (F_X7_partingPull_19_b n (F_X7_partingPull_19 n k) a0 a1 x2 x3 x4 h) _
    unfold F_X7_partingPull_19_b
    refine jok_b2 (t_gI w ta1 rfl rfl) (fun v23_1 ev23_1 pv23_1 => ?_)
    obtain ⟨lv23_1, uv23_1⟩ := pv23_1
    have f2 : ((2 : Int32)).toInt = 2 := rfl
    have f3 : (((2 : Int32) * v23_1)).toInt = 2 * (v23_1).toInt := jmulL (c := 2) (by omega) (by omega) (by omega)
    refine jok_le (fun c4 => ?_) (fun c4 => ?_)
    · exact jok_s ⟨w, trivial⟩
    · try rw [t_cv w ta0 rfl]
      refine jok_b (S_X7_greatestPart hn hg w ta0 ta1 (by omega) (by omega)) (fun q34_5 wq34_5 => ?_)
      obtain ⟨wq34_5, pq34_5⟩ := wq34_5
      refine jok_le (fun c6 => ?_) (fun c6 => ?_)
      · have f7 : ((1 : Int32)).toInt = 1 := rfl
        have f8 : ((x4 + (1 : Int32))).toInt = (x4).toInt + ((1 : Int32)).toInt := jadd (by omega) (by omega)
        exact ih wq34_5 ta0 ta1 (by omega) (by omega) (by omega)
      · have f9 : ((1 : Int32)).toInt = 1 := rfl
        have f10 : ((x4 + (1 : Int32))).toInt = (x4).toInt + ((1 : Int32)).toInt := jadd (by omega) (by omega)
        exact ih wq34_5 ta0 ta1 (by omega) (by omega) (by omega)
set_option maxHeartbeats 1000000 in
theorem S_X7_partingPull {g : jGh} {Γ : Nat → Option Nat} {n : Nat} {a0 : Nat} {a1 : Nat} {h : jH} (hn : 6000 ≤ n) (hg : jgok g) (w : jW (jKd g) Γ h) (ta0 : Γ a0 = some 18) (ta1 : Γ a1 = some 3) : jok (F_X7_partingPull n a0 a1 h) (fun q => jW (jKd g) Γ q.2 ∧ (fun v : Int32 => True) q.1) := by
  unfold F_X7_partingPull
  refine jok_b2 (t_gI w ta0 rfl rfl) (fun v1_1 ev1_1 pv1_1 => ?_)
  obtain ⟨lv1_1, uv1_1⟩ := pv1_1
  have f2 : ((2 : Int32)).toInt = 2 := rfl
  refine jok_le (fun c3 => ?_) (fun c3 => ?_)
  · have f4 : ((0 : Int32)).toInt = 0 := rfl
    exact S_X7_partingPull_19 hn hg  n w ta0 ta1 (by omega) (by omega) (by omega)
  · exact jok_s ⟨w, trivial⟩
def jat (g : jGh) (i : Int32) : Int32 := if i.toInt < 0 then -1 else if g.1 ≤ i.toInt then -1 else g.2.1 i.toInt.toNat &&& 255
theorem S_X10_at {g : jGh} {Γ : Nat → Option Nat} {n : Nat} {a0 : Nat} {x1 : Int32} {h : jH} (hn : 6000 ≤ n) (hg : jgok g) (w : jW (jKd g) Γ h) (ta0 : Γ a0 = some 10) : jok (F_X10_at n a0 x1 h) (fun v => v = jat g x1 ∧ -1 ≤ v.toInt ∧ v.toInt ≤ 255 ∧ (0 ≤ x1.toInt → x1.toInt < g.1 → 0 ≤ v.toInt)) := by
  unfold F_X10_at
  have f0 : (0 : Int32).toInt = 0 := rfl
  have f1 : (-1 : Int32).toInt = -1 := rfl
  refine jok_lt (fun c => ?_) (fun c => ?_)
  · refine jok_s ⟨?_, by rw [f1]; omega, by rw [f1]; omega, fun q => by omega⟩
    unfold jat
    rw [if_pos (by omega)]
  · refine jok_b2 (t_gI w ta0 rfl rfl) (fun v6 e6 p6 => ?_)
    have p6 : v6.toInt = g.1 := p6
    refine jok_le (fun c2 => ?_) (fun c2 => ?_)
    · refine jok_s ⟨?_, by rw [f1]; omega, by rw [f1]; omega, fun q q2 => by omega⟩
      unfold jat
      rw [if_neg (by omega), if_pos (by omega)]
    · have f4 : (400 : Int32).toInt = 400 := rfl
      refine jok_lt (fun c3 => ?_) (fun c3 => ?_)
      · refine jok_b (t_gR w ta0 rfl rfl) (fun p tp => ?_)
        refine jok_b (t_al w tp rfl (by omega) (by omega)) (fun v28 p28 => ?_)
        have h9 := jandR (x := v28) (y := (255 : Int32)) (c := 255) rfl (by decide)
        refine jok_s ⟨?_, by omega, by omega, fun _ _ => by omega⟩
        unfold jat
        rw [if_neg (by omega), if_neg (by omega)]
        have p28 : v28 = g.2.1 x1.toInt.toNat := p28
        rw [p28]
      · have := hg.1.2
        omega
/-- the rows on the tape name rings and steps that can be -/
def jrows (g : jGh) : Prop := ∀ x : Int32, 0 ≤ x.toInt → x.toInt < g.1 → x.toInt % 4 = 0 → 0 ≤ (jat g x).toInt ∧ (jat g x).toInt ≤ 7 ∧ 1 ≤ (jat g (x + (2 : Int32))).toInt ∧ (jat g (x + (2 : Int32))).toInt ≤ 31
set_option maxHeartbeats 1000000 in
theorem S_X10_hasRoom {g : jGh} {Γ : Nat → Option Nat} {n : Nat} {a0 : Nat} {h : jH} (hn : 6000 ≤ n) (hg : jgok g) (w : jW (jKd g) Γ h) (ta0 : Γ a0 = some 10) : jok (F_X10_hasRoom n a0 h) (fun v => (v.toInt = 1 ∧ g.1 ≤ 380) ∨ (v.toInt = 0 ∧ 380 < g.1)) := by
  unfold F_X10_hasRoom
  refine jok_b2 (t_gI w ta0 rfl rfl) (fun v1_1 ev1_1 pv1_1 => ?_)
  have pv1_1 : (v1_1).toInt = g.1 := pv1_1
  have qv1_1 := hg.1
  have f2 : ((400 : Int32)).toInt = 400 := rfl
  have f3 : ((20 : Int32)).toInt = 20 := rfl
  have f4 : ((v1_1 + (20 : Int32))).toInt = (v1_1).toInt + ((20 : Int32)).toInt := jadd (by omega) (by omega)
  refine jok_lt (fun c5 => ?_) (fun c5 => ?_)
  · have f6 : ((0 : Int32)).toInt = 0 := rfl
    exact jok_s (show ((0 : Int32).toInt = 1 ∧ g.1 ≤ 380) ∨ ((0 : Int32).toInt = 0 ∧ 380 < g.1) from by omega)
  · have f7 : ((1 : Int32)).toInt = 1 := rfl
    exact jok_s (show ((1 : Int32).toInt = 1 ∧ g.1 ≤ 380) ∨ ((1 : Int32).toInt = 0 ∧ 380 < g.1) from by omega)
set_option maxHeartbeats 1000000 in
theorem S_X10_endOfRow_3 {g : jGh} {Γ : Nat → Option Nat} {n : Nat} (hn : 6000 ≤ n) (hg : jgok g)  (k : Nat) : ∀ {a0 : Nat} {x2 : Int32} {x3 : Int32} {x4 : Int32} {h : jH}, jW (jKd g) Γ h → (Γ a0 = some 10) → (0 ≤ x4.toInt) → (x4.toInt ≤ 400) → (400 : Int) - x4.toInt < (k : Int) → jok (F_X10_endOfRow_3 n k a0 x2 x3 x4 h) (fun v => x4.toInt ≤ v.toInt ∧ v.toInt ≤ 400) := by
  induction k with
  | zero =>
    intro a0 x2 x3 x4 h w ta0 lx4 ux4 mk
    omega
  | succ k ih =>
    intro a0 x2 x3 x4 h w ta0 lx4 ux4 mk
    show jok (F_X10_endOfRow_3_b n (F_X10_endOfRow_3 n k) a0 x2 x3 x4 h) _
    unfold F_X10_endOfRow_3_b
    refine jok_b2 (t_gI w ta0 rfl rfl) (fun v6_1 ev6_1 pv6_1 => ?_)
    have pv6_1 : (v6_1).toInt = g.1 := pv6_1
    have qv6_1 := hg.1
    refine jok_le (fun c2 => ?_) (fun c2 => ?_)
    · exact jok_s (show x4.toInt ≤ x4.toInt ∧ x4.toInt ≤ 400 from by omega)
    · try rw [t_cv w ta0 rfl]
      refine jok_b (S_X10_at hn hg w ta0) (fun v15_3 pv15_3 => ?_)
      have pv15_3_9 := pv15_3
      try dsimp only at pv15_3_9
      refine jok_lt (fun c4 => ?_) (fun c4 => ?_)
      · exact jok_s (show x4.toInt ≤ x4.toInt ∧ x4.toInt ≤ 400 from by omega)
      · try rw [t_cv w ta0 rfl]
        refine jok_b (S_X10_at hn hg w ta0) (fun v25_5 pv25_5 => ?_)
        have pv25_5_9 := pv25_5
        try dsimp only at pv25_5_9
        refine jok_lt (fun c6 => ?_) (fun c6 => ?_)
        · exact jok_s (show x4.toInt ≤ x4.toInt ∧ x4.toInt ≤ 400 from by omega)
        · have f7 : ((1 : Int32)).toInt = 1 := rfl
          have f8 : ((x4 + (1 : Int32))).toInt = (x4).toInt + ((1 : Int32)).toInt := jadd (by omega) (by omega)
          exact jok_w (ih w ta0 (by omega) (by omega) (by omega)) (fun v q => (by first | omega | (dsimp only at q ⊢; omega)))
set_option maxHeartbeats 1000000 in
theorem S_X10_endOfRow {g : jGh} {Γ : Nat → Option Nat} {n : Nat} {a0 : Nat} {x1 : Int32} {x2 : Int32} {x3 : Int32} {h : jH} (hn : 6000 ≤ n) (hg : jgok g) (w : jW (jKd g) Γ h) (ta0 : Γ a0 = some 10) (lx1 : 0 ≤ x1.toInt) (ux1 : x1.toInt ≤ 400) : jok (F_X10_endOfRow n a0 x1 x2 x3 h) (fun v => x1.toInt ≤ v.toInt ∧ v.toInt ≤ 400) := by
  unfold F_X10_endOfRow
  exact jok_w (S_X10_endOfRow_3 hn hg  n w ta0 (by omega) (by omega) (by omega)) (fun v q => (by first | omega | (dsimp only at q ⊢; omega)))
set_option maxHeartbeats 1000000 in
theorem S_X10_standsAt_3 {g : jGh} {Γ : Nat → Option Nat} {n : Nat} (hn : 6000 ≤ n) (hg : jgok g)  (k : Nat) : ∀ {a0 : Nat} {x1 : Int32} {x2 : Int32} {x3 : Int32} {x4 : Int32} {h : jH}, jW (jKd g) Γ h → (Γ a0 = some 10) → (0 ≤ x2.toInt) → (x2.toInt ≤ 114) → (0 ≤ x3.toInt) → (x3.toInt ≤ 113) → (0 ≤ x4.toInt) → (x4.toInt ≤ 114) → (114 : Int) - x4.toInt < (k : Int) → jok (F_X10_standsAt_3 n k a0 x1 x2 x3 x4 h) (fun v => 0 ≤ v.toInt ∧ v.toInt ≤ 1) := by
  induction k with
  | zero =>
    intro a0 x1 x2 x3 x4 h w ta0 lx2 ux2 lx3 ux3 lx4 ux4 mk
    omega
  | succ k ih =>
    intro a0 x1 x2 x3 x4 h w ta0 lx2 ux2 lx3 ux3 lx4 ux4 mk
    show jok (F_X10_standsAt_3_b n (F_X10_standsAt_3 n k) a0 x1 x2 x3 x4 h) _
    unfold F_X10_standsAt_3_b
    refine jok_le (fun c1 => ?_) (fun c1 => ?_)
    · have f2 : ((1 : Int32)).toInt = 1 := rfl
      exact jok_s (show jI 0 1 (1 : Int32) from ⟨by omega, by omega⟩)
    · try rw [t_cv w ta0 rfl]
      refine jok_b (S_X10_at hn hg w ta0) (fun v16_3 pv16_3 => ?_)
      have pv16_3_9 := pv16_3
      try dsimp only at pv16_3_9
      refine jok_b (t_tc (t := 0) (n := 113) (by decide +kernel) (by omega) (by omega)) (fun v23_4 pv23_4 => ?_)
      refine jok_eq (fun c5 d5 => ?_) (fun c5 => ?_)
      · have f6 : ((1 : Int32)).toInt = 1 := rfl
        have f7 : ((x4 + (1 : Int32))).toInt = (x4).toInt + ((1 : Int32)).toInt := jadd (by omega) (by omega)
        exact ih w ta0 (by omega) (by omega) (by omega) (by omega) (by omega) (by omega) (by omega)
      · have f8 : ((0 : Int32)).toInt = 0 := rfl
        exact jok_s (show jI 0 1 (0 : Int32) from ⟨by omega, by omega⟩)
set_option maxHeartbeats 1000000 in
theorem S_X10_standsAt {g : jGh} {Γ : Nat → Option Nat} {n : Nat} {a0 : Nat} {x1 : Int32} {x2 : Int32} {x3 : Int32} {h : jH} (hn : 6000 ≤ n) (hg : jgok g) (w : jW (jKd g) Γ h) (ta0 : Γ a0 = some 10) (lx2 : 0 ≤ x2.toInt) (ux2 : x2.toInt ≤ 114) (lx3 : 0 ≤ x3.toInt) (ux3 : x3.toInt ≤ 113) : jok (F_X10_standsAt n a0 x1 x2 x3 h) (fun v => 0 ≤ v.toInt ∧ v.toInt ≤ 1) := by
  unfold F_X10_standsAt
  exact S_X10_standsAt_3 hn hg  n w ta0 (by omega) (by omega) (by omega) (by omega) (by omega) (by omega) (by omega)
set_option maxHeartbeats 1000000 in
theorem S_X10_wordBetween_8 {g : jGh} {Γ : Nat → Option Nat} {n : Nat} (hn : 6000 ≤ n) (hg : jgok g)  (k : Nat) : ∀ {a0 : Nat} {x1 : Int32} {x2 : Int32} {x3 : Int32} {x4 : Int32} {x5 : Int32} {h : jH}, jW (jKd g) Γ h → (Γ a0 = some 10) → (0 ≤ x4.toInt) → (x4.toInt ≤ 113) → (0 ≤ x5.toInt) → (x5.toInt ≤ 113) → (113 : Int) - x5.toInt < (k : Int) → jok (F_X10_wordBetween_8 n k a0 x1 x2 x3 x4 x5 h) (fun v => True) := by
  induction k with
  | zero =>
    intro a0 x1 x2 x3 x4 x5 h w ta0 lx4 ux4 lx5 ux5 mk
    omega
  | succ k ih =>
    intro a0 x1 x2 x3 x4 x5 h w ta0 lx4 ux4 lx5 ux5 mk
    show jok (F_X10_wordBetween_8_b n (F_X10_wordBetween_8 n k) a0 x1 x2 x3 x4 x5 h) _
    unfold F_X10_wordBetween_8_b
    refine jok_b (t_tl (t := 0) (n := 113) (by decide) (by decide +kernel)) (fun v12_1 pv12_1 => ?_)
    refine jok_le (fun c2 => ?_) (fun c2 => ?_)
    · exact jok_s trivial
    · refine jok_b (t_tc (t := 0) (n := 113) (by decide +kernel) (by omega) (by omega)) (fun v22_3 pv22_3 => ?_)
      have f4 : ((32 : Int32)).toInt = 32 := rfl
      refine jok_eq (fun c5 d5 => ?_) (fun c5 => ?_)
      · have f6 : ((x5 - x4)).toInt = (x5).toInt - (x4).toInt := jsub (by omega) (by omega)
        refine jok_eq (fun c7 d7 => ?_) (fun c7 => ?_)
        · try rw [t_cv w ta0 rfl]
          refine jok_b (S_X10_standsAt hn hg w ta0 (by omega) (by omega) (by omega) (by omega)) (fun v47_8 pv47_8 => ?_)
          obtain ⟨lv47_8, uv47_8⟩ := pv47_8
          have f9 : ((0 : Int32)).toInt = 0 := rfl
          refine jok_eq (fun c10 d10 => ?_) (fun c10 => ?_)
          · have f11 : ((1 : Int32)).toInt = 1 := rfl
            have f12 : ((x5 + (1 : Int32))).toInt = (x5).toInt + ((1 : Int32)).toInt := jadd (by omega) (by omega)
            exact ih w ta0 (by omega) (by omega) (by omega) (by omega) (by omega)
          · exact jok_s trivial
        · have f13 : ((1 : Int32)).toInt = 1 := rfl
          have f14 : ((x5 + (1 : Int32))).toInt = (x5).toInt + ((1 : Int32)).toInt := jadd (by omega) (by omega)
          exact ih w ta0 (by omega) (by omega) (by omega) (by omega) (by omega)
      · have f15 : ((1 : Int32)).toInt = 1 := rfl
        have f16 : ((x5 + (1 : Int32))).toInt = (x5).toInt + ((1 : Int32)).toInt := jadd (by omega) (by omega)
        exact ih w ta0 (by omega) (by omega) (by omega) (by omega) (by omega)
set_option maxHeartbeats 1000000 in
theorem S_X10_wordBetween {g : jGh} {Γ : Nat → Option Nat} {n : Nat} {a0 : Nat} {x1 : Int32} {x2 : Int32} {h : jH} (hn : 6000 ≤ n) (hg : jgok g) (w : jW (jKd g) Γ h) (ta0 : Γ a0 = some 10) : jok (F_X10_wordBetween n a0 x1 x2 h) (fun v => True) := by
  unfold F_X10_wordBetween
  have f1 : ((0 : Int32)).toInt = 0 := rfl
  exact S_X10_wordBetween_8 hn hg  n w ta0 (by omega) (by omega) (by omega) (by omega) (by omega)
set_option maxHeartbeats 1000000 in
theorem S_X10_numberBetween_16 {g : jGh} {Γ : Nat → Option Nat} {n : Nat} (hn : 6000 ≤ n) (hg : jgok g)  (k : Nat) : ∀ {a0 : Nat} {x2 : Int32} {x3 : Int32} {x4 : Int32} {h : jH}, jW (jKd g) Γ h → (Γ a0 = some 10) → (0 ≤ x2.toInt) → (x2.toInt ≤ 400) → (0 ≤ x4.toInt) → (x4.toInt ≤ 400) → (400 : Int) - x4.toInt < (k : Int) → jok (F_X10_numberBetween_16 n k a0 x2 x3 x4 h) (fun v => True) := by
  induction k with
  | zero =>
    intro a0 x2 x3 x4 h w ta0 lx2 ux2 lx4 ux4 mk
    omega
  | succ k ih =>
    intro a0 x2 x3 x4 h w ta0 lx2 ux2 lx4 ux4 mk
    show jok (F_X10_numberBetween_16_b n (F_X10_numberBetween_16 n k) a0 x2 x3 x4 h) _
    unfold F_X10_numberBetween_16_b
    refine jok_le (fun c1 => ?_) (fun c1 => ?_)
    · exact jok_s trivial
    · try rw [t_cv w ta0 rfl]
      refine jok_b (S_X10_at hn hg w ta0) (fun v29_2 pv29_2 => ?_)
      have pv29_2_9 := pv29_2
      try dsimp only at pv29_2_9
      have f3 : ((1 : Int32)).toInt = 1 := rfl
      have f4 : ((x4 + (1 : Int32))).toInt = (x4).toInt + ((1 : Int32)).toInt := jadd (by omega) (by omega)
      exact ih w ta0 (by omega) (by omega) (by omega) (by omega) (by omega)
set_option maxHeartbeats 1000000 in
theorem S_X10_numberBetween {g : jGh} {Γ : Nat → Option Nat} {n : Nat} {a0 : Nat} {x1 : Int32} {x2 : Int32} {h : jH} (hn : 6000 ≤ n) (hg : jgok g) (w : jW (jKd g) Γ h) (ta0 : Γ a0 = some 10) (lx1 : 0 ≤ x1.toInt) (ux1 : x1.toInt ≤ 400) (lx2 : 0 ≤ x2.toInt) (ux2 : x2.toInt ≤ 400) : jok (F_X10_numberBetween n a0 x1 x2 h) (fun v => True) := by
  unfold F_X10_numberBetween
  have f1 : ((x2 - x1)).toInt = (x2).toInt - (x1).toInt := jsub (by omega) (by omega)
  have f2 : ((3 : Int32)).toInt = 3 := rfl
  refine jok_le (fun c3 => ?_) (fun c3 => ?_)
  · exact S_X10_numberBetween_16 hn hg  n w ta0 (by omega) (by omega) (by omega) (by omega) (by omega)
  · exact jok_s trivial
set_option maxHeartbeats 1000000 in
theorem S_X10_scanThing {g : jGh} {Γ : Nat → Option Nat} {n : Nat} {a0 : Nat} {x1 : Int32} {h : jH} (hn : 6000 ≤ n) (hg : jgok g) (w : jW (jKd g) Γ h) (ta0 : Γ a0 = some 10) (lx1 : 0 ≤ x1.toInt) (ux1 : x1.toInt ≤ 399) (ht : ∀ v, jgI 8 h a0 4 = some v → v.toInt ≤ 399) : jok (F_X10_scanThing n a0 x1 h) (fun q => jW (jKd g) Γ q.2 ∧ (fun v : Int32 => x1.toInt < v.toInt ∧ v.toInt ≤ 400) q.1 ∧ ∀ v, jgI 8 q.2 a0 4 = some v → jgI 8 h a0 4 = some v) := by
  unfold F_X10_scanThing
  try rw [t_cv w ta0 rfl]
  refine jok_b (S_X10_endOfRow hn hg w ta0 (by omega) (by omega)) (fun v6_1 pv6_1 => ?_)
  have f2 : ((97 : Int32)).toInt = 97 := rfl
  have f3 : ((122 : Int32)).toInt = 122 := rfl
  have pv6_1_9 := pv6_1
  try dsimp only at pv6_1_9
  refine jok_le (fun c4 => ?_) (fun c4 => ?_)
  · try rw [t_cv w ta0 rfl]
    refine jok_b (S_X10_endOfRow hn hg w ta0 (by omega) (by omega)) (fun v38_5 pv38_5 => ?_)
    have f6 : ((48 : Int32)).toInt = 48 := rfl
    have f7 : ((57 : Int32)).toInt = 57 := rfl
    have pv38_5_9 := pv38_5
    try dsimp only at pv38_5_9
    refine jok_le (fun c8 => ?_) (fun c8 => ?_)
    · try rw [t_cv w ta0 rfl]
      refine jok_b (S_X10_at hn hg w ta0) (fun v77_9 pv77_9 => ?_)
      have pv77_9_9 := pv77_9
      try dsimp only at pv77_9_9
      refine jok_b (t_gR w ta0 rfl rfl) (fun p82_10 tp82_10 => ?_)
      refine jok_b2 (t_gI w ta0 rfl rfl) (fun v86_11 ev86_11 pv86_11 => ?_)
      obtain ⟨lv86_11, uv86_11⟩ := pv86_11
      have tv86_11 := ht _ ev86_11
      have f12 : ((32 : Int32)).toInt = 32 := rfl
      refine jok_le (fun c13 => ?_) (fun c13 => ?_)
      · refine jok_b (t_as w tp82_10 rfl (by omega) (by omega) trivial (fun q => by cases q)) (fun h101_14 wh101_14 => ?_)
        obtain ⟨wh101_14, rh101_14⟩ := wh101_14
        have f15 : ((1 : Int32)).toInt = 1 := rfl
        have f16 : ((x1 + (1 : Int32))).toInt = (x1).toInt + ((1 : Int32)).toInt := jadd (by omega) (by omega)
        exact jok_s ⟨wh101_14, (show x1.toInt < (x1 + (1 : Int32)).toInt ∧ (x1 + (1 : Int32)).toInt ≤ 400 from by omega), fun v q => (fI (rh101_14 _ _ _).symm q)⟩
      · have f18 : ((-2 : Int32)).toInt = -2 := rfl
        refine jok_b (t_as w tp82_10 rfl (by omega) (by omega) trivial (fun q => by cases q)) (fun h101_17 wh101_17 => ?_)
        obtain ⟨wh101_17, rh101_17⟩ := wh101_17
        have f19 : ((1 : Int32)).toInt = 1 := rfl
        have f20 : ((x1 + (1 : Int32))).toInt = (x1).toInt + ((1 : Int32)).toInt := jadd (by omega) (by omega)
        exact jok_s ⟨wh101_17, (show x1.toInt < (x1 + (1 : Int32)).toInt ∧ (x1 + (1 : Int32)).toInt ≤ 400 from by omega), fun v q => (fI (rh101_17 _ _ _).symm q)⟩
    · refine jok_b (t_gR w ta0 rfl rfl) (fun p48_21 tp48_21 => ?_)
      refine jok_b2 (t_gI w ta0 rfl rfl) (fun v52_22 ev52_22 pv52_22 => ?_)
      obtain ⟨lv52_22, uv52_22⟩ := pv52_22
      have tv52_22 := ht _ ev52_22
      have f24 : ((-3 : Int32)).toInt = -3 := rfl
      refine jok_b (t_as w tp48_21 rfl (by omega) (by omega) trivial (fun q => by cases q)) (fun h57_23 wh57_23 => ?_)
      obtain ⟨wh57_23, rh57_23⟩ := wh57_23
      refine jok_b (t_gR wh57_23 ta0 rfl rfl) (fun p59_25 tp59_25 => ?_)
      refine jok_r (fI (rh57_23 _ _ _) ev52_22) ?_
      try rw [t_cv wh57_23 ta0 rfl]
      refine jok_b (S_X10_numberBetween hn hg wh57_23 ta0 (by omega) (by omega) (by omega) (by omega)) (fun v69_27 pv69_27 => ?_)
      refine jok_b (t_as wh57_23 tp59_25 rfl (by omega) (by omega) trivial (fun q => by cases q)) (fun h72_28 wh72_28 => ?_)
      obtain ⟨wh72_28, rh72_28⟩ := wh72_28
      exact jok_s ⟨wh72_28, (show x1.toInt < v38_5.toInt ∧ v38_5.toInt ≤ 400 from by omega), fun v q => (fI (rh57_23 _ _ _).symm (fI (rh72_28 _ _ _).symm q))⟩
  · refine jok_b (t_gR w ta0 rfl rfl) (fun p16_29 tp16_29 => ?_)
    refine jok_b2 (t_gI w ta0 rfl rfl) (fun v20_30 ev20_30 pv20_30 => ?_)
    obtain ⟨lv20_30, uv20_30⟩ := pv20_30
    have tv20_30 := ht _ ev20_30
    try rw [t_cv w ta0 rfl]
    refine jok_b (S_X10_wordBetween hn hg w ta0) (fun v26_31 pv26_31 => ?_)
    refine jok_b (t_as w tp16_29 rfl (by omega) (by omega) trivial (fun q => by cases q)) (fun h29_32 wh29_32 => ?_)
    obtain ⟨wh29_32, rh29_32⟩ := wh29_32
    exact jok_s ⟨wh29_32, (show x1.toInt < v6_1.toInt ∧ v6_1.toInt ≤ 400 from by omega), fun v q => (fI (rh29_32 _ _ _).symm q)⟩
set_option maxHeartbeats 1000000 in
theorem S_X10_scan_12 {g : jGh} {Γ : Nat → Option Nat} {n : Nat} (hn : 6000 ≤ n) (hg : jgok g)  (k : Nat) : ∀ {a0 : Nat} {x1 : Int32} {h : jH}, jW (jKd g) Γ h → (Γ a0 = some 10) → (0 ≤ x1.toInt) → (x1.toInt ≤ 400) → (400 : Int) - x1.toInt < (k : Int) → jok (F_X10_scan_12 n k a0 x1 h) (fun q => jW (jKd g) Γ q) := by
  induction k with
  | zero =>
    intro a0 x1 h w ta0 lx1 ux1 mk
    omega
  | succ k ih =>
    intro a0 x1 h w ta0 lx1 ux1 mk
    show jok (F_X10_scan_12_b n (F_X10_scan_12 n k) a0 x1 h) _
    unfold F_X10_scan_12_b
    refine jok_b2 (t_gI w ta0 rfl rfl) (fun v14_1 ev14_1 pv14_1 => ?_)
    have pv14_1 : (v14_1).toInt = g.1 := pv14_1
    have qv14_1 := hg.1
    refine jok_le (fun c2 => ?_) (fun c2 => ?_)
    · exact jok_s w
    · refine jok_b2 (t_gI w ta0 rfl rfl) (fun v21_3 ev21_3 pv21_3 => ?_)
      obtain ⟨lv21_3, uv21_3⟩ := pv21_3
      have f4 : ((400 : Int32)).toInt = 400 := rfl
      refine jok_le (fun c5 => ?_) (fun c5 => ?_)
      · exact jok_s w
      · try rw [t_cv w ta0 rfl]
        refine jok_b (S_X10_at hn hg w ta0) (fun v36_6 pv36_6 => ?_)
        have pv36_6_9 := pv36_6
        try dsimp only at pv36_6_9
        have f7 : ((32 : Int32)).toInt = 32 := rfl
        refine jok_eq (fun c8 d8 => ?_) (fun c8 => ?_)
        · have f9 : ((1 : Int32)).toInt = 1 := rfl
          have f10 : ((x1 + (1 : Int32))).toInt = (x1).toInt + ((1 : Int32)).toInt := jadd (by omega) (by omega)
          exact ih w ta0 (by omega) (by omega) (by omega)
        · try rw [t_cv w ta0 rfl]
          refine jok_b (S_X10_scanThing hn hg w ta0 (by omega) (by omega) (fun v q => by cases ev21_3.symm.trans q; omega)) (fun q46_11 wq46_11 => ?_)
          obtain ⟨wq46_11, pq46_11⟩ := wq46_11
          obtain ⟨pq46_11_9, fq46⟩ := pq46_11
          try dsimp only at pq46_11_9
          refine jok_b (t_gR wq46_11 ta0 rfl rfl) (fun p51_12 tp51_12 => ?_)
          refine jok_b2 (t_gI wq46_11 ta0 rfl rfl) (fun v55_13 ev55_13 pv55_13 => ?_)
          obtain ⟨lv55_13, uv55_13⟩ := pv55_13
          have e9 : v55_13 = v21_3 := Option.some.inj ((fq46 _ ev55_13).symm.trans ev21_3)
          have e10 : v55_13.toInt ≤ 399 := by rw [e9]; omega
          refine jok_b (t_as wq46_11 tp51_12 rfl (by omega) (by omega) trivial (fun q => by cases q)) (fun h59_14 wh59_14 => ?_)
          obtain ⟨wh59_14, rh59_14⟩ := wh59_14
          refine jok_r (fI (rh59_14 _ _ _) ev55_13) ?_
          have f17 : ((1 : Int32)).toInt = 1 := rfl
          have f18 : ((v55_13 + (1 : Int32))).toInt = (v55_13).toInt + ((1 : Int32)).toInt := jadd (by omega) (by omega)
          refine jok_b (t_pI wh59_14 ta0 rfl rfl (show jI 0 400 (v55_13 + (1 : Int32)) from ⟨by omega, by omega⟩)) (fun h67_16 wh67_16 => ?_)
          obtain ⟨wh67_16, jh67_16, rh67_16⟩ := wh67_16
          exact ih wh67_16 ta0 (by omega) (by omega) (by omega)
set_option maxHeartbeats 1000000 in
theorem S_X10_scan {g : jGh} {Γ : Nat → Option Nat} {n : Nat} {a0 : Nat} {h : jH} (hn : 6000 ≤ n) (hg : jgok g) (w : jW (jKd g) Γ h) (ta0 : Γ a0 = some 10) : jok (F_X10_scan n a0 h) (fun q => jW (jKd g) Γ q) := by
  unfold F_X10_scan
  have f2 : ((0 : Int32)).toInt = 0 := rfl
  refine jok_b (t_pI w ta0 rfl rfl (show jI 0 400 (0 : Int32) from ⟨by omega, by omega⟩)) (fun h2_1 wh2_1 => ?_)
  obtain ⟨wh2_1, jh2_1, rh2_1⟩ := wh2_1
  refine jok_b (t_pI wh2_1 ta0 rfl rfl (show jI 0 400 (0 : Int32) from ⟨by omega, by omega⟩)) (fun h7_3 wh7_3 => ?_)
  obtain ⟨wh7_3, jh7_3, rh7_3⟩ := wh7_3
  exact S_X10_scan_12 hn hg  n wh7_3 ta0 (by omega) (by omega) (by omega)
set_option maxHeartbeats 1000000 in
theorem S_X10_start {g : jGh} {Γ : Nat → Option Nat} {n : Nat} {a0 : Nat} {h : jH} (hn : 6000 ≤ n) (hg : jgok g) (w : jW (jKd g) Γ h) (ta0 : Γ a0 = some 10) : jok (F_X10_start n a0 h) (fun v => True) := by
  unfold F_X10_start
  refine jok_b2 (t_gI w ta0 rfl rfl) (fun v1_1 ev1_1 pv1_1 => ?_)
  obtain ⟨lv1_1, uv1_1⟩ := pv1_1
  refine jok_b2 (t_gI w ta0 rfl rfl) (fun v5_2 ev5_2 pv5_2 => ?_)
  obtain ⟨lv5_2, uv5_2⟩ := pv5_2
  refine jok_le (fun c3 => ?_) (fun c3 => ?_)
  · refine jok_b2 (t_gI w ta0 rfl rfl) (fun v24_4 ev24_4 pv24_4 => ?_)
    have pv24_4 : (v24_4).toInt = g.1 := pv24_4
    have qv24_4 := hg.1
    exact jok_s trivial
  · refine jok_b (t_gR w ta0 rfl rfl) (fun p12_5 tp12_5 => ?_)
    refine jok_r ev1_1 ?_
    refine jok_b (t_al w tp12_5 rfl (by omega) (by omega)) (fun v19_7 pv19_7 => ?_)
    exact jok_s trivial
set_option maxHeartbeats 1000000 in
theorem S_X9_beginsLine {g : jGh} {Γ : Nat → Option Nat} {n : Nat} {x0 : Int32} {h : jH} (hn : 6000 ≤ n) (hg : jgok g) (w : jW (jKd g) Γ h)  : jok (F_X9_beginsLine n x0 h) (fun v => 0 ≤ v.toInt ∧ v.toInt ≤ 1) := by
  unfold F_X9_beginsLine
  have f1 : ((0 : Int32)).toInt = 0 := rfl
  refine jok_eq (fun c2 d2 => ?_) (fun c2 => ?_)
  · have f3 : ((1 : Int32)).toInt = 1 := rfl
    exact jok_s (show jI 0 1 (1 : Int32) from ⟨by omega, by omega⟩)
  · have f4 : ((19 : Int32)).toInt = 19 := rfl
    refine jok_eq (fun c5 d5 => ?_) (fun c5 => ?_)
    · have f6 : ((1 : Int32)).toInt = 1 := rfl
      exact jok_s (show jI 0 1 (1 : Int32) from ⟨by omega, by omega⟩)
    · have f7 : ((20 : Int32)).toInt = 20 := rfl
      refine jok_eq (fun c8 d8 => ?_) (fun c8 => ?_)
      · have f9 : ((1 : Int32)).toInt = 1 := rfl
        exact jok_s (show jI 0 1 (1 : Int32) from ⟨by omega, by omega⟩)
      · have f10 : ((21 : Int32)).toInt = 21 := rfl
        refine jok_eq (fun c11 d11 => ?_) (fun c11 => ?_)
        · have f12 : ((1 : Int32)).toInt = 1 := rfl
          exact jok_s (show jI 0 1 (1 : Int32) from ⟨by omega, by omega⟩)
        · have f13 : ((22 : Int32)).toInt = 22 := rfl
          refine jok_eq (fun c14 d14 => ?_) (fun c14 => ?_)
          · have f15 : ((1 : Int32)).toInt = 1 := rfl
            exact jok_s (show jI 0 1 (1 : Int32) from ⟨by omega, by omega⟩)
          · have f16 : ((5 : Int32)).toInt = 5 := rfl
            refine jok_eq (fun c17 d17 => ?_) (fun c17 => ?_)
            · have f18 : ((1 : Int32)).toInt = 1 := rfl
              exact jok_s (show jI 0 1 (1 : Int32) from ⟨by omega, by omega⟩)
            · have f19 : ((6 : Int32)).toInt = 6 := rfl
              refine jok_eq (fun c20 d20 => ?_) (fun c20 => ?_)
              · have f21 : ((1 : Int32)).toInt = 1 := rfl
                exact jok_s (show jI 0 1 (1 : Int32) from ⟨by omega, by omega⟩)
              · exact jok_s (show jI 0 1 (0 : Int32) from ⟨by omega, by omega⟩)
set_option maxHeartbeats 1000000 in
theorem S_X9_readMore {g : jGh} {Γ : Nat → Option Nat} {n : Nat} {a0 : Nat} {x1 : Int32} {a2 : Nat} {x3 : Int32} {x4 : Int32} {h : jH} (hn : 6000 ≤ n) (hg : jgok g) (w : jW (jKd g) Γ h) (ta0 : Γ a0 = some 13) (ta2 : Γ a2 = some 0) (lx3 : 0 ≤ x3.toInt) (ux3 : x3.toInt ≤ 8) : jok (F_X9_readMore n a0 x1 a2 x3 x4 h) (fun q => jW (jKd g) Γ q.2 ∧ (fun v : Int32 => 0 ≤ v.toInt ∧ v.toInt ≤ 1) q.1) := by
  unfold F_X9_readMore
  refine jok_b (t_len w ta2 rfl (by decide)) (fun v2_1 pv2_1 => ?_)
  have pv2_1 : (v2_1).toInt = 8 := by rw [pv2_1]; rfl
  refine jok_le (fun c2 => ?_) (fun c2 => ?_)
  · have f3 : ((1 : Int32)).toInt = 1 := rfl
    exact jok_s ⟨w, (show jI 0 1 (1 : Int32) from ⟨by omega, by omega⟩)⟩
  · refine jok_b (t_gR w ta0 rfl rfl) (fun p7_4 tp7_4 => ?_)
    try rw [t_cv w tp7_4 rfl]
    refine jok_b (S_X10_take hn hg w tp7_4) (fun q11_5 wq11_5 => ?_)
    obtain ⟨wq11_5, pq11_5⟩ := wq11_5
    obtain ⟨lq11_5, uq11_5⟩ := pq11_5
    have f6 : ((0 : Int32)).toInt = 0 := rfl
    refine jok_eq (fun c7 d7 => ?_) (fun c7 => ?_)
    · have f8 : ((1 : Int32)).toInt = 1 := rfl
      exact jok_s ⟨wq11_5, (show jI 0 1 (1 : Int32) from ⟨by omega, by omega⟩)⟩
    · refine jok_b (t_gR wq11_5 ta0 rfl rfl) (fun p20_9 tp20_9 => ?_)
      try rw [t_cv wq11_5 tp20_9 rfl]
      refine jok_b (S_X10_takeNumber hn hg wq11_5 tp20_9) (fun q26_10 wq26_10 => ?_)
      obtain ⟨wq26_10, pq26_10⟩ := wq26_10
      refine jok_b (t_as wq26_10 ta2 rfl (by omega) (by omega) trivial (fun q => by cases q)) (fun h35_11 wh35_11 => ?_)
      obtain ⟨wh35_11, rh35_11⟩ := wh35_11
      have f12 : ((-1 : Int32)).toInt = -1 := rfl
      refine jok_eq (fun c13 d13 => ?_) (fun c13 => ?_)
      · exact jok_s ⟨wh35_11, (show jI 0 1 (0 : Int32) from ⟨by omega, by omega⟩)⟩
      · have f14 : ((1 : Int32)).toInt = 1 := rfl
        exact jok_s ⟨wh35_11, (show jI 0 1 (1 : Int32) from ⟨by omega, by omega⟩)⟩
set_option maxHeartbeats 1000000 in
theorem S_X9_readRing {g : jGh} {Γ : Nat → Option Nat} {n : Nat} {a0 : Nat} {h : jH} (hn : 6000 ≤ n) (hg : jgok g) (w : jW (jKd g) Γ h) (ta0 : Γ a0 = some 13) : jok (F_X9_readRing n a0 h) (fun q => jW (jKd g) Γ q.2 ∧ (fun v : Int32 => 0 ≤ v.toInt ∧ v.toInt ≤ 1) q.1) := by
  unfold F_X9_readRing
  refine jok_b (t_gR w ta0 rfl rfl) (fun p1_1 tp1_1 => ?_)
  try rw [t_cv w tp1_1 rfl]
  refine jok_b (S_X10_take hn hg w tp1_1) (fun q6_2 wq6_2 => ?_)
  obtain ⟨wq6_2, pq6_2⟩ := wq6_2
  obtain ⟨lq6_2, uq6_2⟩ := pq6_2
  have f3 : ((0 : Int32)).toInt = 0 := rfl
  refine jok_eq (fun c4 d4 => ?_) (fun c4 => ?_)
  · exact jok_s ⟨wq6_2, (show jI 0 1 (0 : Int32) from ⟨by omega, by omega⟩)⟩
  · refine jok_b (t_gR wq6_2 ta0 rfl rfl) (fun p15_5 tp15_5 => ?_)
    refine jok_b (t_gR wq6_2 ta0 rfl rfl) (fun p19_6 tp19_6 => ?_)
    try rw [t_cv wq6_2 tp19_6 rfl]
    refine jok_b (S_X8_nearestNew hn hg wq6_2 tp19_6) (fun v22_7 pv22_7 => ?_)
    refine jok_b (t_gR wq6_2 ta0 rfl rfl) (fun p26_8 tp26_8 => ?_)
    try rw [t_cv wq6_2 tp26_8 rfl]
    refine jok_b (S_X8_farthestNew hn hg wq6_2 tp26_8) (fun v29_9 pv29_9 => ?_)
    try rw [t_cv wq6_2 tp15_5 rfl]
    refine jok_b (S_X10_takeNumber hn hg wq6_2 tp15_5) (fun q32_10 wq32_10 => ?_)
    obtain ⟨wq32_10, pq32_10⟩ := wq32_10
    have f11 : ((-1 : Int32)).toInt = -1 := rfl
    refine jok_eq (fun c12 d12 => ?_) (fun c12 => ?_)
    · exact jok_s ⟨wq32_10, (show jI 0 1 (0 : Int32) from ⟨by omega, by omega⟩)⟩
    · refine jok_b (t_gR wq32_10 ta0 rfl rfl) (fun p42_13 tp42_13 => ?_)
      try rw [t_cv wq32_10 tp42_13 rfl]
      refine jok_b (S_X10_take hn hg wq32_10 tp42_13) (fun q47_14 wq47_14 => ?_)
      obtain ⟨wq47_14, pq47_14⟩ := wq47_14
      obtain ⟨lq47_14, uq47_14⟩ := pq47_14
      refine jok_eq (fun c15 d15 => ?_) (fun c15 => ?_)
      · exact jok_s ⟨wq47_14, (show jI 0 1 (0 : Int32) from ⟨by omega, by omega⟩)⟩
      · refine jok_b (t_gR wq47_14 ta0 rfl rfl) (fun p56_16 tp56_16 => ?_)
        try rw [t_cv wq47_14 tp56_16 rfl]
        refine jok_b (S_X10_takeNumber hn hg wq47_14 tp56_16) (fun q62_17 wq62_17 => ?_)
        obtain ⟨wq62_17, pq62_17⟩ := wq62_17
        refine jok_eq (fun c18 d18 => ?_) (fun c18 => ?_)
        · exact jok_s ⟨wq62_17, (show jI 0 1 (0 : Int32) from ⟨by omega, by omega⟩)⟩
        · refine jok_b (t_gR wq62_17 ta0 rfl rfl) (fun p74_19 tp74_19 => ?_)
          refine jok_b2 (t_gI wq62_17 tp74_19 rfl rfl) (fun v77_20 ev77_20 pv77_20 => ?_)
          obtain ⟨lv77_20, uv77_20⟩ := pv77_20
          refine jok_b (t_gR wq62_17 ta0 rfl rfl) (fun p82_21 tp82_21 => ?_)
          try rw [t_cv wq62_17 tp82_21 rfl]
          refine jok_b (S_X8_add hn hg wq62_17 tp82_21) (fun h87_22 wh87_22 => ?_)
          refine jok_b (t_gR wh87_22 ta0 rfl rfl) (fun p91_23 tp91_23 => ?_)
          refine jok_b (t_gR wh87_22 ta0 rfl rfl) (fun p95_24 tp95_24 => ?_)
          refine jok_b2 (t_gI wh87_22 tp95_24 rfl rfl) (fun v98_25 ev98_25 pv98_25 => ?_)
          refine jok_b (t_gR wh87_22 ta0 rfl rfl) (fun p103_26 tp103_26 => ?_)
          try rw [t_cv wh87_22 tp103_26 rfl]
          refine jok_b (S_X10_take hn hg wh87_22 tp103_26) (fun q108_27 wq108_27 => ?_)
          obtain ⟨wq108_27, pq108_27⟩ := wq108_27
          obtain ⟨lq108_27, uq108_27⟩ := pq108_27
          refine jok_b (S_X11_withBit hn hg wq108_27) (fun v111_28 pv111_28 => ?_)
          refine jok_b (t_pI wq108_27 tp91_23 rfl rfl trivial) (fun h114_29 wh114_29 => ?_)
          obtain ⟨wh114_29, jh114_29, rh114_29⟩ := wh114_29
          refine jok_b (t_gR wh114_29 ta0 rfl rfl) (fun p118_30 tp118_30 => ?_)
          refine jok_b (t_gR wh114_29 ta0 rfl rfl) (fun p122_31 tp122_31 => ?_)
          refine jok_b2 (t_gI wh114_29 tp122_31 rfl rfl) (fun v125_32 ev125_32 pv125_32 => ?_)
          refine jok_b (t_gR wh114_29 ta0 rfl rfl) (fun p130_33 tp130_33 => ?_)
          try rw [t_cv wh114_29 tp130_33 rfl]
          refine jok_b (S_X10_take hn hg wh114_29 tp130_33) (fun q135_34 wq135_34 => ?_)
          obtain ⟨wq135_34, pq135_34⟩ := wq135_34
          obtain ⟨lq135_34, uq135_34⟩ := pq135_34
          refine jok_b (S_X11_withBit hn hg wq135_34) (fun v138_35 pv138_35 => ?_)
          refine jok_b (t_pI wq135_34 tp118_30 rfl rfl trivial) (fun h141_36 wh141_36 => ?_)
          obtain ⟨wh141_36, jh141_36, rh141_36⟩ := wh141_36
          refine jok_b (t_gR wh141_36 ta0 rfl rfl) (fun p147_37 tp147_37 => ?_)
          refine jok_b (t_gR wh141_36 tp147_37 rfl rfl) (fun p150_38 tp150_38 => ?_)
          try rw [t_cv wh141_36 ta0 rfl]
          refine jok_b (S_X9_readMore hn hg wh141_36 ta0 tp150_38 (by omega) (by omega)) (fun q156_39 wq156_39 => ?_)
          obtain ⟨wq156_39, pq156_39⟩ := wq156_39
          obtain ⟨lq156_39, uq156_39⟩ := pq156_39
          refine jok_eq (fun c40 d40 => ?_) (fun c40 => ?_)
          · exact jok_s ⟨wq156_39, (show jI 0 1 (0 : Int32) from ⟨by omega, by omega⟩)⟩
          · refine jok_b (t_gR wq156_39 ta0 rfl rfl) (fun p165_41 tp165_41 => ?_)
            refine jok_b (t_gR wq156_39 tp165_41 rfl rfl) (fun p168_42 tp168_42 => ?_)
            try rw [t_cv wq156_39 ta0 rfl]
            refine jok_b (S_X9_readMore hn hg wq156_39 ta0 tp168_42 (by omega) (by omega)) (fun q174_43 wq174_43 => ?_)
            obtain ⟨wq174_43, pq174_43⟩ := wq174_43
            obtain ⟨lq174_43, uq174_43⟩ := pq174_43
            refine jok_eq (fun c44 d44 => ?_) (fun c44 => ?_)
            · exact jok_s ⟨wq174_43, (show jI 0 1 (0 : Int32) from ⟨by omega, by omega⟩)⟩
            · have f45 : ((1 : Int32)).toInt = 1 := rfl
              exact jok_s ⟨wq174_43, (show jI 0 1 (1 : Int32) from ⟨by omega, by omega⟩)⟩
set_option maxHeartbeats 1000000 in
theorem S_X9_readNumber {g : jGh} {Γ : Nat → Option Nat} {n : Nat} {a0 : Nat} {x1 : Int32} {h : jH} (hn : 6000 ≤ n) (hg : jgok g) (w : jW (jKd g) Γ h) (ta0 : Γ a0 = some 13) : jok (F_X9_readNumber n a0 x1 h) (fun q => jW (jKd g) Γ q.2 ∧ (fun v : Int32 => True) q.1) := by
  unfold F_X9_readNumber
  have f1 : ((5 : Int32)).toInt = 5 := rfl
  refine jok_eq (fun c2 d2 => ?_) (fun c2 => ?_)
  · refine jok_b (t_gR w ta0 rfl rfl) (fun p74_3 tp74_3 => ?_)
    try rw [t_cv w tp74_3 rfl]
    refine jok_b (S_X10_takeNumber hn hg w tp74_3) (fun q80_4 wq80_4 => ?_)
    obtain ⟨wq80_4, pq80_4⟩ := wq80_4
    exact jok_s ⟨wq80_4, trivial⟩
  · have f5 : ((6 : Int32)).toInt = 6 := rfl
    refine jok_eq (fun c6 d6 => ?_) (fun c6 => ?_)
    · refine jok_b (t_gR w ta0 rfl rfl) (fun p85_7 tp85_7 => ?_)
      try rw [t_cv w tp85_7 rfl]
      refine jok_b (S_X10_takeNumber hn hg w tp85_7) (fun q92_8 wq92_8 => ?_)
      obtain ⟨wq92_8, pq92_8⟩ := wq92_8
      exact jok_s ⟨wq92_8, trivial⟩
    · have f9 : ((19 : Int32)).toInt = 19 := rfl
      refine jok_eq (fun c10 d10 => ?_) (fun c10 => ?_)
      · refine jok_b (t_gR w ta0 rfl rfl) (fun p45_11 tp45_11 => ?_)
        refine jok_b (t_gR w ta0 rfl rfl) (fun p50_12 tp50_12 => ?_)
        refine jok_b2 (t_gI w tp50_12 rfl rfl) (fun v53_13 ev53_13 pv53_13 => ?_)
        obtain ⟨lv53_13, uv53_13⟩ := pv53_13
        try rw [t_cv w tp45_11 rfl]
        refine jok_b (S_X10_takeNumber hn hg w tp45_11) (fun q58_14 wq58_14 => ?_)
        obtain ⟨wq58_14, pq58_14⟩ := wq58_14
        exact jok_s ⟨wq58_14, trivial⟩
      · have f15 : ((21 : Int32)).toInt = 21 := rfl
        refine jok_eq (fun c16 d16 => ?_) (fun c16 => ?_)
        · refine jok_b (t_gR w ta0 rfl rfl) (fun p63_17 tp63_17 => ?_)
          try rw [t_cv w tp63_17 rfl]
          refine jok_b (S_X10_takeNumber hn hg w tp63_17) (fun q69_18 wq69_18 => ?_)
          obtain ⟨wq69_18, pq69_18⟩ := wq69_18
          exact jok_s ⟨wq69_18, trivial⟩
        · refine jok_b (t_gR w ta0 rfl rfl) (fun p97_19 tp97_19 => ?_)
          try rw [t_cv w tp97_19 rfl]
          refine jok_b (S_X10_takeNumber hn hg w tp97_19) (fun q103_20 wq103_20 => ?_)
          obtain ⟨wq103_20, pq103_20⟩ := wq103_20
          exact jok_s ⟨wq103_20, trivial⟩
set_option maxHeartbeats 1000000 in
theorem S_X9_keepNumber {g : jGh} {Γ : Nat → Option Nat} {n : Nat} {a0 : Nat} {x1 : Int32} {x2 : Int32} {h : jH} (hn : 6000 ≤ n) (hg : jgok g) (w : jW (jKd g) Γ h) (ta0 : Γ a0 = some 13) : jok (F_X9_keepNumber n a0 x1 x2 h) (fun q => jW (jKd g) Γ q) := by
  unfold F_X9_keepNumber
  have f1 : ((5 : Int32)).toInt = 5 := rfl
  refine jok_eq (fun c2 d2 => ?_) (fun c2 => ?_)
  · refine jok_b (t_gR w ta0 rfl rfl) (fun p119_3 tp119_3 => ?_)
    refine jok_b (t_pI w tp119_3 rfl rfl trivial) (fun h123_4 wh123_4 => ?_)
    obtain ⟨wh123_4, jh123_4, rh123_4⟩ := wh123_4
    exact jok_s wh123_4
  · have f5 : ((19 : Int32)).toInt = 19 := rfl
    refine jok_eq (fun c6 d6 => ?_) (fun c6 => ?_)
    · refine jok_b (t_gR w ta0 rfl rfl) (fun p53_7 tp53_7 => ?_)
      refine jok_b (t_gR w ta0 rfl rfl) (fun p57_8 tp57_8 => ?_)
      refine jok_b2 (t_gI w tp57_8 rfl rfl) (fun v60_9 ev60_9 pv60_9 => ?_)
      refine jok_b (S_X11_withBit hn hg w) (fun v65_10 pv65_10 => ?_)
      refine jok_b (t_pI w tp53_7 rfl rfl trivial) (fun h68_11 wh68_11 => ?_)
      obtain ⟨wh68_11, jh68_11, rh68_11⟩ := wh68_11
      exact jok_s wh68_11
    · have f12 : ((20 : Int32)).toInt = 20 := rfl
      refine jok_eq (fun c13 d13 => ?_) (fun c13 => ?_)
      · refine jok_b (t_gR w ta0 rfl rfl) (fun p75_14 tp75_14 => ?_)
        refine jok_b (t_gR w ta0 rfl rfl) (fun p79_15 tp79_15 => ?_)
        refine jok_b2 (t_gI w tp79_15 rfl rfl) (fun v82_16 ev82_16 pv82_16 => ?_)
        refine jok_b (S_X11_withBit hn hg w) (fun v87_17 pv87_17 => ?_)
        refine jok_b (t_pI w tp75_14 rfl rfl trivial) (fun h90_18 wh90_18 => ?_)
        obtain ⟨wh90_18, jh90_18, rh90_18⟩ := wh90_18
        exact jok_s wh90_18
      · have f19 : ((21 : Int32)).toInt = 21 := rfl
        refine jok_eq (fun c20 d20 => ?_) (fun c20 => ?_)
        · refine jok_b (t_gR w ta0 rfl rfl) (fun p97_21 tp97_21 => ?_)
          refine jok_b (t_pI w tp97_21 rfl rfl trivial) (fun h101_22 wh101_22 => ?_)
          obtain ⟨wh101_22, jh101_22, rh101_22⟩ := wh101_22
          exact jok_s wh101_22
        · have f23 : ((22 : Int32)).toInt = 22 := rfl
          refine jok_eq (fun c24 d24 => ?_) (fun c24 => ?_)
          · refine jok_b (t_gR w ta0 rfl rfl) (fun p108_25 tp108_25 => ?_)
            refine jok_b (t_pI w tp108_25 rfl rfl trivial) (fun h112_26 wh112_26 => ?_)
            obtain ⟨wh112_26, jh112_26, rh112_26⟩ := wh112_26
            exact jok_s wh112_26
          · refine jok_b (t_gR w ta0 rfl rfl) (fun p130_27 tp130_27 => ?_)
            refine jok_b (t_pI w tp130_27 rfl rfl trivial) (fun h134_28 wh134_28 => ?_)
            obtain ⟨wh134_28, jh134_28, rh134_28⟩ := wh134_28
            exact jok_s wh134_28
set_option maxHeartbeats 1000000 in
theorem S_X9_readLine {g : jGh} {Γ : Nat → Option Nat} {n : Nat} {a0 : Nat} {h : jH} (hn : 6000 ≤ n) (hg : jgok g) (w : jW (jKd g) Γ h) (ta0 : Γ a0 = some 13) : jok (F_X9_readLine n a0 h) (fun q => jW (jKd g) Γ q.2 ∧ (fun v : Int32 => 0 ≤ v.toInt ∧ v.toInt ≤ 1) q.1) := by
  unfold F_X9_readLine
  refine jok_b (t_gR w ta0 rfl rfl) (fun p1_1 tp1_1 => ?_)
  try rw [t_cv w tp1_1 rfl]
  refine jok_b (S_X10_kind hn hg w tp1_1) (fun v4_2 pv4_2 => ?_)
  refine jok_b (S_X9_beginsLine hn hg w) (fun v9_3 pv9_3 => ?_)
  obtain ⟨lv9_3, uv9_3⟩ := pv9_3
  have f4 : ((0 : Int32)).toInt = 0 := rfl
  refine jok_eq (fun c5 d5 => ?_) (fun c5 => ?_)
  · exact jok_s ⟨w, (show jI 0 1 (0 : Int32) from ⟨by omega, by omega⟩)⟩
  · refine jok_eq (fun c6 d6 => ?_) (fun c6 => ?_)
    · refine jok_b (t_gR w ta0 rfl rfl) (fun p20_7 tp20_7 => ?_)
      refine jok_b2 (t_gI w tp20_7 rfl rfl) (fun v23_8 ev23_8 pv23_8 => ?_)
      obtain ⟨lv23_8, uv23_8⟩ := pv23_8
      have f9 : ((8 : Int32)).toInt = 8 := rfl
      refine jok_lt (fun c10 => ?_) (fun c10 => ?_)
      · unfold F_X9_readLine_33
        refine jok_b (t_gR w ta0 rfl rfl) (fun p34_11 tp34_11 => ?_)
        try rw [t_cv w tp34_11 rfl]
        refine jok_b (S_X10_skip hn hg w tp34_11) (fun h37_12 wh37_12 => ?_)
        refine jok_eq (fun c13 d13 => ?_) (fun c13 => ?_)
        · try rw [t_cv wh37_12 ta0 rfl]
          refine jok_b (S_X9_readRing hn hg wh37_12 ta0) (fun q45_14 wq45_14 => ?_)
          obtain ⟨wq45_14, pq45_14⟩ := wq45_14
          obtain ⟨lq45_14, uq45_14⟩ := pq45_14
          rw [if_pos (show q45_14.1 = 0 ∨ q45_14.1 = 1 from j01 (by omega) (by omega))]
          exact jok_s ⟨wq45_14, (show jI 0 1 q45_14.1 from ⟨by omega, by omega⟩)⟩
        · try rw [t_cv wh37_12 ta0 rfl]
          refine jok_b (S_X9_readNumber hn hg wh37_12 ta0) (fun q51_15 wq51_15 => ?_)
          obtain ⟨wq51_15, pq51_15⟩ := wq51_15
          have f16 : ((-1 : Int32)).toInt = -1 := rfl
          refine jok_eq (fun c17 d17 => ?_) (fun c17 => ?_)
          · exact jok_s ⟨wq51_15, (show jI 0 1 (0 : Int32) from ⟨by omega, by omega⟩)⟩
          · try rw [t_cv wq51_15 ta0 rfl]
            refine jok_b (S_X9_keepNumber hn hg wq51_15 ta0) (fun h65_18 wh65_18 => ?_)
            have f19 : ((1 : Int32)).toInt = 1 := rfl
            exact jok_s ⟨wh65_18, (show jI 0 1 (1 : Int32) from ⟨by omega, by omega⟩)⟩
      · exact jok_s ⟨w, (show jI 0 1 (0 : Int32) from ⟨by omega, by omega⟩)⟩
    · unfold F_X9_readLine_33
      refine jok_b (t_gR w ta0 rfl rfl) (fun p34_20 tp34_20 => ?_)
      try rw [t_cv w tp34_20 rfl]
      refine jok_b (S_X10_skip hn hg w tp34_20) (fun h37_21 wh37_21 => ?_)
      refine jok_eq (fun c22 d22 => ?_) (fun c22 => ?_)
      · try rw [t_cv wh37_21 ta0 rfl]
        refine jok_b (S_X9_readRing hn hg wh37_21 ta0) (fun q45_23 wq45_23 => ?_)
        obtain ⟨wq45_23, pq45_23⟩ := wq45_23
        obtain ⟨lq45_23, uq45_23⟩ := pq45_23
        rw [if_pos (show q45_23.1 = 0 ∨ q45_23.1 = 1 from j01 (by omega) (by omega))]
        exact jok_s ⟨wq45_23, (show jI 0 1 q45_23.1 from ⟨by omega, by omega⟩)⟩
      · try rw [t_cv wh37_21 ta0 rfl]
        refine jok_b (S_X9_readNumber hn hg wh37_21 ta0) (fun q51_24 wq51_24 => ?_)
        obtain ⟨wq51_24, pq51_24⟩ := wq51_24
        have f25 : ((-1 : Int32)).toInt = -1 := rfl
        refine jok_eq (fun c26 d26 => ?_) (fun c26 => ?_)
        · exact jok_s ⟨wq51_24, (show jI 0 1 (0 : Int32) from ⟨by omega, by omega⟩)⟩
        · try rw [t_cv wq51_24 ta0 rfl]
          refine jok_b (S_X9_keepNumber hn hg wq51_24 ta0) (fun h65_27 wh65_27 => ?_)
          have f28 : ((1 : Int32)).toInt = 1 := rfl
          exact jok_s ⟨wh65_27, (show jI 0 1 (1 : Int32) from ⟨by omega, by omega⟩)⟩
set_option maxHeartbeats 1000000 in
theorem S_X4_read_R_22 {g : jGh} {Γ : Nat → Option Nat} {n : Nat} (hn : 6000 ≤ n) (hg : jgok g)  (k : Nat) : ∀ {a0 : Nat} {x1 : Int32} {h : jH}, jW (jKd g) Γ h → (Γ a0 = some 13) → (0 ≤ x1.toInt) → (x1.toInt ≤ 14) → (14 : Int) - x1.toInt < (k : Int) → jok (F_X4_read_R_22 n k a0 x1 h) (fun q => jW (jKd g) Γ q.2 ∧ (fun v : Int32 => True) q.1) := by
  induction k with
  | zero =>
    intro a0 x1 h w ta0 lx1 ux1 mk
    omega
  | succ k ih =>
    intro a0 x1 h w ta0 lx1 ux1 mk
    show jok (F_X4_read_R_22_b n (F_X4_read_R_22 n k) a0 x1 h) _
    unfold F_X4_read_R_22_b
    refine jok_b2 (t_gI w ta0 rfl rfl) (fun v24_1 ev24_1 pv24_1 => ?_)
    obtain ⟨lv24_1, uv24_1⟩ := pv24_1
    refine jok_le (fun c2 => ?_) (fun c2 => ?_)
    · refine jok_b (t_gR w ta0 rfl rfl) (fun p85_3 tp85_3 => ?_)
      try rw [t_cv w tp85_3 rfl]
      refine jok_b (S_X10_start hn hg w tp85_3) (fun v88_4 pv88_4 => ?_)
      exact jok_s ⟨w, trivial⟩
    · try rw [t_cv w ta0 rfl]
      refine jok_b (S_X9_readLine hn hg w ta0) (fun q31_5 wq31_5 => ?_)
      obtain ⟨wq31_5, pq31_5⟩ := wq31_5
      obtain ⟨lq31_5, uq31_5⟩ := pq31_5
      have f6 : ((0 : Int32)).toInt = 0 := rfl
      refine jok_eq (fun c7 d7 => ?_) (fun c7 => ?_)
      · refine jok_b (t_gR wq31_5 ta0 rfl rfl) (fun p38_8 tp38_8 => ?_)
        try rw [t_cv wq31_5 tp38_8 rfl]
        refine jok_b (S_X10_start hn hg wq31_5 tp38_8) (fun v41_9 pv41_9 => ?_)
        exact jok_s ⟨wq31_5, trivial⟩
      · refine jok_b (t_gR wq31_5 ta0 rfl rfl) (fun p46_10 tp46_10 => ?_)
        try rw [t_cv wq31_5 tp46_10 rfl]
        refine jok_b (S_X10_kind hn hg wq31_5 tp46_10) (fun v49_11 pv49_11 => ?_)
        have f12 : ((-1 : Int32)).toInt = -1 := rfl
        refine jok_eq (fun c13 d13 => ?_) (fun c13 => ?_)
        · exact jok_s ⟨wq31_5, trivial⟩
        · refine jok_b (t_gR wq31_5 ta0 rfl rfl) (fun p59_14 tp59_14 => ?_)
          try rw [t_cv wq31_5 tp59_14 rfl]
          refine jok_b (S_X10_take hn hg wq31_5 tp59_14) (fun q64_15 wq64_15 => ?_)
          obtain ⟨wq64_15, pq64_15⟩ := wq64_15
          obtain ⟨lq64_15, uq64_15⟩ := pq64_15
          refine jok_eq (fun c16 d16 => ?_) (fun c16 => ?_)
          · refine jok_b (t_gR wq64_15 ta0 rfl rfl) (fun p71_17 tp71_17 => ?_)
            try rw [t_cv wq64_15 tp71_17 rfl]
            refine jok_b (S_X10_start hn hg wq64_15 tp71_17) (fun v74_18 pv74_18 => ?_)
            exact jok_s ⟨wq64_15, trivial⟩
          · have f19 : ((1 : Int32)).toInt = 1 := rfl
            have f20 : ((x1 + (1 : Int32))).toInt = (x1).toInt + ((1 : Int32)).toInt := jadd (by omega) (by omega)
            exact ih wq64_15 ta0 (by omega) (by omega) (by omega)
set_option maxHeartbeats 1000000 in
theorem S_X4_read_R {g : jGh} {Γ : Nat → Option Nat} {n : Nat} {a0 : Nat} {h : jH} (hn : 6000 ≤ n) (hg : jgok g) (w : jW (jKd g) Γ h) (ta0 : Γ a0 = some 13) : jok (F_X4_read_R n a0 h) (fun q => jW (jKd g) Γ q.2 ∧ (fun v : Int32 => True) q.1) := by
  unfold F_X4_read_R
  refine jok_b (t_gR w ta0 rfl rfl) (fun p1_1 tp1_1 => ?_)
  try rw [t_cv w tp1_1 rfl]
  refine jok_b (S_X10_scan hn hg w tp1_1) (fun h4_2 wh4_2 => ?_)
  refine jok_b (t_gR wh4_2 ta0 rfl rfl) (fun p8_3 tp8_3 => ?_)
  try rw [t_cv wh4_2 tp8_3 rfl]
  refine jok_b (S_X10_kind hn hg wh4_2 tp8_3) (fun v11_4 pv11_4 => ?_)
  have f5 : ((-1 : Int32)).toInt = -1 := rfl
  refine jok_eq (fun c6 d6 => ?_) (fun c6 => ?_)
  · exact jok_s ⟨wh4_2, trivial⟩
  · have f7 : ((0 : Int32)).toInt = 0 := rfl
    exact S_X4_read_R_22 hn hg  n wh4_2 ta0 (by omega) (by omega) (by omega)
set_option maxHeartbeats 1000000 in
theorem S_X3_readCondition_7 {g : jGh} {Γ : Nat → Option Nat} {n : Nat} (hn : 6000 ≤ n) (hg : jgok g) {D : Nat} {g0 g1 : Nat → Int32 → jH → Option (Int32 × jH)} (hg0 : ∀ {a0 : Nat} {x1 : Int32} {h : jH}, jW (jKd g) Γ h → Γ a0 = some 14 → 0 ≤ x1.toInt → x1.toInt ≤ 6 → (14 : Int) - 2 * x1.toInt ≤ (D : Int) → jok (g0 a0 x1 h) (fun q => jW (jKd g) Γ q.2 ∧ (fun v : Int32 => 0 ≤ v.toInt ∧ v.toInt ≤ 1) q.1)) (hg1 : ∀ {a0 : Nat} {x1 : Int32} {h : jH}, jW (jKd g) Γ h → Γ a0 = some 14 → 0 ≤ x1.toInt → x1.toInt ≤ 6 → (13 : Int) - 2 * x1.toInt ≤ (D : Int) → jok (g1 a0 x1 h) (fun q => jW (jKd g) Γ q.2 ∧ (fun v : Int32 => 0 ≤ v.toInt ∧ v.toInt ≤ 1) q.1))  (k : Nat) : ∀ {a0 : Nat} {x1 : Int32} {x2 : Int32} {x3 : Int32} {x4 : Int32} {h : jH}, jW (jKd g) Γ h → (Γ a0 = some 14) → (0 ≤ x1.toInt) → (x1.toInt ≤ 6) → (0 ≤ x4.toInt) → (x4.toInt ≤ 400) → (400 : Int) - x4.toInt < (k : Int) → ((14 : Int) - 2 * x1.toInt ≤ (D : Int) + 1) → jok (F_X3_readCondition_7 n g0 g1 k a0 x1 x2 x3 x4 h) (fun q => jW (jKd g) Γ q.2 ∧ (fun v : Int32 => 0 ≤ v.toInt ∧ v.toInt ≤ 1) q.1) := by
  induction k with
  | zero =>
    intro a0 x1 x2 x3 x4 h w ta0 lx1 ux1 lx4 ux4 mk mD
    omega
  | succ k ih =>
    intro a0 x1 x2 x3 x4 h w ta0 lx1 ux1 lx4 ux4 mk mD
    show jok (F_X3_readCondition_7_b n g0 g1 (F_X3_readCondition_7 n g0 g1 k) a0 x1 x2 x3 x4 h) _
    unfold F_X3_readCondition_7_b
    have f1 : ((400 : Int32)).toInt = 400 := rfl
    refine jok_le (fun c2 => ?_) (fun c2 => ?_)
    · have f3 : ((0 : Int32)).toInt = 0 := rfl
      exact jok_s ⟨w, (show jI 0 1 (0 : Int32) from ⟨by omega, by omega⟩)⟩
    · try rw [t_cv w ta0 rfl]
      refine jok_b (hg1 w ta0 (by omega) (by omega) (by omega)) (fun q17_4 wq17_4 => ?_)
      obtain ⟨wq17_4, pq17_4⟩ := wq17_4
      obtain ⟨lq17_4, uq17_4⟩ := pq17_4
      have f5 : ((0 : Int32)).toInt = 0 := rfl
      refine jok_eq (fun c6 d6 => ?_) (fun c6 => ?_)
      · exact jok_s ⟨wq17_4, (show jI 0 1 (0 : Int32) from ⟨by omega, by omega⟩)⟩
      · refine jok_eq (fun c7 d7 => ?_) (fun c7 => ?_)
        · unfold F_X3_readCondition_38
          refine jok_b (t_gR wq17_4 ta0 rfl rfl) (fun p39_8 tp39_8 => ?_)
          try rw [t_cv wq17_4 tp39_8 rfl]
          refine jok_b (S_X10_take hn hg wq17_4 tp39_8) (fun q44_9 wq44_9 => ?_)
          obtain ⟨wq44_9, pq44_9⟩ := wq44_9
          obtain ⟨lq44_9, uq44_9⟩ := pq44_9
          refine jok_eq (fun c10 d10 => ?_) (fun c10 => ?_)
          · refine jok_eq (fun c11 d11 => ?_) (fun c11 => ?_)
            · unfold F_X3_readCondition_65
              refine jok_b (t_gR wq44_9 ta0 rfl rfl) (fun p66_12 tp66_12 => ?_)
              try rw [t_cv wq44_9 tp66_12 rfl]
              refine jok_b (S_X10_take hn hg wq44_9 tp66_12) (fun q71_13 wq71_13 => ?_)
              obtain ⟨wq71_13, pq71_13⟩ := wq71_13
              obtain ⟨lq71_13, uq71_13⟩ := pq71_13
              refine jok_eq (fun c14 d14 => ?_) (fun c14 => ?_)
              · have f15 : ((1 : Int32)).toInt = 1 := rfl
                exact jok_s ⟨wq71_13, (show jI 0 1 (1 : Int32) from ⟨by omega, by omega⟩)⟩
              · have f16 : ((1 : Int32)).toInt = 1 := rfl
                have f17 : ((x4 + (1 : Int32))).toInt = (x4).toInt + ((1 : Int32)).toInt := jadd (by omega) (by omega)
                exact ih wq71_13 ta0 (by omega) (by omega) (by omega) (by omega) (by omega) mD
            · refine jok_b (t_gR wq44_9 ta0 rfl rfl) (fun p57_18 tp57_18 => ?_)
              try rw [t_cv wq44_9 tp57_18 rfl]
              refine jok_b (S_X2_addCode hn hg wq44_9 tp57_18) (fun h62_19 wh62_19 => ?_)
              unfold F_X3_readCondition_65
              refine jok_b (t_gR wh62_19 ta0 rfl rfl) (fun p66_20 tp66_20 => ?_)
              try rw [t_cv wh62_19 tp66_20 rfl]
              refine jok_b (S_X10_take hn hg wh62_19 tp66_20) (fun q71_21 wq71_21 => ?_)
              obtain ⟨wq71_21, pq71_21⟩ := wq71_21
              obtain ⟨lq71_21, uq71_21⟩ := pq71_21
              refine jok_eq (fun c22 d22 => ?_) (fun c22 => ?_)
              · have f23 : ((1 : Int32)).toInt = 1 := rfl
                exact jok_s ⟨wq71_21, (show jI 0 1 (1 : Int32) from ⟨by omega, by omega⟩)⟩
              · have f24 : ((1 : Int32)).toInt = 1 := rfl
                have f25 : ((x4 + (1 : Int32))).toInt = (x4).toInt + ((1 : Int32)).toInt := jadd (by omega) (by omega)
                exact ih wq71_21 ta0 (by omega) (by omega) (by omega) (by omega) (by omega) mD
          · have f26 : ((1 : Int32)).toInt = 1 := rfl
            have f27 : ((x4 + (1 : Int32))).toInt = (x4).toInt + ((1 : Int32)).toInt := jadd (by omega) (by omega)
            exact ih wq44_9 ta0 (by omega) (by omega) (by omega) (by omega) (by omega) mD
        · refine jok_b (t_gR wq17_4 ta0 rfl rfl) (fun p30_28 tp30_28 => ?_)
          try rw [t_cv wq17_4 tp30_28 rfl]
          refine jok_b (S_X2_addCode hn hg wq17_4 tp30_28) (fun h35_29 wh35_29 => ?_)
          unfold F_X3_readCondition_38
          refine jok_b (t_gR wh35_29 ta0 rfl rfl) (fun p39_30 tp39_30 => ?_)
          try rw [t_cv wh35_29 tp39_30 rfl]
          refine jok_b (S_X10_take hn hg wh35_29 tp39_30) (fun q44_31 wq44_31 => ?_)
          obtain ⟨wq44_31, pq44_31⟩ := wq44_31
          obtain ⟨lq44_31, uq44_31⟩ := pq44_31
          refine jok_eq (fun c32 d32 => ?_) (fun c32 => ?_)
          · refine jok_eq (fun c33 d33 => ?_) (fun c33 => ?_)
            · unfold F_X3_readCondition_65
              refine jok_b (t_gR wq44_31 ta0 rfl rfl) (fun p66_34 tp66_34 => ?_)
              try rw [t_cv wq44_31 tp66_34 rfl]
              refine jok_b (S_X10_take hn hg wq44_31 tp66_34) (fun q71_35 wq71_35 => ?_)
              obtain ⟨wq71_35, pq71_35⟩ := wq71_35
              obtain ⟨lq71_35, uq71_35⟩ := pq71_35
              refine jok_eq (fun c36 d36 => ?_) (fun c36 => ?_)
              · have f37 : ((1 : Int32)).toInt = 1 := rfl
                exact jok_s ⟨wq71_35, (show jI 0 1 (1 : Int32) from ⟨by omega, by omega⟩)⟩
              · have f38 : ((1 : Int32)).toInt = 1 := rfl
                have f39 : ((x4 + (1 : Int32))).toInt = (x4).toInt + ((1 : Int32)).toInt := jadd (by omega) (by omega)
                exact ih wq71_35 ta0 (by omega) (by omega) (by omega) (by omega) (by omega) mD
            · refine jok_b (t_gR wq44_31 ta0 rfl rfl) (fun p57_40 tp57_40 => ?_)
              try rw [t_cv wq44_31 tp57_40 rfl]
              refine jok_b (S_X2_addCode hn hg wq44_31 tp57_40) (fun h62_41 wh62_41 => ?_)
              unfold F_X3_readCondition_65
              refine jok_b (t_gR wh62_41 ta0 rfl rfl) (fun p66_42 tp66_42 => ?_)
              try rw [t_cv wh62_41 tp66_42 rfl]
              refine jok_b (S_X10_take hn hg wh62_41 tp66_42) (fun q71_43 wq71_43 => ?_)
              obtain ⟨wq71_43, pq71_43⟩ := wq71_43
              obtain ⟨lq71_43, uq71_43⟩ := pq71_43
              refine jok_eq (fun c44 d44 => ?_) (fun c44 => ?_)
              · have f45 : ((1 : Int32)).toInt = 1 := rfl
                exact jok_s ⟨wq71_43, (show jI 0 1 (1 : Int32) from ⟨by omega, by omega⟩)⟩
              · have f46 : ((1 : Int32)).toInt = 1 := rfl
                have f47 : ((x4 + (1 : Int32))).toInt = (x4).toInt + ((1 : Int32)).toInt := jadd (by omega) (by omega)
                exact ih wq71_43 ta0 (by omega) (by omega) (by omega) (by omega) (by omega) mD
          · have f48 : ((1 : Int32)).toInt = 1 := rfl
            have f49 : ((x4 + (1 : Int32))).toInt = (x4).toInt + ((1 : Int32)).toInt := jadd (by omega) (by omega)
            exact ih wq44_31 ta0 (by omega) (by omega) (by omega) (by omega) (by omega) mD
set_option maxHeartbeats 1000000 in
theorem S_X3_readCondition {g : jGh} {Γ : Nat → Option Nat} {n : Nat} {a0 : Nat} {x1 : Int32} {h : jH} (hn : 6000 ≤ n) (hg : jgok g) {D : Nat} {g0 g1 : Nat → Int32 → jH → Option (Int32 × jH)} (hg0 : ∀ {a0 : Nat} {x1 : Int32} {h : jH}, jW (jKd g) Γ h → Γ a0 = some 14 → 0 ≤ x1.toInt → x1.toInt ≤ 6 → (14 : Int) - 2 * x1.toInt ≤ (D : Int) → jok (g0 a0 x1 h) (fun q => jW (jKd g) Γ q.2 ∧ (fun v : Int32 => 0 ≤ v.toInt ∧ v.toInt ≤ 1) q.1)) (hg1 : ∀ {a0 : Nat} {x1 : Int32} {h : jH}, jW (jKd g) Γ h → Γ a0 = some 14 → 0 ≤ x1.toInt → x1.toInt ≤ 6 → (13 : Int) - 2 * x1.toInt ≤ (D : Int) → jok (g1 a0 x1 h) (fun q => jW (jKd g) Γ q.2 ∧ (fun v : Int32 => 0 ≤ v.toInt ∧ v.toInt ≤ 1) q.1)) (w : jW (jKd g) Γ h) (ta0 : Γ a0 = some 14) (lx1 : 0 ≤ x1.toInt) (ux1 : x1.toInt ≤ 6) (mD : (14 : Int) - 2 * x1.toInt ≤ (D : Int) + 1) : jok (F_X3_readCondition n g0 g1 a0 x1 h) (fun q => jW (jKd g) Γ q.2 ∧ (fun v : Int32 => 0 ≤ v.toInt ∧ v.toInt ≤ 1) q.1) := by
  unfold F_X3_readCondition
  have f1 : ((0 : Int32)).toInt = 0 := rfl
  exact S_X3_readCondition_7 hn hg hg0 hg1 n w ta0 (by omega) (by omega) (by omega) (by omega) (by omega) mD
theorem kt {n a : Nat} {x : Int32} {h : jH} {q : Int32 × jH} (e : F_X10_take n a x h = some q) : (q.1 = 0 ∧ q.2 = h) ∨ F_X10_kind n a h = some x := by
  unfold F_X10_take at e
  obtain ⟨v1, e1, e⟩ := jbind e
  obtain ⟨v5, e5, e⟩ := jbind e
  by_cases c : v5 ≤ v1
  · rw [if_pos c] at e
    cases e
    exact Or.inl ⟨rfl, rfl⟩
  · rw [if_neg c] at e
    obtain ⟨p, ep, e⟩ := jbind e
    obtain ⟨v16, e16, e⟩ := jbind e
    obtain ⟨v19, e19, e⟩ := jbind e
    by_cases c2 : v19 = x
    · right
      cases e1.symm.trans e16
      unfold F_X10_kind
      rw [e1]
      show (jgI 8 h a 4).bind _ = _
      rw [e5]
      show (if v5 ≤ v1 then _ else _) = _
      rw [if_neg c, ep]
      show (jal 0 h p v1).bind _ = _
      rw [e19, ← c2]
      rfl
    · rw [if_neg c2] at e
      cases e
      exact Or.inl ⟨rfl, rfl⟩
theorem rA1 {n p1 p2 a0 : Nat} {x v4 : Int32} {h : jH} {q : Int32 × jH} (ep1 : jgR 3 h a0 0 = some p1) (ep2 : jgR 3 h a0 0 = some p2) (e4 : F_X10_kind n p1 h = some v4) (e : F_X10_take n p2 x h = some q) (c : ¬ q.1.toInt = 0) : v4.toInt = x.toInt := by
  cases ep1.symm.trans ep2
  rcases kt e with ⟨z, -⟩ | k
  · exact absurd (by rw [z]; rfl) c
  · cases e4.symm.trans k
    rfl
theorem rA2 {n p1 p2 p3 a0 : Nat} {x y v4 : Int32} {h : jH} {q r : Int32 × jH} (ep1 : jgR 3 h a0 0 = some p1) (ep2 : jgR 3 h a0 0 = some p2) (e4 : F_X10_kind n p1 h = some v4) (e : F_X10_take n p2 x h = some q) (ep3 : jgR 3 q.2 a0 0 = some p3) (e3 : F_X10_take n p3 y q.2 = some r) (c : ¬ r.1.toInt = 0) : v4.toInt = x.toInt ∨ v4.toInt = y.toInt := by
  rcases kt e with ⟨-, z⟩ | k
  · rw [z] at ep3 e3
    exact Or.inr (rA1 ep1 ep3 e4 e3 c)
  · cases ep1.symm.trans ep2
    cases e4.symm.trans k
    exact Or.inl rfl
set_option maxHeartbeats 1000000 in
theorem S_X3_readAtom {g : jGh} {Γ : Nat → Option Nat} {n : Nat} {a0 : Nat} {x1 : Int32} {h : jH} (hn : 6000 ≤ n) (hg : jgok g) {D : Nat} {g0 g1 : Nat → Int32 → jH → Option (Int32 × jH)} (hg0 : ∀ {a0 : Nat} {x1 : Int32} {h : jH}, jW (jKd g) Γ h → Γ a0 = some 14 → 0 ≤ x1.toInt → x1.toInt ≤ 6 → (14 : Int) - 2 * x1.toInt ≤ (D : Int) → jok (g0 a0 x1 h) (fun q => jW (jKd g) Γ q.2 ∧ (fun v : Int32 => 0 ≤ v.toInt ∧ v.toInt ≤ 1) q.1)) (hg1 : ∀ {a0 : Nat} {x1 : Int32} {h : jH}, jW (jKd g) Γ h → Γ a0 = some 14 → 0 ≤ x1.toInt → x1.toInt ≤ 6 → (13 : Int) - 2 * x1.toInt ≤ (D : Int) → jok (g1 a0 x1 h) (fun q => jW (jKd g) Γ q.2 ∧ (fun v : Int32 => 0 ≤ v.toInt ∧ v.toInt ≤ 1) q.1)) (w : jW (jKd g) Γ h) (ta0 : Γ a0 = some 14) (lx1 : 0 ≤ x1.toInt) (ux1 : x1.toInt ≤ 6) (mD : (13 : Int) - 2 * x1.toInt ≤ (D : Int) + 1) : jok (F_X3_readAtom n g0 g1 a0 x1 h) (fun q => jW (jKd g) Γ q.2 ∧ (fun v : Int32 => 0 ≤ v.toInt ∧ v.toInt ≤ 1) q.1) := by
  unfold F_X3_readAtom
  refine jok_b2 (t_gR w ta0 rfl rfl) (fun p1_1 ep1_1 tp1_1 => ?_)
  try rw [t_cv w tp1_1 rfl]
  refine jok_b2 (S_X10_kind hn hg w tp1_1) (fun v4_2 ev4_2 pv4_2 => ?_)
  have f3 : ((11 : Int32)).toInt = 11 := rfl
  refine jok_eq (fun c4 d4 => ?_) (fun c4 => ?_)
  · unfold F_X3_readAtom_20
    have f5 : ((6 : Int32)).toInt = 6 := rfl
    refine jok_lt (fun c6 => ?_) (fun c6 => ?_)
    · unfold F_X3_readAtom_28
      refine jok_b2 (t_gR w ta0 rfl rfl) (fun p29_7 ep29_7 tp29_7 => ?_)
      try rw [t_cv w tp29_7 rfl]
      refine jok_b2 (S_X10_take hn hg w tp29_7) (fun q34_8 eq34_8 wq34_8 => ?_)
      obtain ⟨wq34_8, pq34_8⟩ := wq34_8
      obtain ⟨lq34_8, uq34_8⟩ := pq34_8
      have f9 : ((0 : Int32)).toInt = 0 := rfl
      refine jok_eq (fun c10 d10 => ?_) (fun c10 => ?_)
      · refine jok_b2 (t_gR wq34_8 ta0 rfl rfl) (fun p60_11 ep60_11 tp60_11 => ?_)
        try rw [t_cv wq34_8 tp60_11 rfl]
        refine jok_b2 (S_X10_take hn hg wq34_8 tp60_11) (fun q65_12 eq65_12 wq65_12 => ?_)
        obtain ⟨wq65_12, pq65_12⟩ := wq65_12
        obtain ⟨lq65_12, uq65_12⟩ := pq65_12
        refine jok_eq (fun c13 d13 => ?_) (fun c13 => ?_)
        · have f14 : ((7 : Int32)).toInt = 7 := rfl
          refine jok_lt (fun c15 => ?_) (fun c15 => ?_)
          · unfold F_X3_readAtom_128
            try rw [t_cv wq65_12 ta0 rfl]
            refine jok_b (S_X3_readComparison hn hg wq65_12 ta0) (fun q129_16 wq129_16 => ?_)
            obtain ⟨wq129_16, pq129_16⟩ := wq129_16
            obtain ⟨lq129_16, uq129_16⟩ := pq129_16
            rw [if_pos (show q129_16.1 = 0 ∨ q129_16.1 = 1 from j01 (by omega) (by omega))]
            exact jok_s ⟨wq129_16, (show jI 0 1 q129_16.1 from ⟨by omega, by omega⟩)⟩
          · have f17 : ((10 : Int32)).toInt = 10 := rfl
            refine jok_lt (fun c18 => ?_) (fun c18 => ?_)
            · unfold F_X3_readAtom_128
              try rw [t_cv wq65_12 ta0 rfl]
              refine jok_b (S_X3_readComparison hn hg wq65_12 ta0) (fun q129_19 wq129_19 => ?_)
              obtain ⟨wq129_19, pq129_19⟩ := wq129_19
              obtain ⟨lq129_19, uq129_19⟩ := pq129_19
              rw [if_pos (show q129_19.1 = 0 ∨ q129_19.1 = 1 from j01 (by omega) (by omega))]
              exact jok_s ⟨wq129_19, (show jI 0 1 q129_19.1 from ⟨by omega, by omega⟩)⟩
            · refine jok_b2 (t_gR wq65_12 ta0 rfl rfl) (fun p112_20 ep112_20 tp112_20 => ?_)
              try rw [t_cv wq65_12 tp112_20 rfl]
              refine jok_b (S_X10_skip hn hg wq65_12 tp112_20) (fun h115_21 wh115_21 => ?_)
              refine jok_b2 (t_gR wh115_21 ta0 rfl rfl) (fun p119_22 ep119_22 tp119_22 => ?_)
              try rw [t_cv wh115_21 tp119_22 rfl]
              refine jok_b (S_X2_addCode hn hg wh115_21 tp119_22) (fun h123_23 wh123_23 => ?_)
              have f24 : ((1 : Int32)).toInt = 1 := rfl
              exact jok_s ⟨wh123_23, (show jI 0 1 (1 : Int32) from ⟨by omega, by omega⟩)⟩
        · have hx6 : x1.toInt ≤ 5 := by first | omega | (have r9 := rA2 ep1_1 ep29_7 ev4_2 eq34_8 ep60_11 eq65_12 (by omega); have f11 : (11 : Int32).toInt = 11 := rfl; have f40 : (40 : Int32).toInt = 40 := rfl; omega)
          try rw [t_cv wq65_12 ta0 rfl]
          have f26 : ((1 : Int32)).toInt = 1 := rfl
          have f27 : ((x1 + (1 : Int32))).toInt = (x1).toInt + ((1 : Int32)).toInt := jadd (by omega) (by omega)
          refine jok_b (hg0 wq65_12 ta0 (by omega) (by omega) (by omega)) (fun q75_25 wq75_25 => ?_)
          obtain ⟨wq75_25, pq75_25⟩ := wq75_25
          obtain ⟨lq75_25, uq75_25⟩ := pq75_25
          refine jok_eq (fun c28 d28 => ?_) (fun c28 => ?_)
          · exact jok_s ⟨wq75_25, (show jI 0 1 (0 : Int32) from ⟨by omega, by omega⟩)⟩
          · refine jok_b2 (t_gR wq75_25 ta0 rfl rfl) (fun p82_29 ep82_29 tp82_29 => ?_)
            try rw [t_cv wq75_25 tp82_29 rfl]
            refine jok_b2 (S_X10_take hn hg wq75_25 tp82_29) (fun q87_30 eq87_30 wq87_30 => ?_)
            obtain ⟨wq87_30, pq87_30⟩ := wq87_30
            obtain ⟨lq87_30, uq87_30⟩ := pq87_30
            refine jok_eq (fun c31 d31 => ?_) (fun c31 => ?_)
            · exact jok_s ⟨wq87_30, (show jI 0 1 (0 : Int32) from ⟨by omega, by omega⟩)⟩
            · exact jok_s ⟨wq87_30, (show jI 0 1 (1 : Int32) from ⟨by omega, by omega⟩)⟩
      · have hx6 : x1.toInt ≤ 5 := by first | omega | (have r9 := rA1 ep1_1 ep29_7 ev4_2 eq34_8 (by omega); have f11 : (11 : Int32).toInt = 11 := rfl; omega)
        try rw [t_cv wq34_8 ta0 rfl]
        have f33 : ((1 : Int32)).toInt = 1 := rfl
        have f34 : ((x1 + (1 : Int32))).toInt = (x1).toInt + ((1 : Int32)).toInt := jadd (by omega) (by omega)
        refine jok_b (hg1 wq34_8 ta0 (by omega) (by omega) (by omega)) (fun q44_32 wq44_32 => ?_)
        obtain ⟨wq44_32, pq44_32⟩ := wq44_32
        obtain ⟨lq44_32, uq44_32⟩ := pq44_32
        refine jok_b2 (t_gR wq44_32 ta0 rfl rfl) (fun p49_35 ep49_35 tp49_35 => ?_)
        try rw [t_cv wq44_32 tp49_35 rfl]
        refine jok_b (S_X2_addCode hn hg wq44_32 tp49_35) (fun h54_36 wh54_36 => ?_)
        rw [if_pos (show q44_32.1 = 0 ∨ q44_32.1 = 1 from j01 (by omega) (by omega))]
        exact jok_s ⟨wh54_36, (show jI 0 1 q44_32.1 from ⟨by omega, by omega⟩)⟩
    · have f37 : ((0 : Int32)).toInt = 0 := rfl
      exact jok_s ⟨w, (show jI 0 1 (0 : Int32) from ⟨by omega, by omega⟩)⟩
  · have f38 : ((40 : Int32)).toInt = 40 := rfl
    refine jok_eq (fun c39 d39 => ?_) (fun c39 => ?_)
    · unfold F_X3_readAtom_20
      have f40 : ((6 : Int32)).toInt = 6 := rfl
      refine jok_lt (fun c41 => ?_) (fun c41 => ?_)
      · unfold F_X3_readAtom_28
        refine jok_b2 (t_gR w ta0 rfl rfl) (fun p29_42 ep29_42 tp29_42 => ?_)
        try rw [t_cv w tp29_42 rfl]
        refine jok_b2 (S_X10_take hn hg w tp29_42) (fun q34_43 eq34_43 wq34_43 => ?_)
        obtain ⟨wq34_43, pq34_43⟩ := wq34_43
        obtain ⟨lq34_43, uq34_43⟩ := pq34_43
        have f44 : ((0 : Int32)).toInt = 0 := rfl
        refine jok_eq (fun c45 d45 => ?_) (fun c45 => ?_)
        · refine jok_b2 (t_gR wq34_43 ta0 rfl rfl) (fun p60_46 ep60_46 tp60_46 => ?_)
          try rw [t_cv wq34_43 tp60_46 rfl]
          refine jok_b2 (S_X10_take hn hg wq34_43 tp60_46) (fun q65_47 eq65_47 wq65_47 => ?_)
          obtain ⟨wq65_47, pq65_47⟩ := wq65_47
          obtain ⟨lq65_47, uq65_47⟩ := pq65_47
          refine jok_eq (fun c48 d48 => ?_) (fun c48 => ?_)
          · have f49 : ((7 : Int32)).toInt = 7 := rfl
            refine jok_lt (fun c50 => ?_) (fun c50 => ?_)
            · unfold F_X3_readAtom_128
              try rw [t_cv wq65_47 ta0 rfl]
              refine jok_b (S_X3_readComparison hn hg wq65_47 ta0) (fun q129_51 wq129_51 => ?_)
              obtain ⟨wq129_51, pq129_51⟩ := wq129_51
              obtain ⟨lq129_51, uq129_51⟩ := pq129_51
              rw [if_pos (show q129_51.1 = 0 ∨ q129_51.1 = 1 from j01 (by omega) (by omega))]
              exact jok_s ⟨wq129_51, (show jI 0 1 q129_51.1 from ⟨by omega, by omega⟩)⟩
            · have f52 : ((10 : Int32)).toInt = 10 := rfl
              refine jok_lt (fun c53 => ?_) (fun c53 => ?_)
              · unfold F_X3_readAtom_128
                try rw [t_cv wq65_47 ta0 rfl]
                refine jok_b (S_X3_readComparison hn hg wq65_47 ta0) (fun q129_54 wq129_54 => ?_)
                obtain ⟨wq129_54, pq129_54⟩ := wq129_54
                obtain ⟨lq129_54, uq129_54⟩ := pq129_54
                rw [if_pos (show q129_54.1 = 0 ∨ q129_54.1 = 1 from j01 (by omega) (by omega))]
                exact jok_s ⟨wq129_54, (show jI 0 1 q129_54.1 from ⟨by omega, by omega⟩)⟩
              · refine jok_b2 (t_gR wq65_47 ta0 rfl rfl) (fun p112_55 ep112_55 tp112_55 => ?_)
                try rw [t_cv wq65_47 tp112_55 rfl]
                refine jok_b (S_X10_skip hn hg wq65_47 tp112_55) (fun h115_56 wh115_56 => ?_)
                refine jok_b2 (t_gR wh115_56 ta0 rfl rfl) (fun p119_57 ep119_57 tp119_57 => ?_)
                try rw [t_cv wh115_56 tp119_57 rfl]
                refine jok_b (S_X2_addCode hn hg wh115_56 tp119_57) (fun h123_58 wh123_58 => ?_)
                have f59 : ((1 : Int32)).toInt = 1 := rfl
                exact jok_s ⟨wh123_58, (show jI 0 1 (1 : Int32) from ⟨by omega, by omega⟩)⟩
          · have hx6 : x1.toInt ≤ 5 := by first | omega | (have r9 := rA2 ep1_1 ep29_42 ev4_2 eq34_43 ep60_46 eq65_47 (by omega); have f11 : (11 : Int32).toInt = 11 := rfl; have f40 : (40 : Int32).toInt = 40 := rfl; omega)
            try rw [t_cv wq65_47 ta0 rfl]
            have f61 : ((1 : Int32)).toInt = 1 := rfl
            have f62 : ((x1 + (1 : Int32))).toInt = (x1).toInt + ((1 : Int32)).toInt := jadd (by omega) (by omega)
            refine jok_b (hg0 wq65_47 ta0 (by omega) (by omega) (by omega)) (fun q75_60 wq75_60 => ?_)
            obtain ⟨wq75_60, pq75_60⟩ := wq75_60
            obtain ⟨lq75_60, uq75_60⟩ := pq75_60
            refine jok_eq (fun c63 d63 => ?_) (fun c63 => ?_)
            · exact jok_s ⟨wq75_60, (show jI 0 1 (0 : Int32) from ⟨by omega, by omega⟩)⟩
            · refine jok_b2 (t_gR wq75_60 ta0 rfl rfl) (fun p82_64 ep82_64 tp82_64 => ?_)
              try rw [t_cv wq75_60 tp82_64 rfl]
              refine jok_b2 (S_X10_take hn hg wq75_60 tp82_64) (fun q87_65 eq87_65 wq87_65 => ?_)
              obtain ⟨wq87_65, pq87_65⟩ := wq87_65
              obtain ⟨lq87_65, uq87_65⟩ := pq87_65
              refine jok_eq (fun c66 d66 => ?_) (fun c66 => ?_)
              · exact jok_s ⟨wq87_65, (show jI 0 1 (0 : Int32) from ⟨by omega, by omega⟩)⟩
              · exact jok_s ⟨wq87_65, (show jI 0 1 (1 : Int32) from ⟨by omega, by omega⟩)⟩
        · have hx6 : x1.toInt ≤ 5 := by first | omega | (have r9 := rA1 ep1_1 ep29_42 ev4_2 eq34_43 (by omega); have f11 : (11 : Int32).toInt = 11 := rfl; omega)
          try rw [t_cv wq34_43 ta0 rfl]
          have f68 : ((1 : Int32)).toInt = 1 := rfl
          have f69 : ((x1 + (1 : Int32))).toInt = (x1).toInt + ((1 : Int32)).toInt := jadd (by omega) (by omega)
          refine jok_b (hg1 wq34_43 ta0 (by omega) (by omega) (by omega)) (fun q44_67 wq44_67 => ?_)
          obtain ⟨wq44_67, pq44_67⟩ := wq44_67
          obtain ⟨lq44_67, uq44_67⟩ := pq44_67
          refine jok_b2 (t_gR wq44_67 ta0 rfl rfl) (fun p49_70 ep49_70 tp49_70 => ?_)
          try rw [t_cv wq44_67 tp49_70 rfl]
          refine jok_b (S_X2_addCode hn hg wq44_67 tp49_70) (fun h54_71 wh54_71 => ?_)
          rw [if_pos (show q44_67.1 = 0 ∨ q44_67.1 = 1 from j01 (by omega) (by omega))]
          exact jok_s ⟨wh54_71, (show jI 0 1 q44_67.1 from ⟨by omega, by omega⟩)⟩
      · have f72 : ((0 : Int32)).toInt = 0 := rfl
        exact jok_s ⟨w, (show jI 0 1 (0 : Int32) from ⟨by omega, by omega⟩)⟩
    · unfold F_X3_readAtom_28
      refine jok_b2 (t_gR w ta0 rfl rfl) (fun p29_73 ep29_73 tp29_73 => ?_)
      try rw [t_cv w tp29_73 rfl]
      refine jok_b2 (S_X10_take hn hg w tp29_73) (fun q34_74 eq34_74 wq34_74 => ?_)
      obtain ⟨wq34_74, pq34_74⟩ := wq34_74
      obtain ⟨lq34_74, uq34_74⟩ := pq34_74
      have f75 : ((0 : Int32)).toInt = 0 := rfl
      refine jok_eq (fun c76 d76 => ?_) (fun c76 => ?_)
      · refine jok_b2 (t_gR wq34_74 ta0 rfl rfl) (fun p60_77 ep60_77 tp60_77 => ?_)
        try rw [t_cv wq34_74 tp60_77 rfl]
        refine jok_b2 (S_X10_take hn hg wq34_74 tp60_77) (fun q65_78 eq65_78 wq65_78 => ?_)
        obtain ⟨wq65_78, pq65_78⟩ := wq65_78
        obtain ⟨lq65_78, uq65_78⟩ := pq65_78
        refine jok_eq (fun c79 d79 => ?_) (fun c79 => ?_)
        · have f80 : ((7 : Int32)).toInt = 7 := rfl
          refine jok_lt (fun c81 => ?_) (fun c81 => ?_)
          · unfold F_X3_readAtom_128
            try rw [t_cv wq65_78 ta0 rfl]
            refine jok_b (S_X3_readComparison hn hg wq65_78 ta0) (fun q129_82 wq129_82 => ?_)
            obtain ⟨wq129_82, pq129_82⟩ := wq129_82
            obtain ⟨lq129_82, uq129_82⟩ := pq129_82
            rw [if_pos (show q129_82.1 = 0 ∨ q129_82.1 = 1 from j01 (by omega) (by omega))]
            exact jok_s ⟨wq129_82, (show jI 0 1 q129_82.1 from ⟨by omega, by omega⟩)⟩
          · have f83 : ((10 : Int32)).toInt = 10 := rfl
            refine jok_lt (fun c84 => ?_) (fun c84 => ?_)
            · unfold F_X3_readAtom_128
              try rw [t_cv wq65_78 ta0 rfl]
              refine jok_b (S_X3_readComparison hn hg wq65_78 ta0) (fun q129_85 wq129_85 => ?_)
              obtain ⟨wq129_85, pq129_85⟩ := wq129_85
              obtain ⟨lq129_85, uq129_85⟩ := pq129_85
              rw [if_pos (show q129_85.1 = 0 ∨ q129_85.1 = 1 from j01 (by omega) (by omega))]
              exact jok_s ⟨wq129_85, (show jI 0 1 q129_85.1 from ⟨by omega, by omega⟩)⟩
            · refine jok_b2 (t_gR wq65_78 ta0 rfl rfl) (fun p112_86 ep112_86 tp112_86 => ?_)
              try rw [t_cv wq65_78 tp112_86 rfl]
              refine jok_b (S_X10_skip hn hg wq65_78 tp112_86) (fun h115_87 wh115_87 => ?_)
              refine jok_b2 (t_gR wh115_87 ta0 rfl rfl) (fun p119_88 ep119_88 tp119_88 => ?_)
              try rw [t_cv wh115_87 tp119_88 rfl]
              refine jok_b (S_X2_addCode hn hg wh115_87 tp119_88) (fun h123_89 wh123_89 => ?_)
              have f90 : ((1 : Int32)).toInt = 1 := rfl
              exact jok_s ⟨wh123_89, (show jI 0 1 (1 : Int32) from ⟨by omega, by omega⟩)⟩
        · have hx6 : x1.toInt ≤ 5 := by first | omega | (have r9 := rA2 ep1_1 ep29_73 ev4_2 eq34_74 ep60_77 eq65_78 (by omega); have f11 : (11 : Int32).toInt = 11 := rfl; have f40 : (40 : Int32).toInt = 40 := rfl; omega)
          try rw [t_cv wq65_78 ta0 rfl]
          have f92 : ((1 : Int32)).toInt = 1 := rfl
          have f93 : ((x1 + (1 : Int32))).toInt = (x1).toInt + ((1 : Int32)).toInt := jadd (by omega) (by omega)
          refine jok_b (hg0 wq65_78 ta0 (by omega) (by omega) (by omega)) (fun q75_91 wq75_91 => ?_)
          obtain ⟨wq75_91, pq75_91⟩ := wq75_91
          obtain ⟨lq75_91, uq75_91⟩ := pq75_91
          refine jok_eq (fun c94 d94 => ?_) (fun c94 => ?_)
          · exact jok_s ⟨wq75_91, (show jI 0 1 (0 : Int32) from ⟨by omega, by omega⟩)⟩
          · refine jok_b2 (t_gR wq75_91 ta0 rfl rfl) (fun p82_95 ep82_95 tp82_95 => ?_)
            try rw [t_cv wq75_91 tp82_95 rfl]
            refine jok_b2 (S_X10_take hn hg wq75_91 tp82_95) (fun q87_96 eq87_96 wq87_96 => ?_)
            obtain ⟨wq87_96, pq87_96⟩ := wq87_96
            obtain ⟨lq87_96, uq87_96⟩ := pq87_96
            refine jok_eq (fun c97 d97 => ?_) (fun c97 => ?_)
            · exact jok_s ⟨wq87_96, (show jI 0 1 (0 : Int32) from ⟨by omega, by omega⟩)⟩
            · exact jok_s ⟨wq87_96, (show jI 0 1 (1 : Int32) from ⟨by omega, by omega⟩)⟩
      · have hx6 : x1.toInt ≤ 5 := by first | omega | (have r9 := rA1 ep1_1 ep29_73 ev4_2 eq34_74 (by omega); have f11 : (11 : Int32).toInt = 11 := rfl; omega)
        try rw [t_cv wq34_74 ta0 rfl]
        have f99 : ((1 : Int32)).toInt = 1 := rfl
        have f100 : ((x1 + (1 : Int32))).toInt = (x1).toInt + ((1 : Int32)).toInt := jadd (by omega) (by omega)
        refine jok_b (hg1 wq34_74 ta0 (by omega) (by omega) (by omega)) (fun q44_98 wq44_98 => ?_)
        obtain ⟨wq44_98, pq44_98⟩ := wq44_98
        obtain ⟨lq44_98, uq44_98⟩ := pq44_98
        refine jok_b2 (t_gR wq44_98 ta0 rfl rfl) (fun p49_101 ep49_101 tp49_101 => ?_)
        try rw [t_cv wq44_98 tp49_101 rfl]
        refine jok_b (S_X2_addCode hn hg wq44_98 tp49_101) (fun h54_102 wh54_102 => ?_)
        rw [if_pos (show q44_98.1 = 0 ∨ q44_98.1 = 1 from j01 (by omega) (by omega))]
        exact jok_s ⟨wh54_102, (show jI 0 1 q44_98.1 from ⟨by omega, by omega⟩)⟩
theorem S_FG_RC {g : jGh} {Γ : Nat → Option Nat} {n : Nat} (hn : 6000 ≤ n) (hg : jgok g) (d : Nat) :
    (∀ {a0 : Nat} {x1 : Int32} {h : jH}, jW (jKd g) Γ h → Γ a0 = some 14 → 0 ≤ x1.toInt → x1.toInt ≤ 6 → (14 : Int) - 2 * x1.toInt ≤ (d : Int) → jok (FG_RC n d 0 a0 x1 h) (fun q => jW (jKd g) Γ q.2 ∧ (fun v : Int32 => 0 ≤ v.toInt ∧ v.toInt ≤ 1) q.1)) ∧
    (∀ {a0 : Nat} {x1 : Int32} {h : jH}, jW (jKd g) Γ h → Γ a0 = some 14 → 0 ≤ x1.toInt → x1.toInt ≤ 6 → (13 : Int) - 2 * x1.toInt ≤ (d : Int) → jok (FG_RC n d 1 a0 x1 h) (fun q => jW (jKd g) Γ q.2 ∧ (fun v : Int32 => 0 ≤ v.toInt ∧ v.toInt ≤ 1) q.1)) := by
  induction d with
  | zero =>
    refine ⟨?_, ?_⟩ <;> intro a0 x1 h w t l u m <;> omega
  | succ d ih =>
    obtain ⟨i0, i1⟩ := ih
    refine ⟨?_, ?_⟩
    · intro a0 x1 h w t l u m
      show jok (F_X3_readCondition n (FG_RC n d 0) (FG_RC n d 1) a0 x1 h) _
      exact S_X3_readCondition hn hg (fun {a0} {x1} {h} => i0) (fun {a0} {x1} {h} => i1) w t l u (by omega)
    · intro a0 x1 h w t l u m
      show jok (F_X3_readAtom n (FG_RC n d 0) (FG_RC n d 1) a0 x1 h) _
      exact S_X3_readAtom hn hg (fun {a0} {x1} {h} => i0) (fun {a0} {x1} {h} => i1) w t l u (by omega)
theorem S_FG_RC_0 {g : jGh} {Γ : Nat → Option Nat} {n : Nat} {a0 : Nat} {x1 : Int32} {h : jH} (hn : 6000 ≤ n) (hg : jgok g) (w : jW (jKd g) Γ h) (ta0 : Γ a0 = some 14) (l : 0 ≤ x1.toInt) (u : x1.toInt ≤ 6) (m : (14 : Int) - 2 * x1.toInt ≤ 20) : jok (FG_RC n 20 0 a0 x1 h) (fun q => jW (jKd g) Γ q.2 ∧ (fun v : Int32 => 0 ≤ v.toInt ∧ v.toInt ≤ 1) q.1) :=
  (S_FG_RC hn hg 20).1 w ta0 l u m
set_option maxHeartbeats 1000000 in
theorem S_X3_readLine {g : jGh} {Γ : Nat → Option Nat} {n : Nat} {a0 : Nat} {h : jH} (hn : 6000 ≤ n) (hg : jgok g) (w : jW (jKd g) Γ h) (ta0 : Γ a0 = some 14) : jok (F_X3_readLine n a0 h) (fun q => jW (jKd g) Γ q.2 ∧ (fun v : Int32 => 0 ≤ v.toInt ∧ v.toInt ≤ 1) q.1) := by
  unfold F_X3_readLine
  refine jok_b (t_gR w ta0 rfl rfl) (fun p1_1 tp1_1 => ?_)
  try rw [t_cv w tp1_1 rfl]
  refine jok_b (S_X10_kind hn hg w tp1_1) (fun v4_2 pv4_2 => ?_)
  have f3 : ((3 : Int32)).toInt = 3 := rfl
  refine jok_eq (fun c4 d4 => ?_) (fun c4 => ?_)
  · unfold F_X3_readLine_27
    refine jok_b (t_gR w ta0 rfl rfl) (fun p28_5 tp28_5 => ?_)
    try rw [t_cv w tp28_5 rfl]
    refine jok_b (S_X10_skip hn hg w tp28_5) (fun h31_6 wh31_6 => ?_)
    refine jok_b (t_gR wh31_6 ta0 rfl rfl) (fun p35_7 tp35_7 => ?_)
    try rw [t_cv wh31_6 tp35_7 rfl]
    refine jok_b (S_X10_takeNumber hn hg wh31_6 tp35_7) (fun q41_8 wq41_8 => ?_)
    obtain ⟨wq41_8, pq41_8⟩ := wq41_8
    have f9 : ((-1 : Int32)).toInt = -1 := rfl
    refine jok_eq (fun c10 d10 => ?_) (fun c10 => ?_)
    · have f11 : ((0 : Int32)).toInt = 0 := rfl
      exact jok_s ⟨wq41_8, (show jI 0 1 (0 : Int32) from ⟨by omega, by omega⟩)⟩
    · refine jok_b (t_gR wq41_8 ta0 rfl rfl) (fun p53_12 tp53_12 => ?_)
      refine jok_eq (fun c13 d13 => ?_) (fun c13 => ?_)
      · unfold F_X3_readLine_76
        try rw [t_cv wq41_8 tp53_12 rfl]
        refine jok_b (S_X2_addLine hn hg wq41_8 tp53_12) (fun h77_14 wh77_14 => ?_)
        refine jok_b (t_gR wh77_14 ta0 rfl rfl) (fun p81_15 tp81_15 => ?_)
        try rw [t_cv wh77_14 tp81_15 rfl]
        refine jok_b (S_X10_take hn hg wh77_14 tp81_15) (fun q86_16 wq86_16 => ?_)
        obtain ⟨wq86_16, pq86_16⟩ := wq86_16
        obtain ⟨lq86_16, uq86_16⟩ := pq86_16
        have f17 : ((0 : Int32)).toInt = 0 := rfl
        refine jok_eq (fun c18 d18 => ?_) (fun c18 => ?_)
        · have f19 : ((1 : Int32)).toInt = 1 := rfl
          exact jok_s ⟨wq86_16, (show jI 0 1 (1 : Int32) from ⟨by omega, by omega⟩)⟩
        · try rw [t_cv wq86_16 ta0 rfl]
          refine jok_b (S_FG_RC_0 hn hg wq86_16 ta0 (by omega) (by omega) (by omega)) (fun q94_20 wq94_20 => ?_)
          obtain ⟨wq94_20, pq94_20⟩ := wq94_20
          obtain ⟨lq94_20, uq94_20⟩ := pq94_20
          refine jok_eq (fun c21 d21 => ?_) (fun c21 => ?_)
          · exact jok_s ⟨wq94_20, (show jI 0 1 (0 : Int32) from ⟨by omega, by omega⟩)⟩
          · have f22 : ((1 : Int32)).toInt = 1 := rfl
            exact jok_s ⟨wq94_20, (show jI 0 1 (1 : Int32) from ⟨by omega, by omega⟩)⟩
      · have f23 : ((15 : Int32)).toInt = 15 := rfl
        refine jok_eq (fun c24 d24 => ?_) (fun c24 => ?_)
        · unfold F_X3_readLine_76
          try rw [t_cv wq41_8 tp53_12 rfl]
          refine jok_b (S_X2_addLine hn hg wq41_8 tp53_12) (fun h77_25 wh77_25 => ?_)
          refine jok_b (t_gR wh77_25 ta0 rfl rfl) (fun p81_26 tp81_26 => ?_)
          try rw [t_cv wh77_25 tp81_26 rfl]
          refine jok_b (S_X10_take hn hg wh77_25 tp81_26) (fun q86_27 wq86_27 => ?_)
          obtain ⟨wq86_27, pq86_27⟩ := wq86_27
          obtain ⟨lq86_27, uq86_27⟩ := pq86_27
          have f28 : ((0 : Int32)).toInt = 0 := rfl
          refine jok_eq (fun c29 d29 => ?_) (fun c29 => ?_)
          · have f30 : ((1 : Int32)).toInt = 1 := rfl
            exact jok_s ⟨wq86_27, (show jI 0 1 (1 : Int32) from ⟨by omega, by omega⟩)⟩
          · try rw [t_cv wq86_27 ta0 rfl]
            refine jok_b (S_FG_RC_0 hn hg wq86_27 ta0 (by omega) (by omega) (by omega)) (fun q94_31 wq94_31 => ?_)
            obtain ⟨wq94_31, pq94_31⟩ := wq94_31
            obtain ⟨lq94_31, uq94_31⟩ := pq94_31
            refine jok_eq (fun c32 d32 => ?_) (fun c32 => ?_)
            · exact jok_s ⟨wq94_31, (show jI 0 1 (0 : Int32) from ⟨by omega, by omega⟩)⟩
            · have f33 : ((1 : Int32)).toInt = 1 := rfl
              exact jok_s ⟨wq94_31, (show jI 0 1 (1 : Int32) from ⟨by omega, by omega⟩)⟩
        · unfold F_X3_readLine_76
          try rw [t_cv wq41_8 tp53_12 rfl]
          refine jok_b (S_X2_addLine hn hg wq41_8 tp53_12) (fun h77_34 wh77_34 => ?_)
          refine jok_b (t_gR wh77_34 ta0 rfl rfl) (fun p81_35 tp81_35 => ?_)
          try rw [t_cv wh77_34 tp81_35 rfl]
          refine jok_b (S_X10_take hn hg wh77_34 tp81_35) (fun q86_36 wq86_36 => ?_)
          obtain ⟨wq86_36, pq86_36⟩ := wq86_36
          obtain ⟨lq86_36, uq86_36⟩ := pq86_36
          have f37 : ((0 : Int32)).toInt = 0 := rfl
          refine jok_eq (fun c38 d38 => ?_) (fun c38 => ?_)
          · have f39 : ((1 : Int32)).toInt = 1 := rfl
            exact jok_s ⟨wq86_36, (show jI 0 1 (1 : Int32) from ⟨by omega, by omega⟩)⟩
          · try rw [t_cv wq86_36 ta0 rfl]
            refine jok_b (S_FG_RC_0 hn hg wq86_36 ta0 (by omega) (by omega) (by omega)) (fun q94_40 wq94_40 => ?_)
            obtain ⟨wq94_40, pq94_40⟩ := wq94_40
            obtain ⟨lq94_40, uq94_40⟩ := pq94_40
            refine jok_eq (fun c41 d41 => ?_) (fun c41 => ?_)
            · exact jok_s ⟨wq94_40, (show jI 0 1 (0 : Int32) from ⟨by omega, by omega⟩)⟩
            · have f42 : ((1 : Int32)).toInt = 1 := rfl
              exact jok_s ⟨wq94_40, (show jI 0 1 (1 : Int32) from ⟨by omega, by omega⟩)⟩
  · have f43 : ((15 : Int32)).toInt = 15 := rfl
    refine jok_eq (fun c44 d44 => ?_) (fun c44 => ?_)
    · unfold F_X3_readLine_27
      refine jok_b (t_gR w ta0 rfl rfl) (fun p28_45 tp28_45 => ?_)
      try rw [t_cv w tp28_45 rfl]
      refine jok_b (S_X10_skip hn hg w tp28_45) (fun h31_46 wh31_46 => ?_)
      refine jok_b (t_gR wh31_46 ta0 rfl rfl) (fun p35_47 tp35_47 => ?_)
      try rw [t_cv wh31_46 tp35_47 rfl]
      refine jok_b (S_X10_takeNumber hn hg wh31_46 tp35_47) (fun q41_48 wq41_48 => ?_)
      obtain ⟨wq41_48, pq41_48⟩ := wq41_48
      have f49 : ((-1 : Int32)).toInt = -1 := rfl
      refine jok_eq (fun c50 d50 => ?_) (fun c50 => ?_)
      · have f51 : ((0 : Int32)).toInt = 0 := rfl
        exact jok_s ⟨wq41_48, (show jI 0 1 (0 : Int32) from ⟨by omega, by omega⟩)⟩
      · refine jok_b (t_gR wq41_48 ta0 rfl rfl) (fun p53_52 tp53_52 => ?_)
        refine jok_eq (fun c53 d53 => ?_) (fun c53 => ?_)
        · unfold F_X3_readLine_76
          try rw [t_cv wq41_48 tp53_52 rfl]
          refine jok_b (S_X2_addLine hn hg wq41_48 tp53_52) (fun h77_54 wh77_54 => ?_)
          refine jok_b (t_gR wh77_54 ta0 rfl rfl) (fun p81_55 tp81_55 => ?_)
          try rw [t_cv wh77_54 tp81_55 rfl]
          refine jok_b (S_X10_take hn hg wh77_54 tp81_55) (fun q86_56 wq86_56 => ?_)
          obtain ⟨wq86_56, pq86_56⟩ := wq86_56
          obtain ⟨lq86_56, uq86_56⟩ := pq86_56
          have f57 : ((0 : Int32)).toInt = 0 := rfl
          refine jok_eq (fun c58 d58 => ?_) (fun c58 => ?_)
          · have f59 : ((1 : Int32)).toInt = 1 := rfl
            exact jok_s ⟨wq86_56, (show jI 0 1 (1 : Int32) from ⟨by omega, by omega⟩)⟩
          · try rw [t_cv wq86_56 ta0 rfl]
            refine jok_b (S_FG_RC_0 hn hg wq86_56 ta0 (by omega) (by omega) (by omega)) (fun q94_60 wq94_60 => ?_)
            obtain ⟨wq94_60, pq94_60⟩ := wq94_60
            obtain ⟨lq94_60, uq94_60⟩ := pq94_60
            refine jok_eq (fun c61 d61 => ?_) (fun c61 => ?_)
            · exact jok_s ⟨wq94_60, (show jI 0 1 (0 : Int32) from ⟨by omega, by omega⟩)⟩
            · have f62 : ((1 : Int32)).toInt = 1 := rfl
              exact jok_s ⟨wq94_60, (show jI 0 1 (1 : Int32) from ⟨by omega, by omega⟩)⟩
        · refine jok_eq (fun c63 d63 => ?_) (fun c63 => ?_)
          · unfold F_X3_readLine_76
            try rw [t_cv wq41_48 tp53_52 rfl]
            refine jok_b (S_X2_addLine hn hg wq41_48 tp53_52) (fun h77_64 wh77_64 => ?_)
            refine jok_b (t_gR wh77_64 ta0 rfl rfl) (fun p81_65 tp81_65 => ?_)
            try rw [t_cv wh77_64 tp81_65 rfl]
            refine jok_b (S_X10_take hn hg wh77_64 tp81_65) (fun q86_66 wq86_66 => ?_)
            obtain ⟨wq86_66, pq86_66⟩ := wq86_66
            obtain ⟨lq86_66, uq86_66⟩ := pq86_66
            have f67 : ((0 : Int32)).toInt = 0 := rfl
            refine jok_eq (fun c68 d68 => ?_) (fun c68 => ?_)
            · have f69 : ((1 : Int32)).toInt = 1 := rfl
              exact jok_s ⟨wq86_66, (show jI 0 1 (1 : Int32) from ⟨by omega, by omega⟩)⟩
            · try rw [t_cv wq86_66 ta0 rfl]
              refine jok_b (S_FG_RC_0 hn hg wq86_66 ta0 (by omega) (by omega) (by omega)) (fun q94_70 wq94_70 => ?_)
              obtain ⟨wq94_70, pq94_70⟩ := wq94_70
              obtain ⟨lq94_70, uq94_70⟩ := pq94_70
              refine jok_eq (fun c71 d71 => ?_) (fun c71 => ?_)
              · exact jok_s ⟨wq94_70, (show jI 0 1 (0 : Int32) from ⟨by omega, by omega⟩)⟩
              · have f72 : ((1 : Int32)).toInt = 1 := rfl
                exact jok_s ⟨wq94_70, (show jI 0 1 (1 : Int32) from ⟨by omega, by omega⟩)⟩
          · unfold F_X3_readLine_76
            try rw [t_cv wq41_48 tp53_52 rfl]
            refine jok_b (S_X2_addLine hn hg wq41_48 tp53_52) (fun h77_73 wh77_73 => ?_)
            refine jok_b (t_gR wh77_73 ta0 rfl rfl) (fun p81_74 tp81_74 => ?_)
            try rw [t_cv wh77_73 tp81_74 rfl]
            refine jok_b (S_X10_take hn hg wh77_73 tp81_74) (fun q86_75 wq86_75 => ?_)
            obtain ⟨wq86_75, pq86_75⟩ := wq86_75
            obtain ⟨lq86_75, uq86_75⟩ := pq86_75
            have f76 : ((0 : Int32)).toInt = 0 := rfl
            refine jok_eq (fun c77 d77 => ?_) (fun c77 => ?_)
            · have f78 : ((1 : Int32)).toInt = 1 := rfl
              exact jok_s ⟨wq86_75, (show jI 0 1 (1 : Int32) from ⟨by omega, by omega⟩)⟩
            · try rw [t_cv wq86_75 ta0 rfl]
              refine jok_b (S_FG_RC_0 hn hg wq86_75 ta0 (by omega) (by omega) (by omega)) (fun q94_79 wq94_79 => ?_)
              obtain ⟨wq94_79, pq94_79⟩ := wq94_79
              obtain ⟨lq94_79, uq94_79⟩ := pq94_79
              refine jok_eq (fun c80 d80 => ?_) (fun c80 => ?_)
              · exact jok_s ⟨wq94_79, (show jI 0 1 (0 : Int32) from ⟨by omega, by omega⟩)⟩
              · have f81 : ((1 : Int32)).toInt = 1 := rfl
                exact jok_s ⟨wq94_79, (show jI 0 1 (1 : Int32) from ⟨by omega, by omega⟩)⟩
    · have f82 : ((16 : Int32)).toInt = 16 := rfl
      refine jok_eq (fun c83 d83 => ?_) (fun c83 => ?_)
      · unfold F_X3_readLine_27
        refine jok_b (t_gR w ta0 rfl rfl) (fun p28_84 tp28_84 => ?_)
        try rw [t_cv w tp28_84 rfl]
        refine jok_b (S_X10_skip hn hg w tp28_84) (fun h31_85 wh31_85 => ?_)
        refine jok_b (t_gR wh31_85 ta0 rfl rfl) (fun p35_86 tp35_86 => ?_)
        try rw [t_cv wh31_85 tp35_86 rfl]
        refine jok_b (S_X10_takeNumber hn hg wh31_85 tp35_86) (fun q41_87 wq41_87 => ?_)
        obtain ⟨wq41_87, pq41_87⟩ := wq41_87
        have f88 : ((-1 : Int32)).toInt = -1 := rfl
        refine jok_eq (fun c89 d89 => ?_) (fun c89 => ?_)
        · have f90 : ((0 : Int32)).toInt = 0 := rfl
          exact jok_s ⟨wq41_87, (show jI 0 1 (0 : Int32) from ⟨by omega, by omega⟩)⟩
        · refine jok_b (t_gR wq41_87 ta0 rfl rfl) (fun p53_91 tp53_91 => ?_)
          refine jok_eq (fun c92 d92 => ?_) (fun c92 => ?_)
          · unfold F_X3_readLine_76
            try rw [t_cv wq41_87 tp53_91 rfl]
            refine jok_b (S_X2_addLine hn hg wq41_87 tp53_91) (fun h77_93 wh77_93 => ?_)
            refine jok_b (t_gR wh77_93 ta0 rfl rfl) (fun p81_94 tp81_94 => ?_)
            try rw [t_cv wh77_93 tp81_94 rfl]
            refine jok_b (S_X10_take hn hg wh77_93 tp81_94) (fun q86_95 wq86_95 => ?_)
            obtain ⟨wq86_95, pq86_95⟩ := wq86_95
            obtain ⟨lq86_95, uq86_95⟩ := pq86_95
            have f96 : ((0 : Int32)).toInt = 0 := rfl
            refine jok_eq (fun c97 d97 => ?_) (fun c97 => ?_)
            · have f98 : ((1 : Int32)).toInt = 1 := rfl
              exact jok_s ⟨wq86_95, (show jI 0 1 (1 : Int32) from ⟨by omega, by omega⟩)⟩
            · try rw [t_cv wq86_95 ta0 rfl]
              refine jok_b (S_FG_RC_0 hn hg wq86_95 ta0 (by omega) (by omega) (by omega)) (fun q94_99 wq94_99 => ?_)
              obtain ⟨wq94_99, pq94_99⟩ := wq94_99
              obtain ⟨lq94_99, uq94_99⟩ := pq94_99
              refine jok_eq (fun c100 d100 => ?_) (fun c100 => ?_)
              · exact jok_s ⟨wq94_99, (show jI 0 1 (0 : Int32) from ⟨by omega, by omega⟩)⟩
              · have f101 : ((1 : Int32)).toInt = 1 := rfl
                exact jok_s ⟨wq94_99, (show jI 0 1 (1 : Int32) from ⟨by omega, by omega⟩)⟩
          · refine jok_eq (fun c102 d102 => ?_) (fun c102 => ?_)
            · unfold F_X3_readLine_76
              try rw [t_cv wq41_87 tp53_91 rfl]
              refine jok_b (S_X2_addLine hn hg wq41_87 tp53_91) (fun h77_103 wh77_103 => ?_)
              refine jok_b (t_gR wh77_103 ta0 rfl rfl) (fun p81_104 tp81_104 => ?_)
              try rw [t_cv wh77_103 tp81_104 rfl]
              refine jok_b (S_X10_take hn hg wh77_103 tp81_104) (fun q86_105 wq86_105 => ?_)
              obtain ⟨wq86_105, pq86_105⟩ := wq86_105
              obtain ⟨lq86_105, uq86_105⟩ := pq86_105
              have f106 : ((0 : Int32)).toInt = 0 := rfl
              refine jok_eq (fun c107 d107 => ?_) (fun c107 => ?_)
              · have f108 : ((1 : Int32)).toInt = 1 := rfl
                exact jok_s ⟨wq86_105, (show jI 0 1 (1 : Int32) from ⟨by omega, by omega⟩)⟩
              · try rw [t_cv wq86_105 ta0 rfl]
                refine jok_b (S_FG_RC_0 hn hg wq86_105 ta0 (by omega) (by omega) (by omega)) (fun q94_109 wq94_109 => ?_)
                obtain ⟨wq94_109, pq94_109⟩ := wq94_109
                obtain ⟨lq94_109, uq94_109⟩ := pq94_109
                refine jok_eq (fun c110 d110 => ?_) (fun c110 => ?_)
                · exact jok_s ⟨wq94_109, (show jI 0 1 (0 : Int32) from ⟨by omega, by omega⟩)⟩
                · have f111 : ((1 : Int32)).toInt = 1 := rfl
                  exact jok_s ⟨wq94_109, (show jI 0 1 (1 : Int32) from ⟨by omega, by omega⟩)⟩
            · unfold F_X3_readLine_76
              try rw [t_cv wq41_87 tp53_91 rfl]
              refine jok_b (S_X2_addLine hn hg wq41_87 tp53_91) (fun h77_112 wh77_112 => ?_)
              refine jok_b (t_gR wh77_112 ta0 rfl rfl) (fun p81_113 tp81_113 => ?_)
              try rw [t_cv wh77_112 tp81_113 rfl]
              refine jok_b (S_X10_take hn hg wh77_112 tp81_113) (fun q86_114 wq86_114 => ?_)
              obtain ⟨wq86_114, pq86_114⟩ := wq86_114
              obtain ⟨lq86_114, uq86_114⟩ := pq86_114
              have f115 : ((0 : Int32)).toInt = 0 := rfl
              refine jok_eq (fun c116 d116 => ?_) (fun c116 => ?_)
              · have f117 : ((1 : Int32)).toInt = 1 := rfl
                exact jok_s ⟨wq86_114, (show jI 0 1 (1 : Int32) from ⟨by omega, by omega⟩)⟩
              · try rw [t_cv wq86_114 ta0 rfl]
                refine jok_b (S_FG_RC_0 hn hg wq86_114 ta0 (by omega) (by omega) (by omega)) (fun q94_118 wq94_118 => ?_)
                obtain ⟨wq94_118, pq94_118⟩ := wq94_118
                obtain ⟨lq94_118, uq94_118⟩ := pq94_118
                refine jok_eq (fun c119 d119 => ?_) (fun c119 => ?_)
                · exact jok_s ⟨wq94_118, (show jI 0 1 (0 : Int32) from ⟨by omega, by omega⟩)⟩
                · have f120 : ((1 : Int32)).toInt = 1 := rfl
                  exact jok_s ⟨wq94_118, (show jI 0 1 (1 : Int32) from ⟨by omega, by omega⟩)⟩
      · have f121 : ((0 : Int32)).toInt = 0 := rfl
        exact jok_s ⟨w, (show jI 0 1 (0 : Int32) from ⟨by omega, by omega⟩)⟩
set_option maxHeartbeats 1000000 in
theorem S_X4_read_L_22 {g : jGh} {Γ : Nat → Option Nat} {n : Nat} (hn : 6000 ≤ n) (hg : jgok g)  (k : Nat) : ∀ {a0 : Nat} {x1 : Int32} {h : jH}, jW (jKd g) Γ h → (Γ a0 = some 14) → (0 ≤ x1.toInt) → (x1.toInt ≤ 12) → (12 : Int) - x1.toInt < (k : Int) → jok (F_X4_read_L_22 n k a0 x1 h) (fun q => jW (jKd g) Γ q.2 ∧ (fun v : Int32 => True) q.1) := by
  induction k with
  | zero =>
    intro a0 x1 h w ta0 lx1 ux1 mk
    omega
  | succ k ih =>
    intro a0 x1 h w ta0 lx1 ux1 mk
    show jok (F_X4_read_L_22_b n (F_X4_read_L_22 n k) a0 x1 h) _
    unfold F_X4_read_L_22_b
    refine jok_b2 (t_gI w ta0 rfl rfl) (fun v24_1 ev24_1 pv24_1 => ?_)
    obtain ⟨lv24_1, uv24_1⟩ := pv24_1
    refine jok_le (fun c2 => ?_) (fun c2 => ?_)
    · refine jok_b (t_gR w ta0 rfl rfl) (fun p85_3 tp85_3 => ?_)
      try rw [t_cv w tp85_3 rfl]
      refine jok_b (S_X10_start hn hg w tp85_3) (fun v88_4 pv88_4 => ?_)
      exact jok_s ⟨w, trivial⟩
    · try rw [t_cv w ta0 rfl]
      refine jok_b (S_X3_readLine hn hg w ta0) (fun q31_5 wq31_5 => ?_)
      obtain ⟨wq31_5, pq31_5⟩ := wq31_5
      obtain ⟨lq31_5, uq31_5⟩ := pq31_5
      have f6 : ((0 : Int32)).toInt = 0 := rfl
      refine jok_eq (fun c7 d7 => ?_) (fun c7 => ?_)
      · refine jok_b (t_gR wq31_5 ta0 rfl rfl) (fun p38_8 tp38_8 => ?_)
        try rw [t_cv wq31_5 tp38_8 rfl]
        refine jok_b (S_X10_start hn hg wq31_5 tp38_8) (fun v41_9 pv41_9 => ?_)
        exact jok_s ⟨wq31_5, trivial⟩
      · refine jok_b (t_gR wq31_5 ta0 rfl rfl) (fun p46_10 tp46_10 => ?_)
        try rw [t_cv wq31_5 tp46_10 rfl]
        refine jok_b (S_X10_kind hn hg wq31_5 tp46_10) (fun v49_11 pv49_11 => ?_)
        have f12 : ((-1 : Int32)).toInt = -1 := rfl
        refine jok_eq (fun c13 d13 => ?_) (fun c13 => ?_)
        · exact jok_s ⟨wq31_5, trivial⟩
        · refine jok_b (t_gR wq31_5 ta0 rfl rfl) (fun p59_14 tp59_14 => ?_)
          try rw [t_cv wq31_5 tp59_14 rfl]
          refine jok_b (S_X10_take hn hg wq31_5 tp59_14) (fun q64_15 wq64_15 => ?_)
          obtain ⟨wq64_15, pq64_15⟩ := wq64_15
          obtain ⟨lq64_15, uq64_15⟩ := pq64_15
          refine jok_eq (fun c16 d16 => ?_) (fun c16 => ?_)
          · refine jok_b (t_gR wq64_15 ta0 rfl rfl) (fun p71_17 tp71_17 => ?_)
            try rw [t_cv wq64_15 tp71_17 rfl]
            refine jok_b (S_X10_start hn hg wq64_15 tp71_17) (fun v74_18 pv74_18 => ?_)
            exact jok_s ⟨wq64_15, trivial⟩
          · have f19 : ((1 : Int32)).toInt = 1 := rfl
            have f20 : ((x1 + (1 : Int32))).toInt = (x1).toInt + ((1 : Int32)).toInt := jadd (by omega) (by omega)
            exact ih wq64_15 ta0 (by omega) (by omega) (by omega)
set_option maxHeartbeats 1000000 in
theorem S_X4_read_L {g : jGh} {Γ : Nat → Option Nat} {n : Nat} {a0 : Nat} {h : jH} (hn : 6000 ≤ n) (hg : jgok g) (w : jW (jKd g) Γ h) (ta0 : Γ a0 = some 14) : jok (F_X4_read_L n a0 h) (fun q => jW (jKd g) Γ q.2 ∧ (fun v : Int32 => True) q.1) := by
  unfold F_X4_read_L
  refine jok_b (t_gR w ta0 rfl rfl) (fun p1_1 tp1_1 => ?_)
  try rw [t_cv w tp1_1 rfl]
  refine jok_b (S_X10_scan hn hg w tp1_1) (fun h4_2 wh4_2 => ?_)
  refine jok_b (t_gR wh4_2 ta0 rfl rfl) (fun p8_3 tp8_3 => ?_)
  try rw [t_cv wh4_2 tp8_3 rfl]
  refine jok_b (S_X10_kind hn hg wh4_2 tp8_3) (fun v11_4 pv11_4 => ?_)
  have f5 : ((-1 : Int32)).toInt = -1 := rfl
  refine jok_eq (fun c6 d6 => ?_) (fun c6 => ?_)
  · exact jok_s ⟨wh4_2, trivial⟩
  · have f7 : ((0 : Int32)).toInt = 0 := rfl
    exact S_X4_read_L_22 hn hg  n wh4_2 ta0 (by omega) (by omega) (by omega)
def jrowsF (g : jGh) (y : Int) : Prop := ∀ x : Int32, y ≤ x.toInt → x.toInt < g.1 → x.toInt % 4 = 0 → 0 ≤ (jat g x).toInt ∧ (jat g x).toInt ≤ 7 ∧ 1 ≤ (jat g (x + (2 : Int32))).toInt ∧ (jat g (x + (2 : Int32))).toInt ≤ 31
theorem jrows_step {g : jGh} {x2 : Int32} (hm : x2.toInt % 4 = 0) (hx : 0 ≤ (jat g x2).toInt ∧ (jat g x2).toInt ≤ 7 ∧ 1 ≤ (jat g (x2 + (2 : Int32))).toInt ∧ (jat g (x2 + (2 : Int32))).toInt ≤ 31) (hr : jrowsF g (x2.toInt + 4)) : jrowsF g x2.toInt := by
  intro x h0 h1 h2
  by_cases q : x.toInt = x2.toInt
  · cases Int32.toInt_inj.mp q
    exact hx
  · exact hr x (by omega) h1 h2
set_option maxHeartbeats 1000000 in
theorem S_X7_areRows_29 {g : jGh} {Γ : Nat → Option Nat} {n : Nat} (hn : 6000 ≤ n) (hg : jgok g)  (k : Nat) : ∀ {a0 : Nat} {x1 : Int32} {x2 : Int32} {h : jH}, jW (jKd g) Γ h → (Γ a0 = some 18) → (0 ≤ x1.toInt) → (x1.toInt ≤ 8) → (0 ≤ x2.toInt) → (x2.toInt ≤ 400) → (400 : Int) - x2.toInt < (k : Int) → (x2.toInt % 4 = 0) → jok (F_X7_areRows_29 n k a0 x1 x2 h) (fun v => 0 ≤ v.toInt ∧ v.toInt ≤ 1 ∧ (v.toInt = 1 → jrowsF g x2.toInt)) := by
  induction k with
  | zero =>
    intro a0 x1 x2 h w ta0 lx1 ux1 lx2 ux2 mk hm
    omega
  | succ k ih =>
    intro a0 x1 x2 h w ta0 lx1 ux1 lx2 ux2 mk hm
    show jok (F_X7_areRows_29_b n (F_X7_areRows_29 n k) a0 x1 x2 h) _
    unfold F_X7_areRows_29_b
    refine jok_b (t_gR w ta0 rfl rfl) (fun p31_1 tp31_1 => ?_)
    refine jok_b2 (t_gI w tp31_1 rfl rfl) (fun v34_2 ev34_2 pv34_2 => ?_)
    have pv34_2 : (v34_2).toInt = g.1 := pv34_2
    have qv34_2 := hg.1
    refine jok_le (fun c3 => ?_) (fun c3 => ?_)
    · have f4 : ((1 : Int32)).toInt = 1 := rfl
      exact jok_s ⟨by decide, by decide, fun _ x h1 h2 _ => by omega⟩
    · refine jok_b (t_gR w ta0 rfl rfl) (fun p41_5 tp41_5 => ?_)
      try rw [t_cv w tp41_5 rfl]
      refine jok_b (S_X10_at hn hg w tp41_5) (fun v45_6 pv45_6 => ?_)
      have pv45_6_9 := pv45_6
      try dsimp only at pv45_6_9
      refine jok_le (fun c7 => ?_) (fun c7 => ?_)
      · have f8 : ((0 : Int32)).toInt = 0 := rfl
        exact jok_s ⟨by decide, by decide, fun q => absurd q (by decide)⟩
      · refine jok_b (t_gR w ta0 rfl rfl) (fun p53_9 tp53_9 => ?_)
        try rw [t_cv w tp53_9 rfl]
        refine jok_b (S_X10_at hn hg w tp53_9) (fun v59_10 pv59_10 => ?_)
        have f11 : ((1 : Int32)).toInt = 1 := rfl
        have f12 : ((x2 + (1 : Int32))).toInt = (x2).toInt + ((1 : Int32)).toInt := jadd (by omega) (by omega)
        have pv59_10_9 := pv59_10
        try dsimp only at pv59_10_9
        refine jok_lt (fun c13 => ?_) (fun c13 => ?_)
        · have f14 : ((0 : Int32)).toInt = 0 := rfl
          exact jok_s ⟨by decide, by decide, fun q => absurd q (by decide)⟩
        · refine jok_b (t_gR w ta0 rfl rfl) (fun p67_15 tp67_15 => ?_)
          try rw [t_cv w tp67_15 rfl]
          refine jok_b (S_X10_at hn hg w tp67_15) (fun v73_16 pv73_16 => ?_)
          have f17 : ((2 : Int32)).toInt = 2 := rfl
          have f18 : ((x2 + (2 : Int32))).toInt = (x2).toInt + ((2 : Int32)).toInt := jadd (by omega) (by omega)
          have pv73_16_9 := pv73_16
          try dsimp only at pv73_16_9
          refine jok_lt (fun c19 => ?_) (fun c19 => ?_)
          · have f20 : ((0 : Int32)).toInt = 0 := rfl
            exact jok_s ⟨by decide, by decide, fun q => absurd q (by decide)⟩
          · refine jok_b (t_gR w ta0 rfl rfl) (fun p81_21 tp81_21 => ?_)
            try rw [t_cv w tp81_21 rfl]
            refine jok_b (S_X10_at hn hg w tp81_21) (fun v87_22 pv87_22 => ?_)
            have pv87_22_9 := pv87_22
            try dsimp only at pv87_22_9
            have f23 : ((31 : Int32)).toInt = 31 := rfl
            refine jok_lt (fun c24 => ?_) (fun c24 => ?_)
            · have f25 : ((0 : Int32)).toInt = 0 := rfl
              exact jok_s ⟨by decide, by decide, fun q => absurd q (by decide)⟩
            · refine jok_b (t_gR w ta0 rfl rfl) (fun p96_26 tp96_26 => ?_)
              try rw [t_cv w tp96_26 rfl]
              refine jok_b (S_X10_at hn hg w tp96_26) (fun v102_27 pv102_27 => ?_)
              have f28 : ((3 : Int32)).toInt = 3 := rfl
              have f29 : ((x2 + (3 : Int32))).toInt = (x2).toInt + ((3 : Int32)).toInt := jadd (by omega) (by omega)
              have pv102_27_9 := pv102_27
              try dsimp only at pv102_27_9
              refine jok_le (fun c30 => ?_) (fun c30 => ?_)
              · have f31 : ((4 : Int32)).toInt = 4 := rfl
                have f32 : ((x2 + (4 : Int32))).toInt = (x2).toInt + ((4 : Int32)).toInt := jadd (by omega) (by omega)
                exact jok_w (ih w ta0 (by omega) (by omega) (by omega) (by omega) (by omega) (by omega)) (fun v q => ⟨q.1, q.2.1, fun q1 => jrows_step hm (by rw [← pv45_6_9.1, ← pv73_16_9.1]; have z := pv45_6_9.2.2.2 (by omega) (by omega); have z2 : v87_22.toInt = v73_16.toInt := (by rw [pv87_22_9.1, pv73_16_9.1]); omega) (by have z := q.2.2 q1; rw [f32] at z; exact z)⟩)
              · have f33 : ((0 : Int32)).toInt = 0 := rfl
                exact jok_s ⟨by decide, by decide, fun q => absurd q (by decide)⟩
set_option maxHeartbeats 1000000 in
theorem S_X7_areRows {g : jGh} {Γ : Nat → Option Nat} {n : Nat} {a0 : Nat} {x1 : Int32} {h : jH} (hn : 6000 ≤ n) (hg : jgok g) (w : jW (jKd g) Γ h) (ta0 : Γ a0 = some 18) (lx1 : 0 ≤ x1.toInt) (ux1 : x1.toInt ≤ 8) : jok (F_X7_areRows n a0 x1 h) (fun v => 0 ≤ v.toInt ∧ v.toInt ≤ 1 ∧ (v.toInt = 1 → jrows g)) := by
  unfold F_X7_areRows
  refine jok_b (t_gR w ta0 rfl rfl) (fun p1_1 tp1_1 => ?_)
  refine jok_b2 (t_gI w tp1_1 rfl rfl) (fun v4_2 ev4_2 pv4_2 => ?_)
  have pv4_2 : (v4_2).toInt = g.1 := pv4_2
  have qv4_2 := hg.1
  have f3 : ((4 : Int32)).toInt = 4 := rfl
  have f4 : ((v4_2 / (4 : Int32))).toInt = (v4_2).toInt / 4 := jdivL (c := 4) (by omega) rfl (by decide)
  have f5 : (((v4_2 / (4 : Int32)) * (4 : Int32))).toInt = 4 * ((v4_2 / (4 : Int32))).toInt := jmulR (c := 4) (by omega) (by omega) (by omega)
  have f6 : ((v4_2 - ((v4_2 / (4 : Int32)) * (4 : Int32)))).toInt = (v4_2).toInt - (((v4_2 / (4 : Int32)) * (4 : Int32))).toInt := jsub (by omega) (by omega)
  have f7 : ((0 : Int32)).toInt = 0 := rfl
  refine jok_eq (fun c8 d8 => ?_) (fun c8 => ?_)
  · refine jok_b (t_gR w ta0 rfl rfl) (fun p13_9 tp13_9 => ?_)
    refine jok_b2 (t_gI w tp13_9 rfl rfl) (fun v16_10 ev16_10 pv16_10 => ?_)
    have pv16_10 : (v16_10).toInt = g.1 := pv16_10
    have qv16_10 := hg.1
    have f11 : ((160 : Int32)).toInt = 160 := rfl
    refine jok_le (fun c12 => ?_) (fun c12 => ?_)
    · exact jok_w (S_X7_areRows_29 hn hg  n w ta0 (by omega) (by omega) (by omega) (by omega) (by omega) (by omega)) (fun v q => ⟨q.1, q.2.1, fun q1 x h0 h1 h2 => q.2.2 q1 x h0 h1 h2⟩)
    · exact jok_s ⟨by decide, by decide, fun q => absurd q (by decide)⟩
  · exact jok_s ⟨by decide, by decide, fun q => absurd q (by decide)⟩
def jfq (h h1 : jH) : Prop := ∀ b k : Nat, jgf 5 h1 b k = jgf 5 h b k
theorem jfq_rfl {h : jH} : jfq h h := fun _ _ => rfl
theorem jfq_tr {h h1 h2 : jH} (a : jfq h h1) (b : jfq h1 h2) : jfq h h2 := fun x k => (b x k).trans (a x k)
theorem fm_pf {h h1 : jH} {a k : Nat} {v : Value} (e : jpf 6 h a k v = some h1) : jfq h h1 := by
  obtain ⟨fs, e1, -, rfl⟩ := jpf_o e
  intro b k2
  unfold jgf
  show (match (if b = a then some _ else h.2 b) with | some (.inl o) => if o.1 = 5 then o.2[k2]? else none | _ => none) = _
  by_cases hb : b = a
  · subst hb
    rw [if_pos rfl, e1]
    rfl
  · rw [if_neg hb]
    rfl
theorem fm_as {t a : Nat} {i x : Int32} {h h1 : jH} (e : jas t h a i x = some h1) : jfq h h1 := by
  obtain ⟨n, f, e1, -, -, rfl⟩ := jas_o e
  exact fun b k => jfa_up e1 5 b k
theorem fm_cp {a0 a : Nat} {sp dp n : Int32} {h h1 : jH} (e : jcp h a0 sp a dp n = some h1) : jfq h h1 := by
  obtain ⟨n0, f, n1, g, e0, e1, -, -, -, -, -, rfl⟩ := jcp_o e
  exact fun b k => jfa_up e1 5 b k
theorem Fr_X8_hangAs {n : Nat} {a0 : Nat} {a1 : Nat} {h : jH} {q : jH} (hf : F_X8_hangAs n a0 a1 h = some q) : jfq h q := by
  unfold F_X8_hangAs at hf
  obtain ⟨p1, e1, hf⟩ := jbind hf
  obtain ⟨p6, e2, hf⟩ := jbind hf
  obtain ⟨h12, e3, hf⟩ := jbind hf
  obtain ⟨v17, e4, hf⟩ := jbind hf
  obtain ⟨h20, e5, hf⟩ := jbind hf
  obtain ⟨v25, e6, hf⟩ := jbind hf
  obtain ⟨h28, e7, hf⟩ := jbind hf
  cases hf
  have z9 := (jfq_tr (jfq_tr (fm_cp e3) (fm_pf e5)) (fm_pf e7))
  exact z9
theorem Fr_X8_move_28 {n : Nat} {rc3 : Nat → Int32 → Int32 → Int32 → Int32 → jH → Option (Int32 × jH)} (hrc3 : ∀ {z0 : Nat} {z1 : Int32} {z2 : Int32} {z3 : Int32} {z4 : Int32} {h : jH} {q : (Int32 × jH)}, rc3 z0 z1 z2 z3 z4 h = some q → jfq h q.2) {k : Nat} : ∀ {a0 : Nat} {x1 : Int32} {x2 : Int32} {x3 : Int32} {x4 : Int32} {x5 : Int32} {x6 : Int32} {h : jH} {q : (Int32 × jH)}, F_X8_move_28 n rc3 k a0 x1 x2 x3 x4 x5 x6 h = some q → jfq h q.2 := by
  induction k with
  | zero =>
    intro a0 x1 x2 x3 x4 x5 x6 h q hf
    cases hf
  | succ k ih =>
    intro a0 x1 x2 x3 x4 x5 x6 h q hf
    replace hf : F_X8_move_28_b n rc3 (F_X8_move_28 n rc3 k) a0 x1 x2 x3 x4 x5 x6 h = some q := hf
    unfold F_X8_move_28_b at hf
    obtain ⟨v31, e1, hf⟩ := jbind hf
    split at hf
    · obtain ⟨v78, e3, hf⟩ := jbind hf
      obtain ⟨v84, e4, hf⟩ := jbind hf
      obtain ⟨v90, e5, hf⟩ := jbind hf
      obtain ⟨h97, e6, hf⟩ := jbind hf
      exact (jfq_tr (fm_pf e6) (hrc3 hf))
    · obtain ⟨v41, e7, hf⟩ := jbind hf
      split at hf
      · obtain ⟨p49, e9, hf⟩ := jbind hf
        obtain ⟨v55, e10, hf⟩ := jbind hf
        split at hf
        · obtain ⟨h66, e12, hf⟩ := jbind hf
          exact (jfq_tr (fm_as e12) (ih hf))
        · obtain ⟨h66, e13, hf⟩ := jbind hf
          exact (jfq_tr (fm_as e13) (ih hf))
      · exact (ih hf)
theorem Fr_X8_move_3 {n : Nat} {k : Nat} : ∀ {a0 : Nat} {x1 : Int32} {x2 : Int32} {x3 : Int32} {x4 : Int32} {h : jH} {q : (Int32 × jH)}, F_X8_move_3 n k a0 x1 x2 x3 x4 h = some q → jfq h q.2 := by
  induction k with
  | zero =>
    intro a0 x1 x2 x3 x4 h q hf
    cases hf
  | succ k ih =>
    intro a0 x1 x2 x3 x4 h q hf
    replace hf : F_X8_move_3_b n (F_X8_move_3 n k) a0 x1 x2 x3 x4 h = some q := hf
    unfold F_X8_move_3_b at hf
    split at hf
    · cases hf
      exact jfq_rfl
    · obtain ⟨v12, e2, hf⟩ := jbind hf
      obtain ⟨-, e2⟩ := jcv_o e2
      split at hf
      · cases hf
        exact jfq_rfl
      · exact (Fr_X8_move_28 ih hf)
theorem Fr_X8_move {n : Nat} {a0 : Nat} {x1 : Int32} {x2 : Int32} {x3 : Int32} {h : jH} {q : (Int32 × jH)} (hf : F_X8_move n a0 x1 x2 x3 h = some q) : jfq h q.2 := by
  unfold F_X8_move at hf
  exact (Fr_X8_move_3 hf)
theorem Fr_X7_farWith {n : Nat} {a0 : Nat} {a1 : Nat} {x2 : Int32} {x3 : Int32} {x4 : Int32} {x5 : Int32} {h : jH} {q : (Int32 × jH)} (hf : F_X7_farWith n a0 a1 x2 x3 x4 x5 h = some q) : jfq h q.2 := by
  unfold F_X7_farWith at hf
  obtain ⟨p1, e1, hf⟩ := jbind hf
  obtain ⟨h5, e2, hf⟩ := jbind hf
  obtain ⟨-, e2⟩ := jcv_o e2
  obtain ⟨p9, e3, hf⟩ := jbind hf
  obtain ⟨h13, e4, hf⟩ := jbind hf
  obtain ⟨p17, e5, hf⟩ := jbind hf
  obtain ⟨q25, e6, hf⟩ := jbind hf
  obtain ⟨-, e6⟩ := jcv_o e6
  cases hf
  have z9 := (jfq_tr (jfq_tr (Fr_X8_hangAs e2) (fm_pf e4)) (Fr_X8_move e6))
  exact z9
theorem Fr_X7_isFitting_43 {n : Nat} {rc2 : Nat → Nat → Int32 → Int32 → jH → Option (Int32 × jH)} {a0 : Nat} {a1 : Nat} {x2 : Int32} {x3 : Int32} {sa0 : Nat} {sa1 : Nat} {s2 : Int32} {s3 : Int32} {s4 : Int32} {h : jH} (hrc2 : ∀ {z0 : Nat} {z1 : Nat} {z2 : Int32} {z3 : Int32} {h : jH} {q : (Int32 × jH)}, rc2 z0 z1 z2 z3 h = some q → jfq h q.2) {q : (Int32 × jH)} (hf : F_X7_isFitting_43 n rc2 a0 a1 x2 x3 sa0 sa1 s2 s3 s4 h = some q) : jfq h q.2 := by
  unfold F_X7_isFitting_43 at hf
  obtain ⟨p44, e1, hf⟩ := jbind hf
  obtain ⟨v50, e2, hf⟩ := jbind hf
  obtain ⟨-, e2⟩ := jcv_o e2
  obtain ⟨q53, e3, hf⟩ := jbind hf
  obtain ⟨-, e3⟩ := jcv_o e3
  obtain ⟨p61, e4, hf⟩ := jbind hf
  obtain ⟨v67, e5, hf⟩ := jbind hf
  obtain ⟨-, e5⟩ := jcv_o e5
  split at hf
  · exact (jfq_tr (Fr_X7_farWith e3) (hrc2 hf))
  · cases hf
    have z9 := (Fr_X7_farWith e3)
    exact z9
theorem Fr_X7_isFitting_2 {n : Nat} {k : Nat} : ∀ {a0 : Nat} {a1 : Nat} {x2 : Int32} {x3 : Int32} {h : jH} {q : (Int32 × jH)}, F_X7_isFitting_2 n k a0 a1 x2 x3 h = some q → jfq h q.2 := by
  induction k with
  | zero =>
    intro a0 a1 x2 x3 h q hf
    cases hf
  | succ k ih =>
    intro a0 a1 x2 x3 h q hf
    replace hf : F_X7_isFitting_2_b n (F_X7_isFitting_2 n k) a0 a1 x2 x3 h = some q := hf
    unfold F_X7_isFitting_2_b at hf
    obtain ⟨p4, e1, hf⟩ := jbind hf
    obtain ⟨v7, e2, hf⟩ := jbind hf
    split at hf
    · cases hf
      exact jfq_rfl
    · obtain ⟨p17, e4, hf⟩ := jbind hf
      obtain ⟨v21, e5, hf⟩ := jbind hf
      obtain ⟨-, e5⟩ := jcv_o e5
      obtain ⟨p25, e6, hf⟩ := jbind hf
      obtain ⟨v31, e7, hf⟩ := jbind hf
      obtain ⟨-, e7⟩ := jcv_o e7
      split at hf
      · exact (Fr_X7_isFitting_43 ih hf)
      · exact (Fr_X7_isFitting_43 ih hf)
theorem Fr_X7_isFitting {n : Nat} {a0 : Nat} {a1 : Nat} {x2 : Int32} {h : jH} {q : (Int32 × jH)} (hf : F_X7_isFitting n a0 a1 x2 h = some q) : jfq h q.2 := by
  unfold F_X7_isFitting at hf
  exact (Fr_X7_isFitting_2 hf)
set_option maxHeartbeats 1000000 in
theorem S_X7_isFitting_2 {g : jGh} {Γ : Nat → Option Nat} {n : Nat} (hn : 6000 ≤ n) (hg : jgok g)  (k : Nat) : ∀ {a0 : Nat} {a1 : Nat} {x2 : Int32} {x3 : Int32} {h : jH}, jW (jKd g) Γ h → (Γ a0 = some 18) → (Γ a1 = some 3) → (0 ≤ x3.toInt) → (x3.toInt ≤ 400) → (400 : Int) - x3.toInt < (k : Int) → (x3.toInt % 4 = 0) → (jrows g) → jok (F_X7_isFitting_2 n k a0 a1 x2 x3 h) (fun q => jW (jKd g) Γ q.2 ∧ (fun v : Int32 => 0 ≤ v.toInt ∧ v.toInt ≤ 1) q.1) := by
  induction k with
  | zero =>
    intro a0 a1 x2 x3 h w ta0 ta1 lx3 ux3 mk hm hr
    omega
  | succ k ih =>
    intro a0 a1 x2 x3 h w ta0 ta1 lx3 ux3 mk hm hr
    show jok (F_X7_isFitting_2_b n (F_X7_isFitting_2 n k) a0 a1 x2 x3 h) _
    unfold F_X7_isFitting_2_b
    refine jok_b (t_gR w ta0 rfl rfl) (fun p4_1 tp4_1 => ?_)
    refine jok_b2 (t_gI w tp4_1 rfl rfl) (fun v7_2 ev7_2 pv7_2 => ?_)
    have pv7_2 : (v7_2).toInt = g.1 := pv7_2
    have qv7_2 := hg.1
    refine jok_le (fun c3 => ?_) (fun c3 => ?_)
    · have f4 : ((1 : Int32)).toInt = 1 := rfl
      exact jok_s ⟨w, (show jI 0 1 (1 : Int32) from ⟨by omega, by omega⟩)⟩
    · refine jok_b (t_gR w ta0 rfl rfl) (fun p17_5 tp17_5 => ?_)
      try rw [t_cv w tp17_5 rfl]
      refine jok_b (S_X10_at hn hg w tp17_5) (fun v21_6 pv21_6 => ?_)
      have pv21_6_9 := pv21_6
      try dsimp only at pv21_6_9
      have hr1 := hr x3 (by omega) (by omega) (by omega)
      rw [← pv21_6_9.1] at hr1
      refine jok_b (t_gR w ta0 rfl rfl) (fun p25_7 tp25_7 => ?_)
      try rw [t_cv w tp25_7 rfl]
      refine jok_b (S_X10_at hn hg w tp25_7) (fun v31_8 pv31_8 => ?_)
      have f9 : ((1 : Int32)).toInt = 1 := rfl
      have f10 : ((x3 + (1 : Int32))).toInt = (x3).toInt + ((1 : Int32)).toInt := jadd (by omega) (by omega)
      have pv31_8_9 := pv31_8
      try dsimp only at pv31_8_9
      refine jok_eq (fun c11 d11 => ?_) (fun c11 => ?_)
      · unfold F_X7_isFitting_43
        refine jok_b (t_gR w ta0 rfl rfl) (fun p44_12 tp44_12 => ?_)
        try rw [t_cv w tp44_12 rfl]
        refine jok_b (S_X10_at hn hg w tp44_12) (fun v50_13 pv50_13 => ?_)
        have f14 : ((2 : Int32)).toInt = 2 := rfl
        have f15 : ((x3 + (2 : Int32))).toInt = (x3).toInt + ((2 : Int32)).toInt := jadd (by omega) (by omega)
        have pv50_13_9 := pv50_13
        try dsimp only at pv50_13_9
        have hr2 := hr x3 (by omega) (by omega) (by omega)
        rw [← pv50_13_9.1] at hr2
        try rw [t_cv w ta0 rfl]
        refine jok_b (S_X7_farWith hn hg w ta0 ta1 (by omega) (by omega) (by omega) (by omega)) (fun q53_16 wq53_16 => ?_)
        obtain ⟨wq53_16, pq53_16⟩ := wq53_16
        obtain ⟨lq53_16, uq53_16⟩ := pq53_16
        refine jok_b (t_gR wq53_16 ta0 rfl rfl) (fun p61_17 tp61_17 => ?_)
        try rw [t_cv wq53_16 tp61_17 rfl]
        refine jok_b (S_X10_at hn hg wq53_16 tp61_17) (fun v67_18 pv67_18 => ?_)
        have f19 : ((3 : Int32)).toInt = 3 := rfl
        have f20 : ((x3 + (3 : Int32))).toInt = (x3).toInt + ((3 : Int32)).toInt := jadd (by omega) (by omega)
        have pv67_18_9 := pv67_18
        try dsimp only at pv67_18_9
        refine jok_eq (fun c21 d21 => ?_) (fun c21 => ?_)
        · have f22 : ((4 : Int32)).toInt = 4 := rfl
          have f23 : ((x3 + (4 : Int32))).toInt = (x3).toInt + ((4 : Int32)).toInt := jadd (by omega) (by omega)
          exact ih wq53_16 ta0 ta1 (by omega) (by omega) (by omega) (by omega) hr
        · have f24 : ((0 : Int32)).toInt = 0 := rfl
          exact jok_s ⟨wq53_16, (show jI 0 1 (0 : Int32) from ⟨by omega, by omega⟩)⟩
      · unfold F_X7_isFitting_43
        refine jok_b (t_gR w ta0 rfl rfl) (fun p44_25 tp44_25 => ?_)
        try rw [t_cv w tp44_25 rfl]
        refine jok_b (S_X10_at hn hg w tp44_25) (fun v50_26 pv50_26 => ?_)
        have f27 : ((2 : Int32)).toInt = 2 := rfl
        have f28 : ((x3 + (2 : Int32))).toInt = (x3).toInt + ((2 : Int32)).toInt := jadd (by omega) (by omega)
        have pv50_26_9 := pv50_26
        try dsimp only at pv50_26_9
        have hr2 := hr x3 (by omega) (by omega) (by omega)
        rw [← pv50_26_9.1] at hr2
        try rw [t_cv w ta0 rfl]
        refine jok_b (S_X7_farWith hn hg w ta0 ta1 (by omega) (by omega) (by omega) (by omega)) (fun q53_29 wq53_29 => ?_)
        obtain ⟨wq53_29, pq53_29⟩ := wq53_29
        obtain ⟨lq53_29, uq53_29⟩ := pq53_29
        refine jok_b (t_gR wq53_29 ta0 rfl rfl) (fun p61_30 tp61_30 => ?_)
        try rw [t_cv wq53_29 tp61_30 rfl]
        refine jok_b (S_X10_at hn hg wq53_29 tp61_30) (fun v67_31 pv67_31 => ?_)
        have f32 : ((3 : Int32)).toInt = 3 := rfl
        have f33 : ((x3 + (3 : Int32))).toInt = (x3).toInt + ((3 : Int32)).toInt := jadd (by omega) (by omega)
        have pv67_31_9 := pv67_31
        try dsimp only at pv67_31_9
        refine jok_eq (fun c34 d34 => ?_) (fun c34 => ?_)
        · have f35 : ((4 : Int32)).toInt = 4 := rfl
          have f36 : ((x3 + (4 : Int32))).toInt = (x3).toInt + ((4 : Int32)).toInt := jadd (by omega) (by omega)
          exact ih wq53_29 ta0 ta1 (by omega) (by omega) (by omega) (by omega) hr
        · have f37 : ((0 : Int32)).toInt = 0 := rfl
          exact jok_s ⟨wq53_29, (show jI 0 1 (0 : Int32) from ⟨by omega, by omega⟩)⟩
set_option maxHeartbeats 1000000 in
theorem S_X7_isFitting {g : jGh} {Γ : Nat → Option Nat} {n : Nat} {a0 : Nat} {a1 : Nat} {x2 : Int32} {h : jH} (hn : 6000 ≤ n) (hg : jgok g) (w : jW (jKd g) Γ h) (ta0 : Γ a0 = some 18) (ta1 : Γ a1 = some 3) (hr : jrows g) : jok (F_X7_isFitting n a0 a1 x2 h) (fun q => jW (jKd g) Γ q.2 ∧ (fun v : Int32 => 0 ≤ v.toInt ∧ v.toInt ≤ 1) q.1) := by
  unfold F_X7_isFitting
  have f1 : ((0 : Int32)).toInt = 0 := rfl
  exact S_X7_isFitting_2 hn hg  n w ta0 ta1 (by omega) (by omega) (by omega) (by omega) hr
set_option maxHeartbeats 1000000 in
theorem S_X7_seekSnags_35 {g : jGh} {Γ : Nat → Option Nat} {n : Nat} (hn : 6000 ≤ n) (hg : jgok g)  (k : Nat) : ∀ {a0 : Nat} {a1 : Nat} {x2 : Int32} {x3 : Int32} {h : jH}, jW (jKd g) Γ h → (Γ a0 = some 18) → (Γ a1 = some 3) → (1 ≤ x2.toInt) → (x2.toInt ≤ 128) → (0 ≤ x3.toInt) → (x3.toInt ≤ 128) → (128 : Int) - x3.toInt < (k : Int) → (jrows g) → jok (F_X7_seekSnags_35 n k a0 a1 x2 x3 h) (fun q => jW (jKd g) Γ q) := by
  induction k with
  | zero =>
    intro a0 a1 x2 x3 h w ta0 ta1 lx2 ux2 lx3 ux3 mk hr
    omega
  | succ k ih =>
    intro a0 a1 x2 x3 h w ta0 ta1 lx2 ux2 lx3 ux3 mk hr
    show jok (F_X7_seekSnags_35_b n (F_X7_seekSnags_35 n k) a0 a1 x2 x3 h) _
    unfold F_X7_seekSnags_35_b
    refine jok_le (fun c1 => ?_) (fun c1 => ?_)
    · exact jok_s w
    · refine jok_b2 (t_gI w ta0 rfl rfl) (fun v41_2 ev41_2 pv41_2 => ?_)
      obtain ⟨lv41_2, uv41_2⟩ := pv41_2
      have f3 : ((128 : Int32)).toInt = 128 := rfl
      refine jok_le (fun c4 => ?_) (fun c4 => ?_)
      · exact jok_s w
      · try rw [t_cv w ta0 rfl]
        refine jok_b2 (S_X7_isFitting hn hg w ta0 ta1 hr) (fun q53_5 eq53_5 wq53_5 => ?_)
        obtain ⟨wq53_5, pq53_5⟩ := wq53_5
        have rq53_5 := Fr_X7_isFitting eq53_5
        obtain ⟨lq53_5, uq53_5⟩ := pq53_5
        have f6 : ((0 : Int32)).toInt = 0 := rfl
        refine jok_eq (fun c7 d7 => ?_) (fun c7 => ?_)
        · have f8 : ((1 : Int32)).toInt = 1 := rfl
          have f9 : ((x3 + (1 : Int32))).toInt = (x3).toInt + ((1 : Int32)).toInt := jadd (by omega) (by omega)
          exact ih wq53_5 ta0 ta1 (by omega) (by omega) (by omega) (by omega) (by omega) hr
        · refine jok_b (t_gR wq53_5 ta0 rfl rfl) (fun p60_10 tp60_10 => ?_)
          refine jok_r (fI (rq53_5 _ _) ev41_2) ?_
          refine jok_b (t_as wq53_5 tp60_10 rfl (by omega) (by omega) trivial (fun q => by cases q)) (fun h68_12 wh68_12 => ?_)
          obtain ⟨wh68_12, rh68_12⟩ := wh68_12
          refine jok_r (fI (rh68_12 _ _ _) (fI (rq53_5 _ _) ev41_2)) ?_
          have f15 : ((1 : Int32)).toInt = 1 := rfl
          have f16 : ((v41_2 + (1 : Int32))).toInt = (v41_2).toInt + ((1 : Int32)).toInt := jadd (by omega) (by omega)
          refine jok_b (t_pI wh68_12 ta0 rfl rfl (show jI 0 128 (v41_2 + (1 : Int32)) from ⟨by omega, by omega⟩)) (fun h76_14 wh76_14 => ?_)
          obtain ⟨wh76_14, jh76_14, rh76_14⟩ := wh76_14
          have f17 : ((x3 + (1 : Int32))).toInt = (x3).toInt + ((1 : Int32)).toInt := jadd (by omega) (by omega)
          exact ih wh76_14 ta0 ta1 (by omega) (by omega) (by omega) (by omega) (by omega) hr
set_option maxHeartbeats 1000000 in
theorem S_X7_seekSnags {g : jGh} {Γ : Nat → Option Nat} {n : Nat} {a0 : Nat} {a1 : Nat} {h : jH} (hn : 6000 ≤ n) (hg : jgok g) (w : jW (jKd g) Γ h) (ta0 : Γ a0 = some 18) (ta1 : Γ a1 = some 3) (hr : jrows g) : jok (F_X7_seekSnags n a0 a1 h) (fun q => jW (jKd g) Γ q) := by
  unfold F_X7_seekSnags
  refine jok_b (t_gR w ta0 rfl rfl) (fun p1_1 tp1_1 => ?_)
  try rw [t_cv w tp1_1 rfl]
  refine jok_b (S_X8_copyFrom hn hg w tp1_1 ta1) (fun h5_2 wh5_2 => ?_)
  have f4 : ((0 : Int32)).toInt = 0 := rfl
  refine jok_b (t_pI wh5_2 ta0 rfl rfl (show jI 0 128 (0 : Int32) from ⟨by omega, by omega⟩)) (fun h10_3 wh10_3 => ?_)
  obtain ⟨wh10_3, jh10_3, rh10_3⟩ := wh10_3
  refine jok_b2 (t_gI wh10_3 ta1 rfl rfl) (fun v14_5 ev14_5 pv14_5 => ?_)
  obtain ⟨lv14_5, uv14_5⟩ := pv14_5
  refine jok_eq (fun c6 d6 => ?_) (fun c6 => ?_)
  · have f7 : ((1 : Int32)).toInt = 1 := rfl
    exact S_X7_seekSnags_35 hn hg  n wh10_3 ta0 ta1 (by omega) (by omega) (by omega) (by omega) (by omega) hr
  · refine jok_r ev14_5 ?_
    have f9 : ((1 : Int32)).toInt = 1 := rfl
    have f10 : ((v14_5 - (1 : Int32))).toInt = (v14_5).toInt - ((1 : Int32)).toInt := jsub (by omega) (by omega)
    have f11 := jshl1 (v := (v14_5 - (1 : Int32))) (k := 7) (by omega) (by omega) (by decide)
    exact S_X7_seekSnags_35 hn hg  n wh10_3 ta0 ta1 (by omega) (by omega) (by omega) (by omega) (by omega) hr
set_option maxHeartbeats 1000000 in
theorem S_X11_requireRing {g : jGh} {Γ : Nat → Option Nat} {n : Nat} {a0 : Nat} {x1 : Int32} {h : jH} (hn : 6000 ≤ n) (hg : jgok g) (w : jW (jKd g) Γ h) (ta0 : Γ a0 = some 19) : jok (F_X11_requireRing n a0 x1 h) (fun q => jW (jKd g) Γ q.2 ∧ jXok [2] (fun v => 0 ≤ x1.toInt ∧ x1.toInt ≤ 7) q.1) := by
  unfold F_X11_requireRing
  have f1 : ((0 : Int32)).toInt = 0 := rfl
  refine jok_lt (fun c2 => ?_) (fun c2 => ?_)
  · exact jok_s ⟨w, jX_r (by decide)⟩
  · refine jok_b (t_gR w ta0 rfl rfl) (fun p6_3 tp6_3 => ?_)
    refine jok_b2 (t_gI w tp6_3 rfl rfl) (fun v9_4 ev9_4 pv9_4 => ?_)
    obtain ⟨lv9_4, uv9_4⟩ := pv9_4
    refine jok_lt (fun c5 => ?_) (fun c5 => ?_)
    · exact jok_s ⟨w, jX_l (show 0 ≤ x1.toInt ∧ x1.toInt ≤ 7 from by omega)⟩
    · exact jok_s ⟨w, jX_r (by decide)⟩
set_option maxHeartbeats 1000000 in
theorem S_X11_requirePlace {g : jGh} {Γ : Nat → Option Nat} {n : Nat} {a0 : Nat} {x1 : Int32} {h : jH} (hn : 6000 ≤ n) (hg : jgok g) (w : jW (jKd g) Γ h) (ta0 : Γ a0 = some 19) : jok (F_X11_requirePlace n a0 x1 h) (fun q => jW (jKd g) Γ q.2 ∧ jXok [2] (fun v => True) q.1) := by
  unfold F_X11_requirePlace
  have f1 : ((0 : Int32)).toInt = 0 := rfl
  refine jok_lt (fun c2 => ?_) (fun c2 => ?_)
  · exact jok_s ⟨w, jX_r (by decide)⟩
  · have f3 : ((31 : Int32)).toInt = 31 := rfl
    refine jok_le (fun c4 => ?_) (fun c4 => ?_)
    · exact jok_s ⟨w, jX_l trivial⟩
    · exact jok_s ⟨w, jX_r (by decide)⟩
set_option maxHeartbeats 1000000 in
theorem S_X11_requireNumber {g : jGh} {Γ : Nat → Option Nat} {n : Nat} {a0 : Nat} {x1 : Int32} {x2 : Int32} {x3 : Int32} {h : jH} (hn : 6000 ≤ n) (hg : jgok g) (w : jW (jKd g) Γ h) (ta0 : Γ a0 = some 19) : jok (F_X11_requireNumber n a0 x1 x2 x3 h) (fun q => jW (jKd g) Γ q.2 ∧ jXok [0] (fun v => x2.toInt ≤ x1.toInt ∧ x1.toInt ≤ x3.toInt) q.1) := by
  unfold F_X11_requireNumber
  refine jok_lt (fun c1 => ?_) (fun c1 => ?_)
  · exact jok_s ⟨w, jX_r (by decide)⟩
  · refine jok_le (fun c2 => ?_) (fun c2 => ?_)
    · have f3 : ((0 : Int32)).toInt = 0 := rfl
      exact jok_s ⟨w, jX_l (show x2.toInt ≤ x1.toInt ∧ x1.toInt ≤ x3.toInt from by omega)⟩
    · exact jok_s ⟨w, jX_r (by decide)⟩
set_option maxHeartbeats 1000000 in
theorem S_X11_fault {g : jGh} {Γ : Nat → Option Nat} {n : Nat} {a0 : Nat} {h : jH} (hn : 6000 ≤ n) (hg : jgok g) (w : jW (jKd g) Γ h) (ta0 : Γ a0 = some 19) : jok (F_X11_fault n a0 h) (fun v => True) := by
  unfold F_X11_fault
  refine jok_b2 (t_gI w ta0 rfl rfl) (fun v1_1 ev1_1 pv1_1 => ?_)
  exact jok_s trivial
set_option maxHeartbeats 1000000 in
theorem S_X11_ring {g : jGh} {Γ : Nat → Option Nat} {n : Nat} {a0 : Nat} {x1 : Int32} {x2 : Int32} {h : jH} (hn : 6000 ≤ n) (hg : jgok g) (w : jW (jKd g) Γ h) (ta0 : Γ a0 = some 19) : jok (F_X11_ring n a0 x1 x2 h) (fun q => jW (jKd g) Γ q.2 ∧ jXok [2, 4] (fun v => True) q.1) := by
  unfold F_X11_ring
  try rw [t_cv w ta0 rfl]
  refine jok_b (S_X11_requireRing hn hg w ta0) (fun q2_1 wq2_1 => ?_)
  obtain ⟨wq2_1, pq2_1⟩ := wq2_1
  refine jok_t pq2_1 (fun k9 q9 => ⟨wq2_1, jX_r (jsub9 q9 (by decide))⟩) (fun r2_2 pr2_2 => ?_)
  have pr2_2_9 := pr2_2
  try dsimp only at pr2_2_9
  have f3 : ((0 : Int32)).toInt = 0 := rfl
  refine jok_eq (fun c4 d4 => ?_) (fun c4 => ?_)
  · refine jok_b (t_gR wq2_1 ta0 rfl rfl) (fun p77_5 tp77_5 => ?_)
    refine jok_b (t_gR wq2_1 tp77_5 rfl rfl) (fun p80_6 tp80_6 => ?_)
    refine jok_b (t_al wq2_1 tp80_6 rfl (by omega) (by omega)) (fun v84_7 pv84_7 => ?_)
    exact jok_s ⟨wq2_1, jX_l trivial⟩
  · have f8 : ((1 : Int32)).toInt = 1 := rfl
    refine jok_eq (fun c9 d9 => ?_) (fun c9 => ?_)
    · refine jok_b (t_gR wq2_1 ta0 rfl rfl) (fun p87_10 tp87_10 => ?_)
      refine jok_b (t_gR wq2_1 tp87_10 rfl rfl) (fun p90_11 tp90_11 => ?_)
      refine jok_b (t_al wq2_1 tp90_11 rfl (by omega) (by omega)) (fun v94_12 pv94_12 => ?_)
      exact jok_s ⟨wq2_1, jX_l trivial⟩
    · have f13 : ((2 : Int32)).toInt = 2 := rfl
      refine jok_eq (fun c14 d14 => ?_) (fun c14 => ?_)
      · refine jok_b (t_gR wq2_1 ta0 rfl rfl) (fun p97_15 tp97_15 => ?_)
        refine jok_b2 (t_gI wq2_1 tp97_15 rfl rfl) (fun v100_16 ev100_16 pv100_16 => ?_)
        refine jok_b (S_X11_bit hn hg wq2_1) (fun v104_17 pv104_17 => ?_)
        obtain ⟨lv104_17, uv104_17⟩ := pv104_17
        exact jok_s ⟨wq2_1, jX_l trivial⟩
      · have f18 : ((3 : Int32)).toInt = 3 := rfl
        refine jok_eq (fun c19 d19 => ?_) (fun c19 => ?_)
        · refine jok_b (t_gR wq2_1 ta0 rfl rfl) (fun p109_20 tp109_20 => ?_)
          refine jok_b2 (t_gI wq2_1 tp109_20 rfl rfl) (fun v112_21 ev112_21 pv112_21 => ?_)
          refine jok_b (S_X11_bit hn hg wq2_1) (fun v116_22 pv116_22 => ?_)
          obtain ⟨lv116_22, uv116_22⟩ := pv116_22
          exact jok_s ⟨wq2_1, jX_l trivial⟩
        · have f23 : ((4 : Int32)).toInt = 4 := rfl
          refine jok_eq (fun c24 d24 => ?_) (fun c24 => ?_)
          · refine jok_b (t_gR wq2_1 ta0 rfl rfl) (fun p121_25 tp121_25 => ?_)
            refine jok_b (t_gR wq2_1 tp121_25 rfl rfl) (fun p124_26 tp124_26 => ?_)
            refine jok_b (t_al wq2_1 tp124_26 rfl (by omega) (by omega)) (fun v128_27 pv128_27 => ?_)
            exact jok_s ⟨wq2_1, jX_l trivial⟩
          · have f28 : ((5 : Int32)).toInt = 5 := rfl
            refine jok_eq (fun c29 d29 => ?_) (fun c29 => ?_)
            · refine jok_b (t_gR wq2_1 ta0 rfl rfl) (fun p131_30 tp131_30 => ?_)
              refine jok_b (t_gR wq2_1 tp131_30 rfl rfl) (fun p134_31 tp134_31 => ?_)
              refine jok_b (t_al wq2_1 tp134_31 rfl (by omega) (by omega)) (fun v138_32 pv138_32 => ?_)
              exact jok_s ⟨wq2_1, jX_l trivial⟩
            · have f33 : ((6 : Int32)).toInt = 6 := rfl
              refine jok_eq (fun c34 d34 => ?_) (fun c34 => ?_)
              · refine jok_b (t_gR wq2_1 ta0 rfl rfl) (fun p141_35 tp141_35 => ?_)
                refine jok_b2 (t_gI wq2_1 tp141_35 rfl rfl) (fun v144_36 ev144_36 pv144_36 => ?_)
                refine jok_b (S_X11_bit hn hg wq2_1) (fun v148_37 pv148_37 => ?_)
                obtain ⟨lv148_37, uv148_37⟩ := pv148_37
                exact jok_s ⟨wq2_1, jX_l trivial⟩
              · have f38 : ((7 : Int32)).toInt = 7 := rfl
                refine jok_eq (fun c39 d39 => ?_) (fun c39 => ?_)
                · refine jok_b (t_gR wq2_1 ta0 rfl rfl) (fun p153_40 tp153_40 => ?_)
                  refine jok_b2 (t_gI wq2_1 tp153_40 rfl rfl) (fun v156_41 ev156_41 pv156_41 => ?_)
                  refine jok_b (S_X11_bit hn hg wq2_1) (fun v160_42 pv160_42 => ?_)
                  obtain ⟨lv160_42, uv160_42⟩ := pv160_42
                  exact jok_s ⟨wq2_1, jX_l trivial⟩
                · have f43 : ((8 : Int32)).toInt = 8 := rfl
                  refine jok_eq (fun c44 d44 => ?_) (fun c44 => ?_)
                  · refine jok_b (t_gR wq2_1 ta0 rfl rfl) (fun p165_45 tp165_45 => ?_)
                    try rw [t_cv wq2_1 tp165_45 rfl]
                    refine jok_b (S_X8_gap hn hg wq2_1 tp165_45) (fun v170_46 pv170_46 => ?_)
                    exact jok_s ⟨wq2_1, jX_l trivial⟩
                  · have f47 : ((9 : Int32)).toInt = 9 := rfl
                    refine jok_eq (fun c48 d48 => ?_) (fun c48 => ?_)
                    · refine jok_b (t_gR wq2_1 ta0 rfl rfl) (fun p175_49 tp175_49 => ?_)
                      refine jok_b (t_gR wq2_1 ta0 rfl rfl) (fun p180_50 tp180_50 => ?_)
                      try rw [t_cv wq2_1 tp175_49 rfl]
                      refine jok_b (S_X2_amount hn hg wq2_1 tp175_49 tp180_50 (by omega) (by omega)) (fun q184_51 wq184_51 => ?_)
                      obtain ⟨wq184_51, pq184_51⟩ := wq184_51
                      exact jok_s ⟨wq184_51, jX_l trivial⟩
                    · have f52 : ((10 : Int32)).toInt = 10 := rfl
                      refine jok_eq (fun c53 d53 => ?_) (fun c53 => ?_)
                      · refine jok_b (t_gR wq2_1 ta0 rfl rfl) (fun p189_54 tp189_54 => ?_)
                        refine jok_b (t_gR wq2_1 ta0 rfl rfl) (fun p194_55 tp194_55 => ?_)
                        try rw [t_cv wq2_1 tp189_54 rfl]
                        refine jok_b (S_X2_amount hn hg wq2_1 tp189_54 tp194_55 (by omega) (by omega)) (fun q198_56 wq198_56 => ?_)
                        obtain ⟨wq198_56, pq198_56⟩ := wq198_56
                        exact jok_s ⟨wq198_56, jX_l trivial⟩
                      · have f57 : ((11 : Int32)).toInt = 11 := rfl
                        refine jok_eq (fun c58 d58 => ?_) (fun c58 => ?_)
                        · refine jok_b (t_gR wq2_1 ta0 rfl rfl) (fun p203_59 tp203_59 => ?_)
                          refine jok_b (t_gR wq2_1 ta0 rfl rfl) (fun p208_60 tp208_60 => ?_)
                          try rw [t_cv wq2_1 tp203_59 rfl]
                          refine jok_b (S_X2_amount hn hg wq2_1 tp203_59 tp208_60 (by omega) (by omega)) (fun q212_61 wq212_61 => ?_)
                          obtain ⟨wq212_61, pq212_61⟩ := wq212_61
                          exact jok_s ⟨wq212_61, jX_l trivial⟩
                        · have f62 : ((12 : Int32)).toInt = 12 := rfl
                          refine jok_eq (fun c63 d63 => ?_) (fun c63 => ?_)
                          · refine jok_b (t_gR wq2_1 ta0 rfl rfl) (fun p217_64 tp217_64 => ?_)
                            refine jok_b (S_X6_hangsBy hn hg wq2_1 tp217_64 (by omega) (by omega)) (fun v221_65 pv221_65 => ?_)
                            exact jok_s ⟨wq2_1, jX_l trivial⟩
                          · have f66 : ((13 : Int32)).toInt = 13 := rfl
                            refine jok_eq (fun c67 d67 => ?_) (fun c67 => ?_)
                            · refine jok_b (t_gR wq2_1 ta0 rfl rfl) (fun p226_68 tp226_68 => ?_)
                              refine jok_b (S_X6_share hn hg wq2_1 tp226_68 (by omega) (by omega)) (fun v230_69 pv230_69 => ?_)
                              exact jok_s ⟨wq2_1, jX_l trivial⟩
                            · exact jok_s ⟨wq2_1, jX_r (by decide)⟩
set_option maxHeartbeats 1000000 in
theorem S_X11_shade {g : jGh} {Γ : Nat → Option Nat} {n : Nat} {a0 : Nat} {h : jH} (hn : 6000 ≤ n) (hg : jgok g) (w : jW (jKd g) Γ h) (ta0 : Γ a0 = some 19) : jok (F_X11_shade n a0 h) (fun v => True) := by
  unfold F_X11_shade
  refine jok_b (t_gR w ta0 rfl rfl) (fun p1_1 tp1_1 => ?_)
  try rw [t_cv w tp1_1 rfl]
  refine jok_b (S_X8_shadow hn hg w tp1_1) (fun v4_2 pv4_2 => ?_)
  exact jok_s trivial
set_option maxHeartbeats 1000000 in
theorem S_X11_dark {g : jGh} {Γ : Nat → Option Nat} {n : Nat} {a0 : Nat} {h : jH} (hn : 6000 ≤ n) (hg : jgok g) (w : jW (jKd g) Γ h) (ta0 : Γ a0 = some 19) : jok (F_X11_dark n a0 h) (fun v => True) := by
  unfold F_X11_dark
  refine jok_b (t_gR w ta0 rfl rfl) (fun p1_1 tp1_1 => ?_)
  try rw [t_cv w tp1_1 rfl]
  refine jok_b (S_X8_shadedChairs hn hg w tp1_1) (fun v4_2 pv4_2 => ?_)
  exact jok_s trivial
set_option maxHeartbeats 1000000 in
theorem S_X11_bare {g : jGh} {Γ : Nat → Option Nat} {n : Nat} {a0 : Nat} {h : jH} (hn : 6000 ≤ n) (hg : jgok g) (w : jW (jKd g) Γ h) (ta0 : Γ a0 = some 19) : jok (F_X11_bare n a0 h) (fun v => True) := by
  unfold F_X11_bare
  refine jok_b (t_gR w ta0 rfl rfl) (fun p1_1 tp1_1 => ?_)
  refine jok_b2 (t_gI w tp1_1 rfl rfl) (fun v4_2 ev4_2 pv4_2 => ?_)
  refine jok_b (t_gR w ta0 rfl rfl) (fun p8_3 tp8_3 => ?_)
  try rw [t_cv w tp8_3 rfl]
  refine jok_b (S_X8_shadow hn hg w tp8_3) (fun v11_4 pv11_4 => ?_)
  exact jok_s trivial
set_option maxHeartbeats 1000000 in
theorem S_X11_wooden {g : jGh} {Γ : Nat → Option Nat} {n : Nat} {a0 : Nat} {h : jH} (hn : 6000 ≤ n) (hg : jgok g) (w : jW (jKd g) Γ h) (ta0 : Γ a0 = some 19) : jok (F_X11_wooden n a0 h) (fun v => True) := by
  unfold F_X11_wooden
  refine jok_b (t_gR w ta0 rfl rfl) (fun p1_1 tp1_1 => ?_)
  refine jok_b2 (t_gI w tp1_1 rfl rfl) (fun v4_2 ev4_2 pv4_2 => ?_)
  exact jok_s trivial
set_option maxHeartbeats 1000000 in
theorem S_X11_caught {g : jGh} {Γ : Nat → Option Nat} {n : Nat} {a0 : Nat} {h : jH} (hn : 6000 ≤ n) (hg : jgok g) (w : jW (jKd g) Γ h) (ta0 : Γ a0 = some 19) : jok (F_X11_caught n a0 h) (fun v => True) := by
  unfold F_X11_caught
  refine jok_b (t_gR w ta0 rfl rfl) (fun p1_1 tp1_1 => ?_)
  refine jok_b2 (t_gI w tp1_1 rfl rfl) (fun v4_2 ev4_2 pv4_2 => ?_)
  exact jok_s trivial
set_option maxHeartbeats 1000000 in
theorem S_X11_loose {g : jGh} {Γ : Nat → Option Nat} {n : Nat} {a0 : Nat} {h : jH} (hn : 6000 ≤ n) (hg : jgok g) (w : jW (jKd g) Γ h) (ta0 : Γ a0 = some 19) : jok (F_X11_loose n a0 h) (fun v => True) := by
  unfold F_X11_loose
  refine jok_b (t_gR w ta0 rfl rfl) (fun p1_1 tp1_1 => ?_)
  try rw [t_cv w tp1_1 rfl]
  refine jok_b (S_X8_unhooked hn hg w tp1_1) (fun v4_2 pv4_2 => ?_)
  exact jok_s trivial
set_option maxHeartbeats 1000000 in
theorem S_X11_order {g : jGh} {Γ : Nat → Option Nat} {n : Nat} {a0 : Nat} {h : jH} (hn : 6000 ≤ n) (hg : jgok g) (w : jW (jKd g) Γ h) (ta0 : Γ a0 = some 19) : jok (F_X11_order n a0 h) (fun v => True) := by
  unfold F_X11_order
  refine jok_b (t_gR w ta0 rfl rfl) (fun p1_1 tp1_1 => ?_)
  refine jok_b (S_X6_outOfOrder hn hg w tp1_1) (fun v4_2 pv4_2 => ?_)
  exact jok_s trivial
set_option maxHeartbeats 1000000 in
theorem S_X11_slack {g : jGh} {Γ : Nat → Option Nat} {n : Nat} {a0 : Nat} {h : jH} (hn : 6000 ≤ n) (hg : jgok g) (w : jW (jKd g) Γ h) (ta0 : Γ a0 = some 19) : jok (F_X11_slack n a0 h) (fun v => True) := by
  unfold F_X11_slack
  refine jok_b (t_gR w ta0 rfl rfl) (fun p1_1 tp1_1 => ?_)
  refine jok_b (S_X6_spareCloth hn hg w tp1_1) (fun v4_2 pv4_2 => ?_)
  exact jok_s trivial
set_option maxHeartbeats 1000000 in
theorem S_X11_taut {g : jGh} {Γ : Nat → Option Nat} {n : Nat} {a0 : Nat} {h : jH} (hn : 6000 ≤ n) (hg : jgok g) (w : jW (jKd g) Γ h) (ta0 : Γ a0 = some 19) : jok (F_X11_taut n a0 h) (fun v => True) := by
  unfold F_X11_taut
  refine jok_b (t_gR w ta0 rfl rfl) (fun p1_1 tp1_1 => ?_)
  refine jok_b (S_X6_tautRings hn hg w tp1_1) (fun v4_2 pv4_2 => ?_)
  exact jok_s trivial
set_option maxHeartbeats 1000000 in
theorem S_X11_sunny {g : jGh} {Γ : Nat → Option Nat} {n : Nat} {a0 : Nat} {h : jH} (hn : 6000 ≤ n) (hg : jgok g) (w : jW (jKd g) Γ h) (ta0 : Γ a0 = some 19) : jok (F_X11_sunny n a0 h) (fun v => True) := by
  unfold F_X11_sunny
  refine jok_b (t_gR w ta0 rfl rfl) (fun p1_1 tp1_1 => ?_)
  refine jok_b (S_X6_sunniest hn hg w tp1_1) (fun v4_2 pv4_2 => ?_)
  exact jok_s trivial
set_option maxHeartbeats 1000000 in
theorem S_X11_envy {g : jGh} {Γ : Nat → Option Nat} {n : Nat} {a0 : Nat} {h : jH} (hn : 6000 ≤ n) (hg : jgok g) (w : jW (jKd g) Γ h) (ta0 : Γ a0 = some 19) : jok (F_X11_envy n a0 h) (fun v => True) := by
  unfold F_X11_envy
  refine jok_b (t_gR w ta0 rfl rfl) (fun p1_1 tp1_1 => ?_)
  refine jok_b (S_X6_enviousPairs hn hg w tp1_1) (fun v4_2 pv4_2 => ?_)
  exact jok_s trivial
set_option maxHeartbeats 1000000 in
theorem S_X11_bunch {g : jGh} {Γ : Nat → Option Nat} {n : Nat} {a0 : Nat} {h : jH} (hn : 6000 ≤ n) (hg : jgok g) (w : jW (jKd g) Γ h) (ta0 : Γ a0 = some 19) : jok (F_X11_bunch n a0 h) (fun v => True) := by
  unfold F_X11_bunch
  refine jok_b (t_gR w ta0 rfl rfl) (fun p1_1 tp1_1 => ?_)
  refine jok_b (S_X6_largestBunch hn hg w tp1_1) (fun v4_2 pv4_2 => ?_)
  exact jok_s trivial
set_option maxHeartbeats 1000000 in
theorem S_X11_beyond {g : jGh} {Γ : Nat → Option Nat} {n : Nat} {a0 : Nat} {h : jH} (hn : 6000 ≤ n) (hg : jgok g) (w : jW (jKd g) Γ h) (ta0 : Γ a0 = some 19) : jok (F_X11_beyond n a0 h) (fun v => True) := by
  unfold F_X11_beyond
  refine jok_b (t_gR w ta0 rfl rfl) (fun p1_1 tp1_1 => ?_)
  refine jok_b (S_X6_thickBeyondJoin hn hg w tp1_1) (fun v4_2 pv4_2 => ?_)
  exact jok_s trivial
set_option maxHeartbeats 1000000 in
theorem S_X11_twins {g : jGh} {Γ : Nat → Option Nat} {n : Nat} {a0 : Nat} {h : jH} (hn : 6000 ≤ n) (hg : jgok g) (w : jW (jKd g) Γ h) (ta0 : Γ a0 = some 19) : jok (F_X11_twins n a0 h) (fun v => True) := by
  unfold F_X11_twins
  refine jok_b (t_gR w ta0 rfl rfl) (fun p1_1 tp1_1 => ?_)
  refine jok_b (S_X6_likePairs hn hg w tp1_1) (fun v4_2 pv4_2 => ?_)
  exact jok_s trivial
set_option maxHeartbeats 1000000 in
theorem S_X11_best {g : jGh} {Γ : Nat → Option Nat} {n : Nat} {a0 : Nat} {h : jH} (hn : 6000 ≤ n) (hg : jgok g) (w : jW (jKd g) Γ h) (ta0 : Γ a0 = some 19) : jok (F_X11_best n a0 h) (fun q => jW (jKd g) Γ q.2 ∧ (fun v : Int32 => True) q.1) := by
  unfold F_X11_best
  refine jok_b (t_gR w ta0 rfl rfl) (fun p1_1 tp1_1 => ?_)
  refine jok_b (t_gR w ta0 rfl rfl) (fun p5_2 tp5_2 => ?_)
  try rw [t_cv w tp1_1 rfl]
  refine jok_b (S_X7_shadiest hn hg w tp1_1 tp5_2) (fun q8_3 wq8_3 => ?_)
  obtain ⟨wq8_3, pq8_3⟩ := wq8_3
  exact jok_s ⟨wq8_3, trivial⟩
set_option maxHeartbeats 1000000 in
theorem S_X11_fewest {g : jGh} {Γ : Nat → Option Nat} {n : Nat} {a0 : Nat} {x1 : Int32} {h : jH} (hn : 6000 ≤ n) (hg : jgok g) (w : jW (jKd g) Γ h) (ta0 : Γ a0 = some 19) : jok (F_X11_fewest n a0 x1 h) (fun q => jW (jKd g) Γ q.2 ∧ (fun v : Int32 => True) q.1) := by
  unfold F_X11_fewest
  refine jok_b (t_gR w ta0 rfl rfl) (fun p1_1 tp1_1 => ?_)
  refine jok_b (t_gR w ta0 rfl rfl) (fun p5_2 tp5_2 => ?_)
  try rw [t_cv w tp1_1 rfl]
  refine jok_b (S_X7_seekShade hn hg w tp1_1 tp5_2) (fun h9_3 wh9_3 => ?_)
  refine jok_b (t_gR wh9_3 ta0 rfl rfl) (fun p13_4 tp13_4 => ?_)
  refine jok_b2 (t_gI wh9_3 tp13_4 rfl rfl) (fun v16_5 ev16_5 pv16_5 => ?_)
  exact jok_s ⟨wh9_3, trivial⟩
set_option maxHeartbeats 1000000 in
theorem S_X11_first {g : jGh} {Γ : Nat → Option Nat} {n : Nat} {a0 : Nat} {x1 : Int32} {h : jH} (hn : 6000 ≤ n) (hg : jgok g) (w : jW (jKd g) Γ h) (ta0 : Γ a0 = some 19) : jok (F_X11_first n a0 x1 h) (fun q => jW (jKd g) Γ q.2 ∧ (fun v : Int32 => True) q.1) := by
  unfold F_X11_first
  refine jok_b (t_gR w ta0 rfl rfl) (fun p1_1 tp1_1 => ?_)
  refine jok_b (t_gR w ta0 rfl rfl) (fun p5_2 tp5_2 => ?_)
  try rw [t_cv w tp1_1 rfl]
  refine jok_b (S_X7_seekShade hn hg w tp1_1 tp5_2) (fun h9_3 wh9_3 => ?_)
  refine jok_b (t_gR wh9_3 ta0 rfl rfl) (fun p13_4 tp13_4 => ?_)
  refine jok_b2 (t_gI wh9_3 tp13_4 rfl rfl) (fun v16_5 ev16_5 pv16_5 => ?_)
  exact jok_s ⟨wh9_3, trivial⟩
set_option maxHeartbeats 1000000 in
theorem S_X11_pale {g : jGh} {Γ : Nat → Option Nat} {n : Nat} {a0 : Nat} {h : jH} (hn : 6000 ≤ n) (hg : jgok g) (w : jW (jKd g) Γ h) (ta0 : Γ a0 = some 19) : jok (F_X11_pale n a0 h) (fun q => jW (jKd g) Γ q.2 ∧ (fun v : Int32 => True) q.1) := by
  unfold F_X11_pale
  refine jok_b (t_gR w ta0 rfl rfl) (fun p1_1 tp1_1 => ?_)
  refine jok_b (t_gR w ta0 rfl rfl) (fun p5_2 tp5_2 => ?_)
  try rw [t_cv w tp1_1 rfl]
  refine jok_b (S_X1_firstPale hn hg w tp1_1 tp5_2) (fun q8_3 wq8_3 => ?_)
  obtain ⟨wq8_3, pq8_3⟩ := wq8_3
  exact jok_s ⟨wq8_3, trivial⟩
set_option maxHeartbeats 1000000 in
theorem S_X11_seed {g : jGh} {Γ : Nat → Option Nat} {n : Nat} {a0 : Nat} {x1 : Int32} {h : jH} (hn : 6000 ≤ n) (hg : jgok g) (w : jW (jKd g) Γ h) (ta0 : Γ a0 = some 19) : jok (F_X11_seed n a0 x1 h) (fun q => jW (jKd g) Γ q.2 ∧ (fun v : Int32 => True) q.1) := by
  unfold F_X11_seed
  refine jok_b (t_gR w ta0 rfl rfl) (fun p1_1 tp1_1 => ?_)
  refine jok_b2 (t_gI w tp1_1 rfl rfl) (fun v4_2 ev4_2 pv4_2 => ?_)
  refine jok_b (t_gR w ta0 rfl rfl) (fun p9_3 tp9_3 => ?_)
  refine jok_b (t_pI w tp9_3 rfl rfl trivial) (fun h13_4 wh13_4 => ?_)
  obtain ⟨wh13_4, jh13_4, rh13_4⟩ := wh13_4
  exact jok_s ⟨wh13_4, trivial⟩
set_option maxHeartbeats 1000000 in
theorem S_X11_count {g : jGh} {Γ : Nat → Option Nat} {n : Nat} {a0 : Nat} {x1 : Int32} {h : jH} (hn : 6000 ≤ n) (hg : jgok g) (w : jW (jKd g) Γ h) (ta0 : Γ a0 = some 19) : jok (F_X11_count n a0 x1 h) (fun v => True) := by
  unfold F_X11_count
  have f1 : ((0 : Int32)).toInt = 0 := rfl
  refine jok_eq (fun c2 d2 => ?_) (fun c2 => ?_)
  · refine jok_b (t_gR w ta0 rfl rfl) (fun p61_3 tp61_3 => ?_)
    refine jok_b2 (t_gI w tp61_3 rfl rfl) (fun v64_4 ev64_4 pv64_4 => ?_)
    obtain ⟨lv64_4, uv64_4⟩ := pv64_4
    exact jok_s trivial
  · have f5 : ((1 : Int32)).toInt = 1 := rfl
    refine jok_eq (fun c6 d6 => ?_) (fun c6 => ?_)
    · refine jok_b (t_gR w ta0 rfl rfl) (fun p69_7 tp69_7 => ?_)
      refine jok_b2 (t_gI w tp69_7 rfl rfl) (fun v72_8 ev72_8 pv72_8 => ?_)
      exact jok_s trivial
    · have f9 : ((2 : Int32)).toInt = 2 := rfl
      refine jok_eq (fun c10 d10 => ?_) (fun c10 => ?_)
      · refine jok_b (t_gR w ta0 rfl rfl) (fun p77_11 tp77_11 => ?_)
        refine jok_b2 (t_gI w tp77_11 rfl rfl) (fun v80_12 ev80_12 pv80_12 => ?_)
        obtain ⟨lv80_12, uv80_12⟩ := pv80_12
        refine jok_eq (fun c13 d13 => ?_) (fun c13 => ?_)
        · exact jok_s trivial
        · refine jok_b (t_gR w ta0 rfl rfl) (fun p87_14 tp87_14 => ?_)
          refine jok_b2 (t_gI w tp87_14 rfl rfl) (fun v90_15 ev90_15 pv90_15 => ?_)
          obtain ⟨lv90_15, uv90_15⟩ := pv90_15
          exact jok_s trivial
      · have f16 : ((3 : Int32)).toInt = 3 := rfl
        refine jok_eq (fun c17 d17 => ?_) (fun c17 => ?_)
        · refine jok_b (t_gR w ta0 rfl rfl) (fun p99_18 tp99_18 => ?_)
          refine jok_b2 (t_gI w tp99_18 rfl rfl) (fun v102_19 ev102_19 pv102_19 => ?_)
          exact jok_s trivial
        · have f20 : ((4 : Int32)).toInt = 4 := rfl
          refine jok_eq (fun c21 d21 => ?_) (fun c21 => ?_)
          · refine jok_b (t_gR w ta0 rfl rfl) (fun p107_22 tp107_22 => ?_)
            refine jok_b2 (t_gI w tp107_22 rfl rfl) (fun v110_23 ev110_23 pv110_23 => ?_)
            exact jok_s trivial
          · have f24 : ((5 : Int32)).toInt = 5 := rfl
            refine jok_eq (fun c25 d25 => ?_) (fun c25 => ?_)
            · refine jok_b (t_gR w ta0 rfl rfl) (fun p115_26 tp115_26 => ?_)
              refine jok_b2 (t_gI w tp115_26 rfl rfl) (fun v118_27 ev118_27 pv118_27 => ?_)
              exact jok_s trivial
            · have f28 : ((6 : Int32)).toInt = 6 := rfl
              refine jok_eq (fun c29 d29 => ?_) (fun c29 => ?_)
              · refine jok_b (t_gR w ta0 rfl rfl) (fun p123_30 tp123_30 => ?_)
                refine jok_b2 (t_gI w tp123_30 rfl rfl) (fun v126_31 ev126_31 pv126_31 => ?_)
                exact jok_s trivial
              · have f32 : ((7 : Int32)).toInt = 7 := rfl
                refine jok_eq (fun c33 d33 => ?_) (fun c33 => ?_)
                · refine jok_b (t_gR w ta0 rfl rfl) (fun p131_34 tp131_34 => ?_)
                  refine jok_b2 (t_gI w tp131_34 rfl rfl) (fun v134_35 ev134_35 pv134_35 => ?_)
                  exact jok_s trivial
                · have f36 : ((8 : Int32)).toInt = 8 := rfl
                  refine jok_eq (fun c37 d37 => ?_) (fun c37 => ?_)
                  · refine jok_b (t_gR w ta0 rfl rfl) (fun p139_38 tp139_38 => ?_)
                    refine jok_b2 (t_gI w tp139_38 rfl rfl) (fun v142_39 ev142_39 pv142_39 => ?_)
                    exact jok_s trivial
                  · have f40 : ((9 : Int32)).toInt = 9 := rfl
                    refine jok_eq (fun c41 d41 => ?_) (fun c41 => ?_)
                    · refine jok_b (t_gR w ta0 rfl rfl) (fun p147_42 tp147_42 => ?_)
                      refine jok_b (t_gR w tp147_42 rfl rfl) (fun p150_43 tp150_43 => ?_)
                      refine jok_b2 (t_gI w tp150_43 rfl rfl) (fun v153_44 ev153_44 pv153_44 => ?_)
                      obtain ⟨lv153_44, uv153_44⟩ := pv153_44
                      exact jok_s trivial
                    · have f45 : ((10 : Int32)).toInt = 10 := rfl
                      refine jok_eq (fun c46 d46 => ?_) (fun c46 => ?_)
                      · refine jok_b (t_gR w ta0 rfl rfl) (fun p158_47 tp158_47 => ?_)
                        refine jok_b2 (t_gI w tp158_47 rfl rfl) (fun v161_48 ev161_48 pv161_48 => ?_)
                        obtain ⟨lv161_48, uv161_48⟩ := pv161_48
                        exact jok_s trivial
                      · exact jok_s trivial
set_option maxHeartbeats 1000000 in
theorem S_X11_goes {g : jGh} {Γ : Nat → Option Nat} {n : Nat} {a0 : Nat} {x1 : Int32} {x2 : Int32} {h : jH} (hn : 6000 ≤ n) (hg : jgok g) (w : jW (jKd g) Γ h) (ta0 : Γ a0 = some 19) : jok (F_X11_goes n a0 x1 x2 h) (fun q => jW (jKd g) Γ q.2 ∧ jXok [2] (fun v => True) q.1) := by
  unfold F_X11_goes
  try rw [t_cv w ta0 rfl]
  refine jok_b (S_X11_requireRing hn hg w ta0) (fun q2_1 wq2_1 => ?_)
  obtain ⟨wq2_1, pq2_1⟩ := wq2_1
  refine jok_t pq2_1 (fun k9 q9 => ⟨wq2_1, jX_r (jsub9 q9 (by decide))⟩) (fun r2_2 pr2_2 => ?_)
  have pr2_2_9 := pr2_2
  try dsimp only at pr2_2_9
  refine jok_b (t_gR wq2_1 ta0 rfl rfl) (fun p6_3 tp6_3 => ?_)
  refine jok_b (t_gR wq2_1 ta0 rfl rfl) (fun p10_4 tp10_4 => ?_)
  try rw [t_cv wq2_1 tp6_3 rfl]
  refine jok_b (S_X8_copyFrom hn hg wq2_1 tp6_3 tp10_4) (fun h13_5 wh13_5 => ?_)
  refine jok_b (t_gR wh13_5 ta0 rfl rfl) (fun p17_6 tp17_6 => ?_)
  try rw [t_cv wh13_5 tp17_6 rfl]
  have f8 : ((31 : Int32)).toInt = 31 := rfl
  refine jok_b (S_X8_move hn hg wh13_5 tp17_6 (by omega) (by omega) (by omega) (by omega)) (fun q24_7 wq24_7 => ?_)
  obtain ⟨wq24_7, pq24_7⟩ := wq24_7
  obtain ⟨lq24_7, uq24_7⟩ := pq24_7
  exact jok_s ⟨wq24_7, jX_l trivial⟩
set_option maxHeartbeats 1000000 in
theorem S_X11_with {g : jGh} {Γ : Nat → Option Nat} {n : Nat} {a0 : Nat} {x1 : Int32} {x2 : Int32} {h : jH} (hn : 6000 ≤ n) (hg : jgok g) (w : jW (jKd g) Γ h) (ta0 : Γ a0 = some 19) : jok (F_X11_with n a0 x1 x2 h) (fun q => jW (jKd g) Γ q.2 ∧ jXok [2] (fun v => True) q.1) := by
  unfold F_X11_with
  try rw [t_cv w ta0 rfl]
  refine jok_b (S_X11_requireRing hn hg w ta0) (fun q2_1 wq2_1 => ?_)
  obtain ⟨wq2_1, pq2_1⟩ := wq2_1
  refine jok_t pq2_1 (fun k9 q9 => ⟨wq2_1, jX_r (jsub9 q9 (by decide))⟩) (fun r2_2 pr2_2 => ?_)
  have pr2_2_9 := pr2_2
  try dsimp only at pr2_2_9
  refine jok_b (t_gR wq2_1 ta0 rfl rfl) (fun p6_3 tp6_3 => ?_)
  try rw [t_cv wq2_1 tp6_3 rfl]
  refine jok_b (S_X8_goers hn hg wq2_1 tp6_3 (by omega) (by omega)) (fun v11_4 pv11_4 => ?_)
  exact jok_s ⟨wq2_1, jX_l trivial⟩
set_option maxHeartbeats 1000000 in
theorem S_X11_would {g : jGh} {Γ : Nat → Option Nat} {n : Nat} {a0 : Nat} {x1 : Int32} {x2 : Int32} {x3 : Int32} {x4 : Int32} {h : jH} (hn : 6000 ≤ n) (hg : jgok g) (w : jW (jKd g) Γ h) (ta0 : Γ a0 = some 19) : jok (F_X11_would n a0 x1 x2 x3 x4 h) (fun q => jW (jKd g) Γ q.2 ∧ jXok [2, 0] (fun v => True) q.1) := by
  unfold F_X11_would
  try rw [t_cv w ta0 rfl]
  refine jok_b (S_X11_requireRing hn hg w ta0) (fun q2_1 wq2_1 => ?_)
  obtain ⟨wq2_1, pq2_1⟩ := wq2_1
  refine jok_t pq2_1 (fun k9 q9 => ⟨wq2_1, jX_r (jsub9 q9 (by decide))⟩) (fun r2_2 pr2_2 => ?_)
  have pr2_2_9 := pr2_2
  try dsimp only at pr2_2_9
  try rw [t_cv wq2_1 ta0 rfl]
  refine jok_b (S_X11_requireNumber hn hg wq2_1 ta0) (fun q10_3 wq10_3 => ?_)
  obtain ⟨wq10_3, pq10_3⟩ := wq10_3
  refine jok_t pq10_3 (fun k9 q9 => ⟨wq10_3, jX_r (jsub9 q9 (by decide))⟩) (fun r10_4 pr10_4 => ?_)
  have f5 : ((1 : Int32)).toInt = 1 := rfl
  have f6 : ((31 : Int32)).toInt = 31 := rfl
  have pr10_4_9 := pr10_4
  try dsimp only at pr10_4_9
  refine jok_b (t_gR wq10_3 ta0 rfl rfl) (fun p14_7 tp14_7 => ?_)
  refine jok_b (t_gR wq10_3 ta0 rfl rfl) (fun p18_8 tp18_8 => ?_)
  try rw [t_cv wq10_3 tp14_7 rfl]
  refine jok_b (S_X8_copyFrom hn hg wq10_3 tp14_7 tp18_8) (fun h21_9 wh21_9 => ?_)
  refine jok_b (t_gR wh21_9 ta0 rfl rfl) (fun p25_10 tp25_10 => ?_)
  try rw [t_cv wh21_9 tp25_10 rfl]
  refine jok_b (S_X8_move hn hg wh21_9 tp25_10 (by omega) (by omega) (by omega) (by omega)) (fun q31_11 wq31_11 => ?_)
  obtain ⟨wq31_11, pq31_11⟩ := wq31_11
  obtain ⟨lq31_11, uq31_11⟩ := pq31_11
  have f12 : ((0 : Int32)).toInt = 0 := rfl
  refine jok_eq (fun c13 d13 => ?_) (fun c13 => ?_)
  · refine jok_b (t_gR wq31_11 ta0 rfl rfl) (fun p59_14 tp59_14 => ?_)
    try rw [t_cv wq31_11 tp59_14 rfl]
    refine jok_b (S_X8_shadedChairs hn hg wq31_11 tp59_14) (fun v62_15 pv62_15 => ?_)
    exact jok_s ⟨wq31_11, jX_l trivial⟩
  · refine jok_b (t_gR wq31_11 ta0 rfl rfl) (fun p41_16 tp41_16 => ?_)
    refine jok_b2 (t_gI wq31_11 tp41_16 rfl rfl) (fun v44_17 ev44_17 pv44_17 => ?_)
    refine jok_b (t_gR wq31_11 ta0 rfl rfl) (fun p48_18 tp48_18 => ?_)
    refine jok_b2 (t_gI wq31_11 tp48_18 rfl rfl) (fun v51_19 ev51_19 pv51_19 => ?_)
    exact jok_s ⟨wq31_11, jX_l trivial⟩
set_option maxHeartbeats 1000000 in
theorem S_X11_loosen {g : jGh} {Γ : Nat → Option Nat} {n : Nat} {a0 : Nat} {x1 : Int32} {x2 : Int32} {x3 : Int32} {h : jH} (hn : 6000 ≤ n) (hg : jgok g) (w : jW (jKd g) Γ h) (ta0 : Γ a0 = some 19) : jok (F_X11_loosen n a0 x1 x2 x3 h) (fun q => jW (jKd g) Γ q.2 ∧ jXok [2, 0] (fun v => True) q.1) := by
  unfold F_X11_loosen
  try rw [t_cv w ta0 rfl]
  refine jok_b (S_X11_requireRing hn hg w ta0) (fun q2_1 wq2_1 => ?_)
  obtain ⟨wq2_1, pq2_1⟩ := wq2_1
  refine jok_t pq2_1 (fun k9 q9 => ⟨wq2_1, jX_r (jsub9 q9 (by decide))⟩) (fun r2_2 pr2_2 => ?_)
  have pr2_2_9 := pr2_2
  try dsimp only at pr2_2_9
  try rw [t_cv wq2_1 ta0 rfl]
  refine jok_b (S_X11_requireNumber hn hg wq2_1 ta0) (fun q10_3 wq10_3 => ?_)
  obtain ⟨wq10_3, pq10_3⟩ := wq10_3
  refine jok_t pq10_3 (fun k9 q9 => ⟨wq10_3, jX_r (jsub9 q9 (by decide))⟩) (fun r10_4 pr10_4 => ?_)
  have f5 : ((1 : Int32)).toInt = 1 := rfl
  have f6 : ((31 : Int32)).toInt = 31 := rfl
  have pr10_4_9 := pr10_4
  try dsimp only at pr10_4_9
  refine jok_b (t_gR wq10_3 ta0 rfl rfl) (fun p14_7 tp14_7 => ?_)
  refine jok_b (t_gR wq10_3 ta0 rfl rfl) (fun p18_8 tp18_8 => ?_)
  try rw [t_cv wq10_3 tp14_7 rfl]
  refine jok_b (S_X7_fewestFreed hn hg wq10_3 tp14_7 tp18_8 (by omega) (by omega) (by omega) (by omega)) (fun q24_9 wq24_9 => ?_)
  obtain ⟨wq24_9, pq24_9⟩ := wq24_9
  exact jok_s ⟨wq24_9, jX_l trivial⟩
set_option maxHeartbeats 1000000 in
theorem S_X11_tight {g : jGh} {Γ : Nat → Option Nat} {n : Nat} {a0 : Nat} {x1 : Int32} {h : jH} (hn : 6000 ≤ n) (hg : jgok g) (w : jW (jKd g) Γ h) (ta0 : Γ a0 = some 19) : jok (F_X11_tight n a0 x1 h) (fun q => jW (jKd g) Γ q.2 ∧ jXok [0] (fun v => True) q.1) := by
  unfold F_X11_tight
  try rw [t_cv w ta0 rfl]
  refine jok_b (S_X11_requireNumber hn hg w ta0) (fun q5_1 wq5_1 => ?_)
  obtain ⟨wq5_1, pq5_1⟩ := wq5_1
  refine jok_t pq5_1 (fun k9 q9 => ⟨wq5_1, jX_r (jsub9 q9 (by decide))⟩) (fun r5_2 pr5_2 => ?_)
  have f3 : ((2 : Int32)).toInt = 2 := rfl
  have f4 : ((8 : Int32)).toInt = 8 := rfl
  have pr5_2_9 := pr5_2
  try dsimp only at pr5_2_9
  refine jok_b (t_gR wq5_1 ta0 rfl rfl) (fun p9_5 tp9_5 => ?_)
  refine jok_b (S_X6_tightest hn hg wq5_1 tp9_5 (by omega) (by omega)) (fun v13_6 pv13_6 => ?_)
  exact jok_s ⟨wq5_1, jX_l trivial⟩
set_option maxHeartbeats 1000000 in
theorem S_X11_lit {g : jGh} {Γ : Nat → Option Nat} {n : Nat} {a0 : Nat} {x1 : Int32} {h : jH} (hn : 6000 ≤ n) (hg : jgok g) (w : jW (jKd g) Γ h) (ta0 : Γ a0 = some 19) : jok (F_X11_lit n a0 x1 h) (fun q => jW (jKd g) Γ q.2 ∧ jXok [2] (fun v => True) q.1) := by
  unfold F_X11_lit
  have f1 : ((0 : Int32)).toInt = 0 := rfl
  refine jok_lt (fun c2 => ?_) (fun c2 => ?_)
  · exact jok_s ⟨w, jX_r (by decide)⟩
  · have f3 : ((8 : Int32)).toInt = 8 := rfl
    refine jok_lt (fun c4 => ?_) (fun c4 => ?_)
    · refine jok_b (t_gR w ta0 rfl rfl) (fun p22_5 tp22_5 => ?_)
      refine jok_b (S_X6_litRings hn hg w tp22_5) (fun v26_6 pv26_6 => ?_)
      exact jok_s ⟨w, jX_l trivial⟩
    · exact jok_s ⟨w, jX_r (by decide)⟩
set_option maxHeartbeats 1000000 in
theorem S_X11_faded {g : jGh} {Γ : Nat → Option Nat} {n : Nat} {a0 : Nat} {x1 : Int32} {h : jH} (hn : 6000 ≤ n) (hg : jgok g) (w : jW (jKd g) Γ h) (ta0 : Γ a0 = some 19) : jok (F_X11_faded n a0 x1 h) (fun q => jW (jKd g) Γ q.2 ∧ jXok [0] (fun v => True) q.1) := by
  unfold F_X11_faded
  try rw [t_cv w ta0 rfl]
  refine jok_b (S_X11_requireNumber hn hg w ta0) (fun q5_1 wq5_1 => ?_)
  obtain ⟨wq5_1, pq5_1⟩ := wq5_1
  refine jok_t pq5_1 (fun k9 q9 => ⟨wq5_1, jX_r (jsub9 q9 (by decide))⟩) (fun r5_2 pr5_2 => ?_)
  have f3 : ((0 : Int32)).toInt = 0 := rfl
  have f4 : ((80 : Int32)).toInt = 80 := rfl
  have pr5_2_9 := pr5_2
  try dsimp only at pr5_2_9
  refine jok_b (t_gR wq5_1 ta0 rfl rfl) (fun p9_5 tp9_5 => ?_)
  refine jok_b (t_gR wq5_1 ta0 rfl rfl) (fun p13_6 tp13_6 => ?_)
  try rw [t_cv wq5_1 tp9_5 rfl]
  refine jok_b (S_X1_goAhead hn hg wq5_1 tp9_5 tp13_6 (by omega) (by omega)) (fun h17_7 wh17_7 => ?_)
  refine jok_b (t_gR wh17_7 ta0 rfl rfl) (fun p21_8 tp21_8 => ?_)
  try rw [t_cv wh17_7 tp21_8 rfl]
  refine jok_b (S_X8_allFades hn hg wh17_7 tp21_8) (fun v24_9 pv24_9 => ?_)
  exact jok_s ⟨wh17_7, jX_l trivial⟩
set_option maxHeartbeats 1000000 in
theorem S_X11_lets {g : jGh} {Γ : Nat → Option Nat} {n : Nat} {a0 : Nat} {x1 : Int32} {x2 : Int32} {h : jH} (hn : 6000 ≤ n) (hg : jgok g) (w : jW (jKd g) Γ h) (ta0 : Γ a0 = some 19) : jok (F_X11_lets n a0 x1 x2 h) (fun q => jW (jKd g) Γ q.2 ∧ jXok [2, 0] (fun v => True) q.1) := by
  unfold F_X11_lets
  try rw [t_cv w ta0 rfl]
  refine jok_b (S_X11_requireRing hn hg w ta0) (fun q2_1 wq2_1 => ?_)
  obtain ⟨wq2_1, pq2_1⟩ := wq2_1
  refine jok_t pq2_1 (fun k9 q9 => ⟨wq2_1, jX_r (jsub9 q9 (by decide))⟩) (fun r2_2 pr2_2 => ?_)
  have pr2_2_9 := pr2_2
  try dsimp only at pr2_2_9
  try rw [t_cv wq2_1 ta0 rfl]
  refine jok_b (S_X11_requireNumber hn hg wq2_1 ta0) (fun q10_3 wq10_3 => ?_)
  obtain ⟨wq10_3, pq10_3⟩ := wq10_3
  refine jok_t pq10_3 (fun k9 q9 => ⟨wq10_3, jX_r (jsub9 q9 (by decide))⟩) (fun r10_4 pr10_4 => ?_)
  have f5 : ((0 : Int32)).toInt = 0 := rfl
  have f6 : ((9 : Int32)).toInt = 9 := rfl
  have pr10_4_9 := pr10_4
  try dsimp only at pr10_4_9
  refine jok_b (t_gR wq10_3 ta0 rfl rfl) (fun p14_7 tp14_7 => ?_)
  refine jok_b (S_X6_evenLength hn hg wq10_3 tp14_7) (fun v19_8 pv19_8 => ?_)
  exact jok_s ⟨wq10_3, jX_l trivial⟩
set_option maxHeartbeats 1000000 in
theorem S_X11_rests {g : jGh} {Γ : Nat → Option Nat} {n : Nat} {a0 : Nat} {x1 : Int32} {h : jH} (hn : 6000 ≤ n) (hg : jgok g) (w : jW (jKd g) Γ h) (ta0 : Γ a0 = some 19) : jok (F_X11_rests n a0 x1 h) (fun q => jW (jKd g) Γ q.2 ∧ jXok [2] (fun v => True) q.1) := by
  unfold F_X11_rests
  try rw [t_cv w ta0 rfl]
  refine jok_b (S_X11_requireRing hn hg w ta0) (fun q2_1 wq2_1 => ?_)
  obtain ⟨wq2_1, pq2_1⟩ := wq2_1
  refine jok_t pq2_1 (fun k9 q9 => ⟨wq2_1, jX_r (jsub9 q9 (by decide))⟩) (fun r2_2 pr2_2 => ?_)
  have pr2_2_9 := pr2_2
  try dsimp only at pr2_2_9
  refine jok_b (t_gR wq2_1 ta0 rfl rfl) (fun p6_3 tp6_3 => ?_)
  refine jok_b (S_X6_restingChoices hn hg wq2_1 tp6_3) (fun v10_4 pv10_4 => ?_)
  exact jok_s ⟨wq2_1, jX_l trivial⟩
set_option maxHeartbeats 1000000 in
theorem S_X11_odds {g : jGh} {Γ : Nat → Option Nat} {n : Nat} {a0 : Nat} {x1 : Int32} {x2 : Int32} {h : jH} (hn : 6000 ≤ n) (hg : jgok g) (w : jW (jKd g) Γ h) (ta0 : Γ a0 = some 19) : jok (F_X11_odds n a0 x1 x2 h) (fun q => jW (jKd g) Γ q.2 ∧ jXok [2, 0] (fun v => True) q.1) := by
  unfold F_X11_odds
  try rw [t_cv w ta0 rfl]
  refine jok_b (S_X11_requireRing hn hg w ta0) (fun q2_1 wq2_1 => ?_)
  obtain ⟨wq2_1, pq2_1⟩ := wq2_1
  refine jok_t pq2_1 (fun k9 q9 => ⟨wq2_1, jX_r (jsub9 q9 (by decide))⟩) (fun r2_2 pr2_2 => ?_)
  have pr2_2_9 := pr2_2
  try dsimp only at pr2_2_9
  try rw [t_cv wq2_1 ta0 rfl]
  refine jok_b (S_X11_requireNumber hn hg wq2_1 ta0) (fun q9_3 wq9_3 => ?_)
  obtain ⟨wq9_3, pq9_3⟩ := wq9_3
  refine jok_t pq9_3 (fun k9 q9 => ⟨wq9_3, jX_r (jsub9 q9 (by decide))⟩) (fun r9_4 pr9_4 => ?_)
  have f5 : ((0 : Int32)).toInt = 0 := rfl
  have f6 : ((4 : Int32)).toInt = 4 := rfl
  have pr9_4_9 := pr9_4
  try dsimp only at pr9_4_9
  refine jok_b (t_gR wq9_3 ta0 rfl rfl) (fun p13_7 tp13_7 => ?_)
  refine jok_b (t_gR wq9_3 ta0 rfl rfl) (fun p17_8 tp17_8 => ?_)
  try rw [t_cv wq9_3 tp13_7 rfl]
  refine jok_b (S_X1_oddsToStay hn hg wq9_3 tp13_7 tp17_8 (by omega) (by omega) (by omega) (by omega)) (fun q22_9 wq22_9 => ?_)
  obtain ⟨wq22_9, pq22_9⟩ := wq22_9
  exact jok_s ⟨wq22_9, jX_l trivial⟩
set_option maxHeartbeats 1000000 in
theorem S_X11_ahead {g : jGh} {Γ : Nat → Option Nat} {n : Nat} {a0 : Nat} {x1 : Int32} {x2 : Int32} {h : jH} (hn : 6000 ≤ n) (hg : jgok g) (w : jW (jKd g) Γ h) (ta0 : Γ a0 = some 19) : jok (F_X11_ahead n a0 x1 x2 h) (fun q => jW (jKd g) Γ q.2 ∧ jXok [2, 0] (fun v => True) q.1) := by
  unfold F_X11_ahead
  try rw [t_cv w ta0 rfl]
  refine jok_b (S_X11_requireRing hn hg w ta0) (fun q2_1 wq2_1 => ?_)
  obtain ⟨wq2_1, pq2_1⟩ := wq2_1
  refine jok_t pq2_1 (fun k9 q9 => ⟨wq2_1, jX_r (jsub9 q9 (by decide))⟩) (fun r2_2 pr2_2 => ?_)
  have pr2_2_9 := pr2_2
  try dsimp only at pr2_2_9
  try rw [t_cv wq2_1 ta0 rfl]
  refine jok_b (S_X11_requireNumber hn hg wq2_1 ta0) (fun q10_3 wq10_3 => ?_)
  obtain ⟨wq10_3, pq10_3⟩ := wq10_3
  refine jok_t pq10_3 (fun k9 q9 => ⟨wq10_3, jX_r (jsub9 q9 (by decide))⟩) (fun r10_4 pr10_4 => ?_)
  have f5 : ((0 : Int32)).toInt = 0 := rfl
  have f6 : ((80 : Int32)).toInt = 80 := rfl
  have pr10_4_9 := pr10_4
  try dsimp only at pr10_4_9
  refine jok_b (t_gR wq10_3 ta0 rfl rfl) (fun p14_7 tp14_7 => ?_)
  refine jok_b (t_gR wq10_3 ta0 rfl rfl) (fun p18_8 tp18_8 => ?_)
  try rw [t_cv wq10_3 tp14_7 rfl]
  refine jok_b (S_X1_goAhead hn hg wq10_3 tp14_7 tp18_8 (by omega) (by omega)) (fun h22_9 wh22_9 => ?_)
  refine jok_b (t_gR wh22_9 ta0 rfl rfl) (fun p26_10 tp26_10 => ?_)
  refine jok_b (t_gR wh22_9 tp26_10 rfl rfl) (fun p29_11 tp29_11 => ?_)
  refine jok_b (t_al wh22_9 tp29_11 rfl (by omega) (by omega)) (fun v33_12 pv33_12 => ?_)
  exact jok_s ⟨wh22_9, jX_l trivial⟩
set_option maxHeartbeats 1000000 in
theorem S_X11_trial {g : jGh} {Γ : Nat → Option Nat} {n : Nat} {a0 : Nat} {x1 : Int32} {x2 : Int32} {h : jH} (hn : 6000 ≤ n) (hg : jgok g) (w : jW (jKd g) Γ h) (ta0 : Γ a0 = some 19) : jok (F_X11_trial n a0 x1 x2 h) (fun q => jW (jKd g) Γ q.2 ∧ jXok [0] (fun v => True) q.1) := by
  unfold F_X11_trial
  try rw [t_cv w ta0 rfl]
  refine jok_b (S_X11_requireNumber hn hg w ta0) (fun q5_1 wq5_1 => ?_)
  obtain ⟨wq5_1, pq5_1⟩ := wq5_1
  refine jok_t pq5_1 (fun k9 q9 => ⟨wq5_1, jX_r (jsub9 q9 (by decide))⟩) (fun r5_2 pr5_2 => ?_)
  have f3 : ((0 : Int32)).toInt = 0 := rfl
  have f4 : ((80 : Int32)).toInt = 80 := rfl
  have pr5_2_9 := pr5_2
  try dsimp only at pr5_2_9
  refine jok_b (t_gR wq5_1 ta0 rfl rfl) (fun p9_5 tp9_5 => ?_)
  refine jok_b (t_gR wq5_1 ta0 rfl rfl) (fun p13_6 tp13_6 => ?_)
  refine jok_b (t_gR wq5_1 ta0 rfl rfl) (fun p18_7 tp18_7 => ?_)
  refine jok_b2 (t_gI wq5_1 tp18_7 rfl rfl) (fun v21_8 ev21_8 pv21_8 => ?_)
  try rw [t_cv wq5_1 tp9_5 rfl]
  refine jok_b (S_X1_tryHours hn hg wq5_1 tp9_5 tp13_6 (by omega) (by omega)) (fun h24_9 wh24_9 => ?_)
  refine jok_eq (fun c10 d10 => ?_) (fun c10 => ?_)
  · refine jok_b (t_gR wh24_9 ta0 rfl rfl) (fun p42_11 tp42_11 => ?_)
    refine jok_b2 (t_gI wh24_9 tp42_11 rfl rfl) (fun v45_12 ev45_12 pv45_12 => ?_)
    exact jok_s ⟨wh24_9, jX_l trivial⟩
  · refine jok_b (t_gR wh24_9 ta0 rfl rfl) (fun p32_13 tp32_13 => ?_)
    try rw [t_cv wh24_9 tp32_13 rfl]
    refine jok_b (S_X8_unhooked hn hg wh24_9 tp32_13) (fun v35_14 pv35_14 => ?_)
    exact jok_s ⟨wh24_9, jX_l trivial⟩
end
