set_option maxHeartbeats 1000000 in
theorem S_X7_stepsToShade_11 {g : jGh} {Γ : Nat → Option Nat} {n : Nat} (hn : 6000 ≤ n) (hg : jgok g)  (k : Nat) : ∀ {a0 : Nat} {x2 : Int32} {x3 : Int32} {x4 : Int32} {h : jH}, jW (jKd g) Γ h → (Γ a0 = some 18) → (0 ≤ x3.toInt) → (x3.toInt ≤ 15) → (0 ≤ x4.toInt) → (x4.toInt ≤ 32) → (32 : Int) - x4.toInt < (k : Int) → jok (F_X7_stepsToShade_11 n k a0 x2 x3 x4 h) (fun q => jW (jKd g) Γ q.2 ∧ (fun v : Int32 => True) q.1) := by
  induction k with
  | zero =>
    intro a0 x2 x3 x4 h w ta0 lx3 ux3 lx4 ux4 mk
    omega
  | succ k ih =>
    intro a0 x2 x3 x4 h w ta0 lx3 ux3 lx4 ux4 mk
    show jok (F_X7_stepsToShade_11_b n (F_X7_stepsToShade_11 n k) a0 x2 x3 x4 h) _
    unfold F_X7_stepsToShade_11_b
    have f1 : ((31 : Int32)).toInt = 31 := rfl
    refine jok_lt (fun c2 => ?_) (fun c2 => ?_)
    · exact jok_s ⟨w, trivial⟩
    · refine jok_b (t_gR w ta0 rfl rfl) (fun p19_3 tp19_3 => ?_)
      have f4 : ((2 : Int32)).toInt = 2 := rfl
      have f5 : ((x3 / (2 : Int32))).toInt = (x3).toInt / 2 := jdivL (c := 2) (by omega) rfl (by decide)
      have f6 : (((x3 / (2 : Int32)) * (2 : Int32))).toInt = 2 * ((x3 / (2 : Int32))).toInt := jmulR (c := 2) (by omega) (by omega) (by omega)
      have f7 : ((x3 - ((x3 / (2 : Int32)) * (2 : Int32)))).toInt = (x3).toInt - (((x3 / (2 : Int32)) * (2 : Int32))).toInt := jsub (by omega) (by omega)
      have f8 : ((1 : Int32)).toInt = 1 := rfl
      refine jok_eq (fun c9 d9 => ?_) (fun c9 => ?_)
      · unfold F_X7_stepsToShade_37
        rw [t_cv w tp19_3 rfl]
        refine jok_b (S_X8_move hn hg w tp19_3 (by omega) (by omega) (by omega) (by omega)) (fun q38_10 wq38_10 => ?_)
        obtain ⟨wq38_10, pq38_10⟩ := wq38_10
        obtain ⟨lq38_10, uq38_10⟩ := pq38_10
        refine jok_eq (fun c11 d11 => ?_) (fun c11 => ?_)
        · refine jok_b (t_gR wq38_10 ta0 rfl rfl) (fun p46_12 tp46_12 => ?_)
          rw [t_cv wq38_10 tp46_12 rfl]
          refine jok_b (S_X8_shadow hn hg wq38_10 tp46_12) (fun v49_13 pv49_13 => ?_)
          refine jok_eq (fun c14 d14 => ?_) (fun c14 => ?_)
          · exact jok_s ⟨wq38_10, trivial⟩
          · have f15 : ((x4 + (1 : Int32))).toInt = (x4).toInt + ((1 : Int32)).toInt := jadd (by omega) (by omega)
            exact ih wq38_10 ta0 (by omega) (by omega) (by omega) (by omega) (by omega)
        · exact jok_s ⟨wq38_10, trivial⟩
      · unfold F_X7_stepsToShade_37
        rw [t_cv w tp19_3 rfl]
        refine jok_b (S_X8_move hn hg w tp19_3 (by omega) (by omega) (by omega) (by omega)) (fun q38_16 wq38_16 => ?_)
        obtain ⟨wq38_16, pq38_16⟩ := wq38_16
        obtain ⟨lq38_16, uq38_16⟩ := pq38_16
        refine jok_eq (fun c17 d17 => ?_) (fun c17 => ?_)
        · refine jok_b (t_gR wq38_16 ta0 rfl rfl) (fun p46_18 tp46_18 => ?_)
          rw [t_cv wq38_16 tp46_18 rfl]
          refine jok_b (S_X8_shadow hn hg wq38_16 tp46_18) (fun v49_19 pv49_19 => ?_)
          refine jok_eq (fun c20 d20 => ?_) (fun c20 => ?_)
          · exact jok_s ⟨wq38_16, trivial⟩
          · have f21 : ((x4 + (1 : Int32))).toInt = (x4).toInt + ((1 : Int32)).toInt := jadd (by omega) (by omega)
            exact ih wq38_16 ta0 (by omega) (by omega) (by omega) (by omega) (by omega)
        · exact jok_s ⟨wq38_16, trivial⟩
set_option maxHeartbeats 1000000 in
theorem S_X7_stepsToShade {g : jGh} {Γ : Nat → Option Nat} {n : Nat} {a0 : Nat} {a1 : Nat} {x2 : Int32} {x3 : Int32} {h : jH} (hn : 6000 ≤ n) (hg : jgok g) (w : jW (jKd g) Γ h) (ta0 : Γ a0 = some 18) (ta1 : Γ a1 = some 3) (lx3 : 0 ≤ x3.toInt) (ux3 : x3.toInt ≤ 15) : jok (F_X7_stepsToShade n a0 a1 x2 x3 h) (fun q => jW (jKd g) Γ q.2 ∧ (fun v : Int32 => True) q.1) := by
  unfold F_X7_stepsToShade
  refine jok_b (t_gR w ta0 rfl rfl) (fun p1_1 tp1_1 => ?_)
  rw [t_cv w tp1_1 rfl]
  refine jok_b (S_X8_hangAs hn hg w tp1_1 ta1) (fun h5_2 wh5_2 => ?_)
  have f3 : ((1 : Int32)).toInt = 1 := rfl
  exact S_X7_stepsToShade_11 hn hg  n wh5_2 ta0 (by omega) (by omega) (by omega) (by omega) (by omega)
set_option maxHeartbeats 1000000 in
theorem S_X7_seekShade_42 {g : jGh} {Γ : Nat → Option Nat} {n : Nat} (hn : 6000 ≤ n) (hg : jgok g)  (k : Nat) : ∀ {a0 : Nat} {a1 : Nat} {x2 : Int32} {x3 : Int32} {h : jH}, jW (jKd g) Γ h → (Γ a0 = some 18) → (Γ a1 = some 3) → (0 ≤ x3.toInt) → (x3.toInt ≤ 16) → (16 : Int) - x3.toInt < (k : Int) → jok (F_X7_seekShade_42 n k a0 a1 x2 x3 h) (fun q => jW (jKd g) Γ q) := by
  induction k with
  | zero =>
    intro a0 a1 x2 x3 h w ta0 ta1 lx3 ux3 mk
    omega
  | succ k ih =>
    intro a0 a1 x2 x3 h w ta0 ta1 lx3 ux3 mk
    show jok (F_X7_seekShade_42_b n (F_X7_seekShade_42 n k) a0 a1 x2 x3 h) _
    unfold F_X7_seekShade_42_b
    refine jok_b2 (t_gI w ta1 rfl rfl) (fun v45_1 ev45_1 pv45_1 => ?_)
    obtain ⟨lv45_1, uv45_1⟩ := pv45_1
    have f2 : ((2 : Int32)).toInt = 2 := rfl
    have f3 : (((2 : Int32) * v45_1)).toInt = 2 * (v45_1).toInt := jmulL (c := 2) (by omega) (by omega) (by omega)
    refine jok_le (fun c4 => ?_) (fun c4 => ?_)
    · exact jok_s w
    · rw [t_cv w ta0 rfl]
      refine jok_b (S_X7_stepsToShade hn hg w ta0 ta1 (by omega) (by omega)) (fun q56_5 wq56_5 => ?_)
      obtain ⟨wq56_5, pq56_5⟩ := wq56_5
      have f6 : ((-1 : Int32)).toInt = -1 := rfl
      refine jok_eq (fun c7 d7 => ?_) (fun c7 => ?_)
      · have f8 : ((1 : Int32)).toInt = 1 := rfl
        have f9 : ((x3 + (1 : Int32))).toInt = (x3).toInt + ((1 : Int32)).toInt := jadd (by omega) (by omega)
        exact ih wq56_5 ta0 ta1 (by omega) (by omega) (by omega)
      · refine jok_b2 (t_gI wq56_5 ta0 rfl rfl) (fun v68_10 ev68_10 pv68_10 => ?_)
        refine jok_eq (fun c11 d11 => ?_) (fun c11 => ?_)
        · refine jok_b (t_pI wq56_5 ta0 rfl rfl trivial) (fun h87_12 wh87_12 => ?_)
          obtain ⟨wh87_12, jh87_12, rh87_12⟩ := wh87_12
          refine jok_b (t_pI wh87_12 ta0 rfl rfl trivial) (fun h92_13 wh92_13 => ?_)
          obtain ⟨wh92_13, jh92_13, rh92_13⟩ := wh92_13
          have f14 : ((1 : Int32)).toInt = 1 := rfl
          have f15 : ((x3 + (1 : Int32))).toInt = (x3).toInt + ((1 : Int32)).toInt := jadd (by omega) (by omega)
          exact ih wh92_13 ta0 ta1 (by omega) (by omega) (by omega)
        · refine jok_r ev68_10 ?_
          refine jok_le (fun c17 => ?_) (fun c17 => ?_)
          · have f18 : ((1 : Int32)).toInt = 1 := rfl
            have f19 : ((x3 + (1 : Int32))).toInt = (x3).toInt + ((1 : Int32)).toInt := jadd (by omega) (by omega)
            exact ih wq56_5 ta0 ta1 (by omega) (by omega) (by omega)
          · refine jok_b (t_pI wq56_5 ta0 rfl rfl trivial) (fun h87_20 wh87_20 => ?_)
            obtain ⟨wh87_20, jh87_20, rh87_20⟩ := wh87_20
            refine jok_b (t_pI wh87_20 ta0 rfl rfl trivial) (fun h92_21 wh92_21 => ?_)
            obtain ⟨wh92_21, jh92_21, rh92_21⟩ := wh92_21
            have f22 : ((1 : Int32)).toInt = 1 := rfl
            have f23 : ((x3 + (1 : Int32))).toInt = (x3).toInt + ((1 : Int32)).toInt := jadd (by omega) (by omega)
            exact ih wh92_21 ta0 ta1 (by omega) (by omega) (by omega)
set_option maxHeartbeats 1000000 in
theorem S_X7_seekShade {g : jGh} {Γ : Nat → Option Nat} {n : Nat} {a0 : Nat} {a1 : Nat} {x2 : Int32} {h : jH} (hn : 6000 ≤ n) (hg : jgok g) (w : jW (jKd g) Γ h) (ta0 : Γ a0 = some 18) (ta1 : Γ a1 = some 3) : jok (F_X7_seekShade n a0 a1 x2 h) (fun q => jW (jKd g) Γ q) := by
  unfold F_X7_seekShade
  have f2 : ((-1 : Int32)).toInt = -1 := rfl
  refine jok_b (t_pI w ta0 rfl rfl trivial) (fun h2_1 wh2_1 => ?_)
  obtain ⟨wh2_1, jh2_1, rh2_1⟩ := wh2_1
  rw [t_cv wh2_1 ta1 rfl]
  refine jok_b (S_X8_shadow hn hg wh2_1 ta1) (fun v7_3 pv7_3 => ?_)
  refine jok_eq (fun c4 d4 => ?_) (fun c4 => ?_)
  · unfold F_X7_seekShade_21
    have f6 : ((0 : Int32)).toInt = 0 := rfl
    refine jok_b (t_pI wh2_1 ta0 rfl rfl trivial) (fun h21_5 wh21_5 => ?_)
    obtain ⟨wh21_5, jh21_5, rh21_5⟩ := wh21_5
    refine jok_r (fJ jh21_5) ?_
    refine jok_eq (fun c8 d8 => ?_) (fun c8 => ?_)
    · exact jok_s wh21_5
    · refine jok_b (t_gR wh21_5 ta0 rfl rfl) (fun p33_9 tp33_9 => ?_)
      rw [t_cv wh21_5 tp33_9 rfl]
      refine jok_b (S_X8_copyFrom hn hg wh21_5 tp33_9 ta1) (fun h37_10 wh37_10 => ?_)
      exact S_X7_seekShade_42 hn hg  n wh37_10 ta0 ta1 (by omega) (by omega) (by omega)
  · unfold F_X7_seekShade_21
    refine jok_b (t_pI wh2_1 ta0 rfl rfl trivial) (fun h21_11 wh21_11 => ?_)
    obtain ⟨wh21_11, jh21_11, rh21_11⟩ := wh21_11
    refine jok_r (fJ jh21_11) ?_
    have f13 : ((0 : Int32)).toInt = 0 := rfl
    refine jok_eq (fun c14 d14 => ?_) (fun c14 => ?_)
    · exact jok_s wh21_11
    · refine jok_b (t_gR wh21_11 ta0 rfl rfl) (fun p33_15 tp33_15 => ?_)
      rw [t_cv wh21_11 tp33_15 rfl]
      refine jok_b (S_X8_copyFrom hn hg wh21_11 tp33_15 ta1) (fun h37_16 wh37_16 => ?_)
      exact S_X7_seekShade_42 hn hg  n wh37_16 ta0 ta1 (by omega) (by omega) (by omega)
set_option maxHeartbeats 1000000 in
theorem S_X7_fewestFreed_14 {g : jGh} {Γ : Nat → Option Nat} {n : Nat} (hn : 6000 ≤ n) (hg : jgok g)  (k : Nat) : ∀ {a0 : Nat} {a1 : Nat} {x2 : Int32} {x3 : Int32} {x4 : Int32} {x5 : Int32} {x6 : Int32} {h : jH}, jW (jKd g) Γ h → (Γ a0 = some 18) → (Γ a1 = some 3) → (0 ≤ x2.toInt) → (x2.toInt ≤ 7) → (0 ≤ x4.toInt) → (x4.toInt ≤ 31) → (0 ≤ x6.toInt) → (x6.toInt ≤ 128) → (128 : Int) - x6.toInt < (k : Int) → jok (F_X7_fewestFreed_14 n k a0 a1 x2 x3 x4 x5 x6 h) (fun q => jW (jKd g) Γ q.2 ∧ (fun v : Int32 => True) q.1) := by
  induction k with
  | zero =>
    intro a0 a1 x2 x3 x4 x5 x6 h w ta0 ta1 lx2 ux2 lx4 ux4 lx6 ux6 mk
    omega
  | succ k ih =>
    intro a0 a1 x2 x3 x4 x5 x6 h w ta0 ta1 lx2 ux2 lx4 ux4 lx6 ux6 mk
    show jok (F_X7_fewestFreed_14_b n (F_X7_fewestFreed_14 n k) a0 a1 x2 x3 x4 x5 x6 h) _
    unfold F_X7_fewestFreed_14_b
    have f1 : ((128 : Int32)).toInt = 128 := rfl
    refine jok_le (fun c2 => ?_) (fun c2 => ?_)
    · exact jok_s ⟨w, trivial⟩
    · have f3 : ((-1 : Int32)).toInt = -1 := rfl
      refine jok_eq (fun c4 d4 => ?_) (fun c4 => ?_)
      · unfold F_X7_fewestFreed_46
        refine jok_b2 (t_gI w ta1 rfl rfl) (fun v51_5 ev51_5 pv51_5 => ?_)
        have f6 : ((0 : Int32)).toInt = 0 := rfl
        refine jok_eq (fun c7 d7 => ?_) (fun c7 => ?_)
        · have f8 : ((1 : Int32)).toInt = 1 := rfl
          refine jok_eq (fun c9 d9 => ?_) (fun c9 => ?_)
          · have f10 : ((x6 + (1 : Int32))).toInt = (x6).toInt + ((1 : Int32)).toInt := jadd (by omega) (by omega)
            exact ih w ta0 ta1 (by omega) (by omega) (by omega) (by omega) (by omega) (by omega) (by omega)
          · refine jok_r ev51_5 ?_
            rw [t_cv w ta0 rfl]
            refine jok_b (S_X7_farWith hn hg w ta0 ta1 (by omega) (by omega) (by omega) (by omega)) (fun q80_12 wq80_12 => ?_)
            obtain ⟨wq80_12, pq80_12⟩ := wq80_12
            obtain ⟨lq80_12, uq80_12⟩ := pq80_12
            refine jok_eq (fun c13 d13 => ?_) (fun c13 => ?_)
            · have f14 : ((x6 + (1 : Int32))).toInt = (x6).toInt + ((1 : Int32)).toInt := jadd (by omega) (by omega)
              exact ih wq80_12 ta0 ta1 (by omega) (by omega) (by omega) (by omega) (by omega) (by omega) (by omega)
            · have f15 : ((x6 + (1 : Int32))).toInt = (x6).toInt + ((1 : Int32)).toInt := jadd (by omega) (by omega)
              exact ih wq80_12 ta0 ta1 (by omega) (by omega) (by omega) (by omega) (by omega) (by omega) (by omega)
        · have f16 : ((1 : Int32)).toInt = 1 := rfl
          have f17 : ((x6 + (1 : Int32))).toInt = (x6).toInt + ((1 : Int32)).toInt := jadd (by omega) (by omega)
          exact ih w ta0 ta1 (by omega) (by omega) (by omega) (by omega) (by omega) (by omega) (by omega)
      · refine jok_b (S_J6_bitCount_0f7a4 hn hg w) (fun v30_18 pv30_18 => ?_)
        refine jok_b (S_J6_bitCount_0f7a4 hn hg w) (fun v35_19 pv35_19 => ?_)
        refine jok_le (fun c20 => ?_) (fun c20 => ?_)
        · unfold F_X7_fewestFreed_46
          refine jok_b2 (t_gI w ta1 rfl rfl) (fun v51_21 ev51_21 pv51_21 => ?_)
          have f22 : ((0 : Int32)).toInt = 0 := rfl
          refine jok_eq (fun c23 d23 => ?_) (fun c23 => ?_)
          · refine jok_eq (fun c24 d24 => ?_) (fun c24 => ?_)
            · have f25 : ((1 : Int32)).toInt = 1 := rfl
              have f26 : ((x6 + (1 : Int32))).toInt = (x6).toInt + ((1 : Int32)).toInt := jadd (by omega) (by omega)
              exact ih w ta0 ta1 (by omega) (by omega) (by omega) (by omega) (by omega) (by omega) (by omega)
            · refine jok_r ev51_21 ?_
              rw [t_cv w ta0 rfl]
              refine jok_b (S_X7_farWith hn hg w ta0 ta1 (by omega) (by omega) (by omega) (by omega)) (fun q80_28 wq80_28 => ?_)
              obtain ⟨wq80_28, pq80_28⟩ := wq80_28
              obtain ⟨lq80_28, uq80_28⟩ := pq80_28
              refine jok_eq (fun c29 d29 => ?_) (fun c29 => ?_)
              · have f30 : ((1 : Int32)).toInt = 1 := rfl
                have f31 : ((x6 + (1 : Int32))).toInt = (x6).toInt + ((1 : Int32)).toInt := jadd (by omega) (by omega)
                exact ih wq80_28 ta0 ta1 (by omega) (by omega) (by omega) (by omega) (by omega) (by omega) (by omega)
              · have f32 : ((1 : Int32)).toInt = 1 := rfl
                have f33 : ((x6 + (1 : Int32))).toInt = (x6).toInt + ((1 : Int32)).toInt := jadd (by omega) (by omega)
                exact ih wq80_28 ta0 ta1 (by omega) (by omega) (by omega) (by omega) (by omega) (by omega) (by omega)
          · have f34 : ((1 : Int32)).toInt = 1 := rfl
            have f35 : ((x6 + (1 : Int32))).toInt = (x6).toInt + ((1 : Int32)).toInt := jadd (by omega) (by omega)
            exact ih w ta0 ta1 (by omega) (by omega) (by omega) (by omega) (by omega) (by omega) (by omega)
        · unfold F_X7_fewestFreed_46
          refine jok_b2 (t_gI w ta1 rfl rfl) (fun v51_36 ev51_36 pv51_36 => ?_)
          have f37 : ((0 : Int32)).toInt = 0 := rfl
          refine jok_eq (fun c38 d38 => ?_) (fun c38 => ?_)
          · have f39 : ((1 : Int32)).toInt = 1 := rfl
            refine jok_eq (fun c40 d40 => ?_) (fun c40 => ?_)
            · have f41 : ((x6 + (1 : Int32))).toInt = (x6).toInt + ((1 : Int32)).toInt := jadd (by omega) (by omega)
              exact ih w ta0 ta1 (by omega) (by omega) (by omega) (by omega) (by omega) (by omega) (by omega)
            · refine jok_r ev51_36 ?_
              rw [t_cv w ta0 rfl]
              refine jok_b (S_X7_farWith hn hg w ta0 ta1 (by omega) (by omega) (by omega) (by omega)) (fun q80_43 wq80_43 => ?_)
              obtain ⟨wq80_43, pq80_43⟩ := wq80_43
              obtain ⟨lq80_43, uq80_43⟩ := pq80_43
              refine jok_eq (fun c44 d44 => ?_) (fun c44 => ?_)
              · have f45 : ((x6 + (1 : Int32))).toInt = (x6).toInt + ((1 : Int32)).toInt := jadd (by omega) (by omega)
                exact ih wq80_43 ta0 ta1 (by omega) (by omega) (by omega) (by omega) (by omega) (by omega) (by omega)
              · have f46 : ((x6 + (1 : Int32))).toInt = (x6).toInt + ((1 : Int32)).toInt := jadd (by omega) (by omega)
                exact ih wq80_43 ta0 ta1 (by omega) (by omega) (by omega) (by omega) (by omega) (by omega) (by omega)
          · have f47 : ((1 : Int32)).toInt = 1 := rfl
            have f48 : ((x6 + (1 : Int32))).toInt = (x6).toInt + ((1 : Int32)).toInt := jadd (by omega) (by omega)
            exact ih w ta0 ta1 (by omega) (by omega) (by omega) (by omega) (by omega) (by omega) (by omega)
set_option maxHeartbeats 1000000 in
theorem S_X7_fewestFreed {g : jGh} {Γ : Nat → Option Nat} {n : Nat} {a0 : Nat} {a1 : Nat} {x2 : Int32} {x3 : Int32} {x4 : Int32} {h : jH} (hn : 6000 ≤ n) (hg : jgok g) (w : jW (jKd g) Γ h) (ta0 : Γ a0 = some 18) (ta1 : Γ a1 = some 3) (lx2 : 0 ≤ x2.toInt) (ux2 : x2.toInt ≤ 7) (lx4 : 0 ≤ x4.toInt) (ux4 : x4.toInt ≤ 31) : jok (F_X7_fewestFreed n a0 a1 x2 x3 x4 h) (fun q => jW (jKd g) Γ q.2 ∧ (fun v : Int32 => True) q.1) := by
  unfold F_X7_fewestFreed
  refine jok_b (t_gR w ta0 rfl rfl) (fun p1_1 tp1_1 => ?_)
  rw [t_cv w tp1_1 rfl]
  refine jok_b (S_X8_copyFrom hn hg w tp1_1 ta1) (fun h5_2 wh5_2 => ?_)
  have f3 : ((0 : Int32)).toInt = 0 := rfl
  exact S_X7_fewestFreed_14 hn hg  n wh5_2 ta0 ta1 (by omega) (by omega) (by omega) (by omega) (by omega) (by omega) (by omega)
set_option maxHeartbeats 1000000 in
theorem S_X7_inAllFitting_20 {g : jGh} {Γ : Nat → Option Nat} {n : Nat} (hn : 6000 ≤ n) (hg : jgok g)  (k : Nat) : ∀ {a0 : Nat} {x1 : Int32} {x2 : Int32} {h : jH}, jW (jKd g) Γ h → (Γ a0 = some 18) → (0 ≤ x2.toInt) → (x2.toInt ≤ 128) → (128 : Int) - x2.toInt < (k : Int) → jok (F_X7_inAllFitting_20 n k a0 x1 x2 h) (fun v => True) := by
  induction k with
  | zero =>
    intro a0 x1 x2 h w ta0 lx2 ux2 mk
    omega
  | succ k ih =>
    intro a0 x1 x2 h w ta0 lx2 ux2 mk
    show jok (F_X7_inAllFitting_20_b n (F_X7_inAllFitting_20 n k) a0 x1 x2 h) _
    unfold F_X7_inAllFitting_20_b
    refine jok_b2 (t_gI w ta0 rfl rfl) (fun v22_1 ev22_1 pv22_1 => ?_)
    obtain ⟨lv22_1, uv22_1⟩ := pv22_1
    refine jok_le (fun c2 => ?_) (fun c2 => ?_)
    · exact jok_s trivial
    · refine jok_b (t_gR w ta0 rfl rfl) (fun p30_3 tp30_3 => ?_)
      refine jok_b (t_al w tp30_3 rfl (by omega) (by omega)) (fun v34_4 pv34_4 => ?_)
      have f5 : ((1 : Int32)).toInt = 1 := rfl
      have f6 : ((x2 + (1 : Int32))).toInt = (x2).toInt + ((1 : Int32)).toInt := jadd (by omega) (by omega)
      exact ih w ta0 (by omega) (by omega) (by omega)
set_option maxHeartbeats 1000000 in
theorem S_X7_inAllFitting {g : jGh} {Γ : Nat → Option Nat} {n : Nat} {a0 : Nat} {h : jH} (hn : 6000 ≤ n) (hg : jgok g) (w : jW (jKd g) Γ h) (ta0 : Γ a0 = some 18) : jok (F_X7_inAllFitting n a0 h) (fun v => True) := by
  unfold F_X7_inAllFitting
  refine jok_b2 (t_gI w ta0 rfl rfl) (fun v1_1 ev1_1 pv1_1 => ?_)
  obtain ⟨lv1_1, uv1_1⟩ := pv1_1
  have f2 : ((0 : Int32)).toInt = 0 := rfl
  refine jok_eq (fun c3 d3 => ?_) (fun c3 => ?_)
  · have f4 : ((1 : Int32)).toInt = 1 := rfl
    exact S_X7_inAllFitting_20 hn hg  n w ta0 (by omega) (by omega) (by omega)
  · refine jok_b (t_gR w ta0 rfl rfl) (fun p12_5 tp12_5 => ?_)
    refine jok_b (t_al w tp12_5 rfl (by omega) (by omega)) (fun v16_6 pv16_6 => ?_)
    have f7 : ((1 : Int32)).toInt = 1 := rfl
    exact S_X7_inAllFitting_20 hn hg  n w ta0 (by omega) (by omega) (by omega)
set_option maxHeartbeats 1000000 in
theorem S_X7_greatestPart_29 {g : jGh} {Γ : Nat → Option Nat} {n : Nat} (hn : 6000 ≤ n) (hg : jgok g)  (k : Nat) : ∀ {a0 : Nat} {a1 : Nat} {x2 : Int32} {x3 : Int32} {x4 : Int32} {h : jH}, jW (jKd g) Γ h → (Γ a0 = some 18) → (Γ a1 = some 3) → (0 ≤ x2.toInt) → (x2.toInt ≤ 15) → (0 ≤ x4.toInt) → (x4.toInt ≤ 128) → (128 : Int) - x4.toInt < (k : Int) → jok (F_X7_greatestPart_29 n k a0 a1 x2 x3 x4 h) (fun q => jW (jKd g) Γ q.2 ∧ (fun v : Int32 => True) q.1) := by
  induction k with
  | zero =>
    intro a0 a1 x2 x3 x4 h w ta0 ta1 lx2 ux2 lx4 ux4 mk
    omega
  | succ k ih =>
    intro a0 a1 x2 x3 x4 h w ta0 ta1 lx2 ux2 lx4 ux4 mk
    show jok (F_X7_greatestPart_29_b n (F_X7_greatestPart_29 n k) a0 a1 x2 x3 x4 h) _
    unfold F_X7_greatestPart_29_b
    refine jok_b2 (t_gI w ta0 rfl rfl) (fun v32_1 ev32_1 pv32_1 => ?_)
    obtain ⟨lv32_1, uv32_1⟩ := pv32_1
    refine jok_le (fun c2 => ?_) (fun c2 => ?_)
    · exact jok_s ⟨w, trivial⟩
    · refine jok_b (t_gR w ta0 rfl rfl) (fun p41_3 tp41_3 => ?_)
      refine jok_b (t_al w tp41_3 rfl (by omega) (by omega)) (fun v46_4 pv46_4 => ?_)
      have f5 : ((2 : Int32)).toInt = 2 := rfl
      have f6 : ((x2 / (2 : Int32))).toInt = (x2).toInt / 2 := jdivL (c := 2) (by omega) rfl (by decide)
      have f7 : (((x2 / (2 : Int32)) * (2 : Int32))).toInt = 2 * ((x2 / (2 : Int32))).toInt := jmulR (c := 2) (by omega) (by omega) (by omega)
      have f8 : ((x2 - ((x2 / (2 : Int32)) * (2 : Int32)))).toInt = (x2).toInt - (((x2 / (2 : Int32)) * (2 : Int32))).toInt := jsub (by omega) (by omega)
      have f9 : ((1 : Int32)).toInt = 1 := rfl
      refine jok_eq (fun c10 d10 => ?_) (fun c10 => ?_)
      · unfold F_X7_greatestPart_62
        rw [t_cv w ta0 rfl]
        have f12 : ((31 : Int32)).toInt = 31 := rfl
        refine jok_b (S_X7_farWith hn hg w ta0 ta1 (by omega) (by omega) (by omega) (by omega)) (fun q64_11 wq64_11 => ?_)
        obtain ⟨wq64_11, pq64_11⟩ := wq64_11
        obtain ⟨lq64_11, uq64_11⟩ := pq64_11
        refine jok_b (t_gR wq64_11 ta0 rfl rfl) (fun p70_13 tp70_13 => ?_)
        refine jok_b (t_al wq64_11 tp70_13 rfl (by omega) (by omega)) (fun v76_14 pv76_14 => ?_)
        refine jok_b (t_as wq64_11 tp70_13 rfl (by omega) (by omega) trivial (fun q => by cases q)) (fun h79_15 wh79_15 => ?_)
        obtain ⟨wh79_15, rh79_15⟩ := wh79_15
        refine jok_b (t_gR wh79_15 ta0 rfl rfl) (fun p82_16 tp82_16 => ?_)
        refine jok_b (t_al wh79_15 tp82_16 rfl (by omega) (by omega)) (fun v87_17 pv87_17 => ?_)
        have f18 : ((x4 + (1 : Int32))).toInt = (x4).toInt + ((1 : Int32)).toInt := jadd (by omega) (by omega)
        exact ih wh79_15 ta0 ta1 (by omega) (by omega) (by omega) (by omega) (by omega)
      · unfold F_X7_greatestPart_62
        rw [t_cv w ta0 rfl]
        have f20 : ((31 : Int32)).toInt = 31 := rfl
        refine jok_b (S_X7_farWith hn hg w ta0 ta1 (by omega) (by omega) (by omega) (by omega)) (fun q64_19 wq64_19 => ?_)
        obtain ⟨wq64_19, pq64_19⟩ := wq64_19
        obtain ⟨lq64_19, uq64_19⟩ := pq64_19
        refine jok_b (t_gR wq64_19 ta0 rfl rfl) (fun p70_21 tp70_21 => ?_)
        refine jok_b (t_al wq64_19 tp70_21 rfl (by omega) (by omega)) (fun v76_22 pv76_22 => ?_)
        refine jok_b (t_as wq64_19 tp70_21 rfl (by omega) (by omega) trivial (fun q => by cases q)) (fun h79_23 wh79_23 => ?_)
        obtain ⟨wh79_23, rh79_23⟩ := wh79_23
        refine jok_b (t_gR wh79_23 ta0 rfl rfl) (fun p82_24 tp82_24 => ?_)
        refine jok_b (t_al wh79_23 tp82_24 rfl (by omega) (by omega)) (fun v87_25 pv87_25 => ?_)
        have f26 : ((x4 + (1 : Int32))).toInt = (x4).toInt + ((1 : Int32)).toInt := jadd (by omega) (by omega)
        exact ih wh79_23 ta0 ta1 (by omega) (by omega) (by omega) (by omega) (by omega)
set_option maxHeartbeats 1000000 in
theorem S_X7_greatestPart_2 {g : jGh} {Γ : Nat → Option Nat} {n : Nat} (hn : 6000 ≤ n) (hg : jgok g)  (k : Nat) : ∀ {a0 : Nat} {a1 : Nat} {x2 : Int32} {x3 : Int32} {h : jH}, jW (jKd g) Γ h → (Γ a0 = some 18) → (Γ a1 = some 3) → (0 ≤ x2.toInt) → (x2.toInt ≤ 15) → (0 ≤ x3.toInt) → (x3.toInt ≤ 32) → (32 : Int) - x3.toInt < (k : Int) → jok (F_X7_greatestPart_2 n k a0 a1 x2 x3 h) (fun q => jW (jKd g) Γ q.2 ∧ (fun v : Int32 => True) q.1) := by
  induction k with
  | zero =>
    intro a0 a1 x2 x3 h w ta0 ta1 lx2 ux2 lx3 ux3 mk
    omega
  | succ k ih =>
    intro a0 a1 x2 x3 h w ta0 ta1 lx2 ux2 lx3 ux3 mk
    show jok (F_X7_greatestPart_2_b n (F_X7_greatestPart_2 n k) a0 a1 x2 x3 h) _
    unfold F_X7_greatestPart_2_b
    refine jok_b (t_gR w ta0 rfl rfl) (fun p4_1 tp4_1 => ?_)
    refine jok_b (t_len w tp4_1 rfl (by decide)) (fun v7_2 pv7_2 => ?_)
    have pv7_2 : (v7_2).toInt = 32 := by rw [pv7_2]; rfl
    refine jok_le (fun c3 => ?_) (fun c3 => ?_)
    · have f4 : ((0 : Int32)).toInt = 0 := rfl
      exact S_X7_greatestPart_29 hn hg  n w ta0 ta1 (by omega) (by omega) (by omega) (by omega) (by omega)
    · refine jok_b (t_gR w ta0 rfl rfl) (fun p12_5 tp12_5 => ?_)
      have f7 : ((0 : Int32)).toInt = 0 := rfl
      refine jok_b (t_as w tp12_5 rfl (by omega) (by omega) trivial (fun q => by cases q)) (fun h17_6 wh17_6 => ?_)
      obtain ⟨wh17_6, rh17_6⟩ := wh17_6
      have f8 : ((1 : Int32)).toInt = 1 := rfl
      have f9 : ((x3 + (1 : Int32))).toInt = (x3).toInt + ((1 : Int32)).toInt := jadd (by omega) (by omega)
      exact ih wh17_6 ta0 ta1 (by omega) (by omega) (by omega) (by omega) (by omega)
set_option maxHeartbeats 1000000 in
theorem S_X7_greatestPart {g : jGh} {Γ : Nat → Option Nat} {n : Nat} {a0 : Nat} {a1 : Nat} {x2 : Int32} {h : jH} (hn : 6000 ≤ n) (hg : jgok g) (w : jW (jKd g) Γ h) (ta0 : Γ a0 = some 18) (ta1 : Γ a1 = some 3) (lx2 : 0 ≤ x2.toInt) (ux2 : x2.toInt ≤ 15) : jok (F_X7_greatestPart n a0 a1 x2 h) (fun q => jW (jKd g) Γ q.2 ∧ (fun v : Int32 => True) q.1) := by
  unfold F_X7_greatestPart
  have f1 : ((0 : Int32)).toInt = 0 := rfl
  exact S_X7_greatestPart_2 hn hg  n w ta0 ta1 (by omega) (by omega) (by omega) (by omega) (by omega)
set_option maxHeartbeats 1000000 in
theorem S_X7_partingPull_19 {g : jGh} {Γ : Nat → Option Nat} {n : Nat} (hn : 6000 ≤ n) (hg : jgok g)  (k : Nat) : ∀ {a0 : Nat} {a1 : Nat} {x2 : Int32} {x3 : Int32} {x4 : Int32} {h : jH}, jW (jKd g) Γ h → (Γ a0 = some 18) → (Γ a1 = some 3) → (0 ≤ x4.toInt) → (x4.toInt ≤ 16) → (16 : Int) - x4.toInt < (k : Int) → jok (F_X7_partingPull_19 n k a0 a1 x2 x3 x4 h) (fun q => jW (jKd g) Γ q.2 ∧ (fun v : Int32 => True) q.1) := by
  induction k with
  | zero =>
    intro a0 a1 x2 x3 x4 h w ta0 ta1 lx4 ux4 mk
    omega
  | succ k ih =>
    intro a0 a1 x2 x3 x4 h w ta0 ta1 lx4 ux4 mk
    show jok (F_X7_partingPull_19_b n (F_X7_partingPull_19 n k) a0 a1 x2 x3 x4 h) _
    unfold F_X7_partingPull_19_b
    refine jok_b2 (t_gI w ta1 rfl rfl) (fun v23_1 ev23_1 pv23_1 => ?_)
    obtain ⟨lv23_1, uv23_1⟩ := pv23_1
    have f2 : ((2 : Int32)).toInt = 2 := rfl
    have f3 : (((2 : Int32) * v23_1)).toInt = 2 * (v23_1).toInt := jmulL (c := 2) (by omega) (by omega) (by omega)
    refine jok_le (fun c4 => ?_) (fun c4 => ?_)
    · exact jok_s ⟨w, trivial⟩
    · rw [t_cv w ta0 rfl]
      refine jok_b (S_X7_greatestPart hn hg w ta0 ta1 (by omega) (by omega)) (fun q34_5 wq34_5 => ?_)
      obtain ⟨wq34_5, pq34_5⟩ := wq34_5
      refine jok_le (fun c6 => ?_) (fun c6 => ?_)
      · have f7 : ((1 : Int32)).toInt = 1 := rfl
        have f8 : ((x4 + (1 : Int32))).toInt = (x4).toInt + ((1 : Int32)).toInt := jadd (by omega) (by omega)
        exact ih wq34_5 ta0 ta1 (by omega) (by omega) (by omega)
      · have f9 : ((1 : Int32)).toInt = 1 := rfl
        have f10 : ((x4 + (1 : Int32))).toInt = (x4).toInt + ((1 : Int32)).toInt := jadd (by omega) (by omega)
        exact ih wq34_5 ta0 ta1 (by omega) (by omega) (by omega)
set_option maxHeartbeats 1000000 in
theorem S_X7_partingPull {g : jGh} {Γ : Nat → Option Nat} {n : Nat} {a0 : Nat} {a1 : Nat} {h : jH} (hn : 6000 ≤ n) (hg : jgok g) (w : jW (jKd g) Γ h) (ta0 : Γ a0 = some 18) (ta1 : Γ a1 = some 3) : jok (F_X7_partingPull n a0 a1 h) (fun q => jW (jKd g) Γ q.2 ∧ (fun v : Int32 => True) q.1) := by
  unfold F_X7_partingPull
  refine jok_b2 (t_gI w ta0 rfl rfl) (fun v1_1 ev1_1 pv1_1 => ?_)
  obtain ⟨lv1_1, uv1_1⟩ := pv1_1
  have f2 : ((2 : Int32)).toInt = 2 := rfl
  refine jok_le (fun c3 => ?_) (fun c3 => ?_)
  · have f4 : ((0 : Int32)).toInt = 0 := rfl
    exact S_X7_partingPull_19 hn hg  n w ta0 ta1 (by omega) (by omega) (by omega)
  · exact jok_s ⟨w, trivial⟩
def jat (g : jGh) (i : Int32) : Int32 := if i.toInt < 0 then -1 else if g.1 ≤ i.toInt then -1 else g.2.1 i.toInt.toNat &&& 255
theorem S_X10_at {g : jGh} {Γ : Nat → Option Nat} {n : Nat} {a0 : Nat} {x1 : Int32} {h : jH} (hn : 6000 ≤ n) (hg : jgok g) (w : jW (jKd g) Γ h) (ta0 : Γ a0 = some 10) : jok (F_X10_at n a0 x1 h) (fun v => v = jat g x1 ∧ -1 ≤ v.toInt ∧ v.toInt ≤ 255 ∧ (0 ≤ x1.toInt → x1.toInt < g.1 → 0 ≤ v.toInt)) := by
  unfold F_X10_at
  have f0 : (0 : Int32).toInt = 0 := rfl
  have f1 : (-1 : Int32).toInt = -1 := rfl
  refine jok_lt (fun c => ?_) (fun c => ?_)
  · refine jok_s ⟨?_, by rw [f1]; omega, by rw [f1]; omega, fun q => by omega⟩
    unfold jat
    rw [if_pos (by omega)]
  · refine jok_b2 (t_gI w ta0 rfl rfl) (fun v6 e6 p6 => ?_)
    have p6 : v6.toInt = g.1 := p6
    refine jok_le (fun c2 => ?_) (fun c2 => ?_)
    · refine jok_s ⟨?_, by rw [f1]; omega, by rw [f1]; omega, fun q q2 => by omega⟩
      unfold jat
      rw [if_neg (by omega), if_pos (by omega)]
    · have f4 : (400 : Int32).toInt = 400 := rfl
      refine jok_lt (fun c3 => ?_) (fun c3 => ?_)
      · refine jok_b (t_gR w ta0 rfl rfl) (fun p tp => ?_)
        refine jok_b (t_al w tp rfl (by omega) (by omega)) (fun v28 p28 => ?_)
        have h9 := jandR (x := v28) (y := (255 : Int32)) (c := 255) rfl (by decide)
        refine jok_s ⟨?_, by omega, by omega, fun _ _ => by omega⟩
        unfold jat
        rw [if_neg (by omega), if_neg (by omega)]
        have p28 : v28 = g.2.1 x1.toInt.toNat := p28
        rw [p28]
      · have := hg.1.2
        omega
/-- the rows on the tape name rings and steps that can be -/
def jrows (g : jGh) : Prop := ∀ x : Int32, 0 ≤ x.toInt → x.toInt < g.1 → x.toInt % 4 = 0 → 0 ≤ (jat g x).toInt ∧ (jat g x).toInt ≤ 7 ∧ 1 ≤ (jat g (x + (2 : Int32))).toInt ∧ (jat g (x + (2 : Int32))).toInt ≤ 31
set_option maxHeartbeats 1000000 in
theorem S_X10_hasRoom {g : jGh} {Γ : Nat → Option Nat} {n : Nat} {a0 : Nat} {h : jH} (hn : 6000 ≤ n) (hg : jgok g) (w : jW (jKd g) Γ h) (ta0 : Γ a0 = some 10) : jok (F_X10_hasRoom n a0 h) (fun v => (v.toInt = 1 ∧ g.1 ≤ 380) ∨ (v.toInt = 0 ∧ 380 < g.1)) := by
  unfold F_X10_hasRoom
  refine jok_b2 (t_gI w ta0 rfl rfl) (fun v1_1 ev1_1 pv1_1 => ?_)
  have pv1_1 : (v1_1).toInt = g.1 := pv1_1
  have qv1_1 := hg.1
  have f2 : ((400 : Int32)).toInt = 400 := rfl
  have f3 : ((20 : Int32)).toInt = 20 := rfl
  have f4 : ((v1_1 + (20 : Int32))).toInt = (v1_1).toInt + ((20 : Int32)).toInt := jadd (by omega) (by omega)
  refine jok_lt (fun c5 => ?_) (fun c5 => ?_)
  · have f6 : ((0 : Int32)).toInt = 0 := rfl
    exact jok_s (show ((0 : Int32).toInt = 1 ∧ g.1 ≤ 380) ∨ ((0 : Int32).toInt = 0 ∧ 380 < g.1) from by omega)
  · have f7 : ((1 : Int32)).toInt = 1 := rfl
    exact jok_s (show ((1 : Int32).toInt = 1 ∧ g.1 ≤ 380) ∨ ((1 : Int32).toInt = 0 ∧ 380 < g.1) from by omega)
set_option maxHeartbeats 1000000 in
theorem S_X10_endOfRow_3 {g : jGh} {Γ : Nat → Option Nat} {n : Nat} (hn : 6000 ≤ n) (hg : jgok g)  (k : Nat) : ∀ {a0 : Nat} {x2 : Int32} {x3 : Int32} {x4 : Int32} {h : jH}, jW (jKd g) Γ h → (Γ a0 = some 10) → (0 ≤ x4.toInt) → (x4.toInt ≤ 400) → (400 : Int) - x4.toInt < (k : Int) → jok (F_X10_endOfRow_3 n k a0 x2 x3 x4 h) (fun v => x4.toInt ≤ v.toInt ∧ v.toInt ≤ 400) := by
  induction k with
  | zero =>
    intro a0 x2 x3 x4 h w ta0 lx4 ux4 mk
    omega
  | succ k ih =>
    intro a0 x2 x3 x4 h w ta0 lx4 ux4 mk
    show jok (F_X10_endOfRow_3_b n (F_X10_endOfRow_3 n k) a0 x2 x3 x4 h) _
    unfold F_X10_endOfRow_3_b
    refine jok_b2 (t_gI w ta0 rfl rfl) (fun v6_1 ev6_1 pv6_1 => ?_)
    have pv6_1 : (v6_1).toInt = g.1 := pv6_1
    have qv6_1 := hg.1
    refine jok_le (fun c2 => ?_) (fun c2 => ?_)
    · exact jok_s (show x4.toInt ≤ x4.toInt ∧ x4.toInt ≤ 400 from by omega)
    · rw [t_cv w ta0 rfl]
      refine jok_b (S_X10_at hn hg w ta0) (fun v15_3 pv15_3 => ?_)
      have pv15_3_9 := pv15_3
      try dsimp only at pv15_3_9
      refine jok_lt (fun c4 => ?_) (fun c4 => ?_)
      · exact jok_s (show x4.toInt ≤ x4.toInt ∧ x4.toInt ≤ 400 from by omega)
      · rw [t_cv w ta0 rfl]
        refine jok_b (S_X10_at hn hg w ta0) (fun v25_5 pv25_5 => ?_)
        have pv25_5_9 := pv25_5
        try dsimp only at pv25_5_9
        refine jok_lt (fun c6 => ?_) (fun c6 => ?_)
        · exact jok_s (show x4.toInt ≤ x4.toInt ∧ x4.toInt ≤ 400 from by omega)
        · have f7 : ((1 : Int32)).toInt = 1 := rfl
          have f8 : ((x4 + (1 : Int32))).toInt = (x4).toInt + ((1 : Int32)).toInt := jadd (by omega) (by omega)
          exact jok_w (ih w ta0 (by omega) (by omega) (by omega)) (fun v q => (by try dsimp only at q ⊢
                                 omega))
set_option maxHeartbeats 1000000 in
theorem S_X10_endOfRow {g : jGh} {Γ : Nat → Option Nat} {n : Nat} {a0 : Nat} {x1 : Int32} {x2 : Int32} {x3 : Int32} {h : jH} (hn : 6000 ≤ n) (hg : jgok g) (w : jW (jKd g) Γ h) (ta0 : Γ a0 = some 10) (lx1 : 0 ≤ x1.toInt) (ux1 : x1.toInt ≤ 400) : jok (F_X10_endOfRow n a0 x1 x2 x3 h) (fun v => x1.toInt ≤ v.toInt ∧ v.toInt ≤ 400) := by
  unfold F_X10_endOfRow
  exact jok_w (S_X10_endOfRow_3 hn hg  n w ta0 (by omega) (by omega) (by omega)) (fun v q => (by try dsimp only at q ⊢
                                 omega))
set_option maxHeartbeats 1000000 in
theorem S_X10_standsAt_3 {g : jGh} {Γ : Nat → Option Nat} {n : Nat} (hn : 6000 ≤ n) (hg : jgok g)  (k : Nat) : ∀ {a0 : Nat} {x1 : Int32} {x2 : Int32} {x3 : Int32} {x4 : Int32} {h : jH}, jW (jKd g) Γ h → (Γ a0 = some 10) → (0 ≤ x2.toInt) → (x2.toInt ≤ 114) → (0 ≤ x3.toInt) → (x3.toInt ≤ 113) → (0 ≤ x4.toInt) → (x4.toInt ≤ 114) → (114 : Int) - x4.toInt < (k : Int) → jok (F_X10_standsAt_3 n k a0 x1 x2 x3 x4 h) (fun v => 0 ≤ v.toInt ∧ v.toInt ≤ 1) := by
  induction k with
  | zero =>
    intro a0 x1 x2 x3 x4 h w ta0 lx2 ux2 lx3 ux3 lx4 ux4 mk
    omega
  | succ k ih =>
    intro a0 x1 x2 x3 x4 h w ta0 lx2 ux2 lx3 ux3 lx4 ux4 mk
    show jok (F_X10_standsAt_3_b n (F_X10_standsAt_3 n k) a0 x1 x2 x3 x4 h) _
    unfold F_X10_standsAt_3_b
    refine jok_le (fun c1 => ?_) (fun c1 => ?_)
    · have f2 : ((1 : Int32)).toInt = 1 := rfl
      exact jok_s (show jI 0 1 (1 : Int32) from ⟨by omega, by omega⟩)
    · rw [t_cv w ta0 rfl]
      refine jok_b (S_X10_at hn hg w ta0) (fun v16_3 pv16_3 => ?_)
      have pv16_3_9 := pv16_3
      try dsimp only at pv16_3_9
      refine jok_b (t_tc (t := 0) (n := 113) (by decide +kernel) (by omega) (by omega)) (fun v23_4 pv23_4 => ?_)
      refine jok_eq (fun c5 d5 => ?_) (fun c5 => ?_)
      · have f6 : ((1 : Int32)).toInt = 1 := rfl
        have f7 : ((x4 + (1 : Int32))).toInt = (x4).toInt + ((1 : Int32)).toInt := jadd (by omega) (by omega)
        exact ih w ta0 (by omega) (by omega) (by omega) (by omega) (by omega) (by omega) (by omega)
      · have f8 : ((0 : Int32)).toInt = 0 := rfl
        exact jok_s (show jI 0 1 (0 : Int32) from ⟨by omega, by omega⟩)
set_option maxHeartbeats 1000000 in
theorem S_X10_standsAt {g : jGh} {Γ : Nat → Option Nat} {n : Nat} {a0 : Nat} {x1 : Int32} {x2 : Int32} {x3 : Int32} {h : jH} (hn : 6000 ≤ n) (hg : jgok g) (w : jW (jKd g) Γ h) (ta0 : Γ a0 = some 10) (lx2 : 0 ≤ x2.toInt) (ux2 : x2.toInt ≤ 114) (lx3 : 0 ≤ x3.toInt) (ux3 : x3.toInt ≤ 113) : jok (F_X10_standsAt n a0 x1 x2 x3 h) (fun v => 0 ≤ v.toInt ∧ v.toInt ≤ 1) := by
  unfold F_X10_standsAt
  exact S_X10_standsAt_3 hn hg  n w ta0 (by omega) (by omega) (by omega) (by omega) (by omega) (by omega) (by omega)
set_option maxHeartbeats 1000000 in
theorem S_X10_wordBetween_8 {g : jGh} {Γ : Nat → Option Nat} {n : Nat} (hn : 6000 ≤ n) (hg : jgok g)  (k : Nat) : ∀ {a0 : Nat} {x1 : Int32} {x2 : Int32} {x3 : Int32} {x4 : Int32} {x5 : Int32} {h : jH}, jW (jKd g) Γ h → (Γ a0 = some 10) → (0 ≤ x4.toInt) → (x4.toInt ≤ 113) → (0 ≤ x5.toInt) → (x5.toInt ≤ 113) → (113 : Int) - x5.toInt < (k : Int) → jok (F_X10_wordBetween_8 n k a0 x1 x2 x3 x4 x5 h) (fun v => True) := by
  induction k with
  | zero =>
    intro a0 x1 x2 x3 x4 x5 h w ta0 lx4 ux4 lx5 ux5 mk
    omega
  | succ k ih =>
    intro a0 x1 x2 x3 x4 x5 h w ta0 lx4 ux4 lx5 ux5 mk
    show jok (F_X10_wordBetween_8_b n (F_X10_wordBetween_8 n k) a0 x1 x2 x3 x4 x5 h) _
    unfold F_X10_wordBetween_8_b
    refine jok_b (t_tl (t := 0) (n := 113) (by decide) (by decide +kernel)) (fun v12_1 pv12_1 => ?_)
    refine jok_le (fun c2 => ?_) (fun c2 => ?_)
    · exact jok_s trivial
    · refine jok_b (t_tc (t := 0) (n := 113) (by decide +kernel) (by omega) (by omega)) (fun v22_3 pv22_3 => ?_)
      have f4 : ((32 : Int32)).toInt = 32 := rfl
      refine jok_eq (fun c5 d5 => ?_) (fun c5 => ?_)
      · have f6 : ((x5 - x4)).toInt = (x5).toInt - (x4).toInt := jsub (by omega) (by omega)
        refine jok_eq (fun c7 d7 => ?_) (fun c7 => ?_)
        · rw [t_cv w ta0 rfl]
          refine jok_b (S_X10_standsAt hn hg w ta0 (by omega) (by omega) (by omega) (by omega)) (fun v47_8 pv47_8 => ?_)
          obtain ⟨lv47_8, uv47_8⟩ := pv47_8
          have f9 : ((0 : Int32)).toInt = 0 := rfl
          refine jok_eq (fun c10 d10 => ?_) (fun c10 => ?_)
          · have f11 : ((1 : Int32)).toInt = 1 := rfl
            have f12 : ((x5 + (1 : Int32))).toInt = (x5).toInt + ((1 : Int32)).toInt := jadd (by omega) (by omega)
            exact ih w ta0 (by omega) (by omega) (by omega) (by omega) (by omega)
          · exact jok_s trivial
        · have f13 : ((1 : Int32)).toInt = 1 := rfl
          have f14 : ((x5 + (1 : Int32))).toInt = (x5).toInt + ((1 : Int32)).toInt := jadd (by omega) (by omega)
          exact ih w ta0 (by omega) (by omega) (by omega) (by omega) (by omega)
      · have f15 : ((1 : Int32)).toInt = 1 := rfl
        have f16 : ((x5 + (1 : Int32))).toInt = (x5).toInt + ((1 : Int32)).toInt := jadd (by omega) (by omega)
        exact ih w ta0 (by omega) (by omega) (by omega) (by omega) (by omega)
set_option maxHeartbeats 1000000 in
theorem S_X10_wordBetween {g : jGh} {Γ : Nat → Option Nat} {n : Nat} {a0 : Nat} {x1 : Int32} {x2 : Int32} {h : jH} (hn : 6000 ≤ n) (hg : jgok g) (w : jW (jKd g) Γ h) (ta0 : Γ a0 = some 10) : jok (F_X10_wordBetween n a0 x1 x2 h) (fun v => True) := by
  unfold F_X10_wordBetween
  have f1 : ((0 : Int32)).toInt = 0 := rfl
  exact S_X10_wordBetween_8 hn hg  n w ta0 (by omega) (by omega) (by omega) (by omega) (by omega)
set_option maxHeartbeats 1000000 in
theorem S_X10_numberBetween_16 {g : jGh} {Γ : Nat → Option Nat} {n : Nat} (hn : 6000 ≤ n) (hg : jgok g)  (k : Nat) : ∀ {a0 : Nat} {x2 : Int32} {x3 : Int32} {x4 : Int32} {h : jH}, jW (jKd g) Γ h → (Γ a0 = some 10) → (0 ≤ x2.toInt) → (x2.toInt ≤ 400) → (0 ≤ x4.toInt) → (x4.toInt ≤ 400) → (400 : Int) - x4.toInt < (k : Int) → jok (F_X10_numberBetween_16 n k a0 x2 x3 x4 h) (fun v => True) := by
  induction k with
  | zero =>
    intro a0 x2 x3 x4 h w ta0 lx2 ux2 lx4 ux4 mk
    omega
  | succ k ih =>
    intro a0 x2 x3 x4 h w ta0 lx2 ux2 lx4 ux4 mk
    show jok (F_X10_numberBetween_16_b n (F_X10_numberBetween_16 n k) a0 x2 x3 x4 h) _
    unfold F_X10_numberBetween_16_b
    refine jok_le (fun c1 => ?_) (fun c1 => ?_)
    · exact jok_s trivial
    · rw [t_cv w ta0 rfl]
      refine jok_b (S_X10_at hn hg w ta0) (fun v29_2 pv29_2 => ?_)
      have pv29_2_9 := pv29_2
      try dsimp only at pv29_2_9
      have f3 : ((1 : Int32)).toInt = 1 := rfl
      have f4 : ((x4 + (1 : Int32))).toInt = (x4).toInt + ((1 : Int32)).toInt := jadd (by omega) (by omega)
      exact ih w ta0 (by omega) (by omega) (by omega) (by omega) (by omega)
set_option maxHeartbeats 1000000 in
theorem S_X10_numberBetween {g : jGh} {Γ : Nat → Option Nat} {n : Nat} {a0 : Nat} {x1 : Int32} {x2 : Int32} {h : jH} (hn : 6000 ≤ n) (hg : jgok g) (w : jW (jKd g) Γ h) (ta0 : Γ a0 = some 10) (lx1 : 0 ≤ x1.toInt) (ux1 : x1.toInt ≤ 400) (lx2 : 0 ≤ x2.toInt) (ux2 : x2.toInt ≤ 400) : jok (F_X10_numberBetween n a0 x1 x2 h) (fun v => True) := by
  unfold F_X10_numberBetween
  have f1 : ((x2 - x1)).toInt = (x2).toInt - (x1).toInt := jsub (by omega) (by omega)
  have f2 : ((3 : Int32)).toInt = 3 := rfl
  refine jok_le (fun c3 => ?_) (fun c3 => ?_)
  · exact S_X10_numberBetween_16 hn hg  n w ta0 (by omega) (by omega) (by omega) (by omega) (by omega)
  · exact jok_s trivial
