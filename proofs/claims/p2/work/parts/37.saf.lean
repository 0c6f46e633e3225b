set_option maxHeartbeats 1000000 in
theorem S_X11_span_13 {g : jGh} {Γ : Nat → Option Nat} {n : Nat} (hn : 6000 ≤ n) (hg : jgok g)  (k : Nat) : ∀ {a0 : Nat} {x1 : Int32} {x2 : Int32} {x3 : Int32} {x4 : Int32} {h : jH}, jW (jKd g) Γ h → (Γ a0 = some 19) → (0 ≤ x1.toInt) → (x1.toInt ≤ 80) → (0 ≤ x4.toInt) → (x4.toInt ≤ 7) → (7 : Int) - x4.toInt < (k : Int) → jok (F_X11_span_13 n k a0 x1 x2 x3 x4 h) (fun q => jW (jKd g) Γ q.2 ∧ jXok [0] (fun v => True) q.1) := by
  induction k with
  | zero =>
    intro a0 x1 x2 x3 x4 h w ta0 lx1 ux1 lx4 ux4 mk
    omega
  | succ k ih =>
    intro a0 x1 x2 x3 x4 h w ta0 lx1 ux1 lx4 ux4 mk
    show jok (F_X11_span_13_b n (F_X11_span_13 n k) a0 x1 x2 x3 x4 h) _
    unfold F_X11_span_13_b
    have f1 : ((6 : Int32)).toInt = 6 := rfl
    refine jok_lt (fun c2 => ?_) (fun c2 => ?_)
    · exact jok_s ⟨w, jX_l trivial⟩
    · refine jok_b (t_gR w ta0 rfl rfl) (fun p21_3 tp21_3 => ?_)
      refine jok_b (t_gR w ta0 rfl rfl) (fun p25_4 tp25_4 => ?_)
      try rw [t_cv w tp21_3 rfl]
      refine jok_b (S_X1_tryHours hn hg w tp21_3 tp25_4 (by omega) (by omega)) (fun h31_5 wh31_5 => ?_)
      refine jok_b (t_gR wh31_5 ta0 rfl rfl) (fun p35_6 tp35_6 => ?_)
      refine jok_b2 (t_gI wh31_5 tp35_6 rfl rfl) (fun v38_7 ev38_7 pv38_7 => ?_)
      refine jok_b (S_J6_bitCount_0f7a4 hn hg wh31_5) (fun v41_8 pv41_8 => ?_)
      refine jok_b (t_gR wh31_5 ta0 rfl rfl) (fun p45_9 tp45_9 => ?_)
      try rw [t_cv wh31_5 tp45_9 rfl]
      refine jok_b (S_X8_unhooked hn hg wh31_5 tp45_9) (fun v48_10 pv48_10 => ?_)
      refine jok_b (S_J6_bitCount_0f7a4 hn hg wh31_5) (fun v51_11 pv51_11 => ?_)
      have f12 : ((-1 : Int32)).toInt = -1 := rfl
      refine jok_eq (fun c13 d13 => ?_) (fun c13 => ?_)
      · have f14 : ((1 : Int32)).toInt = 1 := rfl
        have f15 : ((x4 + (1 : Int32))).toInt = (x4).toInt + ((1 : Int32)).toInt := jadd (by omega) (by omega)
        exact ih wh31_5 ta0 (by omega) (by omega) (by omega) (by omega) (by omega)
      · have f16 : ((0 : Int32)).toInt = 0 := rfl
        refine jok_eq (fun c17 d17 => ?_) (fun c17 => ?_)
        · refine jok_le (fun c18 => ?_) (fun c18 => ?_)
          · have f19 : ((1 : Int32)).toInt = 1 := rfl
            have f20 : ((x4 + (1 : Int32))).toInt = (x4).toInt + ((1 : Int32)).toInt := jadd (by omega) (by omega)
            exact ih wh31_5 ta0 (by omega) (by omega) (by omega) (by omega) (by omega)
          · have f21 : ((1 : Int32)).toInt = 1 := rfl
            have f22 : ((x4 + (1 : Int32))).toInt = (x4).toInt + ((1 : Int32)).toInt := jadd (by omega) (by omega)
            exact ih wh31_5 ta0 (by omega) (by omega) (by omega) (by omega) (by omega)
        · refine jok_le (fun c23 => ?_) (fun c23 => ?_)
          · have f24 : ((1 : Int32)).toInt = 1 := rfl
            have f25 : ((x4 + (1 : Int32))).toInt = (x4).toInt + ((1 : Int32)).toInt := jadd (by omega) (by omega)
            exact ih wh31_5 ta0 (by omega) (by omega) (by omega) (by omega) (by omega)
          · have f26 : ((1 : Int32)).toInt = 1 := rfl
            have f27 : ((x4 + (1 : Int32))).toInt = (x4).toInt + ((1 : Int32)).toInt := jadd (by omega) (by omega)
            exact ih wh31_5 ta0 (by omega) (by omega) (by omega) (by omega) (by omega)
set_option maxHeartbeats 1000000 in
theorem S_X11_span {g : jGh} {Γ : Nat → Option Nat} {n : Nat} {a0 : Nat} {x1 : Int32} {x2 : Int32} {h : jH} (hn : 6000 ≤ n) (hg : jgok g) (w : jW (jKd g) Γ h) (ta0 : Γ a0 = some 19) : jok (F_X11_span n a0 x1 x2 h) (fun q => jW (jKd g) Γ q.2 ∧ jXok [0] (fun v => True) q.1) := by
  unfold F_X11_span
  try rw [t_cv w ta0 rfl]
  refine jok_b (S_X11_requireNumber hn hg w ta0) (fun q5_1 wq5_1 => ?_)
  obtain ⟨wq5_1, pq5_1⟩ := wq5_1
  refine jok_t pq5_1 (fun k9 q9 => ⟨wq5_1, jX_r (jsub9 q9 (by decide))⟩) (fun r5_2 pr5_2 => ?_)
  have f3 : ((0 : Int32)).toInt = 0 := rfl
  have f4 : ((80 : Int32)).toInt = 80 := rfl
  have pr5_2_9 := pr5_2
  try dsimp only at pr5_2_9
  have f5 : ((1 : Int32)).toInt = 1 := rfl
  exact S_X11_span_13 hn hg  n wq5_1 ta0 (by omega) (by omega) (by omega) (by omega) (by omega)
set_option maxHeartbeats 1000000 in
theorem S_X11_led {g : jGh} {Γ : Nat → Option Nat} {n : Nat} {a0 : Nat} {x1 : Int32} {x2 : Int32} {h : jH} (hn : 6000 ≤ n) (hg : jgok g) (w : jW (jKd g) Γ h) (ta0 : Γ a0 = some 19) : jok (F_X11_led n a0 x1 x2 h) (fun q => jW (jKd g) Γ q.2 ∧ jXok [2] (fun v => True) q.1) := by
  unfold F_X11_led
  try rw [t_cv w ta0 rfl]
  refine jok_b (S_X11_requireRing hn hg w ta0) (fun q2_1 wq2_1 => ?_)
  obtain ⟨wq2_1, pq2_1⟩ := wq2_1
  refine jok_t pq2_1 (fun k9 q9 => ⟨wq2_1, jX_r (jsub9 q9 (by decide))⟩) (fun r2_2 pr2_2 => ?_)
  have pr2_2_9 := pr2_2
  try dsimp only at pr2_2_9
  have f3 : ((0 : Int32)).toInt = 0 := rfl
  refine jok_eq (fun c4 d4 => ?_) (fun c4 => ?_)
  · refine jok_b (t_gR wq2_1 ta0 rfl rfl) (fun p24_5 tp24_5 => ?_)
    refine jok_b (t_gR wq2_1 tp24_5 rfl rfl) (fun p27_6 tp27_6 => ?_)
    try rw [t_cv wq2_1 tp27_6 rfl]
    refine jok_b (S_X5_rowsOf hn hg wq2_1 tp27_6) (fun v31_7 pv31_7 => ?_)
    exact jok_s ⟨wq2_1, jX_l trivial⟩
  · refine jok_b (t_gR wq2_1 ta0 rfl rfl) (fun p10_8 tp10_8 => ?_)
    refine jok_b (t_gR wq2_1 tp10_8 rfl rfl) (fun p13_9 tp13_9 => ?_)
    try rw [t_cv wq2_1 tp13_9 rfl]
    refine jok_b (S_X5_latestPlace hn hg wq2_1 tp13_9) (fun v17_10 pv17_10 => ?_)
    exact jok_s ⟨wq2_1, jX_l trivial⟩
set_option maxHeartbeats 1000000 in
theorem S_X11_log {g : jGh} {Γ : Nat → Option Nat} {n : Nat} {a0 : Nat} {x1 : Int32} {x2 : Int32} {h : jH} (hn : 6000 ≤ n) (hg : jgok g) (w : jW (jKd g) Γ h) (ta0 : Γ a0 = some 19) : jok (F_X11_log n a0 x1 x2 h) (fun q => jW (jKd g) Γ q.2 ∧ jXok [4] (fun v => True) q.1) := by
  unfold F_X11_log
  have f1 : ((0 : Int32)).toInt = 0 := rfl
  refine jok_lt (fun c2 => ?_) (fun c2 => ?_)
  · exact jok_s ⟨w, jX_r (by decide)⟩
  · have f3 : ((6 : Int32)).toInt = 6 := rfl
    refine jok_lt (fun c4 => ?_) (fun c4 => ?_)
    · refine jok_b (t_gR w ta0 rfl rfl) (fun p22_5 tp22_5 => ?_)
      refine jok_b (t_gR w tp22_5 rfl rfl) (fun p25_6 tp25_6 => ?_)
      try rw [t_cv w tp25_6 rfl]
      refine jok_b (S_X5_read hn hg w tp25_6) (fun v30_7 pv30_7 => ?_)
      exact jok_s ⟨w, jX_l trivial⟩
    · exact jok_s ⟨w, jX_r (by decide)⟩
set_option maxHeartbeats 1000000 in
theorem S_X0_forget {g : jGh} {Γ : Nat → Option Nat} {n : Nat} {a0 : Nat} {h : jH} (hn : 6000 ≤ n) (hg : jgok g) (w : jW (jKd g) Γ h) (ta0 : Γ a0 = some 12) : jok (F_X0_forget n a0 h) (fun q => jW (jKd g) Γ q) := by
  unfold F_X0_forget
  have f2 : ((0 : Int32)).toInt = 0 := rfl
  refine jok_b (t_pI w ta0 rfl rfl (show jI 0 12 (0 : Int32) from ⟨by omega, by omega⟩)) (fun h2_1 wh2_1 => ?_)
  obtain ⟨wh2_1, jh2_1, rh2_1⟩ := wh2_1
  exact jok_s wh2_1
set_option maxHeartbeats 1000000 in
theorem S_X11_pole {g : jGh} {Γ : Nat → Option Nat} {n : Nat} {a0 : Nat} {h : jH} (hn : 6000 ≤ n) (hg : jgok g) (w : jW (jKd g) Γ h) (ta0 : Γ a0 = some 19) (hu : ∀ a b, Γ a = some 10 → Γ b = some 10 → a = b) : jok (F_X11_pole n a0 h) (fun q => jW (jKd ((0 : Int32).toInt, g.2)) Γ q.2 ∧ jXok [0, 3] (fun v => True) q.1) := by
  unfold F_X11_pole
  refine jok_b (t_gR w ta0 rfl rfl) (fun p1_1 tp1_1 => ?_)
  refine jok_b (t_gR w ta0 rfl rfl) (fun p5_2 tp5_2 => ?_)
  try rw [t_cv w tp1_1 rfl]
  refine jok_b (S_X8_copyFrom hn hg w tp1_1 tp5_2) (fun h8_3 wh8_3 => ?_)
  refine jok_b (t_gR wh8_3 ta0 rfl rfl) (fun p13_4 tp13_4 => ?_)
  try rw [t_cv wh8_3 tp13_4 rfl]
  refine jok_b (S_X4_read_R hn hg wh8_3 tp13_4) (fun q16_5 wq16_5 => ?_)
  obtain ⟨wq16_5, pq16_5⟩ := wq16_5
  refine jok_b (t_pI wq16_5 ta0 rfl rfl trivial) (fun h19_6 wh19_6 => ?_)
  obtain ⟨wh19_6, jh19_6, rh19_6⟩ := wh19_6
  refine jok_b (t_gR wh19_6 ta0 rfl rfl) (fun p23_7 tp23_7 => ?_)
  have f9 : ((0 : Int32)).toInt = 0 := rfl
  refine jok_b (t_pL (x := (0 : Int32)) wh19_6 hu tp23_7) (fun h27_8 wh27_8 => ?_)
  obtain ⟨wh27_8, jh27_8, rh27_8⟩ := wh27_8
  have hgh27_8 : jgok (((0 : Int32)).toInt, g.2) := ⟨⟨by dsimp only; omega, by dsimp only; omega⟩, hg.2⟩
  refine jok_r (fI (rh27_8 _ _ _ (Or.inl (jneq ta0 tp23_7 (by decide)))) (fJ jh19_6)) ?_
  have f11 : ((-1 : Int32)).toInt = -1 := rfl
  refine jok_eq (fun c12 d12 => ?_) (fun c12 => ?_)
  · refine jok_b (t_gR wh27_8 ta0 rfl rfl) (fun p49_13 tp49_13 => ?_)
    refine jok_b2 (t_gI wh27_8 tp49_13 rfl rfl) (fun v52_14 ev52_14 pv52_14 => ?_)
    have f15 : ((12 : Int32)).toInt = 12 := rfl
    refine jok_lt (fun c16 => ?_) (fun c16 => ?_)
    · refine jok_b (t_gR wh27_8 ta0 rfl rfl) (fun p71_17 tp71_17 => ?_)
      refine jok_b2 (t_gI wh27_8 tp71_17 rfl rfl) (fun v75_18 ev75_18 pv75_18 => ?_)
      have f20 : ((1 : Int32)).toInt = 1 := rfl
      refine jok_b (t_pI wh27_8 tp71_17 rfl rfl trivial) (fun h80_19 wh80_19 => ?_)
      obtain ⟨wh80_19, jh80_19, rh80_19⟩ := wh80_19
      refine jok_b (t_gR wh80_19 ta0 rfl rfl) (fun p84_21 tp84_21 => ?_)
      refine jok_b (t_gR wh80_19 ta0 rfl rfl) (fun p88_22 tp88_22 => ?_)
      try rw [t_cv wh80_19 tp84_21 rfl]
      refine jok_b (S_X8_copyFrom hn hgh27_8 wh80_19 tp84_21 tp88_22) (fun h91_23 wh91_23 => ?_)
      refine jok_b (t_gR wh91_23 ta0 rfl rfl) (fun p95_24 tp95_24 => ?_)
      try rw [t_cv wh91_23 tp95_24 rfl]
      refine jok_b (S_X0_forget hn hgh27_8 wh91_23 tp95_24) (fun h98_25 wh98_25 => ?_)
      refine jok_b (t_gR wh98_25 ta0 rfl rfl) (fun p102_26 tp102_26 => ?_)
      refine jok_b2 (t_gI wh98_25 tp102_26 rfl rfl) (fun v105_27 ev105_27 pv105_27 => ?_)
      exact jok_s ⟨wh98_25, jX_l trivial⟩
    · exact jok_s ⟨wh27_8, jX_r (by decide)⟩
  · exact jok_s ⟨wh27_8, jX_r (by decide)⟩
set_option maxHeartbeats 1000000 in
theorem S_X11_law {g : jGh} {Γ : Nat → Option Nat} {n : Nat} {a0 : Nat} {h : jH} (hn : 6000 ≤ n) (hg : jgok g) (w : jW (jKd g) Γ h) (ta0 : Γ a0 = some 19) (hu : ∀ a b, Γ a = some 10 → Γ b = some 10 → a = b) : jok (F_X11_law n a0 h) (fun q => jW (jKd ((0 : Int32).toInt, g.2)) Γ q.2 ∧ jXok [0] (fun v => True) q.1) := by
  unfold F_X11_law
  refine jok_b (t_gR w ta0 rfl rfl) (fun p1_1 tp1_1 => ?_)
  try rw [t_cv w tp1_1 rfl]
  refine jok_b (S_X2_begin hn hg w tp1_1) (fun h4_2 wh4_2 => ?_)
  refine jok_b (t_gR wh4_2 ta0 rfl rfl) (fun p9_3 tp9_3 => ?_)
  try rw [t_cv wh4_2 tp9_3 rfl]
  refine jok_b (S_X4_read_L hn hg wh4_2 tp9_3) (fun q12_4 wq12_4 => ?_)
  obtain ⟨wq12_4, pq12_4⟩ := wq12_4
  refine jok_b (t_pI wq12_4 ta0 rfl rfl trivial) (fun h15_5 wh15_5 => ?_)
  obtain ⟨wh15_5, jh15_5, rh15_5⟩ := wh15_5
  refine jok_b (t_gR wh15_5 ta0 rfl rfl) (fun p19_6 tp19_6 => ?_)
  have f8 : ((0 : Int32)).toInt = 0 := rfl
  refine jok_b (t_pL (x := (0 : Int32)) wh15_5 hu tp19_6) (fun h23_7 wh23_7 => ?_)
  obtain ⟨wh23_7, jh23_7, rh23_7⟩ := wh23_7
  have hgh23_7 : jgok (((0 : Int32)).toInt, g.2) := ⟨⟨by dsimp only; omega, by dsimp only; omega⟩, hg.2⟩
  refine jok_r (fI (rh23_7 _ _ _ (Or.inl (jneq ta0 tp19_6 (by decide)))) (fJ jh15_5)) ?_
  have f10 : ((-1 : Int32)).toInt = -1 := rfl
  refine jok_eq (fun c11 d11 => ?_) (fun c11 => ?_)
  · refine jok_b (t_gR wh23_7 ta0 rfl rfl) (fun p45_12 tp45_12 => ?_)
    refine jok_b (t_gR wh23_7 ta0 rfl rfl) (fun p49_13 tp49_13 => ?_)
    try rw [t_cv wh23_7 tp45_12 rfl]
    refine jok_b (S_X2_copyFrom hn hgh23_7 wh23_7 tp45_12 tp49_13) (fun h52_14 wh52_14 => ?_)
    refine jok_b (t_gR wh52_14 ta0 rfl rfl) (fun p56_15 tp56_15 => ?_)
    try rw [t_cv wh52_14 tp56_15 rfl]
    refine jok_b (S_X0_forget hn hgh23_7 wh52_14 tp56_15) (fun h59_16 wh59_16 => ?_)
    refine jok_b (t_gR wh59_16 ta0 rfl rfl) (fun p63_17 tp63_17 => ?_)
    refine jok_b2 (t_gI wh59_16 tp63_17 rfl rfl) (fun v66_18 ev66_18 pv66_18 => ?_)
    obtain ⟨lv66_18, uv66_18⟩ := pv66_18
    exact jok_s ⟨wh59_16, jX_l trivial⟩
  · exact jok_s ⟨wh23_7, jX_r (by decide)⟩
set_option maxHeartbeats 1000000 in
theorem S_X11_readSnags {g : jGh} {Γ : Nat → Option Nat} {n : Nat} {a0 : Nat} {h : jH} (hn : 6000 ≤ n) (hg : jgok g) (w : jW (jKd g) Γ h) (ta0 : Γ a0 = some 19) (hu : ∀ a b, Γ a = some 10 → Γ b = some 10 → a = b) : jok (F_X11_readSnags n a0 h) (fun q => jW (jKd ((0 : Int32).toInt, g.2)) Γ q.2 ∧ jXok [0] (fun v => True) q.1) := by
  unfold F_X11_readSnags
  refine jok_b (t_gR w ta0 rfl rfl) (fun p1_1 tp1_1 => ?_)
  refine jok_b (t_gR w ta0 rfl rfl) (fun p5_2 tp5_2 => ?_)
  refine jok_b2 (t_gI w tp5_2 rfl rfl) (fun v8_3 ev8_3 pv8_3 => ?_)
  obtain ⟨lv8_3, uv8_3⟩ := pv8_3
  try rw [t_cv w tp1_1 rfl]
  refine jok_b (S_X7_areRows hn hg w tp1_1 (by omega) (by omega)) (fun v11_4 pv11_4 => ?_)
  have pv11_4_9 := pv11_4
  try dsimp only at pv11_4_9
  have f5 : ((0 : Int32)).toInt = 0 := rfl
  refine jok_eq (fun c6 d6 => ?_) (fun c6 => ?_)
  · refine jok_b (t_gR w ta0 rfl rfl) (fun p31_7 tp31_7 => ?_)
    refine jok_b (t_pL (x := (0 : Int32)) w hu tp31_7) (fun h35_8 wh35_8 => ?_)
    obtain ⟨wh35_8, jh35_8, rh35_8⟩ := wh35_8
    have hgh35_8 : jgok (((0 : Int32)).toInt, g.2) := ⟨⟨by dsimp only; omega, by dsimp only; omega⟩, hg.2⟩
    refine jok_eq (fun c9 d9 => ?_) (fun c9 => ?_)
    · exact jok_s ⟨wh35_8, jX_r (by decide)⟩
    · exact jok_s ⟨wh35_8, jX_l trivial⟩
  · refine jok_b (t_gR w ta0 rfl rfl) (fun p20_10 tp20_10 => ?_)
    refine jok_b (t_gR w ta0 rfl rfl) (fun p24_11 tp24_11 => ?_)
    have hr : jrows g := pv11_4_9.2.2 (by omega)
    try rw [t_cv w tp20_10 rfl]
    refine jok_b (S_X7_seekSnags hn hg w tp20_10 tp24_11 hr) (fun h27_12 wh27_12 => ?_)
    refine jok_b (t_gR wh27_12 ta0 rfl rfl) (fun p31_13 tp31_13 => ?_)
    refine jok_b (t_pL (x := (0 : Int32)) wh27_12 hu tp31_13) (fun h35_14 wh35_14 => ?_)
    obtain ⟨wh35_14, jh35_14, rh35_14⟩ := wh35_14
    have hgh35_14 : jgok (((0 : Int32)).toInt, g.2) := ⟨⟨by dsimp only; omega, by dsimp only; omega⟩, hg.2⟩
    refine jok_eq (fun c15 d15 => ?_) (fun c15 => ?_)
    · exact jok_s ⟨wh35_14, jX_r (by decide)⟩
    · exact jok_s ⟨wh35_14, jX_l trivial⟩
set_option maxHeartbeats 1000000 in
theorem S_X11_snags {g : jGh} {Γ : Nat → Option Nat} {n : Nat} {a0 : Nat} {x1 : Int32} {h : jH} (hn : 6000 ≤ n) (hg : jgok g) (w : jW (jKd g) Γ h) (ta0 : Γ a0 = some 19) (hu : ∀ a b, Γ a = some 10 → Γ b = some 10 → a = b) : jok (F_X11_snags n a0 x1 h) (fun q => jW (jKd ((0 : Int32).toInt, g.2)) Γ q.2 ∧ jXok [0] (fun v => True) q.1) := by
  unfold F_X11_snags
  try rw [t_cv w ta0 rfl]
  refine jok_b (S_X11_readSnags hn hg w ta0 hu) (fun q1_1 wq1_1 => ?_)
  obtain ⟨wq1_1, pq1_1⟩ := wq1_1
  refine jok_t pq1_1 (fun k9 q9 => ⟨wq1_1, jX_r (jsub9 q9 (by decide))⟩) (fun r1_2 pr1_2 => ?_)
  have hgq1_1 : jgok ((0 : Int32).toInt, g.2) := ⟨⟨by show (0 : Int) ≤ (0 : Int32).toInt; decide, by show (0 : Int32).toInt ≤ 400; decide⟩, hg.2⟩
  have f3 : ((0 : Int32)).toInt = 0 := rfl
  refine jok_eq (fun c4 d4 => ?_) (fun c4 => ?_)
  · refine jok_b (t_gR wq1_1 ta0 rfl rfl) (fun p19_5 tp19_5 => ?_)
    refine jok_b2 (t_gI wq1_1 tp19_5 rfl rfl) (fun v22_6 ev22_6 pv22_6 => ?_)
    obtain ⟨lv22_6, uv22_6⟩ := pv22_6
    exact jok_s ⟨wq1_1, jX_l trivial⟩
  · refine jok_b (t_gR wq1_1 ta0 rfl rfl) (fun p9_7 tp9_7 => ?_)
    try rw [t_cv wq1_1 tp9_7 rfl]
    refine jok_b (S_X7_inAllFitting hn hgq1_1 wq1_1 tp9_7) (fun v12_8 pv12_8 => ?_)
    exact jok_s ⟨wq1_1, jX_l trivial⟩
set_option maxHeartbeats 1000000 in
theorem S_X11_tries {g : jGh} {Γ : Nat → Option Nat} {n : Nat} {a0 : Nat} {h : jH} (hn : 6000 ≤ n) (hg : jgok g) (w : jW (jKd g) Γ h) (ta0 : Γ a0 = some 19) (hu : ∀ a b, Γ a = some 10 → Γ b = some 10 → a = b) : jok (F_X11_tries n a0 h) (fun q => jW (jKd ((0 : Int32).toInt, g.2)) Γ q.2 ∧ jXok [0] (fun v => True) q.1) := by
  unfold F_X11_tries
  try rw [t_cv w ta0 rfl]
  refine jok_b (S_X11_readSnags hn hg w ta0 hu) (fun q1_1 wq1_1 => ?_)
  obtain ⟨wq1_1, pq1_1⟩ := wq1_1
  refine jok_t pq1_1 (fun k9 q9 => ⟨wq1_1, jX_r (jsub9 q9 (by decide))⟩) (fun r1_2 pr1_2 => ?_)
  have hgq1_1 : jgok ((0 : Int32).toInt, g.2) := ⟨⟨by show (0 : Int) ≤ (0 : Int32).toInt; decide, by show (0 : Int32).toInt ≤ 400; decide⟩, hg.2⟩
  refine jok_b (t_gR wq1_1 ta0 rfl rfl) (fun p5_3 tp5_3 => ?_)
  refine jok_b (t_gR wq1_1 ta0 rfl rfl) (fun p9_4 tp9_4 => ?_)
  try rw [t_cv wq1_1 tp5_3 rfl]
  refine jok_b (S_X7_partingPull hn hgq1_1 wq1_1 tp5_3 tp9_4) (fun q12_5 wq12_5 => ?_)
  obtain ⟨wq12_5, pq12_5⟩ := wq12_5
  exact jok_s ⟨wq12_5, jX_l trivial⟩
