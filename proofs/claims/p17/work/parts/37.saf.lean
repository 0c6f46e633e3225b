section
set_option maxHeartbeats 1000000 in
theorem S_X11_span_13 {g : jGh} {Γ : Nat → Option Nat} {n : Nat} (hn : 6000 ≤ n) (hg : jgok g)  (k : Nat) : ∀ {a0 : Nat} {x1 : Int32} {x2 : Int32} {x3 : Int32} {x4 : Int32} {h : jH}, jW (jKd g) Γ h → (Γ a0 = some 19) → (0 ≤ x1.toInt) → (x1.toInt ≤ 80) → (0 ≤ x4.toInt) → (x4.toInt ≤ 7) → (7 : Int) - x4.toInt < (k : Int) → jok (F_X11_span_13 n k a0 x1 x2 x3 x4 h) (fun q => jW (jKd g) Γ q.2 ∧ jXok [0] (fun v => True) q.1) := by
  induction k with
  | zero =>
    intro a0 x1 x2 x3 x4 h w ta0 lx1 ux1 lx4 ux4 mk
    omega
  | succ k ih =>
    intro a0 x1 x2 x3 x4 h w ta0 lx1 ux1 lx4 ux4 mk
    show jok (F_X11_span_13_b n (F_X11_span_13 n k) a0 x1 x2 x3 x4 h) _
    unfold F_X11_span_13_b
    have f1 : ((6 : Int32)).toInt = 6 := rfl
    refine jok_lt (fun c2 => ?_) (fun c2 => ?_)
    · exact jok_s ⟨w, jX_l trivial⟩
    · refine jok_b (t_gR w ta0 rfl rfl) (fun p21_3 tp21_3 => ?_)
      refine jok_b (t_gR w ta0 rfl rfl) (fun p25_4 tp25_4 => ?_)
      try rw [t_cv w tp21_3 rfl]
      refine jok_b (S_X1_tryHours hn hg w tp21_3 tp25_4 (by omega) (by omega)) (fun h31_5 wh31_5 => ?_)
      refine jok_b (t_gR wh31_5 ta0 rfl rfl) (fun p35_6 tp35_6 => ?_)
      refine jok_b2 (t_gI wh31_5 tp35_6 rfl rfl) (fun v38_7 ev38_7 pv38_7 => ?_)
      refine jok_b (S_J6_bitCount_0f7a4 hn hg wh31_5) (fun v41_8 pv41_8 => ?_)
      refine jok_b (t_gR wh31_5 ta0 rfl rfl) (fun p45_9 tp45_9 => ?_)
      try rw [t_cv wh31_5 tp45_9 rfl]
      refine jok_b (S_X8_unhooked hn hg wh31_5 tp45_9) (fun v48_10 pv48_10 => ?_)
      refine jok_b (S_J6_bitCount_0f7a4 hn hg wh31_5) (fun v51_11 pv51_11 => ?_)
      have f12 : ((-1 : Int32)).toInt = -1 := rfl
      refine jok_eq (fun c13 d13 => ?_) (fun c13 => ?_)
      · have f14 : ((1 : Int32)).toInt = 1 := rfl
        have f15 : ((x4 + (1 : Int32))).toInt = (x4).toInt + ((1 : Int32)).toInt := jadd (by omega) (by omega)
        exact ih wh31_5 ta0 (by omega) (by omega) (by omega) (by omega) (by omega)
      · have f16 : ((0 : Int32)).toInt = 0 := rfl
        refine jok_eq (fun c17 d17 => ?_) (fun c17 => ?_)
        · refine jok_le (fun c18 => ?_) (fun c18 => ?_)
          · have f19 : ((1 : Int32)).toInt = 1 := rfl
            have f20 : ((x4 + (1 : Int32))).toInt = (x4).toInt + ((1 : Int32)).toInt := jadd (by omega) (by omega)
            exact ih wh31_5 ta0 (by omega) (by omega) (by omega) (by omega) (by omega)
          · have f21 : ((1 : Int32)).toInt = 1 := rfl
            have f22 : ((x4 + (1 : Int32))).toInt = (x4).toInt + ((1 : Int32)).toInt := jadd (by omega) (by omega)
            exact ih wh31_5 ta0 (by omega) (by omega) (by omega) (by omega) (by omega)
        · refine jok_le (fun c23 => ?_) (fun c23 => ?_)
          · have f24 : ((1 : Int32)).toInt = 1 := rfl
            have f25 : ((x4 + (1 : Int32))).toInt = (x4).toInt + ((1 : Int32)).toInt := jadd (by omega) (by omega)
            exact ih wh31_5 ta0 (by omega) (by omega) (by omega) (by omega) (by omega)
          · have f26 : ((1 : Int32)).toInt = 1 := rfl
            have f27 : ((x4 + (1 : Int32))).toInt = (x4).toInt + ((1 : Int32)).toInt := jadd (by omega) (by omega)
            exact ih wh31_5 ta0 (by omega) (by omega) (by omega) (by omega) (by omega)
set_option maxHeartbeats 1000000 in
theorem S_X11_span {g : jGh} {Γ : Nat → Option Nat} {n : Nat} {a0 : Nat} {x1 : Int32} {x2 : Int32} {h : jH} (hn : 6000 ≤ n) (hg : jgok g) (w : jW (jKd g) Γ h) (ta0 : Γ a0 = some 19) : jok (F_X11_span n a0 x1 x2 h) (fun q => jW (jKd g) Γ q.2 ∧ jXok [0] (fun v => True) q.1) := by
  unfold F_X11_span
  try rw [t_cv w ta0 rfl]
  refine jok_b (S_X11_requireNumber hn hg w ta0) (fun q5_1 wq5_1 => ?_)
  obtain ⟨wq5_1, pq5_1⟩ := wq5_1
  refine jok_t pq5_1 (fun k9 q9 => ⟨wq5_1, jX_r (jsub9 q9 (by decide))⟩) (fun r5_2 pr5_2 => ?_)
  have f3 : ((0 : Int32)).toInt = 0 := rfl
  have f4 : ((80 : Int32)).toInt = 80 := rfl
  have pr5_2_9 := pr5_2
  try dsimp only at pr5_2_9
  have f5 : ((1 : Int32)).toInt = 1 := rfl
  exact S_X11_span_13 hn hg  n wq5_1 ta0 (by omega) (by omega) (by omega) (by omega) (by omega)
set_option maxHeartbeats 1000000 in
theorem S_X11_led {g : jGh} {Γ : Nat → Option Nat} {n : Nat} {a0 : Nat} {x1 : Int32} {x2 : Int32} {h : jH} (hn : 6000 ≤ n) (hg : jgok g) (w : jW (jKd g) Γ h) (ta0 : Γ a0 = some 19) : jok (F_X11_led n a0 x1 x2 h) (fun q => jW (jKd g) Γ q.2 ∧ jXok [2] (fun v => True) q.1) := by
  unfold F_X11_led
  try rw [t_cv w ta0 rfl]
  refine jok_b (S_X11_requireRing hn hg w ta0) (fun q2_1 wq2_1 => ?_)
  obtain ⟨wq2_1, pq2_1⟩ := wq2_1
  refine jok_t pq2_1 (fun k9 q9 => ⟨wq2_1, jX_r (jsub9 q9 (by decide))⟩) (fun r2_2 pr2_2 => ?_)
  have pr2_2_9 := pr2_2
  try dsimp only at pr2_2_9
  have f3 : ((0 : Int32)).toInt = 0 := rfl
  refine jok_eq (fun c4 d4 => ?_) (fun c4 => ?_)
  · refine jok_b (t_gR wq2_1 ta0 rfl rfl) (fun p24_5 tp24_5 => ?_)
    refine jok_b (t_gR wq2_1 tp24_5 rfl rfl) (fun p27_6 tp27_6 => ?_)
    try rw [t_cv wq2_1 tp27_6 rfl]
    refine jok_b (S_X5_rowsOf hn hg wq2_1 tp27_6) (fun v31_7 pv31_7 => ?_)
    exact jok_s ⟨wq2_1, jX_l trivial⟩
  · refine jok_b (t_gR wq2_1 ta0 rfl rfl) (fun p10_8 tp10_8 => ?_)
    refine jok_b (t_gR wq2_1 tp10_8 rfl rfl) (fun p13_9 tp13_9 => ?_)
    try rw [t_cv wq2_1 tp13_9 rfl]
    refine jok_b (S_X5_latestPlace hn hg wq2_1 tp13_9) (fun v17_10 pv17_10 => ?_)
    exact jok_s ⟨wq2_1, jX_l trivial⟩
set_option maxHeartbeats 1000000 in
theorem S_X11_log {g : jGh} {Γ : Nat → Option Nat} {n : Nat} {a0 : Nat} {x1 : Int32} {x2 : Int32} {h : jH} (hn : 6000 ≤ n) (hg : jgok g) (w : jW (jKd g) Γ h) (ta0 : Γ a0 = some 19) : jok (F_X11_log n a0 x1 x2 h) (fun q => jW (jKd g) Γ q.2 ∧ jXok [4] (fun v => True) q.1) := by
  unfold F_X11_log
  have f1 : ((0 : Int32)).toInt = 0 := rfl
  refine jok_lt (fun c2 => ?_) (fun c2 => ?_)
  · exact jok_s ⟨w, jX_r (by decide)⟩
  · have f3 : ((6 : Int32)).toInt = 6 := rfl
    refine jok_lt (fun c4 => ?_) (fun c4 => ?_)
    · refine jok_b (t_gR w ta0 rfl rfl) (fun p22_5 tp22_5 => ?_)
      refine jok_b (t_gR w tp22_5 rfl rfl) (fun p25_6 tp25_6 => ?_)
      try rw [t_cv w tp25_6 rfl]
      refine jok_b (S_X5_read hn hg w tp25_6) (fun v30_7 pv30_7 => ?_)
      exact jok_s ⟨w, jX_l trivial⟩
    · exact jok_s ⟨w, jX_r (by decide)⟩
set_option maxHeartbeats 1000000 in
theorem S_X0_forget {g : jGh} {Γ : Nat → Option Nat} {n : Nat} {a0 : Nat} {h : jH} (hn : 6000 ≤ n) (hg : jgok g) (w : jW (jKd g) Γ h) (ta0 : Γ a0 = some 12) : jok (F_X0_forget n a0 h) (fun q => jW (jKd g) Γ q) := by
  unfold F_X0_forget
  have f2 : ((0 : Int32)).toInt = 0 := rfl
  refine jok_b (t_pI w ta0 rfl rfl (show jI 0 12 (0 : Int32) from ⟨by omega, by omega⟩)) (fun h2_1 wh2_1 => ?_)
  obtain ⟨wh2_1, jh2_1, rh2_1⟩ := wh2_1
  exact jok_s wh2_1
set_option maxHeartbeats 1000000 in
theorem S_X11_pole {g : jGh} {Γ : Nat → Option Nat} {n : Nat} {a0 : Nat} {h : jH} (hn : 6000 ≤ n) (hg : jgok g) (w : jW (jKd g) Γ h) (ta0 : Γ a0 = some 19) (hu : ∀ a b, Γ a = some 10 → Γ b = some 10 → a = b) : jok (F_X11_pole n a0 h) (fun q => jW (jKd ((0 : Int32).toInt, g.2)) Γ q.2 ∧ jXok [0, 3] (fun v => True) q.1) := by
  unfold F_X11_pole
  refine jok_b (t_gR w ta0 rfl rfl) (fun p1_1 tp1_1 => ?_)
  refine jok_b (t_gR w ta0 rfl rfl) (fun p5_2 tp5_2 => ?_)
  try rw [t_cv w tp1_1 rfl]
  refine jok_b (S_X8_copyFrom hn hg w tp1_1 tp5_2) (fun h8_3 wh8_3 => ?_)
  refine jok_b (t_gR wh8_3 ta0 rfl rfl) (fun p13_4 tp13_4 => ?_)
  try rw [t_cv wh8_3 tp13_4 rfl]
  refine jok_b (S_X4_read_R hn hg wh8_3 tp13_4) (fun q16_5 wq16_5 => ?_)
  obtain ⟨wq16_5, pq16_5⟩ := wq16_5
  refine jok_b (t_pI wq16_5 ta0 rfl rfl trivial) (fun h19_6 wh19_6 => ?_)
  obtain ⟨wh19_6, jh19_6, rh19_6⟩ := wh19_6
  refine jok_b (t_gR wh19_6 ta0 rfl rfl) (fun p23_7 tp23_7 => ?_)
  have f9 : ((0 : Int32)).toInt = 0 := rfl
  refine jok_b (t_pL (x := (0 : Int32)) wh19_6 hu tp23_7) (fun h27_8 wh27_8 => ?_)
  obtain ⟨wh27_8, jh27_8, rh27_8⟩ := wh27_8
  have hgh27_8 : jgok (((0 : Int32)).toInt, g.2) := ⟨⟨by dsimp only; omega, by dsimp only; omega⟩, hg.2⟩
  refine jok_r (fI (rh27_8 _ _ _ (Or.inl (jneq ta0 tp23_7 (by decide)))) (fJ jh19_6)) ?_
  have f11 : ((-1 : Int32)).toInt = -1 := rfl
  refine jok_eq (fun c12 d12 => ?_) (fun c12 => ?_)
  · refine jok_b (t_gR wh27_8 ta0 rfl rfl) (fun p49_13 tp49_13 => ?_)
    refine jok_b2 (t_gI wh27_8 tp49_13 rfl rfl) (fun v52_14 ev52_14 pv52_14 => ?_)
    have f15 : ((12 : Int32)).toInt = 12 := rfl
    refine jok_lt (fun c16 => ?_) (fun c16 => ?_)
    · refine jok_b (t_gR wh27_8 ta0 rfl rfl) (fun p71_17 tp71_17 => ?_)
      refine jok_b2 (t_gI wh27_8 tp71_17 rfl rfl) (fun v75_18 ev75_18 pv75_18 => ?_)
      have f20 : ((1 : Int32)).toInt = 1 := rfl
      refine jok_b (t_pI wh27_8 tp71_17 rfl rfl trivial) (fun h80_19 wh80_19 => ?_)
      obtain ⟨wh80_19, jh80_19, rh80_19⟩ := wh80_19
      refine jok_b (t_gR wh80_19 ta0 rfl rfl) (fun p84_21 tp84_21 => ?_)
      refine jok_b (t_gR wh80_19 ta0 rfl rfl) (fun p88_22 tp88_22 => ?_)
      try rw [t_cv wh80_19 tp84_21 rfl]
      refine jok_b (S_X8_copyFrom hn hgh27_8 wh80_19 tp84_21 tp88_22) (fun h91_23 wh91_23 => ?_)
      refine jok_b (t_gR wh91_23 ta0 rfl rfl) (fun p95_24 tp95_24 => ?_)
      try rw [t_cv wh91_23 tp95_24 rfl]
      refine jok_b (S_X0_forget hn hgh27_8 wh91_23 tp95_24) (fun h98_25 wh98_25 => ?_)
      refine jok_b (t_gR wh98_25 ta0 rfl rfl) (fun p102_26 tp102_26 => ?_)
      refine jok_b2 (t_gI wh98_25 tp102_26 rfl rfl) (fun v105_27 ev105_27 pv105_27 => ?_)
      exact jok_s ⟨wh98_25, jX_l trivial⟩
    · exact jok_s ⟨wh27_8, jX_r (by decide)⟩
  · exact jok_s ⟨wh27_8, jX_r (by decide)⟩
set_option maxHeartbeats 1000000 in
theorem S_X11_law {g : jGh} {Γ : Nat → Option Nat} {n : Nat} {a0 : Nat} {h : jH} (hn : 6000 ≤ n) (hg : jgok g) (w : jW (jKd g) Γ h) (ta0 : Γ a0 = some 19) (hu : ∀ a b, Γ a = some 10 → Γ b = some 10 → a = b) : jok (F_X11_law n a0 h) (fun q => jW (jKd ((0 : Int32).toInt, g.2)) Γ q.2 ∧ jXok [0] (fun v => True) q.1) := by
  unfold F_X11_law
  refine jok_b (t_gR w ta0 rfl rfl) (fun p1_1 tp1_1 => ?_)
  try rw [t_cv w tp1_1 rfl]
  refine jok_b (S_X2_begin hn hg w tp1_1) (fun h4_2 wh4_2 => ?_)
  refine jok_b (t_gR wh4_2 ta0 rfl rfl) (fun p9_3 tp9_3 => ?_)
  try rw [t_cv wh4_2 tp9_3 rfl]
  refine jok_b (S_X4_read_L hn hg wh4_2 tp9_3) (fun q12_4 wq12_4 => ?_)
  obtain ⟨wq12_4, pq12_4⟩ := wq12_4
  refine jok_b (t_pI wq12_4 ta0 rfl rfl trivial) (fun h15_5 wh15_5 => ?_)
  obtain ⟨wh15_5, jh15_5, rh15_5⟩ := wh15_5
  refine jok_b (t_gR wh15_5 ta0 rfl rfl) (fun p19_6 tp19_6 => ?_)
  have f8 : ((0 : Int32)).toInt = 0 := rfl
  refine jok_b (t_pL (x := (0 : Int32)) wh15_5 hu tp19_6) (fun h23_7 wh23_7 => ?_)
  obtain ⟨wh23_7, jh23_7, rh23_7⟩ := wh23_7
  have hgh23_7 : jgok (((0 : Int32)).toInt, g.2) := ⟨⟨by dsimp only; omega, by dsimp only; omega⟩, hg.2⟩
  refine jok_r (fI (rh23_7 _ _ _ (Or.inl (jneq ta0 tp19_6 (by decide)))) (fJ jh15_5)) ?_
  have f10 : ((-1 : Int32)).toInt = -1 := rfl
  refine jok_eq (fun c11 d11 => ?_) (fun c11 => ?_)
  · refine jok_b (t_gR wh23_7 ta0 rfl rfl) (fun p45_12 tp45_12 => ?_)
    refine jok_b (t_gR wh23_7 ta0 rfl rfl) (fun p49_13 tp49_13 => ?_)
    try rw [t_cv wh23_7 tp45_12 rfl]
    refine jok_b (S_X2_copyFrom hn hgh23_7 wh23_7 tp45_12 tp49_13) (fun h52_14 wh52_14 => ?_)
    refine jok_b (t_gR wh52_14 ta0 rfl rfl) (fun p56_15 tp56_15 => ?_)
    try rw [t_cv wh52_14 tp56_15 rfl]
    refine jok_b (S_X0_forget hn hgh23_7 wh52_14 tp56_15) (fun h59_16 wh59_16 => ?_)
    refine jok_b (t_gR wh59_16 ta0 rfl rfl) (fun p63_17 tp63_17 => ?_)
    refine jok_b2 (t_gI wh59_16 tp63_17 rfl rfl) (fun v66_18 ev66_18 pv66_18 => ?_)
    obtain ⟨lv66_18, uv66_18⟩ := pv66_18
    exact jok_s ⟨wh59_16, jX_l trivial⟩
  · exact jok_s ⟨wh23_7, jX_r (by decide)⟩
set_option maxHeartbeats 1000000 in
theorem S_X11_readSnags {g : jGh} {Γ : Nat → Option Nat} {n : Nat} {a0 : Nat} {h : jH} (hn : 6000 ≤ n) (hg : jgok g) (w : jW (jKd g) Γ h) (ta0 : Γ a0 = some 19) (hu : ∀ a b, Γ a = some 10 → Γ b = some 10 → a = b) : jok (F_X11_readSnags n a0 h) (fun q => jW (jKd ((0 : Int32).toInt, g.2)) Γ q.2 ∧ jXok [0] (fun v => True) q.1) := by
  unfold F_X11_readSnags
  refine jok_b (t_gR w ta0 rfl rfl) (fun p1_1 tp1_1 => ?_)
  refine jok_b (t_gR w ta0 rfl rfl) (fun p5_2 tp5_2 => ?_)
  refine jok_b2 (t_gI w tp5_2 rfl rfl) (fun v8_3 ev8_3 pv8_3 => ?_)
  obtain ⟨lv8_3, uv8_3⟩ := pv8_3
  try rw [t_cv w tp1_1 rfl]
  refine jok_b (S_X7_areRows hn hg w tp1_1 (by omega) (by omega)) (fun v11_4 pv11_4 => ?_)
  have pv11_4_9 := pv11_4
  try dsimp only at pv11_4_9
  have f5 : ((0 : Int32)).toInt = 0 := rfl
  refine jok_eq (fun c6 d6 => ?_) (fun c6 => ?_)
  · refine jok_b (t_gR w ta0 rfl rfl) (fun p31_7 tp31_7 => ?_)
    refine jok_b (t_pL (x := (0 : Int32)) w hu tp31_7) (fun h35_8 wh35_8 => ?_)
    obtain ⟨wh35_8, jh35_8, rh35_8⟩ := wh35_8
    have hgh35_8 : jgok (((0 : Int32)).toInt, g.2) := ⟨⟨by dsimp only; omega, by dsimp only; omega⟩, hg.2⟩
    refine jok_eq (fun c9 d9 => ?_) (fun c9 => ?_)
    · exact jok_s ⟨wh35_8, jX_r (by decide)⟩
    · exact jok_s ⟨wh35_8, jX_l trivial⟩
  · refine jok_b (t_gR w ta0 rfl rfl) (fun p20_10 tp20_10 => ?_)
    refine jok_b (t_gR w ta0 rfl rfl) (fun p24_11 tp24_11 => ?_)
    have hr : jrows g := pv11_4_9.2.2 (by omega)
    try rw [t_cv w tp20_10 rfl]
    refine jok_b (S_X7_seekSnags hn hg w tp20_10 tp24_11 hr) (fun h27_12 wh27_12 => ?_)
    refine jok_b (t_gR wh27_12 ta0 rfl rfl) (fun p31_13 tp31_13 => ?_)
    refine jok_b (t_pL (x := (0 : Int32)) wh27_12 hu tp31_13) (fun h35_14 wh35_14 => ?_)
    obtain ⟨wh35_14, jh35_14, rh35_14⟩ := wh35_14
    have hgh35_14 : jgok (((0 : Int32)).toInt, g.2) := ⟨⟨by dsimp only; omega, by dsimp only; omega⟩, hg.2⟩
    refine jok_eq (fun c15 d15 => ?_) (fun c15 => ?_)
    · exact jok_s ⟨wh35_14, jX_r (by decide)⟩
    · exact jok_s ⟨wh35_14, jX_l trivial⟩
set_option maxHeartbeats 1000000 in
theorem S_X11_snags {g : jGh} {Γ : Nat → Option Nat} {n : Nat} {a0 : Nat} {x1 : Int32} {h : jH} (hn : 6000 ≤ n) (hg : jgok g) (w : jW (jKd g) Γ h) (ta0 : Γ a0 = some 19) (hu : ∀ a b, Γ a = some 10 → Γ b = some 10 → a = b) : jok (F_X11_snags n a0 x1 h) (fun q => jW (jKd ((0 : Int32).toInt, g.2)) Γ q.2 ∧ jXok [0] (fun v => True) q.1) := by
  unfold F_X11_snags
  try rw [t_cv w ta0 rfl]
  refine jok_b (S_X11_readSnags hn hg w ta0 hu) (fun q1_1 wq1_1 => ?_)
  obtain ⟨wq1_1, pq1_1⟩ := wq1_1
  refine jok_t pq1_1 (fun k9 q9 => ⟨wq1_1, jX_r (jsub9 q9 (by decide))⟩) (fun r1_2 pr1_2 => ?_)
  have hgq1_1 : jgok ((0 : Int32).toInt, g.2) := ⟨⟨by show (0 : Int) ≤ (0 : Int32).toInt; decide, by show (0 : Int32).toInt ≤ 400; decide⟩, hg.2⟩
  have f3 : ((0 : Int32)).toInt = 0 := rfl
  refine jok_eq (fun c4 d4 => ?_) (fun c4 => ?_)
  · refine jok_b (t_gR wq1_1 ta0 rfl rfl) (fun p19_5 tp19_5 => ?_)
    refine jok_b2 (t_gI wq1_1 tp19_5 rfl rfl) (fun v22_6 ev22_6 pv22_6 => ?_)
    obtain ⟨lv22_6, uv22_6⟩ := pv22_6
    exact jok_s ⟨wq1_1, jX_l trivial⟩
  · refine jok_b (t_gR wq1_1 ta0 rfl rfl) (fun p9_7 tp9_7 => ?_)
    try rw [t_cv wq1_1 tp9_7 rfl]
    refine jok_b (S_X7_inAllFitting hn hgq1_1 wq1_1 tp9_7) (fun v12_8 pv12_8 => ?_)
    exact jok_s ⟨wq1_1, jX_l trivial⟩
set_option maxHeartbeats 1000000 in
theorem S_X11_tries {g : jGh} {Γ : Nat → Option Nat} {n : Nat} {a0 : Nat} {h : jH} (hn : 6000 ≤ n) (hg : jgok g) (w : jW (jKd g) Γ h) (ta0 : Γ a0 = some 19) (hu : ∀ a b, Γ a = some 10 → Γ b = some 10 → a = b) : jok (F_X11_tries n a0 h) (fun q => jW (jKd ((0 : Int32).toInt, g.2)) Γ q.2 ∧ jXok [0] (fun v => True) q.1) := by
  unfold F_X11_tries
  try rw [t_cv w ta0 rfl]
  refine jok_b (S_X11_readSnags hn hg w ta0 hu) (fun q1_1 wq1_1 => ?_)
  obtain ⟨wq1_1, pq1_1⟩ := wq1_1
  refine jok_t pq1_1 (fun k9 q9 => ⟨wq1_1, jX_r (jsub9 q9 (by decide))⟩) (fun r1_2 pr1_2 => ?_)
  have hgq1_1 : jgok ((0 : Int32).toInt, g.2) := ⟨⟨by show (0 : Int) ≤ (0 : Int32).toInt; decide, by show (0 : Int32).toInt ≤ 400; decide⟩, hg.2⟩
  refine jok_b (t_gR wq1_1 ta0 rfl rfl) (fun p5_3 tp5_3 => ?_)
  refine jok_b (t_gR wq1_1 ta0 rfl rfl) (fun p9_4 tp9_4 => ?_)
  try rw [t_cv wq1_1 tp5_3 rfl]
  refine jok_b (S_X7_partingPull hn hgq1_1 wq1_1 tp5_3 tp9_4) (fun q12_5 wq12_5 => ?_)
  obtain ⟨wq12_5, pq12_5⟩ := wq12_5
  exact jok_s ⟨wq12_5, jX_l trivial⟩
set_option maxHeartbeats 1000000 in
theorem S_X12_rings {g : jGh} {Γ : Nat → Option Nat} {n : Nat} {a0 : Nat} {h : jH} (hn : 6000 ≤ n) (hg : jgok g) (w : jW (jKd g) Γ h) (ta0 : Γ a0 = some 20) : jok (F_X12_rings n a0 h) (fun v => 0 ≤ v.toInt ∧ v.toInt ≤ 8) := by
  unfold F_X12_rings
  refine jok_b (t_gR w ta0 rfl rfl) (fun p1_1 tp1_1 => ?_)
  have f3 : ((0 : Int32)).toInt = 0 := rfl
  refine jok_b (t_al w tp1_1 rfl (by omega) (by omega)) (fun v5_2 pv5_2 => ?_)
  have bv5_2 : 0 ≤ (v5_2).toInt ∧ (v5_2).toInt ≤ 8 := by rcases pv5_2.1.1 with z | z; exact absurd rfl z; exact z
  obtain ⟨lv5_2, uv5_2⟩ := bv5_2
  exact jok_s (show jI 0 8 v5_2 from ⟨by omega, by omega⟩)
set_option maxHeartbeats 1000000 in
theorem S_X12_lastRing {g : jGh} {Γ : Nat → Option Nat} {n : Nat} {a0 : Nat} {h : jH} (hn : 6000 ≤ n) (hg : jgok g) (w : jW (jKd g) Γ h) (ta0 : Γ a0 = some 20) : jok (F_X12_lastRing n a0 h) (fun v => -1 ≤ v.toInt ∧ v.toInt ≤ 7) := by
  unfold F_X12_lastRing
  try rw [t_cv w ta0 rfl]
  refine jok_b2 (S_X12_rings hn hg w ta0) (fun v1_1 ev1_1 pv1_1 => ?_)
  obtain ⟨lv1_1, uv1_1⟩ := pv1_1
  have f2 : ((1 : Int32)).toInt = 1 := rfl
  have f3 : ((v1_1 - (1 : Int32))).toInt = (v1_1).toInt - ((1 : Int32)).toInt := jsub (by omega) (by omega)
  exact jok_s (show jI (-1) 7 (v1_1 - (1 : Int32)) from ⟨by omega, by omega⟩)
theorem last_of {g : jGh} {Γ : Nat → Option Nat} {n a0 : Nat} {h : jH} {v : Int32} (w : jW (jKd g) Γ h) (ta0 : Γ a0 = some 20) (e : F_X12_rings n a0 h = some v) : F_X12_lastRing n a0 h = some (v - (1 : Int32)) := by
  unfold F_X12_lastRing
  rw [t_cv w ta0 rfl, e]
  rfl
set_option maxHeartbeats 1000000 in
theorem S_X12_at {g : jGh} {Γ : Nat → Option Nat} {n : Nat} {x0 : Int32} {x1 : Int32} {h : jH} (hn : 6000 ≤ n) (hg : jgok g) (w : jW (jKd g) Γ h) (lx0 : 0 ≤ x0.toInt) (ux0 : x0.toInt ≤ 8) (lx1 : 0 ≤ x1.toInt) (ux1 : x1.toInt ≤ 7) : jok (F_X12_at n x0 x1 h) (fun v => v.toInt = 11 + 8 * x0.toInt + x1.toInt) := by
  unfold F_X12_at
  have f1 : ((11 : Int32)).toInt = 11 := rfl
  have f2 : ((8 : Int32)).toInt = 8 := rfl
  have f3 : (((8 : Int32) * x0)).toInt = 8 * (x0).toInt := jmulL (c := 8) (by omega) (by omega) (by omega)
  have f4 : (((11 : Int32) + ((8 : Int32) * x0))).toInt = ((11 : Int32)).toInt + (((8 : Int32) * x0)).toInt := jadd (by omega) (by omega)
  have f5 : ((((11 : Int32) + ((8 : Int32) * x0)) + x1)).toInt = (((11 : Int32) + ((8 : Int32) * x0))).toInt + (x1).toInt := jadd (by omega) (by omega)
  exact jok_s (show (((11 : Int32) + ((8 : Int32) * x0)) + x1).toInt = 11 + 8 * x0.toInt + x1.toInt from by omega)
set_option maxHeartbeats 1000000 in
theorem S_X12_of {g : jGh} {Γ : Nat → Option Nat} {n : Nat} {a0 : Nat} {x1 : Int32} {x2 : Int32} {h : jH} (hn : 6000 ≤ n) (hg : jgok g) (w : jW (jKd g) Γ h) (ta0 : Γ a0 = some 20) (lx1 : 0 ≤ x1.toInt) (ux1 : x1.toInt ≤ 8) (lx2 : 0 ≤ x2.toInt) (ux2 : x2.toInt ≤ 7) : jok (F_X12_of n a0 x1 x2 h) (fun v => ¬ x2.toInt = 0 ∨ 8 ≤ x1.toInt ∨ (0 ≤ v.toInt ∧ v.toInt ≤ 31)) := by
  unfold F_X12_of
  refine jok_b (t_gR w ta0 rfl rfl) (fun p1_1 tp1_1 => ?_)
  refine jok_b (S_X12_at hn hg w (by omega) (by omega) (by omega) (by omega)) (fun v6_2 pv6_2 => ?_)
  have pv6_2_9 := pv6_2
  try dsimp only at pv6_2_9
  refine jok_b (t_al w tp1_1 rfl (by omega) (by omega)) (fun v9_3 pv9_3 => ?_)
  have ov9_3 := pv9_3.1.2.2
  exact jok_s (show ¬ x2.toInt = 0 ∨ 8 ≤ x1.toInt ∨ (0 ≤ v9_3.toInt ∧ v9_3.toInt ≤ 31) from by omega)
set_option maxHeartbeats 1000000 in
theorem S_X12_is {g : jGh} {Γ : Nat → Option Nat} {n : Nat} {a0 : Nat} {x1 : Int32} {x2 : Int32} {h : jH} (hn : 6000 ≤ n) (hg : jgok g) (w : jW (jKd g) Γ h) (ta0 : Γ a0 = some 20) (lx1 : 0 ≤ x1.toInt) (ux1 : x1.toInt ≤ 8) (lx2 : 0 ≤ x2.toInt) (ux2 : x2.toInt ≤ 7) : jok (F_X12_is n a0 x1 x2 h) (fun v => 0 ≤ v.toInt ∧ v.toInt ≤ 1) := by
  unfold F_X12_is
  try rw [t_cv w ta0 rfl]
  refine jok_b (S_X12_of hn hg w ta0 (by omega) (by omega) (by omega) (by omega)) (fun v3_1 pv3_1 => ?_)
  have pv3_1_9 := pv3_1
  try dsimp only at pv3_1_9
  have f2 : ((1 : Int32)).toInt = 1 := rfl
  refine jok_eq (fun c3 d3 => ?_) (fun c3 => ?_)
  · exact jok_s (show jI 0 1 (1 : Int32) from ⟨by omega, by omega⟩)
  · have f4 : ((0 : Int32)).toInt = 0 := rfl
    exact jok_s (show jI 0 1 (0 : Int32) from ⟨by omega, by omega⟩)
set_option maxHeartbeats 1000000 in
theorem S_X12_gapOf {g : jGh} {Γ : Nat → Option Nat} {n : Nat} {a0 : Nat} {x1 : Int32} {h : jH} (hn : 6000 ≤ n) (hg : jgok g) (w : jW (jKd g) Γ h) (ta0 : Γ a0 = some 20) (lx1 : 0 ≤ x1.toInt) (ux1 : x1.toInt ≤ 7) : jok (F_X12_gapOf n a0 x1 h) (fun v => True) := by
  unfold F_X12_gapOf
  try rw [t_cv w ta0 rfl]
  refine jok_b2 (S_X12_lastRing hn hg w ta0) (fun v2_1 ev2_1 pv2_1 => ?_)
  obtain ⟨lv2_1, uv2_1⟩ := pv2_1
  refine jok_eq (fun c2 d2 => ?_) (fun c2 => ?_)
  · exact jok_s trivial
  · try rw [t_cv w ta0 rfl]
    have f4 : ((1 : Int32)).toInt = 1 := rfl
    have f5 : ((x1 + (1 : Int32))).toInt = (x1).toInt + ((1 : Int32)).toInt := jadd (by omega) (by omega)
    have f6 : ((0 : Int32)).toInt = 0 := rfl
    refine jok_b (S_X12_of hn hg w ta0 (by omega) (by omega) (by omega) (by omega)) (fun v18_3 pv18_3 => ?_)
    have pv18_3_9 := pv18_3
    try dsimp only at pv18_3_9
    try rw [t_cv w ta0 rfl]
    refine jok_b (S_X12_of hn hg w ta0 (by omega) (by omega) (by omega) (by omega)) (fun v24_7 pv24_7 => ?_)
    have pv24_7_9 := pv24_7
    try dsimp only at pv24_7_9
    exact jok_s trivial
set_option maxHeartbeats 1000000 in
theorem S_X12_ringsThat_4 {g : jGh} {Γ : Nat → Option Nat} {n : Nat} (hn : 6000 ≤ n) (hg : jgok g)  (k : Nat) : ∀ {a0 : Nat} {x1 : Int32} {x2 : Int32} {x3 : Int32} {h : jH}, jW (jKd g) Γ h → (Γ a0 = some 20) → (0 ≤ x1.toInt) → (x1.toInt ≤ 7) → (0 ≤ x2.toInt) → (x2.toInt ≤ 255) → (0 ≤ x3.toInt) → (x3.toInt ≤ 8) → (8 : Int) - x3.toInt < (k : Int) → jok (F_X12_ringsThat_4 n k a0 x1 x2 x3 h) (fun v => 0 ≤ v.toInt ∧ v.toInt ≤ 255) := by
  induction k with
  | zero =>
    intro a0 x1 x2 x3 h w ta0 lx1 ux1 lx2 ux2 lx3 ux3 mk
    omega
  | succ k ih =>
    intro a0 x1 x2 x3 h w ta0 lx1 ux1 lx2 ux2 lx3 ux3 mk
    show jok (F_X12_ringsThat_4_b n (F_X12_ringsThat_4 n k) a0 x1 x2 x3 h) _
    unfold F_X12_ringsThat_4_b
    try rw [t_cv w ta0 rfl]
    refine jok_b2 (S_X12_rings hn hg w ta0) (fun v6_1 ev6_1 pv6_1 => ?_)
    obtain ⟨lv6_1, uv6_1⟩ := pv6_1
    refine jok_le (fun c2 => ?_) (fun c2 => ?_)
    · exact jok_s (show jI 0 255 x2 from ⟨by omega, by omega⟩)
    · try rw [t_cv w ta0 rfl]
      refine jok_b (S_X12_is hn hg w ta0 (by omega) (by omega) (by omega) (by omega)) (fun v16_3 pv16_3 => ?_)
      obtain ⟨lv16_3, uv16_3⟩ := pv16_3
      have f4 : ((0 : Int32)).toInt = 0 := rfl
      refine jok_eq (fun c5 d5 => ?_) (fun c5 => ?_)
      · have f6 := jor255 (x := x2) (y := (0 : Int32)) (by omega) (by omega) (by omega) (by omega)
        have f7 : ((1 : Int32)).toInt = 1 := rfl
        have f8 : ((x3 + (1 : Int32))).toInt = (x3).toInt + ((1 : Int32)).toInt := jadd (by omega) (by omega)
        exact ih w ta0 (by omega) (by omega) (by omega) (by omega) (by omega) (by omega) (by omega)
      · have f9 := jshl1 (v := x3) (k := 7) (by omega) (by omega) (by decide)
        have f10 := jor255 (x := x2) (y := ((1 : Int32) <<< (x3 &&& (31 : Int32)))) (by omega) (by omega) (by omega) (by omega)
        have f11 : ((1 : Int32)).toInt = 1 := rfl
        have f12 : ((x3 + (1 : Int32))).toInt = (x3).toInt + ((1 : Int32)).toInt := jadd (by omega) (by omega)
        exact ih w ta0 (by omega) (by omega) (by omega) (by omega) (by omega) (by omega) (by omega)
set_option maxHeartbeats 1000000 in
theorem S_X12_ringsThat {g : jGh} {Γ : Nat → Option Nat} {n : Nat} {a0 : Nat} {x1 : Int32} {h : jH} (hn : 6000 ≤ n) (hg : jgok g) (w : jW (jKd g) Γ h) (ta0 : Γ a0 = some 20) (lx1 : 0 ≤ x1.toInt) (ux1 : x1.toInt ≤ 7) : jok (F_X12_ringsThat n a0 x1 h) (fun v => 0 ≤ v.toInt ∧ v.toInt ≤ 255) := by
  unfold F_X12_ringsThat
  have f1 : ((0 : Int32)).toInt = 0 := rfl
  exact S_X12_ringsThat_4 hn hg  n w ta0 (by omega) (by omega) (by omega) (by omega) (by omega) (by omega) (by omega)
set_option maxHeartbeats 1000000 in
theorem S_X12_in {g : jGh} {Γ : Nat → Option Nat} {n : Nat} {x0 : Int32} {x1 : Int32} {x2 : Int32} {h : jH} (hn : 6000 ≤ n) (hg : jgok g) (w : jW (jKd g) Γ h)  : jok (F_X12_in n x0 x1 x2 h) (fun v => (v.toInt = 1 ∧ x1.toInt ≤ x0.toInt ∧ x0.toInt ≤ x2.toInt) ∨ (v.toInt = 0 ∧ (x0.toInt < x1.toInt ∨ x2.toInt < x0.toInt))) := by
  unfold F_X12_in
  refine jok_lt (fun c1 => ?_) (fun c1 => ?_)
  · have f2 : ((0 : Int32)).toInt = 0 := rfl
    exact jok_s (show ((0 : Int32).toInt = 1 ∧ x1.toInt ≤ x0.toInt ∧ x0.toInt ≤ x2.toInt) ∨ ((0 : Int32).toInt = 0 ∧ (x0.toInt < x1.toInt ∨ x2.toInt < x0.toInt)) from by omega)
  · refine jok_lt (fun c3 => ?_) (fun c3 => ?_)
    · have f4 : ((0 : Int32)).toInt = 0 := rfl
      exact jok_s (show ((0 : Int32).toInt = 1 ∧ x1.toInt ≤ x0.toInt ∧ x0.toInt ≤ x2.toInt) ∨ ((0 : Int32).toInt = 0 ∧ (x0.toInt < x1.toInt ∨ x2.toInt < x0.toInt)) from by omega)
    · have f5 : ((1 : Int32)).toInt = 1 := rfl
      exact jok_s (show ((1 : Int32).toInt = 1 ∧ x1.toInt ≤ x0.toInt ∧ x0.toInt ≤ x2.toInt) ∨ ((1 : Int32).toInt = 0 ∧ (x0.toInt < x1.toInt ∨ x2.toInt < x0.toInt)) from by omega)
set_option maxHeartbeats 1000000 in
theorem S_X12_noRing {g : jGh} {Γ : Nat → Option Nat} {n : Nat} {a0 : Nat} {x1 : Int32} {h : jH} (hn : 6000 ≤ n) (hg : jgok g) (w : jW (jKd g) Γ h) (ta0 : Γ a0 = some 20) : jok (F_X12_noRing n a0 x1 h) (fun v => (v.toInt = 0 ∧ 0 ≤ x1.toInt ∧ x1.toInt ≤ 7) ∨ v.toInt = 1) := by
  unfold F_X12_noRing
  try rw [t_cv w ta0 rfl]
  refine jok_b2 (S_X12_lastRing hn hg w ta0) (fun v3_1 ev3_1 pv3_1 => ?_)
  obtain ⟨lv3_1, uv3_1⟩ := pv3_1
  refine jok_b (S_X12_in hn hg w) (fun v6_2 pv6_2 => ?_)
  have f3 : ((0 : Int32)).toInt = 0 := rfl
  have pv6_2_9 := pv6_2
  try dsimp only at pv6_2_9
  refine jok_eq (fun c4 d4 => ?_) (fun c4 => ?_)
  · have f5 : ((1 : Int32)).toInt = 1 := rfl
    exact jok_s (show ((1 : Int32).toInt = 0 ∧ 0 ≤ x1.toInt ∧ x1.toInt ≤ 7) ∨ (1 : Int32).toInt = 1 from by omega)
  · exact jok_s (show ((0 : Int32).toInt = 0 ∧ 0 ≤ x1.toInt ∧ x1.toInt ≤ 7) ∨ (0 : Int32).toInt = 1 from by omega)
set_option maxHeartbeats 1000000 in
theorem S_X12_noPlace {g : jGh} {Γ : Nat → Option Nat} {n : Nat} {x0 : Int32} {h : jH} (hn : 6000 ≤ n) (hg : jgok g) (w : jW (jKd g) Γ h)  : jok (F_X12_noPlace n x0 h) (fun v => (v.toInt = 0 ∧ 0 ≤ x0.toInt ∧ x0.toInt ≤ 31) ∨ v.toInt = 1) := by
  unfold F_X12_noPlace
  refine jok_b (S_X12_in hn hg w) (fun v4_1 pv4_1 => ?_)
  have f2 : ((0 : Int32)).toInt = 0 := rfl
  have f3 : ((31 : Int32)).toInt = 31 := rfl
  have pv4_1_9 := pv4_1
  try dsimp only at pv4_1_9
  refine jok_eq (fun c4 d4 => ?_) (fun c4 => ?_)
  · have f5 : ((1 : Int32)).toInt = 1 := rfl
    exact jok_s (show ((1 : Int32).toInt = 0 ∧ 0 ≤ x0.toInt ∧ x0.toInt ≤ 31) ∨ (1 : Int32).toInt = 1 from by omega)
  · exact jok_s (show ((0 : Int32).toInt = 0 ∧ 0 ≤ x0.toInt ∧ x0.toInt ≤ 31) ∨ (0 : Int32).toInt = 1 from by omega)
set_option maxHeartbeats 1000000 in
theorem S_X12_noSteps {g : jGh} {Γ : Nat → Option Nat} {n : Nat} {x0 : Int32} {h : jH} (hn : 6000 ≤ n) (hg : jgok g) (w : jW (jKd g) Γ h)  : jok (F_X12_noSteps n x0 h) (fun v => (v.toInt = 0 ∧ 1 ≤ x0.toInt ∧ x0.toInt ≤ 31) ∨ v.toInt = 1) := by
  unfold F_X12_noSteps
  refine jok_b (S_X12_in hn hg w) (fun v4_1 pv4_1 => ?_)
  have f2 : ((1 : Int32)).toInt = 1 := rfl
  have f3 : ((31 : Int32)).toInt = 31 := rfl
  have pv4_1_9 := pv4_1
  try dsimp only at pv4_1_9
  have f4 : ((0 : Int32)).toInt = 0 := rfl
  refine jok_eq (fun c5 d5 => ?_) (fun c5 => ?_)
  · exact jok_s (show ((1 : Int32).toInt = 0 ∧ 1 ≤ x0.toInt ∧ x0.toInt ≤ 31) ∨ (1 : Int32).toInt = 1 from by omega)
  · exact jok_s (show ((0 : Int32).toInt = 0 ∧ 1 ≤ x0.toInt ∧ x0.toInt ≤ 31) ∨ (0 : Int32).toInt = 1 from by omega)
set_option maxHeartbeats 1000000 in
theorem S_X12_noAhead {g : jGh} {Γ : Nat → Option Nat} {n : Nat} {x0 : Int32} {h : jH} (hn : 6000 ≤ n) (hg : jgok g) (w : jW (jKd g) Γ h)  : jok (F_X12_noAhead n x0 h) (fun v => (v.toInt = 0 ∧ 0 ≤ x0.toInt ∧ x0.toInt ≤ 80) ∨ v.toInt = 1) := by
  unfold F_X12_noAhead
  refine jok_b (S_X12_in hn hg w) (fun v4_1 pv4_1 => ?_)
  have f2 : ((0 : Int32)).toInt = 0 := rfl
  have f3 : ((80 : Int32)).toInt = 80 := rfl
  have pv4_1_9 := pv4_1
  try dsimp only at pv4_1_9
  refine jok_eq (fun c4 d4 => ?_) (fun c4 => ?_)
  · have f5 : ((1 : Int32)).toInt = 1 := rfl
    exact jok_s (show ((1 : Int32).toInt = 0 ∧ 0 ≤ x0.toInt ∧ x0.toInt ≤ 80) ∨ (1 : Int32).toInt = 1 from by omega)
  · exact jok_s (show ((0 : Int32).toInt = 0 ∧ 0 ≤ x0.toInt ∧ x0.toInt ≤ 80) ∨ (0 : Int32).toInt = 1 from by omega)
set_option maxHeartbeats 1000000 in
theorem S_X12_throwsIf {g : jGh} {Γ : Nat → Option Nat} {n : Nat} {a0 : Nat} {x1 : Int32} {x2 : Int32} {h : jH} (hn : 6000 ≤ n) (hg : jgok g) (w : jW (jKd g) Γ h) (ta0 : Γ a0 = some 20) (lx1 : 0 ≤ x1.toInt) (ux1 : x1.toInt ≤ 1) : jok (F_X12_throwsIf n a0 x1 x2 h) (fun q => jW (jKd g) Γ q.2 ∧ (fun v : Int32 => v.toInt = x1.toInt) q.1) := by
  unfold F_X12_throwsIf
  have f1 : ((0 : Int32)).toInt = 0 := rfl
  refine jok_eq (fun c2 d2 => ?_) (fun c2 => ?_)
  · rw [if_pos (show x1 = 0 ∨ x1 = 1 from j01 (by omega) (by omega))]
    exact jok_s ⟨w, (show x1.toInt = x1.toInt from by omega)⟩
  · refine jok_b (t_pI w ta0 rfl rfl trivial) (fun h6_3 wh6_3 => ?_)
    obtain ⟨wh6_3, jh6_3, rh6_3⟩ := wh6_3
    rw [if_pos (show x1 = 0 ∨ x1 = 1 from j01 (by omega) (by omega))]
    exact jok_s ⟨wh6_3, (show x1.toInt = x1.toInt from by omega)⟩
set_option maxHeartbeats 1000000 in
theorem S_X12_has {g : jGh} {Γ : Nat → Option Nat} {n : Nat} {x0 : Int32} {x1 : Int32} {h : jH} (hn : 6000 ≤ n) (hg : jgok g) (w : jW (jKd g) Γ h)  : jok (F_X12_has n x0 x1 h) (fun v => 0 ≤ v.toInt ∧ v.toInt ≤ 1) := by
  unfold F_X12_has
  have f1 := jandR (x := (x0 >>> (x1 &&& (31 : Int32)))) (y := (1 : Int32)) (c := 1) rfl (by decide)
  have f2 : ((1 : Int32)).toInt = 1 := rfl
  refine jok_eq (fun c3 d3 => ?_) (fun c3 => ?_)
  · exact jok_s (show jI 0 1 (1 : Int32) from ⟨by omega, by omega⟩)
  · have f4 : ((0 : Int32)).toInt = 0 := rfl
    exact jok_s (show jI 0 1 (0 : Int32) from ⟨by omega, by omega⟩)
set_option maxHeartbeats 1000000 in
theorem S_X12_isLit {g : jGh} {Γ : Nat → Option Nat} {n : Nat} {a0 : Nat} {x1 : Int32} {x2 : Int32} {h : jH} (hn : 6000 ≤ n) (hg : jgok g) (w : jW (jKd g) Γ h) (ta0 : Γ a0 = some 20) (lx1 : 0 ≤ x1.toInt) (ux1 : x1.toInt ≤ 7) : jok (F_X12_isLit n a0 x1 x2 h) (fun v => 0 ≤ v.toInt ∧ v.toInt ≤ 1) := by
  unfold F_X12_isLit
  try rw [t_cv w ta0 rfl]
  have f2 : ((0 : Int32)).toInt = 0 := rfl
  refine jok_b (S_X12_of hn hg w ta0 (by omega) (by omega) (by omega) (by omega)) (fun v3_1 pv3_1 => ?_)
  have pv3_1_9 := pv3_1
  try dsimp only at pv3_1_9
  refine jok_b (t_gR w ta0 rfl rfl) (fun p13_3 tp13_3 => ?_)
  have f5 : ((6 : Int32)).toInt = 6 := rfl
  refine jok_b (t_al w tp13_3 rfl (by omega) (by omega)) (fun v18_4 pv18_4 => ?_)
  refine jok_b (S_X12_in hn hg w) (fun v20_6 pv20_6 => ?_)
  have f7 : ((4 : Int32)).toInt = 4 := rfl
  have pv20_6_9 := pv20_6
  try dsimp only at pv20_6_9
  rw [if_pos (show v20_6 = 0 ∨ v20_6 = 1 from j01 (by omega) (by omega))]
  exact jok_s (show jI 0 1 v20_6 from ⟨by omega, by omega⟩)
set_option maxHeartbeats 1000000 in
theorem S_X12_takesAlong {g : jGh} {Γ : Nat → Option Nat} {n : Nat} {a0 : Nat} {x1 : Int32} {x2 : Int32} {x3 : Int32} {h : jH} (hn : 6000 ≤ n) (hg : jgok g) (w : jW (jKd g) Γ h) (ta0 : Γ a0 = some 20) (lx1 : 0 ≤ x1.toInt) (ux1 : x1.toInt ≤ 7) (lx2 : 0 ≤ x2.toInt) (ux2 : x2.toInt ≤ 7) : jok (F_X12_takesAlong n a0 x1 x2 x3 h) (fun v => 0 ≤ v.toInt ∧ v.toInt ≤ 1) := by
  unfold F_X12_takesAlong
  try rw [t_cv w ta0 rfl]
  have f2 : 0 ≤ ((if x2 < x1 then x2 else x1)).toInt ∧ ((if x2 < x1 then x2 else x1)).toInt ≤ 7 := jif_lt (fun _ => (by omega)) (fun _ => (by omega))
  have f3 : ((7 : Int32)).toInt = 7 := rfl
  refine jok_b (S_X12_is hn hg w ta0 (by omega) (by omega) (by omega) (by omega)) (fun v12_1 pv12_1 => ?_)
  obtain ⟨lv12_1, uv12_1⟩ := pv12_1
  have f4 : ((0 : Int32)).toInt = 0 := rfl
  refine jok_eq (fun c5 d5 => ?_) (fun c5 => ?_)
  · refine jok_le (fun c6 => ?_) (fun c6 => ?_)
    · unfold F_X12_takesAlong_30
      refine jok_eq (fun c7 d7 => ?_) (fun c7 => ?_)
      · try rw [t_cv w ta0 rfl]
        refine jok_b (S_X12_gapOf hn hg w ta0 (by omega) (by omega)) (fun v37_8 pv37_8 => ?_)
        have f9 : ((1 : Int32)).toInt = 1 := rfl
        refine jok_eq (fun c10 d10 => ?_) (fun c10 => ?_)
        · exact jok_s (show jI 0 1 (1 : Int32) from ⟨by omega, by omega⟩)
        · exact jok_s (show jI 0 1 (0 : Int32) from ⟨by omega, by omega⟩)
      · try rw [t_cv w ta0 rfl]
        refine jok_b (S_X12_gapOf hn hg w ta0 (by omega) (by omega)) (fun v55_11 pv55_11 => ?_)
        try rw [t_cv w ta0 rfl]
        have f13 : ((1 : Int32)).toInt = 1 := rfl
        refine jok_b (S_X12_of hn hg w ta0 (by omega) (by omega) (by omega) (by omega)) (fun v62_12 pv62_12 => ?_)
        have pv62_12_9 := pv62_12
        try dsimp only at pv62_12_9
        refine jok_lt (fun c14 => ?_) (fun c14 => ?_)
        · exact jok_s (show jI 0 1 (0 : Int32) from ⟨by omega, by omega⟩)
        · exact jok_s (show jI 0 1 (1 : Int32) from ⟨by omega, by omega⟩)
    · unfold F_X12_takesAlong_30
      have f15 : ((1 : Int32)).toInt = 1 := rfl
      refine jok_eq (fun c16 d16 => ?_) (fun c16 => ?_)
      · try rw [t_cv w ta0 rfl]
        refine jok_b (S_X12_gapOf hn hg w ta0 (by omega) (by omega)) (fun v37_17 pv37_17 => ?_)
        refine jok_eq (fun c18 d18 => ?_) (fun c18 => ?_)
        · exact jok_s (show jI 0 1 (1 : Int32) from ⟨by omega, by omega⟩)
        · exact jok_s (show jI 0 1 (0 : Int32) from ⟨by omega, by omega⟩)
      · try rw [t_cv w ta0 rfl]
        refine jok_b (S_X12_gapOf hn hg w ta0 (by omega) (by omega)) (fun v55_19 pv55_19 => ?_)
        try rw [t_cv w ta0 rfl]
        refine jok_b (S_X12_of hn hg w ta0 (by omega) (by omega) (by omega) (by omega)) (fun v62_20 pv62_20 => ?_)
        have pv62_20_9 := pv62_20
        try dsimp only at pv62_20_9
        refine jok_lt (fun c21 => ?_) (fun c21 => ?_)
        · exact jok_s (show jI 0 1 (0 : Int32) from ⟨by omega, by omega⟩)
        · exact jok_s (show jI 0 1 (1 : Int32) from ⟨by omega, by omega⟩)
  · have f22 : ((1 : Int32)).toInt = 1 := rfl
    exact jok_s (show jI 0 1 (1 : Int32) from ⟨by omega, by omega⟩)
set_option maxHeartbeats 1000000 in
theorem S_X12_allWith_17 {g : jGh} {Γ : Nat → Option Nat} {n : Nat} (hn : 6000 ≤ n) (hg : jgok g) {k7 : Nat} {rc7 : Nat → Int32 → Int32 → Int32 → jH → Option Int32} (k : Nat) : ∀ {a0 : Nat} {x2 : Int32} {x3 : Int32} {x4 : Int32} {x5 : Int32} {h : jH}, jW (jKd g) Γ h → (Γ a0 = some 20) → (0 ≤ x4.toInt) → (x4.toInt ≤ 7) → (0 ≤ x5.toInt) → (x5.toInt ≤ 8) → (8 : Int) - x5.toInt < (k : Int) → (∀ {a0 : Nat} {x2 : Int32} {x3 : Int32} {x4 : Int32} {h : jH}, jW (jKd g) Γ h → (Γ a0 = some 20) → (0 ≤ x4.toInt) → (x4.toInt ≤ 8) → (8 : Int) - x4.toInt < (k7 : Int) → jok (rc7 a0 x2 x3 x4 h) (fun v => True)) → ((8 : Int) - x4.toInt ≤ (k7 : Int)) → jok (F_X12_allWith_17 n rc7 k a0 x2 x3 x4 x5 h) (fun v => True) := by
  induction k with
  | zero =>
    intro a0 x2 x3 x4 x5 h w ta0 lx4 ux4 lx5 ux5 mk hrc7 m7
    omega
  | succ k ih =>
    intro a0 x2 x3 x4 x5 h w ta0 lx4 ux4 lx5 ux5 mk hrc7 m7
    show jok (F_X12_allWith_17_b n rc7 (F_X12_allWith_17 n rc7 k) a0 x2 x3 x4 x5 h) _
    unfold F_X12_allWith_17_b
    try rw [t_cv w ta0 rfl]
    refine jok_b2 (S_X12_rings hn hg w ta0) (fun v20_1 ev20_1 pv20_1 => ?_)
    obtain ⟨lv20_1, uv20_1⟩ := pv20_1
    refine jok_le (fun c2 => ?_) (fun c2 => ?_)
    · have f3 : ((1 : Int32)).toInt = 1 := rfl
      have f4 : ((x4 + (1 : Int32))).toInt = (x4).toInt + ((1 : Int32)).toInt := jadd (by omega) (by omega)
      exact hrc7 w ta0 (by omega) (by omega) (by omega)
    · refine jok_b (S_X12_has hn hg w) (fun v29_5 pv29_5 => ?_)
      obtain ⟨lv29_5, uv29_5⟩ := pv29_5
      have f6 : ((0 : Int32)).toInt = 0 := rfl
      refine jok_eq (fun c7 d7 => ?_) (fun c7 => ?_)
      · have f8 : ((1 : Int32)).toInt = 1 := rfl
        have f9 : ((x5 + (1 : Int32))).toInt = (x5).toInt + ((1 : Int32)).toInt := jadd (by omega) (by omega)
        exact ih w ta0 (by omega) (by omega) (by omega) (by omega) (by omega) hrc7 (by omega)
      · try rw [t_cv w ta0 rfl]
        refine jok_r (last_of w ta0 ev20_1) ?_
        have f11 : ((1 : Int32)).toInt = 1 := rfl
        have f12 : ((v20_1 - (1 : Int32))).toInt = (v20_1).toInt - ((1 : Int32)).toInt := jsub (by omega) (by omega)
        refine jok_le (fun c13 => ?_) (fun c13 => ?_)
        · unfold F_X12_allWith_72
          refine jok_le (fun c14 => ?_) (fun c14 => ?_)
          · have f15 : ((x5 + (1 : Int32))).toInt = (x5).toInt + ((1 : Int32)).toInt := jadd (by omega) (by omega)
            exact ih w ta0 (by omega) (by omega) (by omega) (by omega) (by omega) hrc7 (by omega)
          · try rw [t_cv w ta0 rfl]
            have f17 : ((x5 - (1 : Int32))).toInt = (x5).toInt - ((1 : Int32)).toInt := jsub (by omega) (by omega)
            refine jok_b (S_X12_takesAlong hn hg w ta0 (by omega) (by omega) (by omega) (by omega)) (fun v88_16 pv88_16 => ?_)
            obtain ⟨lv88_16, uv88_16⟩ := pv88_16
            refine jok_eq (fun c18 d18 => ?_) (fun c18 => ?_)
            · have f19 : ((x5 + (1 : Int32))).toInt = (x5).toInt + ((1 : Int32)).toInt := jadd (by omega) (by omega)
              exact ih w ta0 (by omega) (by omega) (by omega) (by omega) (by omega) hrc7 (by omega)
            · have f20 : ((x5 + (1 : Int32))).toInt = (x5).toInt + ((1 : Int32)).toInt := jadd (by omega) (by omega)
              exact ih w ta0 (by omega) (by omega) (by omega) (by omega) (by omega) hrc7 (by omega)
        · try rw [t_cv w ta0 rfl]
          have f22 : ((x5 + (1 : Int32))).toInt = (x5).toInt + ((1 : Int32)).toInt := jadd (by omega) (by omega)
          refine jok_b (S_X12_takesAlong hn hg w ta0 (by omega) (by omega) (by omega) (by omega)) (fun v56_21 pv56_21 => ?_)
          obtain ⟨lv56_21, uv56_21⟩ := pv56_21
          refine jok_eq (fun c23 d23 => ?_) (fun c23 => ?_)
          · unfold F_X12_allWith_72
            refine jok_le (fun c24 => ?_) (fun c24 => ?_)
            · exact ih w ta0 (by omega) (by omega) (by omega) (by omega) (by omega) hrc7 (by omega)
            · try rw [t_cv w ta0 rfl]
              have f26 : ((x5 - (1 : Int32))).toInt = (x5).toInt - ((1 : Int32)).toInt := jsub (by omega) (by omega)
              refine jok_b (S_X12_takesAlong hn hg w ta0 (by omega) (by omega) (by omega) (by omega)) (fun v88_25 pv88_25 => ?_)
              obtain ⟨lv88_25, uv88_25⟩ := pv88_25
              refine jok_eq (fun c27 d27 => ?_) (fun c27 => ?_)
              · exact ih w ta0 (by omega) (by omega) (by omega) (by omega) (by omega) hrc7 (by omega)
              · exact ih w ta0 (by omega) (by omega) (by omega) (by omega) (by omega) hrc7 (by omega)
          · unfold F_X12_allWith_72
            refine jok_le (fun c28 => ?_) (fun c28 => ?_)
            · exact ih w ta0 (by omega) (by omega) (by omega) (by omega) (by omega) hrc7 (by omega)
            · try rw [t_cv w ta0 rfl]
              have f30 : ((x5 - (1 : Int32))).toInt = (x5).toInt - ((1 : Int32)).toInt := jsub (by omega) (by omega)
              refine jok_b (S_X12_takesAlong hn hg w ta0 (by omega) (by omega) (by omega) (by omega)) (fun v88_29 pv88_29 => ?_)
              obtain ⟨lv88_29, uv88_29⟩ := pv88_29
              refine jok_eq (fun c31 d31 => ?_) (fun c31 => ?_)
              · exact ih w ta0 (by omega) (by omega) (by omega) (by omega) (by omega) hrc7 (by omega)
              · exact ih w ta0 (by omega) (by omega) (by omega) (by omega) (by omega) hrc7 (by omega)
set_option maxHeartbeats 1000000 in
theorem S_X12_allWith_7 {g : jGh} {Γ : Nat → Option Nat} {n : Nat} (hn : 6000 ≤ n) (hg : jgok g)  (k : Nat) : ∀ {a0 : Nat} {x2 : Int32} {x3 : Int32} {x4 : Int32} {h : jH}, jW (jKd g) Γ h → (Γ a0 = some 20) → (0 ≤ x4.toInt) → (x4.toInt ≤ 8) → (8 : Int) - x4.toInt < (k : Int) → jok (F_X12_allWith_7 n k a0 x2 x3 x4 h) (fun v => True) := by
  induction k with
  | zero =>
    intro a0 x2 x3 x4 h w ta0 lx4 ux4 mk
    omega
  | succ k ih =>
    intro a0 x2 x3 x4 h w ta0 lx4 ux4 mk
    show jok (F_X12_allWith_7_b n (F_X12_allWith_7 n k) a0 x2 x3 x4 h) _
    unfold F_X12_allWith_7_b
    have f1 : ((8 : Int32)).toInt = 8 := rfl
    refine jok_le (fun c2 => ?_) (fun c2 => ?_)
    · exact jok_s trivial
    · have f3 : ((0 : Int32)).toInt = 0 := rfl
      exact S_X12_allWith_17 hn hg  n w ta0 (by omega) (by omega) (by omega) (by omega) (by omega) ih (by omega)
set_option maxHeartbeats 1000000 in
theorem S_X12_allWith {g : jGh} {Γ : Nat → Option Nat} {n : Nat} {a0 : Nat} {x1 : Int32} {x2 : Int32} {h : jH} (hn : 6000 ≤ n) (hg : jgok g) (w : jW (jKd g) Γ h) (ta0 : Γ a0 = some 20) (lx1 : -128 ≤ x1.toInt) (ux1 : x1.toInt ≤ 127) : jok (F_X12_allWith n a0 x1 x2 h) (fun v => True) := by
  unfold F_X12_allWith
  have f1 : ((0 : Int32)).toInt = 0 := rfl
  exact S_X12_allWith_7 hn hg  n w ta0 (by omega) (by omega) (by omega)
set_option maxHeartbeats 1000000 in
theorem S_X12_drawn {g : jGh} {Γ : Nat → Option Nat} {n : Nat} {a0 : Nat} {x1 : Int32} {h : jH} (hn : 6000 ≤ n) (hg : jgok g) (w : jW (jKd g) Γ h) (ta0 : Γ a0 = some 20) (lx1 : 100 ≤ x1.toInt) (ux1 : x1.toInt ≤ 100) : jok (F_X12_drawn n a0 x1 h) (fun q => jW (jKd g) Γ q.2 ∧ (fun v : Int32 => True) q.1) := by
  unfold F_X12_drawn
  refine jok_b (t_gR w ta0 rfl rfl) (fun p1_1 tp1_1 => ?_)
  refine jok_b (t_gR w ta0 rfl rfl) (fun p9_2 tp9_2 => ?_)
  have f4 : ((10 : Int32)).toInt = 10 := rfl
  refine jok_b (t_al w tp9_2 rfl (by omega) (by omega)) (fun v14_3 pv14_3 => ?_)
  have f6 : ((1103515245 : Int32)).toInt = 1103515245 := rfl
  have f7 : ((12345 : Int32)).toInt = 12345 := rfl
  refine jok_b (t_as w tp1_1 rfl (by omega) (by omega) (show jRw g ((10 : Int32)).toInt.toNat (((1103515245 : Int32) * v14_3) + (12345 : Int32)) from ⟨⟨by omega, by omega, by omega⟩, Or.inl (by omega)⟩) (fun q => by cases q)) (fun h20_5 wh20_5 => ?_)
  obtain ⟨wh20_5, rh20_5⟩ := wh20_5
  refine jok_b (t_gR wh20_5 ta0 rfl rfl) (fun p22_8 tp22_8 => ?_)
  refine jok_b (t_al wh20_5 tp22_8 rfl (by omega) (by omega)) (fun v27_9 pv27_9 => ?_)
  have f11 : ((0 : Int32)).toInt = 0 := rfl
  rw [if_neg (show ¬ (x1 = 0) from jne (by omega))]
  exact jok_s ⟨wh20_5, trivial⟩
set_option maxHeartbeats 1000000 in
theorem S_X12_tells_5 {g : jGh} {Γ : Nat → Option Nat} {n : Nat} (hn : 6000 ≤ n) (hg : jgok g)  (k : Nat) : ∀ {a0 : Nat} {x1 : Int32} {x2 : Int32} {x3 : Int32} {x4 : Int32} {h : jH}, jW (jKd g) Γ h → (Γ a0 = some 20) → (0 ≤ x1.toInt) → (x1.toInt ≤ 7) → (5 ≤ x4.toInt) → (x4.toInt ≤ 359) → x4.toInt - (5 : Int) < (k : Int) → jok (F_X12_tells_5 n k a0 x1 x2 x3 x4 h) (fun q => jW (jKd g) Γ q) := by
  induction k with
  | zero =>
    intro a0 x1 x2 x3 x4 h w ta0 lx1 ux1 lx4 ux4 mk
    omega
  | succ k ih =>
    intro a0 x1 x2 x3 x4 h w ta0 lx1 ux1 lx4 ux4 mk
    show jok (F_X12_tells_5_b n (F_X12_tells_5 n k) a0 x1 x2 x3 x4 h) _
    unfold F_X12_tells_5_b
    have f1 : ((6 : Int32)).toInt = 6 := rfl
    refine jok_lt (fun c2 => ?_) (fun c2 => ?_)
    · refine jok_b (t_gR w ta0 rfl rfl) (fun p42_3 tp42_3 => ?_)
      refine jok_b (t_gR w ta0 rfl rfl) (fun p48_4 tp48_4 => ?_)
      have f6 : ((4 : Int32)).toInt = 4 := rfl
      refine jok_b (t_al w tp48_4 rfl (by omega) (by omega)) (fun v52_5 pv52_5 => ?_)
      have f8 : ((75 : Int32)).toInt = 75 := rfl
      refine jok_b (t_as w tp42_3 rfl (by omega) (by omega) (show jRw g ((75 : Int32)).toInt.toNat v52_5 from ⟨⟨by omega, by omega, by omega⟩, Or.inl (by omega)⟩) (fun q => by cases q)) (fun h53_7 wh53_7 => ?_)
      obtain ⟨wh53_7, rh53_7⟩ := wh53_7
      refine jok_b (t_gR wh53_7 ta0 rfl rfl) (fun p55_9 tp55_9 => ?_)
      refine jok_b (t_gR wh53_7 ta0 rfl rfl) (fun p61_10 tp61_10 => ?_)
      have f12 : ((3 : Int32)).toInt = 3 := rfl
      refine jok_b (t_al wh53_7 tp61_10 rfl (by omega) (by omega)) (fun v65_11 pv65_11 => ?_)
      have f14 : ((76 : Int32)).toInt = 76 := rfl
      refine jok_b (t_as wh53_7 tp55_9 rfl (by omega) (by omega) (show jRw g ((76 : Int32)).toInt.toNat v65_11 from ⟨⟨by omega, by omega, by omega⟩, Or.inl (by omega)⟩) (fun q => by cases q)) (fun h66_13 wh66_13 => ?_)
      obtain ⟨wh66_13, rh66_13⟩ := wh66_13
      refine jok_b (t_gR wh66_13 ta0 rfl rfl) (fun p68_15 tp68_15 => ?_)
      have f17 : ((77 : Int32)).toInt = 77 := rfl
      refine jok_b (t_as wh66_13 tp68_15 rfl (by omega) (by omega) (show jRw g ((77 : Int32)).toInt.toNat x1 from ⟨⟨by omega, by omega, by omega⟩, Or.inl (by omega)⟩) (fun q => by cases q)) (fun h74_16 wh74_16 => ?_)
      obtain ⟨wh74_16, rh74_16⟩ := wh74_16
      refine jok_b (t_gR wh74_16 ta0 rfl rfl) (fun p76_18 tp76_18 => ?_)
      have f20 : ((78 : Int32)).toInt = 78 := rfl
      refine jok_b (t_as wh74_16 tp76_18 rfl (by omega) (by omega) (show jRw g ((78 : Int32)).toInt.toNat x2 from ⟨⟨by omega, by omega, by omega⟩, Or.inl (by omega)⟩) (fun q => by cases q)) (fun h82_19 wh82_19 => ?_)
      obtain ⟨wh82_19, rh82_19⟩ := wh82_19
      refine jok_b (t_gR wh82_19 ta0 rfl rfl) (fun p84_21 tp84_21 => ?_)
      have f23 : ((79 : Int32)).toInt = 79 := rfl
      refine jok_b (t_as wh82_19 tp84_21 rfl (by omega) (by omega) (show jRw g ((79 : Int32)).toInt.toNat x3 from ⟨⟨by omega, by omega, by omega⟩, Or.inl (by omega)⟩) (fun q => by cases q)) (fun h90_22 wh90_22 => ?_)
      obtain ⟨wh90_22, rh90_22⟩ := wh90_22
      refine jok_b (t_gR wh90_22 ta0 rfl rfl) (fun p92_24 tp92_24 => ?_)
      try rw [t_cv wh90_22 ta0 rfl]
      have f26 : ((0 : Int32)).toInt = 0 := rfl
      refine jok_b (S_X12_of hn hg wh90_22 ta0 (by omega) (by omega) (by omega) (by omega)) (fun v100_25 pv100_25 => ?_)
      have pv100_25_9 := pv100_25
      try dsimp only at pv100_25_9
      have f28 : ((80 : Int32)).toInt = 80 := rfl
      refine jok_b (t_as wh90_22 tp92_24 rfl (by omega) (by omega) (show jRw g ((80 : Int32)).toInt.toNat v100_25 from ⟨⟨by omega, by omega, by omega⟩, Or.inl (by omega)⟩) (fun q => by cases q)) (fun h103_27 wh103_27 => ?_)
      obtain ⟨wh103_27, rh103_27⟩ := wh103_27
      refine jok_b (t_gR wh103_27 ta0 rfl rfl) (fun p105_29 tp105_29 => ?_)
      refine jok_b (t_gR wh103_27 ta0 rfl rfl) (fun p113_30 tp113_30 => ?_)
      have f32 : ((9 : Int32)).toInt = 9 := rfl
      refine jok_b (t_al wh103_27 tp113_30 rfl (by omega) (by omega)) (fun v118_31 pv118_31 => ?_)
      have bv118_31 : 0 ≤ (v118_31).toInt ∧ (v118_31).toInt ≤ 60 := by rcases pv118_31.1.2.1 with z | z; exact absurd rfl z; exact z
      obtain ⟨lv118_31, uv118_31⟩ := bv118_31
      have f34 : ((1 : Int32)).toInt = 1 := rfl
      have f35 : ((v118_31 + (1 : Int32))).toInt = (v118_31).toInt + ((1 : Int32)).toInt := jadd (by omega) (by omega)
      have f36 : ((60 : Int32)).toInt = 60 := rfl
      have f37 : 1 ≤ ((if (v118_31 + (1 : Int32)) < (60 : Int32) then (v118_31 + (1 : Int32)) else (60 : Int32))).toInt ∧ ((if (v118_31 + (1 : Int32)) < (60 : Int32) then (v118_31 + (1 : Int32)) else (60 : Int32))).toInt ≤ 60 := jif_lt (fun _ => (by omega)) (fun _ => (by omega))
      refine jok_b (t_as wh103_27 tp105_29 rfl (by omega) (by omega) (show jRw g ((9 : Int32)).toInt.toNat (if (v118_31 + (1 : Int32)) < (60 : Int32) then (v118_31 + (1 : Int32)) else (60 : Int32)) from ⟨⟨by omega, by omega, by omega⟩, Or.inl (by omega)⟩) (fun q => by cases q)) (fun h124_33 wh124_33 => ?_)
      obtain ⟨wh124_33, rh124_33⟩ := wh124_33
      exact jok_s wh124_33
    · refine jok_b (t_gR w ta0 rfl rfl) (fun p13_38 tp13_38 => ?_)
      refine jok_b (t_gR w ta0 rfl rfl) (fun p22_39 tp22_39 => ?_)
      have f41 : ((75 : Int32)).toInt = 75 := rfl
      have f42 : (((75 : Int32) + x4)).toInt = ((75 : Int32)).toInt + (x4).toInt := jadd (by omega) (by omega)
      have f43 : ((((75 : Int32) + x4) - (6 : Int32))).toInt = (((75 : Int32) + x4)).toInt - ((6 : Int32)).toInt := jsub (by omega) (by omega)
      refine jok_b (t_al w tp22_39 rfl (by omega) (by omega)) (fun v33_40 pv33_40 => ?_)
      refine jok_b (t_as w tp13_38 rfl (by omega) (by omega) (show jRw g (((75 : Int32) + x4)).toInt.toNat v33_40 from ⟨⟨by omega, by omega, by omega⟩, Or.inl (by omega)⟩) (fun q => by cases q)) (fun h34_44 wh34_44 => ?_)
      obtain ⟨wh34_44, rh34_44⟩ := wh34_44
      obtain ⟨y45, hy45⟩ : ∃ y : Int32, y = (x4 + (-1 : Int32)) := ⟨_, rfl⟩
      have fy45 : (y45).toInt = (x4).toInt - 1 := by rw [hy45]; exact jaddN rfl (by omega) (by omega)
      try rw [← hy45]
      exact ih wh34_44 ta0 (by omega) (by omega) (by omega) (by omega) (by omega)
set_option maxHeartbeats 1000000 in
theorem S_X12_tells {g : jGh} {Γ : Nat → Option Nat} {n : Nat} {a0 : Nat} {x1 : Int32} {x2 : Int32} {x3 : Int32} {h : jH} (hn : 6000 ≤ n) (hg : jgok g) (w : jW (jKd g) Γ h) (ta0 : Γ a0 = some 20) (lx1 : 0 ≤ x1.toInt) (ux1 : x1.toInt ≤ 7) : jok (F_X12_tells n a0 x1 x2 x3 h) (fun q => jW (jKd g) Γ q) := by
  unfold F_X12_tells
  have f1 : ((359 : Int32)).toInt = 359 := rfl
  exact S_X12_tells_5 hn hg  n w ta0 (by omega) (by omega) (by omega) (by omega) (by omega)
set_option maxHeartbeats 1000000 in
theorem S_X12_fadesOfAll_4 {g : jGh} {Γ : Nat → Option Nat} {n : Nat} (hn : 6000 ≤ n) (hg : jgok g)  (k : Nat) : ∀ {a0 : Nat} {x1 : Int32} {x2 : Int32} {h : jH}, jW (jKd g) Γ h → (Γ a0 = some 20) → (0 ≤ x2.toInt) → (x2.toInt ≤ 8) → (8 : Int) - x2.toInt < (k : Int) → jok (F_X12_fadesOfAll_4 n k a0 x1 x2 h) (fun v => True) := by
  induction k with
  | zero =>
    intro a0 x1 x2 h w ta0 lx2 ux2 mk
    omega
  | succ k ih =>
    intro a0 x1 x2 h w ta0 lx2 ux2 mk
    show jok (F_X12_fadesOfAll_4_b n (F_X12_fadesOfAll_4 n k) a0 x1 x2 h) _
    unfold F_X12_fadesOfAll_4_b
    try rw [t_cv w ta0 rfl]
    refine jok_b2 (S_X12_rings hn hg w ta0) (fun v6_1 ev6_1 pv6_1 => ?_)
    obtain ⟨lv6_1, uv6_1⟩ := pv6_1
    refine jok_le (fun c2 => ?_) (fun c2 => ?_)
    · exact jok_s trivial
    · try rw [t_cv w ta0 rfl]
      have f4 : ((4 : Int32)).toInt = 4 := rfl
      refine jok_b (S_X12_of hn hg w ta0 (by omega) (by omega) (by omega) (by omega)) (fun v16_3 pv16_3 => ?_)
      have pv16_3_9 := pv16_3
      try dsimp only at pv16_3_9
      have f5 : ((1 : Int32)).toInt = 1 := rfl
      have f6 : ((x2 + (1 : Int32))).toInt = (x2).toInt + ((1 : Int32)).toInt := jadd (by omega) (by omega)
      exact ih w ta0 (by omega) (by omega) (by omega)
set_option maxHeartbeats 1000000 in
theorem S_X12_fadesOfAll {g : jGh} {Γ : Nat → Option Nat} {n : Nat} {a0 : Nat} {h : jH} (hn : 6000 ≤ n) (hg : jgok g) (w : jW (jKd g) Γ h) (ta0 : Γ a0 = some 20) : jok (F_X12_fadesOfAll n a0 h) (fun v => True) := by
  unfold F_X12_fadesOfAll
  have f1 : ((0 : Int32)).toInt = 0 := rfl
  exact S_X12_fadesOfAll_4 hn hg  n w ta0 (by omega) (by omega) (by omega)
set_option maxHeartbeats 1000000 in
theorem S_X12_shareOf {g : jGh} {Γ : Nat → Option Nat} {n : Nat} {a0 : Nat} {x1 : Int32} {h : jH} (hn : 6000 ≤ n) (hg : jgok g) (w : jW (jKd g) Γ h) (ta0 : Γ a0 = some 20) (lx1 : 0 ≤ x1.toInt) (ux1 : x1.toInt ≤ 7) : jok (F_X12_shareOf n a0 x1 h) (fun v => True) := by
  unfold F_X12_shareOf
  try rw [t_cv w ta0 rfl]
  refine jok_b (S_X12_fadesOfAll hn hg w ta0) (fun v1_1 pv1_1 => ?_)
  have f2 : ((0 : Int32)).toInt = 0 := rfl
  refine jok_eq (fun c3 d3 => ?_) (fun c3 => ?_)
  · exact jok_s trivial
  · try rw [t_cv w ta0 rfl]
    have f5 : ((4 : Int32)).toInt = 4 := rfl
    refine jok_b (S_X12_of hn hg w ta0 (by omega) (by omega) (by omega) (by omega)) (fun v18_4 pv18_4 => ?_)
    have pv18_4_9 := pv18_4
    try dsimp only at pv18_4_9
    rw [if_neg (show ¬ (v1_1 = 0) from jne (by omega))]
    exact jok_s trivial
set_option maxHeartbeats 1000000 in
theorem S_X12_hangsOn_21 {g : jGh} {Γ : Nat → Option Nat} {n : Nat} (hn : 6000 ≤ n) (hg : jgok g)  (k : Nat) : ∀ {a0 : Nat} {x1 : Int32} {x2 : Int32} {x3 : Int32} {x4 : Int32} {h : jH}, jW (jKd g) Γ h → (Γ a0 = some 20) → (0 ≤ x1.toInt) → (x1.toInt ≤ 7) → (0 ≤ x4.toInt) → (x4.toInt ≤ 8) → (8 : Int) - x4.toInt < (k : Int) → jok (F_X12_hangsOn_21 n k a0 x1 x2 x3 x4 h) (fun v => True) := by
  induction k with
  | zero =>
    intro a0 x1 x2 x3 x4 h w ta0 lx1 ux1 lx4 ux4 mk
    omega
  | succ k ih =>
    intro a0 x1 x2 x3 x4 h w ta0 lx1 ux1 lx4 ux4 mk
    show jok (F_X12_hangsOn_21_b n (F_X12_hangsOn_21 n k) a0 x1 x2 x3 x4 h) _
    unfold F_X12_hangsOn_21_b
    try rw [t_cv w ta0 rfl]
    refine jok_b2 (S_X12_rings hn hg w ta0) (fun v24_1 ev24_1 pv24_1 => ?_)
    obtain ⟨lv24_1, uv24_1⟩ := pv24_1
    refine jok_le (fun c2 => ?_) (fun c2 => ?_)
    · exact jok_s trivial
    · try rw [t_cv w ta0 rfl]
      have f4 : ((6 : Int32)).toInt = 6 := rfl
      refine jok_b (S_X12_is hn hg w ta0 (by omega) (by omega) (by omega) (by omega)) (fun v35_3 pv35_3 => ?_)
      obtain ⟨lv35_3, uv35_3⟩ := pv35_3
      have f5 : ((0 : Int32)).toInt = 0 := rfl
      refine jok_eq (fun c6 d6 => ?_) (fun c6 => ?_)
      · have f7 : ((1000000 : Int32)).toInt = 1000000 := rfl
        refine jok_le (fun c8 => ?_) (fun c8 => ?_)
        · unfold F_X12_hangsOn_78
          have f9 : ((1 : Int32)).toInt = 1 := rfl
          have f10 : ((x4 + (1 : Int32))).toInt = (x4).toInt + ((1 : Int32)).toInt := jadd (by omega) (by omega)
          exact ih w ta0 (by omega) (by omega) (by omega) (by omega) (by omega)
        · unfold F_X12_hangsOn_78
          have f11 : ((1 : Int32)).toInt = 1 := rfl
          have f12 : ((x4 + (1 : Int32))).toInt = (x4).toInt + ((1 : Int32)).toInt := jadd (by omega) (by omega)
          exact ih w ta0 (by omega) (by omega) (by omega) (by omega) (by omega)
      · try rw [t_cv w ta0 rfl]
        refine jok_b (S_X12_of hn hg w ta0 (by omega) (by omega) (by omega) (by omega)) (fun v45_13 pv45_13 => ?_)
        have pv45_13_9 := pv45_13
        try dsimp only at pv45_13_9
        try rw [t_cv w ta0 rfl]
        refine jok_b (S_X12_of hn hg w ta0 (by omega) (by omega) (by omega) (by omega)) (fun v51_14 pv51_14 => ?_)
        have pv51_14_9 := pv51_14
        try dsimp only at pv51_14_9
        have f15 : ((v45_13 - v51_14)).toInt = (v45_13).toInt - (v51_14).toInt := jsub (by omega) (by omega)
        have f17 : 0 ≤ ((if (0 : Int32) ≤ (v45_13 - v51_14) then (v45_13 - v51_14) else ((0 : Int32) - (v45_13 - v51_14)))).toInt ∧ ((if (0 : Int32) ≤ (v45_13 - v51_14) then (v45_13 - v51_14) else ((0 : Int32) - (v45_13 - v51_14)))).toInt ≤ 31 := jif_le (fun _ => (by omega)) (fun _ => (by have f16 : (((0 : Int32) - (v45_13 - v51_14))).toInt = ((0 : Int32)).toInt - ((v45_13 - v51_14)).toInt := jsub (by omega) (by omega); omega))
        refine jok_le (fun c18 => ?_) (fun c18 => ?_)
        · unfold F_X12_hangsOn_78
          have f19 : ((1 : Int32)).toInt = 1 := rfl
          have f20 : ((x4 + (1 : Int32))).toInt = (x4).toInt + ((1 : Int32)).toInt := jadd (by omega) (by omega)
          exact ih w ta0 (by omega) (by omega) (by omega) (by omega) (by omega)
        · unfold F_X12_hangsOn_78
          have f21 : ((1 : Int32)).toInt = 1 := rfl
          have f22 : ((x4 + (1 : Int32))).toInt = (x4).toInt + ((1 : Int32)).toInt := jadd (by omega) (by omega)
          exact ih w ta0 (by omega) (by omega) (by omega) (by omega) (by omega)
set_option maxHeartbeats 1000000 in
theorem S_X12_hangsOn {g : jGh} {Γ : Nat → Option Nat} {n : Nat} {a0 : Nat} {x1 : Int32} {h : jH} (hn : 6000 ≤ n) (hg : jgok g) (w : jW (jKd g) Γ h) (ta0 : Γ a0 = some 20) (lx1 : 0 ≤ x1.toInt) (ux1 : x1.toInt ≤ 7) : jok (F_X12_hangsOn n a0 x1 h) (fun v => True) := by
  unfold F_X12_hangsOn
  try rw [t_cv w ta0 rfl]
  have f2 : ((6 : Int32)).toInt = 6 := rfl
  refine jok_b (S_X12_is hn hg w ta0 (by omega) (by omega) (by omega) (by omega)) (fun v4_1 pv4_1 => ?_)
  obtain ⟨lv4_1, uv4_1⟩ := pv4_1
  have f3 : ((0 : Int32)).toInt = 0 := rfl
  refine jok_eq (fun c4 d4 => ?_) (fun c4 => ?_)
  · exact S_X12_hangsOn_21 hn hg  n w ta0 (by omega) (by omega) (by omega) (by omega) (by omega)
  · exact jok_s trivial
set_option maxHeartbeats 1000000 in
theorem S_X12_keepsAll_2 {g : jGh} {Γ : Nat → Option Nat} {n : Nat} (hn : 6000 ≤ n) (hg : jgok g)  (k : Nat) : ∀ {a0 : Nat} {x1 : Int32} {h : jH}, jW (jKd g) Γ h → (Γ a0 = some 20) → (0 ≤ x1.toInt) → (x1.toInt ≤ 435) → (435 : Int) - x1.toInt < (k : Int) → jok (F_X12_keepsAll_2 n k a0 x1 h) (fun q => jW (jKd g) Γ q) := by
  induction k with
  | zero =>
    intro a0 x1 h w ta0 lx1 ux1 mk
    omega
  | succ k ih =>
    intro a0 x1 h w ta0 lx1 ux1 mk
    show jok (F_X12_keepsAll_2_b n (F_X12_keepsAll_2 n k) a0 x1 h) _
    unfold F_X12_keepsAll_2_b
    have f1 : ((435 : Int32)).toInt = 435 := rfl
    refine jok_le (fun c2 => ?_) (fun c2 => ?_)
    · exact jok_s w
    · refine jok_b (t_gR w ta0 rfl rfl) (fun p10_3 tp10_3 => ?_)
      refine jok_b (t_gR w ta0 rfl rfl) (fun p15_4 tp15_4 => ?_)
      refine jok_b (t_al w tp15_4 rfl (by omega) (by omega)) (fun v19_5 pv19_5 => ?_)
      refine jok_b (t_as w tp10_3 rfl (by omega) (by omega) pv19_5.1 (fun q => by cases q)) (fun h20_6 wh20_6 => ?_)
      obtain ⟨wh20_6, rh20_6⟩ := wh20_6
      have f7 : ((1 : Int32)).toInt = 1 := rfl
      have f8 : ((x1 + (1 : Int32))).toInt = (x1).toInt + ((1 : Int32)).toInt := jadd (by omega) (by omega)
      exact ih wh20_6 ta0 (by omega) (by omega) (by omega)
set_option maxHeartbeats 1000000 in
theorem S_X12_keepsAll {g : jGh} {Γ : Nat → Option Nat} {n : Nat} {a0 : Nat} {h : jH} (hn : 6000 ≤ n) (hg : jgok g) (w : jW (jKd g) Γ h) (ta0 : Γ a0 = some 20) : jok (F_X12_keepsAll n a0 h) (fun q => jW (jKd g) Γ q) := by
  unfold F_X12_keepsAll
  have f1 : ((0 : Int32)).toInt = 0 := rfl
  exact S_X12_keepsAll_2 hn hg  n w ta0 (by omega) (by omega) (by omega)
set_option maxHeartbeats 1000000 in
theorem S_X12_bringsBack_2 {g : jGh} {Γ : Nat → Option Nat} {n : Nat} (hn : 6000 ≤ n) (hg : jgok g)  (k : Nat) : ∀ {a0 : Nat} {x1 : Int32} {h : jH}, jW (jKd g) Γ h → (Γ a0 = some 20) → (0 ≤ x1.toInt) → (x1.toInt ≤ 435) → (435 : Int) - x1.toInt < (k : Int) → jok (F_X12_bringsBack_2 n k a0 x1 h) (fun q => jW (jKd g) Γ q) := by
  induction k with
  | zero =>
    intro a0 x1 h w ta0 lx1 ux1 mk
    omega
  | succ k ih =>
    intro a0 x1 h w ta0 lx1 ux1 mk
    show jok (F_X12_bringsBack_2_b n (F_X12_bringsBack_2 n k) a0 x1 h) _
    unfold F_X12_bringsBack_2_b
    have f1 : ((435 : Int32)).toInt = 435 := rfl
    refine jok_le (fun c2 => ?_) (fun c2 => ?_)
    · exact jok_s w
    · refine jok_b (t_gR w ta0 rfl rfl) (fun p10_3 tp10_3 => ?_)
      refine jok_b (t_gR w ta0 rfl rfl) (fun p15_4 tp15_4 => ?_)
      refine jok_b (t_al w tp15_4 rfl (by omega) (by omega)) (fun v19_5 pv19_5 => ?_)
      refine jok_b (t_as w tp10_3 rfl (by omega) (by omega) ⟨pv19_5, Or.inl (by omega)⟩ (fun q => by cases q)) (fun h20_6 wh20_6 => ?_)
      obtain ⟨wh20_6, rh20_6⟩ := wh20_6
      have f7 : ((1 : Int32)).toInt = 1 := rfl
      have f8 : ((x1 + (1 : Int32))).toInt = (x1).toInt + ((1 : Int32)).toInt := jadd (by omega) (by omega)
      exact ih wh20_6 ta0 (by omega) (by omega) (by omega)
set_option maxHeartbeats 1000000 in
theorem S_X12_bringsBack {g : jGh} {Γ : Nat → Option Nat} {n : Nat} {a0 : Nat} {h : jH} (hn : 6000 ≤ n) (hg : jgok g) (w : jW (jKd g) Γ h) (ta0 : Γ a0 = some 20) : jok (F_X12_bringsBack n a0 h) (fun q => jW (jKd g) Γ q) := by
  unfold F_X12_bringsBack
  have f1 : ((0 : Int32)).toInt = 0 := rfl
  exact S_X12_bringsBack_2 hn hg  n w ta0 (by omega) (by omega) (by omega)
set_option maxHeartbeats 1000000 in
theorem S_X12_somePale_4 {g : jGh} {Γ : Nat → Option Nat} {n : Nat} (hn : 6000 ≤ n) (hg : jgok g)  (k : Nat) : ∀ {a0 : Nat} {x1 : Int32} {x2 : Int32} {h : jH}, jW (jKd g) Γ h → (Γ a0 = some 20) → (0 ≤ x1.toInt) → (x1.toInt ≤ 1) → (0 ≤ x2.toInt) → (x2.toInt ≤ 8) → (8 : Int) - x2.toInt < (k : Int) → jok (F_X12_somePale_4 n k a0 x1 x2 h) (fun v => 0 ≤ v.toInt ∧ v.toInt ≤ 1) := by
  induction k with
  | zero =>
    intro a0 x1 x2 h w ta0 lx1 ux1 lx2 ux2 mk
    omega
  | succ k ih =>
    intro a0 x1 x2 h w ta0 lx1 ux1 lx2 ux2 mk
    show jok (F_X12_somePale_4_b n (F_X12_somePale_4 n k) a0 x1 x2 h) _
    unfold F_X12_somePale_4_b
    try rw [t_cv w ta0 rfl]
    refine jok_b2 (S_X12_rings hn hg w ta0) (fun v6_1 ev6_1 pv6_1 => ?_)
    obtain ⟨lv6_1, uv6_1⟩ := pv6_1
    refine jok_le (fun c2 => ?_) (fun c2 => ?_)
    · rw [if_pos (show x1 = 0 ∨ x1 = 1 from j01 (by omega) (by omega))]
      exact jok_s (show jI 0 1 x1 from ⟨by omega, by omega⟩)
    · have f3 : ((0 : Int32)).toInt = 0 := rfl
      refine jok_eq (fun c4 d4 => ?_) (fun c4 => ?_)
      · try rw [t_cv w ta0 rfl]
        have f6 : ((4 : Int32)).toInt = 4 := rfl
        refine jok_b (S_X12_of hn hg w ta0 (by omega) (by omega) (by omega) (by omega)) (fun v19_5 pv19_5 => ?_)
        have pv19_5_9 := pv19_5
        try dsimp only at pv19_5_9
        have f7 : ((99 : Int32)).toInt = 99 := rfl
        refine jok_eq (fun c8 d8 => ?_) (fun c8 => ?_)
        · have f9 : ((1 : Int32)).toInt = 1 := rfl
          have f10 : ((x2 + (1 : Int32))).toInt = (x2).toInt + ((1 : Int32)).toInt := jadd (by omega) (by omega)
          exact ih w ta0 (by omega) (by omega) (by omega) (by omega) (by omega)
        · have f11 : ((1 : Int32)).toInt = 1 := rfl
          have f12 : ((x2 + (1 : Int32))).toInt = (x2).toInt + ((1 : Int32)).toInt := jadd (by omega) (by omega)
          exact ih w ta0 (by omega) (by omega) (by omega) (by omega) (by omega)
      · have f13 : ((1 : Int32)).toInt = 1 := rfl
        have f14 : ((x2 + (1 : Int32))).toInt = (x2).toInt + ((1 : Int32)).toInt := jadd (by omega) (by omega)
        exact ih w ta0 (by omega) (by omega) (by omega) (by omega) (by omega)
set_option maxHeartbeats 1000000 in
theorem S_X12_somePale {g : jGh} {Γ : Nat → Option Nat} {n : Nat} {a0 : Nat} {h : jH} (hn : 6000 ≤ n) (hg : jgok g) (w : jW (jKd g) Γ h) (ta0 : Γ a0 = some 20) : jok (F_X12_somePale n a0 h) (fun v => 0 ≤ v.toInt ∧ v.toInt ≤ 1) := by
  unfold F_X12_somePale
  have f1 : ((0 : Int32)).toInt = 0 := rfl
  exact S_X12_somePale_4 hn hg  n w ta0 (by omega) (by omega) (by omega) (by omega) (by omega)
set_option maxHeartbeats 1000000 in
theorem S_X12_shadeNow_44 {g : jGh} {Γ : Nat → Option Nat} {n : Nat} (hn : 6000 ≤ n) (hg : jgok g) {k4 : Nat} {rc4 : Nat → Int32 → Int32 → jH → Option Int32} (k : Nat) : ∀ {a0 : Nat} {x1 : Int32} {x2 : Int32} {x3 : Int32} {h : jH}, jW (jKd g) Γ h → (Γ a0 = some 20) → (0 ≤ x2.toInt) → (x2.toInt ≤ 6) → (0 ≤ x3.toInt) → (x3.toInt ≤ 32) → (32 : Int) - x3.toInt < (k : Int) → (∀ {a0 : Nat} {x1 : Int32} {x2 : Int32} {h : jH}, jW (jKd g) Γ h → (Γ a0 = some 20) → (0 ≤ x2.toInt) → (x2.toInt ≤ 7) → (7 : Int) - x2.toInt < (k4 : Int) → jok (rc4 a0 x1 x2 h) (fun v => True)) → ((7 : Int) - x2.toInt ≤ (k4 : Int)) → jok (F_X12_shadeNow_44 n rc4 k a0 x1 x2 x3 h) (fun v => True) := by
  induction k with
  | zero =>
    intro a0 x1 x2 x3 h w ta0 lx2 ux2 lx3 ux3 mk hrc4 m4
    omega
  | succ k ih =>
    intro a0 x1 x2 x3 h w ta0 lx2 ux2 lx3 ux3 mk hrc4 m4
    show jok (F_X12_shadeNow_44_b n rc4 (F_X12_shadeNow_44 n rc4 k) a0 x1 x2 x3 h) _
    unfold F_X12_shadeNow_44_b
    try rw [t_cv w ta0 rfl]
    have f2 : ((1 : Int32)).toInt = 1 := rfl
    have f3 : ((x2 + (1 : Int32))).toInt = (x2).toInt + ((1 : Int32)).toInt := jadd (by omega) (by omega)
    have f4 : ((0 : Int32)).toInt = 0 := rfl
    refine jok_b (S_X12_of hn hg w ta0 (by omega) (by omega) (by omega) (by omega)) (fun v50_1 pv50_1 => ?_)
    have pv50_1_9 := pv50_1
    try dsimp only at pv50_1_9
    refine jok_lt (fun c5 => ?_) (fun c5 => ?_)
    · exact hrc4 w ta0 (by omega) (by omega) (by omega)
    · have f6 : ((x3 + (1 : Int32))).toInt = (x3).toInt + ((1 : Int32)).toInt := jadd (by omega) (by omega)
      exact ih w ta0 (by omega) (by omega) (by omega) (by omega) (by omega) hrc4 (by omega)
set_option maxHeartbeats 1000000 in
theorem S_X12_shadeNow_4 {g : jGh} {Γ : Nat → Option Nat} {n : Nat} (hn : 6000 ≤ n) (hg : jgok g)  (k : Nat) : ∀ {a0 : Nat} {x1 : Int32} {x2 : Int32} {h : jH}, jW (jKd g) Γ h → (Γ a0 = some 20) → (0 ≤ x2.toInt) → (x2.toInt ≤ 7) → (7 : Int) - x2.toInt < (k : Int) → jok (F_X12_shadeNow_4 n k a0 x1 x2 h) (fun v => True) := by
  induction k with
  | zero =>
    intro a0 x1 x2 h w ta0 lx2 ux2 mk
    omega
  | succ k ih =>
    intro a0 x1 x2 h w ta0 lx2 ux2 mk
    show jok (F_X12_shadeNow_4_b n (F_X12_shadeNow_4 n k) a0 x1 x2 h) _
    unfold F_X12_shadeNow_4_b
    try rw [t_cv w ta0 rfl]
    refine jok_b2 (S_X12_lastRing hn hg w ta0) (fun v6_1 ev6_1 pv6_1 => ?_)
    obtain ⟨lv6_1, uv6_1⟩ := pv6_1
    refine jok_le (fun c2 => ?_) (fun c2 => ?_)
    · exact jok_s trivial
    · try rw [t_cv w ta0 rfl]
      have f4 : ((6 : Int32)).toInt = 6 := rfl
      refine jok_b (S_X12_is hn hg w ta0 (by omega) (by omega) (by omega) (by omega)) (fun v16_3 pv16_3 => ?_)
      obtain ⟨lv16_3, uv16_3⟩ := pv16_3
      have f5 : ((0 : Int32)).toInt = 0 := rfl
      refine jok_eq (fun c6 d6 => ?_) (fun c6 => ?_)
      · have f7 : ((1 : Int32)).toInt = 1 := rfl
        have f8 : ((x2 + (1 : Int32))).toInt = (x2).toInt + ((1 : Int32)).toInt := jadd (by omega) (by omega)
        exact ih w ta0 (by omega) (by omega) (by omega)
      · try rw [t_cv w ta0 rfl]
        have f10 : ((1 : Int32)).toInt = 1 := rfl
        have f11 : ((x2 + (1 : Int32))).toInt = (x2).toInt + ((1 : Int32)).toInt := jadd (by omega) (by omega)
        refine jok_b (S_X12_is hn hg w ta0 (by omega) (by omega) (by omega) (by omega)) (fun v28_9 pv28_9 => ?_)
        obtain ⟨lv28_9, uv28_9⟩ := pv28_9
        refine jok_eq (fun c12 d12 => ?_) (fun c12 => ?_)
        · exact ih w ta0 (by omega) (by omega) (by omega)
        · try rw [t_cv w ta0 rfl]
          refine jok_b (S_X12_of hn hg w ta0 (by omega) (by omega) (by omega) (by omega)) (fun v40_13 pv40_13 => ?_)
          have pv40_13_9 := pv40_13
          try dsimp only at pv40_13_9
          exact S_X12_shadeNow_44 hn hg  n w ta0 (by omega) (by omega) (by omega) (by omega) (by omega) ih (by omega)
set_option maxHeartbeats 1000000 in
theorem S_X12_shadeNow {g : jGh} {Γ : Nat → Option Nat} {n : Nat} {a0 : Nat} {h : jH} (hn : 6000 ≤ n) (hg : jgok g) (w : jW (jKd g) Γ h) (ta0 : Γ a0 = some 20) : jok (F_X12_shadeNow n a0 h) (fun v => True) := by
  unfold F_X12_shadeNow
  have f1 : ((0 : Int32)).toInt = 0 := rfl
  exact S_X12_shadeNow_4 hn hg  n w ta0 (by omega) (by omega) (by omega)
set_option maxHeartbeats 1000000 in
theorem S_X12_darkNow {g : jGh} {Γ : Nat → Option Nat} {n : Nat} {a0 : Nat} {h : jH} (hn : 6000 ≤ n) (hg : jgok g) (w : jW (jKd g) Γ h) (ta0 : Γ a0 = some 20) : jok (F_X12_darkNow n a0 h) (fun v => True) := by
  unfold F_X12_darkNow
  refine jok_b (t_gR w ta0 rfl rfl) (fun p1_1 tp1_1 => ?_)
  have f3 : ((7 : Int32)).toInt = 7 := rfl
  refine jok_b (t_al w tp1_1 rfl (by omega) (by omega)) (fun v6_2 pv6_2 => ?_)
  try rw [t_cv w ta0 rfl]
  refine jok_b (S_X12_shadeNow hn hg w ta0) (fun v8_4 pv8_4 => ?_)
  refine jok_b (S_J6_bitCount_0f7a4 hn hg w) (fun v12_5 pv12_5 => ?_)
  exact jok_s trivial
set_option maxHeartbeats 1000000 in
theorem S_X12_areCaught_2 {g : jGh} {Γ : Nat → Option Nat} {n : Nat} (hn : 6000 ≤ n) (hg : jgok g)  (k : Nat) : ∀ {a0 : Nat} {x1 : Int32} {x2 : Int32} {h : jH}, jW (jKd g) Γ h → (Γ a0 = some 20) → (0 ≤ x2.toInt) → (x2.toInt ≤ 8) → (8 : Int) - x2.toInt < (k : Int) → jok (F_X12_areCaught_2 n k a0 x1 x2 h) (fun q => jW (jKd g) Γ q) := by
  induction k with
  | zero =>
    intro a0 x1 x2 h w ta0 lx2 ux2 mk
    omega
  | succ k ih =>
    intro a0 x1 x2 h w ta0 lx2 ux2 mk
    show jok (F_X12_areCaught_2_b n (F_X12_areCaught_2 n k) a0 x1 x2 h) _
    unfold F_X12_areCaught_2_b
    try rw [t_cv w ta0 rfl]
    refine jok_b2 (S_X12_rings hn hg w ta0) (fun v4_1 ev4_1 pv4_1 => ?_)
    obtain ⟨lv4_1, uv4_1⟩ := pv4_1
    refine jok_le (fun c2 => ?_) (fun c2 => ?_)
    · exact jok_s w
    · refine jok_b (t_gR w ta0 rfl rfl) (fun p11_3 tp11_3 => ?_)
      have f5 : ((7 : Int32)).toInt = 7 := rfl
      refine jok_b (S_X12_at hn hg w (by omega) (by omega) (by omega) (by omega)) (fun v17_4 pv17_4 => ?_)
      have pv17_4_9 := pv17_4
      try dsimp only at pv17_4_9
      refine jok_b (S_X12_has hn hg w) (fun v22_6 pv22_6 => ?_)
      obtain ⟨lv22_6, uv22_6⟩ := pv22_6
      have f7 : ((0 : Int32)).toInt = 0 := rfl
      refine jok_eq (fun c8 d8 => ?_) (fun c8 => ?_)
      · refine jok_b (t_as w tp11_3 rfl (by omega) (by omega) (show jRw g (v17_4).toInt.toNat (0 : Int32) from ⟨⟨by omega, by omega, by omega⟩, Or.inl (by omega)⟩) (fun q => by cases q)) (fun h33_9 wh33_9 => ?_)
        obtain ⟨wh33_9, rh33_9⟩ := wh33_9
        have f10 : ((1 : Int32)).toInt = 1 := rfl
        have f11 : ((x2 + (1 : Int32))).toInt = (x2).toInt + ((1 : Int32)).toInt := jadd (by omega) (by omega)
        exact ih wh33_9 ta0 (by omega) (by omega) (by omega)
      · have f13 : ((1 : Int32)).toInt = 1 := rfl
        refine jok_b (t_as w tp11_3 rfl (by omega) (by omega) (show jRw g (v17_4).toInt.toNat (1 : Int32) from ⟨⟨by omega, by omega, by omega⟩, Or.inl (by omega)⟩) (fun q => by cases q)) (fun h33_12 wh33_12 => ?_)
        obtain ⟨wh33_12, rh33_12⟩ := wh33_12
        have f14 : ((x2 + (1 : Int32))).toInt = (x2).toInt + ((1 : Int32)).toInt := jadd (by omega) (by omega)
        exact ih wh33_12 ta0 (by omega) (by omega) (by omega)
set_option maxHeartbeats 1000000 in
theorem S_X12_areCaught {g : jGh} {Γ : Nat → Option Nat} {n : Nat} {a0 : Nat} {x1 : Int32} {h : jH} (hn : 6000 ≤ n) (hg : jgok g) (w : jW (jKd g) Γ h) (ta0 : Γ a0 = some 20) : jok (F_X12_areCaught n a0 x1 h) (fun q => jW (jKd g) Γ q) := by
  unfold F_X12_areCaught
  have f1 : ((0 : Int32)).toInt = 0 := rfl
  exact S_X12_areCaught_2 hn hg  n w ta0 (by omega) (by omega) (by omega)
set_option maxHeartbeats 1000000 in
theorem S_X12_thatCanCatch {g : jGh} {Γ : Nat → Option Nat} {n : Nat} {a0 : Nat} {h : jH} (hn : 6000 ≤ n) (hg : jgok g) (w : jW (jKd g) Γ h) (ta0 : Γ a0 = some 20) : jok (F_X12_thatCanCatch n a0 h) (fun v => 0 ≤ v.toInt ∧ v.toInt ≤ 127) := by
  unfold F_X12_thatCanCatch
  try rw [t_cv w ta0 rfl]
  refine jok_b2 (S_X12_rings hn hg w ta0) (fun v1_1 ev1_1 pv1_1 => ?_)
  obtain ⟨lv1_1, uv1_1⟩ := pv1_1
  have f2 : ((2 : Int32)).toInt = 2 := rfl
  refine jok_le (fun c3 => ?_) (fun c3 => ?_)
  · try rw [t_cv w ta0 rfl]
    refine jok_r (last_of w ta0 ev1_1) ?_
    have f5 : ((1 : Int32)).toInt = 1 := rfl
    have f6 : ((v1_1 - (1 : Int32))).toInt = (v1_1).toInt - ((1 : Int32)).toInt := jsub (by omega) (by omega)
    have f7 := jshl1 (v := (v1_1 - (1 : Int32))) (k := 7) (by omega) (by omega) (by decide)
    have f8 : ((((1 : Int32) <<< ((v1_1 - (1 : Int32)) &&& (31 : Int32))) - (1 : Int32))).toInt = (((1 : Int32) <<< ((v1_1 - (1 : Int32)) &&& (31 : Int32)))).toInt - ((1 : Int32)).toInt := jsub (by omega) (by omega)
    exact jok_s (show jI 0 127 (((1 : Int32) <<< ((v1_1 - (1 : Int32)) &&& (31 : Int32))) - (1 : Int32)) from ⟨by omega, by omega⟩)
  · have f9 : ((0 : Int32)).toInt = 0 := rfl
    exact jok_s (show jI 0 127 (0 : Int32) from ⟨by omega, by omega⟩)
set_option maxHeartbeats 1000000 in
theorem S_X12_likens {g : jGh} {Γ : Nat → Option Nat} {n : Nat} {a0 : Nat} {x1 : Int32} {x2 : Int32} {h : jH} (hn : 6000 ≤ n) (hg : jgok g) (w : jW (jKd g) Γ h) (ta0 : Γ a0 = some 20) (lx1 : 0 ≤ x1.toInt) (ux1 : x1.toInt ≤ 7) (lx2 : 0 ≤ x2.toInt) (ux2 : x2.toInt ≤ 7) : jok (F_X12_likens n a0 x1 x2 h) (fun v => 0 ≤ v.toInt ∧ v.toInt ≤ 1) := by
  unfold F_X12_likens
  try rw [t_cv w ta0 rfl]
  have f2 : ((1 : Int32)).toInt = 1 := rfl
  refine jok_b (S_X12_of hn hg w ta0 (by omega) (by omega) (by omega) (by omega)) (fun v3_1 pv3_1 => ?_)
  have pv3_1_9 := pv3_1
  try dsimp only at pv3_1_9
  try rw [t_cv w ta0 rfl]
  refine jok_b (S_X12_of hn hg w ta0 (by omega) (by omega) (by omega) (by omega)) (fun v9_3 pv9_3 => ?_)
  have pv9_3_9 := pv9_3
  try dsimp only at pv9_3_9
  refine jok_eq (fun c4 d4 => ?_) (fun c4 => ?_)
  · try rw [t_cv w ta0 rfl]
    have f6 : ((5 : Int32)).toInt = 5 := rfl
    refine jok_b (S_X12_of hn hg w ta0 (by omega) (by omega) (by omega) (by omega)) (fun v18_5 pv18_5 => ?_)
    have pv18_5_9 := pv18_5
    try dsimp only at pv18_5_9
    try rw [t_cv w ta0 rfl]
    refine jok_b (S_X12_of hn hg w ta0 (by omega) (by omega) (by omega) (by omega)) (fun v24_7 pv24_7 => ?_)
    have pv24_7_9 := pv24_7
    try dsimp only at pv24_7_9
    refine jok_eq (fun c8 d8 => ?_) (fun c8 => ?_)
    · try rw [t_cv w ta0 rfl]
      have f10 : ((4 : Int32)).toInt = 4 := rfl
      refine jok_b (S_X12_of hn hg w ta0 (by omega) (by omega) (by omega) (by omega)) (fun v33_9 pv33_9 => ?_)
      have pv33_9_9 := pv33_9
      try dsimp only at pv33_9_9
      try rw [t_cv w ta0 rfl]
      refine jok_b (S_X12_of hn hg w ta0 (by omega) (by omega) (by omega) (by omega)) (fun v39_11 pv39_11 => ?_)
      have pv39_11_9 := pv39_11
      try dsimp only at pv39_11_9
      refine jok_eq (fun c12 d12 => ?_) (fun c12 => ?_)
      · exact jok_s (show jI 0 1 (1 : Int32) from ⟨by omega, by omega⟩)
      · have f13 : ((0 : Int32)).toInt = 0 := rfl
        exact jok_s (show jI 0 1 (0 : Int32) from ⟨by omega, by omega⟩)
    · have f14 : ((0 : Int32)).toInt = 0 := rfl
      exact jok_s (show jI 0 1 (0 : Int32) from ⟨by omega, by omega⟩)
  · have f15 : ((0 : Int32)).toInt = 0 := rfl
    exact jok_s (show jI 0 1 (0 : Int32) from ⟨by omega, by omega⟩)
set_option maxHeartbeats 1000000 in
theorem S_X12_litIn_4 {g : jGh} {Γ : Nat → Option Nat} {n : Nat} (hn : 6000 ≤ n) (hg : jgok g)  (k : Nat) : ∀ {a0 : Nat} {x1 : Int32} {x2 : Int32} {x3 : Int32} {h : jH}, jW (jKd g) Γ h → (Γ a0 = some 20) → (0 ≤ x3.toInt) → (x3.toInt ≤ 8) → (8 : Int) - x3.toInt < (k : Int) → jok (F_X12_litIn_4 n k a0 x1 x2 x3 h) (fun v => True) := by
  induction k with
  | zero =>
    intro a0 x1 x2 x3 h w ta0 lx3 ux3 mk
    omega
  | succ k ih =>
    intro a0 x1 x2 x3 h w ta0 lx3 ux3 mk
    show jok (F_X12_litIn_4_b n (F_X12_litIn_4 n k) a0 x1 x2 x3 h) _
    unfold F_X12_litIn_4_b
    try rw [t_cv w ta0 rfl]
    refine jok_b2 (S_X12_rings hn hg w ta0) (fun v6_1 ev6_1 pv6_1 => ?_)
    obtain ⟨lv6_1, uv6_1⟩ := pv6_1
    refine jok_le (fun c2 => ?_) (fun c2 => ?_)
    · exact jok_s trivial
    · try rw [t_cv w ta0 rfl]
      refine jok_b (S_X12_isLit hn hg w ta0 (by omega) (by omega)) (fun v16_3 pv16_3 => ?_)
      obtain ⟨lv16_3, uv16_3⟩ := pv16_3
      have f4 : ((0 : Int32)).toInt = 0 := rfl
      refine jok_eq (fun c5 d5 => ?_) (fun c5 => ?_)
      · have f6 : ((1 : Int32)).toInt = 1 := rfl
        have f7 : ((x3 + (1 : Int32))).toInt = (x3).toInt + ((1 : Int32)).toInt := jadd (by omega) (by omega)
        exact ih w ta0 (by omega) (by omega) (by omega)
      · have f8 : ((1 : Int32)).toInt = 1 := rfl
        have f9 : ((x3 + (1 : Int32))).toInt = (x3).toInt + ((1 : Int32)).toInt := jadd (by omega) (by omega)
        exact ih w ta0 (by omega) (by omega) (by omega)
set_option maxHeartbeats 1000000 in
theorem S_X12_litIn {g : jGh} {Γ : Nat → Option Nat} {n : Nat} {a0 : Nat} {x1 : Int32} {h : jH} (hn : 6000 ≤ n) (hg : jgok g) (w : jW (jKd g) Γ h) (ta0 : Γ a0 = some 20) : jok (F_X12_litIn n a0 x1 h) (fun v => True) := by
  unfold F_X12_litIn
  have f1 : ((0 : Int32)).toInt = 0 := rfl
  exact S_X12_litIn_4 hn hg  n w ta0 (by omega) (by omega) (by omega)
set_option maxHeartbeats 1000000 in
theorem S_X12_looseOnes {g : jGh} {Γ : Nat → Option Nat} {n : Nat} {a0 : Nat} {h : jH} (hn : 6000 ≤ n) (hg : jgok g) (w : jW (jKd g) Γ h) (ta0 : Γ a0 = some 20) : jok (F_X12_looseOnes n a0 h) (fun v => True) := by
  unfold F_X12_looseOnes
  try rw [t_cv w ta0 rfl]
  refine jok_b2 (S_X12_rings hn hg w ta0) (fun v2_1 ev2_1 pv2_1 => ?_)
  obtain ⟨lv2_1, uv2_1⟩ := pv2_1
  try rw [t_cv w ta0 rfl]
  have f3 : ((6 : Int32)).toInt = 6 := rfl
  refine jok_b (S_X12_ringsThat hn hg w ta0 (by omega) (by omega)) (fun v11_2 pv11_2 => ?_)
  obtain ⟨lv11_2, uv11_2⟩ := pv11_2
  exact jok_s trivial
set_option maxHeartbeats 1000000 in
theorem S_X12_eachHas {g : jGh} {Γ : Nat → Option Nat} {n : Nat} {a0 : Nat} {x1 : Int32} {x2 : Int32} {x3 : Int32} {h : jH} (hn : 6000 ≤ n) (hg : jgok g) (w : jW (jKd g) Γ h) (ta0 : Γ a0 = some 20) (lx1 : 0 ≤ x1.toInt) (ux1 : x1.toInt ≤ 7) : jok (F_X12_eachHas n a0 x1 x2 x3 h) (fun v => True) := by
  unfold F_X12_eachHas
  refine jok_eq (fun c1 d1 => ?_) (fun c1 => ?_)
  · exact jok_s trivial
  · have f2 : ((1 : Int32)).toInt = 1 := rfl
    refine jok_eq (fun c3 d3 => ?_) (fun c3 => ?_)
    · try rw [t_cv w ta0 rfl]
      refine jok_b (S_X12_gapOf hn hg w ta0 (by omega) (by omega)) (fun v14_4 pv14_4 => ?_)
      exact jok_s trivial
    · try rw [t_cv w ta0 rfl]
      have f6 : ((7 : Int32)).toInt = 7 := rfl
      refine jok_b (S_X12_is hn hg w ta0 (by omega) (by omega) (by omega) (by omega)) (fun v26_5 pv26_5 => ?_)
      obtain ⟨lv26_5, uv26_5⟩ := pv26_5
      have f7 : ((0 : Int32)).toInt = 0 := rfl
      refine jok_eq (fun c8 d8 => ?_) (fun c8 => ?_)
      · exact jok_s trivial
      · exact jok_s trivial
set_option maxHeartbeats 1000000 in
theorem S_X12_ofLog {g : jGh} {Γ : Nat → Option Nat} {n : Nat} {a0 : Nat} {x1 : Int32} {x2 : Int32} {h : jH} (hn : 6000 ≤ n) (hg : jgok g) (w : jW (jKd g) Γ h) (ta0 : Γ a0 = some 20) (lx1 : 0 ≤ x1.toInt) (ux1 : x1.toInt ≤ 59) (lx2 : 0 ≤ x2.toInt) (ux2 : x2.toInt ≤ 5) : jok (F_X12_ofLog n a0 x1 x2 h) (fun v => True) := by
  unfold F_X12_ofLog
  refine jok_b (t_gR w ta0 rfl rfl) (fun p1_1 tp1_1 => ?_)
  have f3 : ((75 : Int32)).toInt = 75 := rfl
  have f4 : ((6 : Int32)).toInt = 6 := rfl
  have f5 : (((6 : Int32) * x1)).toInt = 6 * (x1).toInt := jmulL (c := 6) (by omega) (by omega) (by omega)
  have f6 : (((75 : Int32) + ((6 : Int32) * x1))).toInt = ((75 : Int32)).toInt + (((6 : Int32) * x1)).toInt := jadd (by omega) (by omega)
  have f7 : ((((75 : Int32) + ((6 : Int32) * x1)) + x2)).toInt = (((75 : Int32) + ((6 : Int32) * x1))).toInt + (x2).toInt := jadd (by omega) (by omega)
  refine jok_b (t_al w tp1_1 rfl (by omega) (by omega)) (fun v13_2 pv13_2 => ?_)
  exact jok_s trivial
set_option maxHeartbeats 1000000 in
theorem S_X12_fault {g : jGh} {Γ : Nat → Option Nat} {n : Nat} {a0 : Nat} {h : jH} (hn : 6000 ≤ n) (hg : jgok g) (w : jW (jKd g) Γ h) (ta0 : Γ a0 = some 20) : jok (F_X12_fault n a0 h) (fun q => jW (jKd g) Γ q.2 ∧ (fun v : Int32 => True) q.1) := by
  unfold F_X12_fault
  have f2 : ((0 : Int32)).toInt = 0 := rfl
  refine jok_b (t_pI w ta0 rfl rfl trivial) (fun h2_1 wh2_1 => ?_)
  obtain ⟨wh2_1, jh2_1, rh2_1⟩ := wh2_1
  refine jok_b2 (t_gI wh2_1 ta0 rfl rfl) (fun v6_3 ev6_3 pv6_3 => ?_)
  exact jok_s ⟨wh2_1, trivial⟩
set_option maxHeartbeats 1000000 in
theorem S_X12_shade {g : jGh} {Γ : Nat → Option Nat} {n : Nat} {a0 : Nat} {h : jH} (hn : 6000 ≤ n) (hg : jgok g) (w : jW (jKd g) Γ h) (ta0 : Γ a0 = some 20) : jok (F_X12_shade n a0 h) (fun q => jW (jKd g) Γ q.2 ∧ (fun v : Int32 => True) q.1) := by
  unfold F_X12_shade
  have f2 : ((0 : Int32)).toInt = 0 := rfl
  refine jok_b (t_pI w ta0 rfl rfl trivial) (fun h2_1 wh2_1 => ?_)
  obtain ⟨wh2_1, jh2_1, rh2_1⟩ := wh2_1
  try rw [t_cv wh2_1 ta0 rfl]
  refine jok_b (S_X12_shadeNow hn hg wh2_1 ta0) (fun v6_3 pv6_3 => ?_)
  exact jok_s ⟨wh2_1, trivial⟩
set_option maxHeartbeats 1000000 in
theorem S_X12_dark {g : jGh} {Γ : Nat → Option Nat} {n : Nat} {a0 : Nat} {h : jH} (hn : 6000 ≤ n) (hg : jgok g) (w : jW (jKd g) Γ h) (ta0 : Γ a0 = some 20) : jok (F_X12_dark n a0 h) (fun q => jW (jKd g) Γ q.2 ∧ (fun v : Int32 => True) q.1) := by
  unfold F_X12_dark
  have f2 : ((0 : Int32)).toInt = 0 := rfl
  refine jok_b (t_pI w ta0 rfl rfl trivial) (fun h2_1 wh2_1 => ?_)
  obtain ⟨wh2_1, jh2_1, rh2_1⟩ := wh2_1
  try rw [t_cv wh2_1 ta0 rfl]
  refine jok_b (S_X12_darkNow hn hg wh2_1 ta0) (fun v6_3 pv6_3 => ?_)
  exact jok_s ⟨wh2_1, trivial⟩
set_option maxHeartbeats 1000000 in
theorem S_X12_bare {g : jGh} {Γ : Nat → Option Nat} {n : Nat} {a0 : Nat} {h : jH} (hn : 6000 ≤ n) (hg : jgok g) (w : jW (jKd g) Γ h) (ta0 : Γ a0 = some 20) : jok (F_X12_bare n a0 h) (fun q => jW (jKd g) Γ q.2 ∧ (fun v : Int32 => True) q.1) := by
  unfold F_X12_bare
  have f2 : ((0 : Int32)).toInt = 0 := rfl
  refine jok_b (t_pI w ta0 rfl rfl trivial) (fun h2_1 wh2_1 => ?_)
  obtain ⟨wh2_1, jh2_1, rh2_1⟩ := wh2_1
  refine jok_b (t_gR wh2_1 ta0 rfl rfl) (fun p6_3 tp6_3 => ?_)
  have f5 : ((7 : Int32)).toInt = 7 := rfl
  refine jok_b (t_al wh2_1 tp6_3 rfl (by omega) (by omega)) (fun v11_4 pv11_4 => ?_)
  try rw [t_cv wh2_1 ta0 rfl]
  refine jok_b (S_X12_shadeNow hn hg wh2_1 ta0) (fun v13_6 pv13_6 => ?_)
  exact jok_s ⟨wh2_1, trivial⟩
set_option maxHeartbeats 1000000 in
theorem S_X12_slack_9 {g : jGh} {Γ : Nat → Option Nat} {n : Nat} (hn : 6000 ≤ n) (hg : jgok g)  (k : Nat) : ∀ {a0 : Nat} {x1 : Int32} {x2 : Int32} {h : jH}, jW (jKd g) Γ h → (Γ a0 = some 20) → (0 ≤ x2.toInt) → (x2.toInt ≤ 7) → (7 : Int) - x2.toInt < (k : Int) → jok (F_X12_slack_9 n k a0 x1 x2 h) (fun q => jW (jKd g) Γ q.2 ∧ (fun v : Int32 => True) q.1) := by
  induction k with
  | zero =>
    intro a0 x1 x2 h w ta0 lx2 ux2 mk
    omega
  | succ k ih =>
    intro a0 x1 x2 h w ta0 lx2 ux2 mk
    show jok (F_X12_slack_9_b n (F_X12_slack_9 n k) a0 x1 x2 h) _
    unfold F_X12_slack_9_b
    try rw [t_cv w ta0 rfl]
    refine jok_b2 (S_X12_lastRing hn hg w ta0) (fun v11_1 ev11_1 pv11_1 => ?_)
    obtain ⟨lv11_1, uv11_1⟩ := pv11_1
    refine jok_le (fun c2 => ?_) (fun c2 => ?_)
    · exact jok_s ⟨w, trivial⟩
    · try rw [t_cv w ta0 rfl]
      have f4 : ((1 : Int32)).toInt = 1 := rfl
      refine jok_b (S_X12_of hn hg w ta0 (by omega) (by omega) (by omega) (by omega)) (fun v21_3 pv21_3 => ?_)
      have pv21_3_9 := pv21_3
      try dsimp only at pv21_3_9
      try rw [t_cv w ta0 rfl]
      refine jok_b (S_X12_gapOf hn hg w ta0 (by omega) (by omega)) (fun v26_5 pv26_5 => ?_)
      have f6 : ((x2 + (1 : Int32))).toInt = (x2).toInt + ((1 : Int32)).toInt := jadd (by omega) (by omega)
      exact ih w ta0 (by omega) (by omega) (by omega)
set_option maxHeartbeats 1000000 in
theorem S_X12_slack {g : jGh} {Γ : Nat → Option Nat} {n : Nat} {a0 : Nat} {h : jH} (hn : 6000 ≤ n) (hg : jgok g) (w : jW (jKd g) Γ h) (ta0 : Γ a0 = some 20) : jok (F_X12_slack n a0 h) (fun q => jW (jKd g) Γ q.2 ∧ (fun v : Int32 => True) q.1) := by
  unfold F_X12_slack
  have f2 : ((0 : Int32)).toInt = 0 := rfl
  refine jok_b (t_pI w ta0 rfl rfl trivial) (fun h2_1 wh2_1 => ?_)
  obtain ⟨wh2_1, jh2_1, rh2_1⟩ := wh2_1
  exact S_X12_slack_9 hn hg  n wh2_1 ta0 (by omega) (by omega) (by omega)
set_option maxHeartbeats 1000000 in
theorem S_X12_taut_9 {g : jGh} {Γ : Nat → Option Nat} {n : Nat} (hn : 6000 ≤ n) (hg : jgok g)  (k : Nat) : ∀ {a0 : Nat} {x1 : Int32} {x2 : Int32} {h : jH}, jW (jKd g) Γ h → (Γ a0 = some 20) → (0 ≤ x2.toInt) → (x2.toInt ≤ 7) → (7 : Int) - x2.toInt < (k : Int) → jok (F_X12_taut_9 n k a0 x1 x2 h) (fun q => jW (jKd g) Γ q.2 ∧ (fun v : Int32 => True) q.1) := by
  induction k with
  | zero =>
    intro a0 x1 x2 h w ta0 lx2 ux2 mk
    omega
  | succ k ih =>
    intro a0 x1 x2 h w ta0 lx2 ux2 mk
    show jok (F_X12_taut_9_b n (F_X12_taut_9 n k) a0 x1 x2 h) _
    unfold F_X12_taut_9_b
    try rw [t_cv w ta0 rfl]
    refine jok_b2 (S_X12_lastRing hn hg w ta0) (fun v11_1 ev11_1 pv11_1 => ?_)
    obtain ⟨lv11_1, uv11_1⟩ := pv11_1
    refine jok_le (fun c2 => ?_) (fun c2 => ?_)
    · exact jok_s ⟨w, trivial⟩
    · try rw [t_cv w ta0 rfl]
      refine jok_b (S_X12_gapOf hn hg w ta0 (by omega) (by omega)) (fun v20_3 pv20_3 => ?_)
      try rw [t_cv w ta0 rfl]
      have f5 : ((1 : Int32)).toInt = 1 := rfl
      refine jok_b (S_X12_of hn hg w ta0 (by omega) (by omega) (by omega) (by omega)) (fun v26_4 pv26_4 => ?_)
      have pv26_4_9 := pv26_4
      try dsimp only at pv26_4_9
      refine jok_eq (fun c6 d6 => ?_) (fun c6 => ?_)
      · have f7 : ((x2 + (1 : Int32))).toInt = (x2).toInt + ((1 : Int32)).toInt := jadd (by omega) (by omega)
        exact ih w ta0 (by omega) (by omega) (by omega)
      · have f8 : ((x2 + (1 : Int32))).toInt = (x2).toInt + ((1 : Int32)).toInt := jadd (by omega) (by omega)
        exact ih w ta0 (by omega) (by omega) (by omega)
set_option maxHeartbeats 1000000 in
theorem S_X12_taut {g : jGh} {Γ : Nat → Option Nat} {n : Nat} {a0 : Nat} {h : jH} (hn : 6000 ≤ n) (hg : jgok g) (w : jW (jKd g) Γ h) (ta0 : Γ a0 = some 20) : jok (F_X12_taut n a0 h) (fun q => jW (jKd g) Γ q.2 ∧ (fun v : Int32 => True) q.1) := by
  unfold F_X12_taut
  have f2 : ((0 : Int32)).toInt = 0 := rfl
  refine jok_b (t_pI w ta0 rfl rfl trivial) (fun h2_1 wh2_1 => ?_)
  obtain ⟨wh2_1, jh2_1, rh2_1⟩ := wh2_1
  exact S_X12_taut_9 hn hg  n wh2_1 ta0 (by omega) (by omega) (by omega)
/-- a ring may go one step: its place is not at the end; all of a set may, below b -/
def jgood (n a0 : Nat) (x2 : Int32) (h : jH) (y : Int32) : Prop := ∀ p, F_X12_of n a0 y (0 : Int32) h = some p → (x2 = 0 → 1 ≤ p.toInt) ∧ (¬ x2.toInt = 0 → p.toInt ≤ 30)
def jgo (n a0 : Nat) (x2 x3 : Int32) (h : jH) (b : Int) : Prop := ∀ (y u : Int32), 0 ≤ y.toInt → y.toInt < b → F_X12_has n x3 y h = some u → ¬ u.toInt = 0 → jgood n a0 x2 h y
theorem jgo_step {n a0 : Nat} {x2 x3 x5 : Int32} {h : jH} (hv : jgo n a0 x2 x3 h x5.toInt) (f : (x5 + (1 : Int32)).toInt = x5.toInt + (1 : Int32).toInt) (f1 : (1 : Int32).toInt = 1) (hx : ∀ u, F_X12_has n x3 x5 h = some u → ¬ u.toInt = 0 → jgood n a0 x2 h x5) : jgo n a0 x2 x3 h (x5 + (1 : Int32)).toInt := by
  intro y u h0 h1 eu hu
  by_cases q : y.toInt = x5.toInt
  · cases Int32.toInt_inj.mp q
    exact hx u eu hu
  · exact hv y u h0 (by omega) eu hu
theorem jal_as {t p : Nat} {i j x : Int32} {h h1 : jH} (e : jas t h p i x = some h1) (hj : ¬ j.toNatClampNeg = i.toNatClampNeg) : jal t h1 p j = jal t h p j := by
  obtain ⟨N, f, e1, -, -, rfl⟩ := jas_o e
  unfold jal
  rw [e1]
  show (match (if p = p then some _ else h.2 p) with | some (.inr (.inl x)) => if x.1 = t ∧ ¬ (j < 0 ∨ x.2.1 ≤ j.toNatClampNeg) then some (x.2.2 j.toNatClampNeg) else none | _ => none) = _
  rw [if_pos rfl]
  dsimp only
  simp only [upd, if_neg hj]
theorem jgR_as {t p ci a k : Nat} {i x : Int32} {h h1 : jH} (e : jas t h p i x = some h1) : jgR ci h1 a k = jgR ci h a k := by
  obtain ⟨N, f, e1, -, -, rfl⟩ := jas_o e
  unfold jgR
  rw [jfa_up e1 ci a k]
theorem of_as {n a0 p : Nat} {i x y : Int32} {h h1 : jH} (ep : jgR 10 h a0 1 = some p) (e : jas 0 h p i x = some h1) (hy : ¬ (((11 : Int32) + ((8 : Int32) * y)) + (0 : Int32)).toNatClampNeg = i.toNatClampNeg) : F_X12_of n a0 y (0 : Int32) h1 = F_X12_of n a0 y (0 : Int32) h := by
  unfold F_X12_of
  rw [jgR_as e, ep]
  show (jal 0 h1 p _).bind _ = (jal 0 h p _).bind _
  rw [jal_as e hy]
theorem rings_as {n a0 p : Nat} {i x : Int32} {h h1 : jH} (ep : jgR 10 h a0 1 = some p) (e : jas 0 h p i x = some h1) (hy : ¬ (0 : Int32).toNatClampNeg = i.toNatClampNeg) : F_X12_rings n a0 h1 = F_X12_rings n a0 h := by
  unfold F_X12_rings
  rw [jgR_as e, ep]
  show (jal 0 h1 p _).bind _ = (jal 0 h p _).bind _
  rw [jal_as e hy]
set_option maxHeartbeats 1000000 in
theorem S_X12_mayGo {g : jGh} {Γ : Nat → Option Nat} {n : Nat} {a0 : Nat} {x1 : Int32} {x2 : Int32} {h : jH} (hn : 6000 ≤ n) (hg : jgok g) (w : jW (jKd g) Γ h) (ta0 : Γ a0 = some 20) (lx1 : 0 ≤ x1.toInt) (ux1 : x1.toInt ≤ 7) : jok (F_X12_mayGo n a0 x1 x2 h) (fun v => (0 ≤ v.toInt ∧ v.toInt ≤ 1) ∧ (v.toInt = 1 → jgood n a0 x2 h x1)) := by
  unfold F_X12_mayGo
  try rw [t_cv w ta0 rfl]
  have f2 : ((0 : Int32)).toInt = 0 := rfl
  refine jok_b2 (S_X12_of hn hg w ta0 (by omega) (by omega) (by omega) (by omega)) (fun v3_1 e3 pv3_1 => ?_)
  have pv3_1_9 := pv3_1
  try dsimp only at pv3_1_9
  refine jok_eq (fun c3 d3 => ?_) (fun c3 => ?_)
  · unfold F_X12_mayGo_20
    refine jok_b (S_X12_noPlace hn hg w) (fun v20_4 pv20_4 => ?_)
    have f5 : ((1 : Int32)).toInt = 1 := rfl
    have f6 : ((v3_1 - (1 : Int32))).toInt = (v3_1).toInt - ((1 : Int32)).toInt := jsub (by omega) (by omega)
    have pv20_4_9 := pv20_4
    try dsimp only at pv20_4_9
    refine jok_eq (fun c7 d7 => ?_) (fun c7 => ?_)
    · try rw [t_cv w ta0 rfl]
      have f9 : ((2 : Int32)).toInt = 2 := rfl
      refine jok_b (S_X12_is hn hg w ta0 (by omega) (by omega) (by omega) (by omega)) (fun v31_8 pv31_8 => ?_)
      obtain ⟨lv31_8, uv31_8⟩ := pv31_8
      refine jok_eq (fun c10 d10 => ?_) (fun c10 => ?_)
      · exact jok_s ⟨⟨by decide, by decide⟩, fun _ p ep => by cases e3.symm.trans ep; exact ⟨fun _ => by omega, fun z => absurd (by rw [d3]; rfl) z⟩⟩
      · refine jok_eq (fun c11 d11 => ?_) (fun c11 => ?_)
        · refine jok_b (t_gR w ta0 rfl rfl) (fun p49_12 tp49_12 => ?_)
          have f14 : ((5 : Int32)).toInt = 5 := rfl
          refine jok_b (t_al w tp49_12 rfl (by omega) (by omega)) (fun v53_13 pv53_13 => ?_)
          refine jok_eq (fun c15 d15 => ?_) (fun c15 => ?_)
          · exact jok_s ⟨⟨by decide, by decide⟩, fun q => absurd q (by decide)⟩
          · exact jok_s ⟨⟨by decide, by decide⟩, fun _ p ep => by cases e3.symm.trans ep; exact ⟨fun _ => by omega, fun z => absurd (by rw [d3]; rfl) z⟩⟩
        · refine jok_b (t_gR w ta0 rfl rfl) (fun p49_16 tp49_16 => ?_)
          have f18 : ((5 : Int32)).toInt = 5 := rfl
          refine jok_b (t_al w tp49_16 rfl (by omega) (by omega)) (fun v53_17 pv53_17 => ?_)
          have f19 : ((v3_1 + (1 : Int32))).toInt = (v3_1).toInt + ((1 : Int32)).toInt := jadd (by omega) (by omega)
          refine jok_eq (fun c20 d20 => ?_) (fun c20 => ?_)
          · exact jok_s ⟨⟨by decide, by decide⟩, fun q => absurd q (by decide)⟩
          · exact jok_s ⟨⟨by decide, by decide⟩, fun _ p ep => by cases e3.symm.trans ep; exact ⟨fun _ => by omega, fun z => absurd (by rw [d3]; rfl) z⟩⟩
    · exact jok_s ⟨⟨by decide, by decide⟩, fun q => absurd q (by decide)⟩
  · unfold F_X12_mayGo_20
    refine jok_b (S_X12_noPlace hn hg w) (fun v20_21 pv20_21 => ?_)
    have f22 : ((1 : Int32)).toInt = 1 := rfl
    have f23 : ((v3_1 + (1 : Int32))).toInt = (v3_1).toInt + ((1 : Int32)).toInt := jadd (by omega) (by omega)
    have pv20_21_9 := pv20_21
    try dsimp only at pv20_21_9
    refine jok_eq (fun c24 d24 => ?_) (fun c24 => ?_)
    · try rw [t_cv w ta0 rfl]
      have f26 : ((2 : Int32)).toInt = 2 := rfl
      refine jok_b (S_X12_is hn hg w ta0 (by omega) (by omega) (by omega) (by omega)) (fun v31_25 pv31_25 => ?_)
      obtain ⟨lv31_25, uv31_25⟩ := pv31_25
      refine jok_eq (fun c27 d27 => ?_) (fun c27 => ?_)
      · exact jok_s ⟨⟨by decide, by decide⟩, fun _ p ep => by cases e3.symm.trans ep; exact ⟨fun z => absurd (by rw [z]) c3, fun _ => by omega⟩⟩
      · refine jok_eq (fun c28 d28 => ?_) (fun c28 => ?_)
        · refine jok_b (t_gR w ta0 rfl rfl) (fun p49_29 tp49_29 => ?_)
          have f31 : ((5 : Int32)).toInt = 5 := rfl
          refine jok_b (t_al w tp49_29 rfl (by omega) (by omega)) (fun v53_30 pv53_30 => ?_)
          refine jok_eq (fun c32 d32 => ?_) (fun c32 => ?_)
          · exact jok_s ⟨⟨by decide, by decide⟩, fun q => absurd q (by decide)⟩
          · exact jok_s ⟨⟨by decide, by decide⟩, fun _ p ep => by cases e3.symm.trans ep; exact ⟨fun z => absurd (by rw [z]) c3, fun _ => by omega⟩⟩
        · refine jok_b (t_gR w ta0 rfl rfl) (fun p49_33 tp49_33 => ?_)
          have f35 : ((5 : Int32)).toInt = 5 := rfl
          refine jok_b (t_al w tp49_33 rfl (by omega) (by omega)) (fun v53_34 pv53_34 => ?_)
          refine jok_eq (fun c36 d36 => ?_) (fun c36 => ?_)
          · exact jok_s ⟨⟨by decide, by decide⟩, fun q => absurd q (by decide)⟩
          · exact jok_s ⟨⟨by decide, by decide⟩, fun _ p ep => by cases e3.symm.trans ep; exact ⟨fun z => absurd (by rw [z]) c3, fun _ => by omega⟩⟩
    · exact jok_s ⟨⟨by decide, by decide⟩, fun q => absurd q (by decide)⟩
set_option maxHeartbeats 1000000 in
theorem S_X12_goingBy_13 {g : jGh} {Γ : Nat → Option Nat} {n : Nat} (hn : 6000 ≤ n) (hg : jgok g)  (k : Nat) : ∀ {a0 : Nat} {x2 : Int32} {x3 : Int32} {x4 : Int32} {x5 : Int32} {h : jH}, jW (jKd g) Γ h → (Γ a0 = some 20) → (0 ≤ x4.toInt) → (x4.toInt ≤ 1) → (0 ≤ x5.toInt) → (x5.toInt ≤ 8) → (8 : Int) - x5.toInt < (k : Int) → (¬ x4.toInt = 0 → jgo n a0 x2 x3 h x5.toInt) → jok (F_X12_goingBy_13 n k a0 x2 x3 x4 x5 h) (fun v => v.toInt = 0 ∨ (v = x3 ∧ ∀ r, F_X12_rings n a0 h = some r → jgo n a0 x2 x3 h r.toInt)) := by
  induction k with
  | zero =>
    intro a0 x2 x3 x4 x5 h w ta0 lx4 ux4 lx5 ux5 mk hv
    omega
  | succ k ih =>
    intro a0 x2 x3 x4 x5 h w ta0 lx4 ux4 lx5 ux5 mk hv
    show jok (F_X12_goingBy_13_b n (F_X12_goingBy_13 n k) a0 x2 x3 x4 x5 h) _
    unfold F_X12_goingBy_13_b
    try rw [t_cv w ta0 rfl]
    refine jok_b2 (S_X12_rings hn hg w ta0) (fun v16_1 e16 pv16_1 => ?_)
    obtain ⟨lv16_1, uv16_1⟩ := pv16_1
    refine jok_le (fun c2 => ?_) (fun c2 => ?_)
    · have f3 : ((0 : Int32)).toInt = 0 := rfl
      refine jok_eq (fun c4 d4 => ?_) (fun c4 => ?_)
      · exact jok_s (Or.inl rfl)
      · exact jok_s (Or.inr ⟨rfl, fun r er y u h0 h1 => hv (by omega) y u h0 (by cases e16.symm.trans er; omega)⟩)
    · have f5 : ((0 : Int32)).toInt = 0 := rfl
      refine jok_eq (fun c6 d6 => ?_) (fun c6 => ?_)
      · have f7 : ((1 : Int32)).toInt = 1 := rfl
        have f8 : ((x5 + (1 : Int32))).toInt = (x5).toInt + ((1 : Int32)).toInt := jadd (by omega) (by omega)
        exact ih w ta0 (by omega) (by omega) (by omega) (by omega) (by omega) (fun z => absurd rfl z)
      · refine jok_b2 (S_X12_has hn hg w) (fun v30_9 e30 pv30_9 => ?_)
        obtain ⟨lv30_9, uv30_9⟩ := pv30_9
        refine jok_eq (fun c10 d10 => ?_) (fun c10 => ?_)
        · have f11 : ((1 : Int32)).toInt = 1 := rfl
          have f12 : ((x5 + (1 : Int32))).toInt = (x5).toInt + ((1 : Int32)).toInt := jadd (by omega) (by omega)
          exact ih w ta0 (by omega) (by omega) (by omega) (by omega) (by omega) (fun _ => jgo_step (hv (by omega)) f12 f11 (fun u eu hu => absurd (by cases e30.symm.trans eu; exact c10) hu))
        · try rw [t_cv w ta0 rfl]
          refine jok_b (S_X12_mayGo hn hg w ta0 (by omega) (by omega)) (fun v40_13 pv40_13 => ?_)
          obtain ⟨⟨lv40_13, uv40_13⟩, gv40⟩ := pv40_13
          refine jok_eq (fun c14 d14 => ?_) (fun c14 => ?_)
          · have f15 : ((1 : Int32)).toInt = 1 := rfl
            have f16 : ((x5 + (1 : Int32))).toInt = (x5).toInt + ((1 : Int32)).toInt := jadd (by omega) (by omega)
            exact ih w ta0 (by omega) (by omega) (by omega) (by omega) (by omega) (fun z => absurd rfl z)
          · have f17 : ((1 : Int32)).toInt = 1 := rfl
            have f18 : ((x5 + (1 : Int32))).toInt = (x5).toInt + ((1 : Int32)).toInt := jadd (by omega) (by omega)
            exact ih w ta0 (by omega) (by omega) (by omega) (by omega) (by omega) (fun _ => jgo_step (hv (by omega)) f18 f17 (fun u eu hu => gv40 (by omega)))
set_option maxHeartbeats 1000000 in
theorem S_X12_goingBy {g : jGh} {Γ : Nat → Option Nat} {n : Nat} {a0 : Nat} {x1 : Int32} {x2 : Int32} {h : jH} (hn : 6000 ≤ n) (hg : jgok g) (w : jW (jKd g) Γ h) (ta0 : Γ a0 = some 20) (lx1 : -128 ≤ x1.toInt) (ux1 : x1.toInt ≤ 127) : jok (F_X12_goingBy n a0 x1 x2 h) (fun v => v.toInt = 0 ∨ ∀ r, F_X12_rings n a0 h = some r → jgo n a0 x2 v h r.toInt) := by
  unfold F_X12_goingBy
  try rw [t_cv w ta0 rfl]
  refine jok_b (S_X12_allWith hn hg w ta0 (by omega) (by omega)) (fun v3_1 pv3_1 => ?_)
  have f2 : ((1 : Int32)).toInt = 1 := rfl
  have f3 : ((0 : Int32)).toInt = 0 := rfl
  exact jok_w (S_X12_goingBy_13 hn hg  n w ta0 (by omega) (by omega) (by omega) (by omega) (by omega) (fun _ y u h0 h1 => by omega)) (fun v q => q.elim Or.inl (fun q => Or.inr (by rw [q.1]; exact q.2)))
/-! a line of the law is run: the stack is never empty where it is taken from -/
theorem jhgt_le {c : Nat → Int32} {s : Nat} : ∀ (l t : Nat), jhgt c s l = some t → t ≤ l := by
  intro l
  induction l with
  | zero => intro t h; cases h; exact Nat.le_refl _
  | succ l ih =>
    intro t h
    obtain ⟨u, e, h⟩ := jbind (show (jhgt c s l).bind _ = some t from h)
    have hu := ih u e
    split at h
    · cases h; omega
    · split at h
      · split at h
        · cases h; omega
        · cases h
      · split at h
        · cases h; omega
        · cases h
theorem jhgt_some {c : Nat → Int32} {s : Nat} : ∀ (d l : Nat), (jhgt c s (l + d)).isSome = true → (jhgt c s l).isSome = true := by
  intro d
  induction d with
  | zero => intro l h; exact h
  | succ d ih =>
    intro l h
    refine ih l ?_
    cases q : jhgt c s (l + d) with
    | some t => rfl
    | none =>
      have e : jhgt c s (l + (d + 1)) = (jhgt c s (l + d)).bind _ := rfl
      rw [e, q] at h
      cases h
def jhold (g : jGh) (k top i : Int) : Prop := ∃ ln t : Nat, k = 436 + 4 * (ln : Int) ∧ (ln : Int) < (g.2.2.2.1 435).toInt ∧ (g.2.2.2.1 (438 + 4 * ln)).toInt ≤ i ∧ i ≤ (g.2.2.2.1 (439 + 4 * ln)).toInt ∧ jhgt g.2.2.2.1 (g.2.2.2.1 (438 + 4 * ln)).toInt.toNat (i.toNat - (g.2.2.2.1 (438 + 4 * ln)).toInt.toNat) = some t ∧ top = (t : Int)
theorem jw_eq {g : jGh} {j v : Int32} {k : Nat} (p : jRw g j.toInt.toNat v) (hj : j.toInt = (k : Int)) (h1 : 435 ≤ k) (_ : k < 1284) : v = g.2.2.2.1 k := by
  have e : j.toInt.toNat = k := by omega
  rw [e] at p
  rcases p.2 with q | q
  · omega
  · exact q
theorem jw435 {g : jGh} {v : Int32} (hg : jgok g) (p : jRw g (435 : Int32).toInt.toNat v) : v.toInt = (g.2.2.2.1 435).toInt ∧ 0 ≤ v.toInt ∧ v.toInt ≤ 12 := by
  have e := jw_eq (k := 435) p rfl (by omega) (by omega)
  have h := hg.2.2.2
  rw [e]
  exact ⟨rfl, h.1, h.2.1⟩
theorem jhold_bd {g : jGh} {k top i : Int} (hg : jgok g) (H : jhold g k top i) : 436 ≤ k ∧ k ≤ 480 ∧ 0 ≤ i ∧ i ≤ 400 ∧ 0 ≤ top ∧ top ≤ i := by
  obtain ⟨ln, t, h1, h2, h3, h4, h5, h6⟩ := H
  obtain ⟨b1, b2, b3⟩ := hg.2.2.2
  obtain ⟨c1, c2, c3, c4⟩ := b3 ln h2
  have := jhgt_le _ _ h5
  omega
theorem jhold_step {g : jGh} {k top i : Int} {j m v32 v48 : Int32} (hg : jgok g) (H : jhold g k top i) (p32 : jRw g j.toInt.toNat v32) (hj : j.toInt = k + 3) (hlt : i < v32.toInt) (p48 : jRw g m.toInt.toNat v48) (hm : m.toInt = 484 + 2 * i) :
    i ≤ 399 ∧ top ≤ 399 ∧ (v48.toInt ≤ 11 → jhold g k (top + 1) (i + 1)) ∧ (v48.toInt = 15 → 1 ≤ top ∧ jhold g k top (i + 1)) ∧ (11 < v48.toInt → ¬ v48.toInt = 15 → 2 ≤ top ∧ jhold g k (top - 1) (i + 1)) := by
  have hb := jhold_bd hg H
  obtain ⟨ln, t, h1, h2, h3, h4, h5, h6⟩ := H
  obtain ⟨b1, b2, b3⟩ := hg.2.2.2
  obtain ⟨c1, c2, c3, c4⟩ := b3 ln h2
  have e32 : v32 = g.2.2.2.1 (439 + 4 * ln) := jw_eq (k := 439 + 4 * ln) p32 (by omega) (by omega) (by omega)
  rw [e32] at hlt
  have e48 : v48 = g.2.2.2.1 (484 + 2 * i.toNat) := jw_eq (k := 484 + 2 * i.toNat) p48 (by omega) (by omega) (by omega)
  have ht := jhgt_le _ _ h5
  generalize hs : (g.2.2.2.1 (438 + 4 * ln)).toInt = s at *
  generalize he : (g.2.2.2.1 (439 + 4 * ln)).toInt = e at *
  have hl : (i + 1).toNat - s.toNat = (i.toNat - s.toNat) + 1 := by omega
  have hq : (jhgt g.2.2.2.1 s.toNat ((i.toNat - s.toNat) + 1)).isSome = true := jhgt_some (e.toNat - s.toNat - ((i.toNat - s.toNat) + 1)) _ (by rw [show (i.toNat - s.toNat) + 1 + (e.toNat - s.toNat - ((i.toNat - s.toNat) + 1)) = e.toNat - s.toNat by omega]; exact c4)
  have hx : jhgt g.2.2.2.1 s.toNat ((i.toNat - s.toNat) + 1) = (if v48.toInt ≤ 11 then some (t + 1) else if v48.toInt = 15 then (if 1 ≤ t then some t else none) else (if 2 ≤ t then some (t - 1) else none)) := by
    show (jhgt g.2.2.2.1 s.toNat (i.toNat - s.toNat)).bind _ = _
    rw [h5]
    show (if (g.2.2.2.1 (484 + 2 * (s.toNat + (i.toNat - s.toNat)))).toInt ≤ 11 then _ else _) = _
    rw [show s.toNat + (i.toNat - s.toNat) = i.toNat by omega, ← e48]
  refine ⟨by omega, by omega, fun q => ?_, fun q => ?_, fun q1 q2 => ?_⟩
  · rw [if_pos q] at hx
    exact ⟨ln, t + 1, h1, h2, by omega, by omega, by rw [hs, hl]; exact hx, by omega⟩
  · rw [if_neg (by omega), if_pos q] at hx
    by_cases q9 : 1 ≤ t
    · rw [if_pos q9] at hx
      exact ⟨by omega, ln, t, h1, h2, by omega, by omega, by rw [hs, hl]; exact hx, by omega⟩
    · rw [if_neg q9] at hx
      rw [hx] at hq
      cases hq
  · rw [if_neg (by omega), if_neg q2] at hx
    by_cases q9 : 2 ≤ t
    · rw [if_pos q9] at hx
      exact ⟨by omega, ln, t - 1, h1, h2, by omega, by omega, by rw [hs, hl]; exact hx, by omega⟩
    · rw [if_neg q9] at hx
      rw [hx] at hq
      cases hq
theorem jhold_c {g : jGh} {k k2 a a2 b b2 : Int} (H : jhold g k a b) (h0 : k2 = k) (h1 : a2 = a) (h2 : b2 = b) : jhold g k2 a2 b2 := by
  subst h0 h1 h2
  exact H
theorem jhold_0 {g : jGh} {x1 : Int} {j v19 : Int32} (hg : jgok g) (h0 : 0 ≤ x1) (hl : x1 < (g.2.2.2.1 435).toInt) (p19 : jRw g j.toInt.toNat v19) (hj : j.toInt = 438 + 4 * x1) : jhold g (436 + 4 * x1) 0 v19.toInt := by
  obtain ⟨b1, b2, b3⟩ := hg.2.2.2
  obtain ⟨ln, rfl⟩ := Int.eq_ofNat_of_zero_le h0
  obtain ⟨c1, c2, c3, c4⟩ := b3 ln hl
  have e19 : v19 = g.2.2.2.1 (438 + 4 * ln) := jw_eq (k := 438 + 4 * ln) p19 (by omega) (by omega) (by omega)
  refine ⟨ln, 0, by omega, hl, by rw [e19]; omega, by rw [e19]; exact c2, ?_, rfl⟩
  rw [e19, Nat.sub_self]
  rfl
set_option maxHeartbeats 1000000 in
theorem S_X12_factOf {g : jGh} {Γ : Nat → Option Nat} {n : Nat} {a0 : Nat} {x1 : Int32} {x2 : Int32} {x3 : Int32} {h : jH} (hn : 6000 ≤ n) (hg : jgok g) (w : jW (jKd g) Γ h) (ta0 : Γ a0 = some 20) (lx3 : 0 ≤ x3.toInt) (ux3 : x3.toInt ≤ 7) : jok (F_X12_factOf n a0 x1 x2 x3 h) (fun v => True) := by
  unfold F_X12_factOf
  have f1 : ((0 : Int32)).toInt = 0 := rfl
  refine jok_eq (fun c2 d2 => ?_) (fun c2 => ?_)
  · exact jok_s trivial
  · have f3 : ((1 : Int32)).toInt = 1 := rfl
    refine jok_eq (fun c4 d4 => ?_) (fun c4 => ?_)
    · try rw [t_cv w ta0 rfl]
      refine jok_b (S_X12_of hn hg w ta0 (by omega) (by omega) (by omega) (by omega)) (fun v65_5 pv65_5 => ?_)
      have pv65_5_9 := pv65_5
      try dsimp only at pv65_5_9
      exact jok_s trivial
    · have f6 : ((2 : Int32)).toInt = 2 := rfl
      refine jok_eq (fun c7 d7 => ?_) (fun c7 => ?_)
      · try rw [t_cv w ta0 rfl]
        refine jok_b (S_X12_gapOf hn hg w ta0 (by omega) (by omega)) (fun v71_8 pv71_8 => ?_)
        exact jok_s trivial
      · have f9 : ((3 : Int32)).toInt = 3 := rfl
        refine jok_eq (fun c10 d10 => ?_) (fun c10 => ?_)
        · try rw [t_cv w ta0 rfl]
          have f12 : ((4 : Int32)).toInt = 4 := rfl
          refine jok_b (S_X12_of hn hg w ta0 (by omega) (by omega) (by omega) (by omega)) (fun v78_11 pv78_11 => ?_)
          have pv78_11_9 := pv78_11
          try dsimp only at pv78_11_9
          exact jok_s trivial
        · have f13 : ((4 : Int32)).toInt = 4 := rfl
          refine jok_eq (fun c14 d14 => ?_) (fun c14 => ?_)
          · try rw [t_cv w ta0 rfl]
            have f16 : ((5 : Int32)).toInt = 5 := rfl
            refine jok_b (S_X12_of hn hg w ta0 (by omega) (by omega) (by omega) (by omega)) (fun v85_15 pv85_15 => ?_)
            have pv85_15_9 := pv85_15
            try dsimp only at pv85_15_9
            exact jok_s trivial
          · have f17 : ((5 : Int32)).toInt = 5 := rfl
            refine jok_eq (fun c18 d18 => ?_) (fun c18 => ?_)
            · refine jok_b (t_gR w ta0 rfl rfl) (fun p90_19 tp90_19 => ?_)
              refine jok_b (t_al w tp90_19 rfl (by omega) (by omega)) (fun v94_20 pv94_20 => ?_)
              exact jok_s trivial
            · have f21 : ((6 : Int32)).toInt = 6 := rfl
              refine jok_eq (fun c22 d22 => ?_) (fun c22 => ?_)
              · refine jok_b (t_gR w ta0 rfl rfl) (fun p97_23 tp97_23 => ?_)
                refine jok_b (t_al w tp97_23 rfl (by omega) (by omega)) (fun v101_24 pv101_24 => ?_)
                exact jok_s trivial
              · have f25 : ((7 : Int32)).toInt = 7 := rfl
                refine jok_eq (fun c26 d26 => ?_) (fun c26 => ?_)
                · try rw [t_cv w ta0 rfl]
                  refine jok_b (S_X12_of hn hg w ta0 (by omega) (by omega) (by omega) (by omega)) (fun v106_27 pv106_27 => ?_)
                  have pv106_27_9 := pv106_27
                  try dsimp only at pv106_27_9
                  exact jok_s trivial
                · have f28 : ((8 : Int32)).toInt = 8 := rfl
                  refine jok_eq (fun c29 d29 => ?_) (fun c29 => ?_)
                  · try rw [t_cv w ta0 rfl]
                    refine jok_b (S_X12_of hn hg w ta0 (by omega) (by omega) (by omega) (by omega)) (fun v113_30 pv113_30 => ?_)
                    have pv113_30_9 := pv113_30
                    try dsimp only at pv113_30_9
                    exact jok_s trivial
                  · have f31 : ((9 : Int32)).toInt = 9 := rfl
                    refine jok_eq (fun c32 d32 => ?_) (fun c32 => ?_)
                    · refine jok_b (t_gR w ta0 rfl rfl) (fun p120_33 tp120_33 => ?_)
                      refine jok_b (t_al w tp120_33 rfl (by omega) (by omega)) (fun v124_34 pv124_34 => ?_)
                      try rw [t_cv w ta0 rfl]
                      refine jok_b (S_X12_isLit hn hg w ta0 (by omega) (by omega)) (fun v125_35 pv125_35 => ?_)
                      obtain ⟨lv125_35, uv125_35⟩ := pv125_35
                      refine jok_eq (fun c36 d36 => ?_) (fun c36 => ?_)
                      · exact jok_s trivial
                      · exact jok_s trivial
                    · have f37 : ((10 : Int32)).toInt = 10 := rfl
                      refine jok_eq (fun c38 d38 => ?_) (fun c38 => ?_)
                      · try rw [t_cv w ta0 rfl]
                        refine jok_b (S_X12_of hn hg w ta0 (by omega) (by omega) (by omega) (by omega)) (fun v141_39 pv141_39 => ?_)
                        have pv141_39_9 := pv141_39
                        try dsimp only at pv141_39_9
                        exact jok_s trivial
                      · exact jok_s trivial
set_option maxHeartbeats 1000000 in
theorem S_X12_holdsLine_22 {g : jGh} {Γ : Nat → Option Nat} {n : Nat} (hn : 6000 ≤ n) (hg : jgok g)  (k : Nat) : ∀ {a0 : Nat} {x2 : Int32} {x3 : Int32} {x4 : Int32} {x5 : Int32} {h : jH}, jW (jKd g) Γ h → (Γ a0 = some 20) → (0 ≤ x2.toInt) → (x2.toInt ≤ 7) → (0 ≤ x3.toInt) → (x3.toInt ≤ 400) → (436 ≤ x4.toInt) → (x4.toInt ≤ 480) → (0 ≤ x5.toInt) → (x5.toInt ≤ 400) → (400 : Int) - x5.toInt < (k : Int) → (jhold g x4.toInt x3.toInt x5.toInt) → jok (F_X12_holdsLine_22 n k a0 x2 x3 x4 x5 h) (fun q => jW (jKd g) Γ q.2 ∧ (fun v : Int32 => 0 ≤ v.toInt ∧ v.toInt ≤ 1) q.1) := by
  induction k with
  | zero =>
    intro a0 x2 x3 x4 x5 h w ta0 lx2 ux2 lx3 ux3 lx4 ux4 lx5 ux5 mk hv
    omega
  | succ k ih =>
    intro a0 x2 x3 x4 x5 h w ta0 lx2 ux2 lx3 ux3 lx4 ux4 lx5 ux5 mk hv
    show jok (F_X12_holdsLine_22_b n (F_X12_holdsLine_22 n k) a0 x2 x3 x4 x5 h) _
    unfold F_X12_holdsLine_22_b
    refine jok_b (t_gR w ta0 rfl rfl) (fun p25_1 tp25_1 => ?_)
    have f3 : ((3 : Int32)).toInt = 3 := rfl
    have f4 : ((x4 + (3 : Int32))).toInt = (x4).toInt + ((3 : Int32)).toInt := jadd (by omega) (by omega)
    refine jok_b (t_al w tp25_1 rfl (by omega) (by omega)) (fun v32_2 pv32_2 => ?_)
    refine jok_le (fun c5 => ?_) (fun c5 => ?_)
    · have f6 : ((0 : Int32)).toInt = 0 := rfl
      refine jok_eq (fun c7 d7 => ?_) (fun c7 => ?_)
      · have f8 : ((1 : Int32)).toInt = 1 := rfl
        exact jok_s ⟨w, (show jI 0 1 (1 : Int32) from ⟨by omega, by omega⟩)⟩
      · refine jok_b (t_gR w ta0 rfl rfl) (fun p268_9 tp268_9 => ?_)
        refine jok_b (t_al w tp268_9 rfl (by omega) (by omega)) (fun v272_10 pv272_10 => ?_)
        have f11 : ((1 : Int32)).toInt = 1 := rfl
        refine jok_eq (fun c12 d12 => ?_) (fun c12 => ?_)
        · exact jok_s ⟨w, (show jI 0 1 (1 : Int32) from ⟨by omega, by omega⟩)⟩
        · exact jok_s ⟨w, (show jI 0 1 (0 : Int32) from ⟨by omega, by omega⟩)⟩
    · refine jok_b (t_gR w ta0 rfl rfl) (fun p37_13 tp37_13 => ?_)
      have f15 : ((484 : Int32)).toInt = 484 := rfl
      have f16 : ((2 : Int32)).toInt = 2 := rfl
      have f17 : (((2 : Int32) * x5)).toInt = 2 * (x5).toInt := jmulL (c := 2) (by omega) (by omega) (by omega)
      have f18 : (((484 : Int32) + ((2 : Int32) * x5))).toInt = ((484 : Int32)).toInt + (((2 : Int32) * x5)).toInt := jadd (by omega) (by omega)
      refine jok_b (t_al w tp37_13 rfl (by omega) (by omega)) (fun v48_14 pv48_14 => ?_)
      have f19 : ((11 : Int32)).toInt = 11 := rfl
      refine jok_lt (fun c20 => ?_) (fun c20 => ?_)
      · have f21 : ((15 : Int32)).toInt = 15 := rfl
        refine jok_eq (fun c22 d22 => ?_) (fun c22 => ?_)
        · have hs := jhold_step hg hv pv32_2 (by omega) (by omega) pv48_14 (by omega)
          have hb1 := hs.1
          have hb2 := hs.2.1
          have hb3 := (hs.2.2.2.1 (by omega)).1
          refine jok_b (t_gR w ta0 rfl rfl) (fun p100_23 tp100_23 => ?_)
          refine jok_b (t_gR w ta0 rfl rfl) (fun p108_24 tp108_24 => ?_)
          have f26 : ((1 : Int32)).toInt = 1 := rfl
          have f27 : ((x3 - (1 : Int32))).toInt = (x3).toInt - ((1 : Int32)).toInt := jsub (by omega) (by omega)
          refine jok_b (t_al w tp108_24 rfl (by omega) (by omega)) (fun v114_25 pv114_25 => ?_)
          refine jok_b (t_as w tp100_23 rfl (by omega) (by omega) trivial (fun q => by cases q)) (fun h116_28 wh116_28 => ?_)
          obtain ⟨wh116_28, rh116_28⟩ := wh116_28
          have f29 : ((x5 + (1 : Int32))).toInt = (x5).toInt + ((1 : Int32)).toInt := jadd (by omega) (by omega)
          exact ih wh116_28 ta0 (by omega) (by omega) (by omega) (by omega) (by omega) (by omega) (by omega) (by omega) (by omega) (jhold_c (hs.2.2.2.1 (by omega)).2 rfl (by omega) (by omega))
        · have hs := jhold_step hg hv pv32_2 (by omega) (by omega) pv48_14 (by omega)
          have hb1 := hs.1
          have hb2 := hs.2.1
          have hb3 := (hs.2.2.2.2 (by omega) (by omega)).1
          refine jok_b (t_gR w ta0 rfl rfl) (fun p124_30 tp124_30 => ?_)
          obtain ⟨y32, hy32⟩ : ∃ y : Int32, y = (x3 + (-1 : Int32)) := ⟨_, rfl⟩
          have fy32 : (y32).toInt = (x3).toInt - 1 := by rw [hy32]; exact jaddN rfl (by omega) (by omega)
          try rw [← hy32]
          have f33 : ((1 : Int32)).toInt = 1 := rfl
          have f34 : ((y32 - (1 : Int32))).toInt = (y32).toInt - ((1 : Int32)).toInt := jsub (by omega) (by omega)
          refine jok_b (t_al w tp124_30 rfl (by omega) (by omega)) (fun v130_31 pv130_31 => ?_)
          refine jok_b (t_gR w ta0 rfl rfl) (fun p134_35 tp134_35 => ?_)
          refine jok_b (t_al w tp134_35 rfl (by omega) (by omega)) (fun v138_36 pv138_36 => ?_)
          have f37 : ((13 : Int32)).toInt = 13 := rfl
          refine jok_eq (fun c38 d38 => ?_) (fun c38 => ?_)
          · refine jok_le (fun c39 => ?_) (fun c39 => ?_)
            · unfold F_X12_holdsLine_222
              refine jok_b (t_gR w ta0 rfl rfl) (fun p225_40 tp225_40 => ?_)
              have f41 : ((12 : Int32)).toInt = 12 := rfl
              refine jok_eq (fun c42 d42 => ?_) (fun c42 => ?_)
              · refine jok_b (t_as w tp225_40 rfl (by omega) (by omega) trivial (fun q => by cases q)) (fun h256_43 wh256_43 => ?_)
                obtain ⟨wh256_43, rh256_43⟩ := wh256_43
                have f44 : ((x5 + (1 : Int32))).toInt = (x5).toInt + ((1 : Int32)).toInt := jadd (by omega) (by omega)
                exact ih wh256_43 ta0 (by omega) (by omega) (by omega) (by omega) (by omega) (by omega) (by omega) (by omega) (by omega) (jhold_c (hs.2.2.2.2 (by omega) (by omega)).2 rfl (by omega) (by omega))
              · have f45 : ((0 : Int32)).toInt = 0 := rfl
                refine jok_eq (fun c46 d46 => ?_) (fun c46 => ?_)
                · refine jok_b (t_as w tp225_40 rfl (by omega) (by omega) trivial (fun q => by cases q)) (fun h256_47 wh256_47 => ?_)
                  obtain ⟨wh256_47, rh256_47⟩ := wh256_47
                  have f48 : ((x5 + (1 : Int32))).toInt = (x5).toInt + ((1 : Int32)).toInt := jadd (by omega) (by omega)
                  exact ih wh256_47 ta0 (by omega) (by omega) (by omega) (by omega) (by omega) (by omega) (by omega) (by omega) (by omega) (jhold_c (hs.2.2.2.2 (by omega) (by omega)).2 rfl (by omega) (by omega))
                · refine jok_b (t_as w tp225_40 rfl (by omega) (by omega) trivial (fun q => by cases q)) (fun h256_49 wh256_49 => ?_)
                  obtain ⟨wh256_49, rh256_49⟩ := wh256_49
                  have f50 : ((x5 + (1 : Int32))).toInt = (x5).toInt + ((1 : Int32)).toInt := jadd (by omega) (by omega)
                  exact ih wh256_49 ta0 (by omega) (by omega) (by omega) (by omega) (by omega) (by omega) (by omega) (by omega) (by omega) (jhold_c (hs.2.2.2.2 (by omega) (by omega)).2 rfl (by omega) (by omega))
            · unfold F_X12_holdsLine_222
              refine jok_b (t_gR w ta0 rfl rfl) (fun p225_51 tp225_51 => ?_)
              have f52 : ((12 : Int32)).toInt = 12 := rfl
              refine jok_eq (fun c53 d53 => ?_) (fun c53 => ?_)
              · refine jok_b (t_as w tp225_51 rfl (by omega) (by omega) trivial (fun q => by cases q)) (fun h256_54 wh256_54 => ?_)
                obtain ⟨wh256_54, rh256_54⟩ := wh256_54
                have f55 : ((x5 + (1 : Int32))).toInt = (x5).toInt + ((1 : Int32)).toInt := jadd (by omega) (by omega)
                exact ih wh256_54 ta0 (by omega) (by omega) (by omega) (by omega) (by omega) (by omega) (by omega) (by omega) (by omega) (jhold_c (hs.2.2.2.2 (by omega) (by omega)).2 rfl (by omega) (by omega))
              · have f56 : ((0 : Int32)).toInt = 0 := rfl
                refine jok_eq (fun c57 d57 => ?_) (fun c57 => ?_)
                · refine jok_b (t_as w tp225_51 rfl (by omega) (by omega) trivial (fun q => by cases q)) (fun h256_58 wh256_58 => ?_)
                  obtain ⟨wh256_58, rh256_58⟩ := wh256_58
                  have f59 : ((x5 + (1 : Int32))).toInt = (x5).toInt + ((1 : Int32)).toInt := jadd (by omega) (by omega)
                  exact ih wh256_58 ta0 (by omega) (by omega) (by omega) (by omega) (by omega) (by omega) (by omega) (by omega) (by omega) (jhold_c (hs.2.2.2.2 (by omega) (by omega)).2 rfl (by omega) (by omega))
                · refine jok_b (t_as w tp225_51 rfl (by omega) (by omega) trivial (fun q => by cases q)) (fun h256_60 wh256_60 => ?_)
                  obtain ⟨wh256_60, rh256_60⟩ := wh256_60
                  have f61 : ((x5 + (1 : Int32))).toInt = (x5).toInt + ((1 : Int32)).toInt := jadd (by omega) (by omega)
                  exact ih wh256_60 ta0 (by omega) (by omega) (by omega) (by omega) (by omega) (by omega) (by omega) (by omega) (by omega) (jhold_c (hs.2.2.2.2 (by omega) (by omega)).2 rfl (by omega) (by omega))
          · have f62 : ((14 : Int32)).toInt = 14 := rfl
            refine jok_eq (fun c63 d63 => ?_) (fun c63 => ?_)
            · refine jok_le (fun c64 => ?_) (fun c64 => ?_)
              · unfold F_X12_holdsLine_222
                refine jok_b (t_gR w ta0 rfl rfl) (fun p225_65 tp225_65 => ?_)
                have f66 : ((12 : Int32)).toInt = 12 := rfl
                refine jok_eq (fun c67 d67 => ?_) (fun c67 => ?_)
                · refine jok_b (t_as w tp225_65 rfl (by omega) (by omega) trivial (fun q => by cases q)) (fun h256_68 wh256_68 => ?_)
                  obtain ⟨wh256_68, rh256_68⟩ := wh256_68
                  have f69 : ((x5 + (1 : Int32))).toInt = (x5).toInt + ((1 : Int32)).toInt := jadd (by omega) (by omega)
                  exact ih wh256_68 ta0 (by omega) (by omega) (by omega) (by omega) (by omega) (by omega) (by omega) (by omega) (by omega) (jhold_c (hs.2.2.2.2 (by omega) (by omega)).2 rfl (by omega) (by omega))
                · have f70 : ((0 : Int32)).toInt = 0 := rfl
                  refine jok_eq (fun c71 d71 => ?_) (fun c71 => ?_)
                  · refine jok_b (t_as w tp225_65 rfl (by omega) (by omega) trivial (fun q => by cases q)) (fun h256_72 wh256_72 => ?_)
                    obtain ⟨wh256_72, rh256_72⟩ := wh256_72
                    have f73 : ((x5 + (1 : Int32))).toInt = (x5).toInt + ((1 : Int32)).toInt := jadd (by omega) (by omega)
                    exact ih wh256_72 ta0 (by omega) (by omega) (by omega) (by omega) (by omega) (by omega) (by omega) (by omega) (by omega) (jhold_c (hs.2.2.2.2 (by omega) (by omega)).2 rfl (by omega) (by omega))
                  · refine jok_b (t_as w tp225_65 rfl (by omega) (by omega) trivial (fun q => by cases q)) (fun h256_74 wh256_74 => ?_)
                    obtain ⟨wh256_74, rh256_74⟩ := wh256_74
                    have f75 : ((x5 + (1 : Int32))).toInt = (x5).toInt + ((1 : Int32)).toInt := jadd (by omega) (by omega)
                    exact ih wh256_74 ta0 (by omega) (by omega) (by omega) (by omega) (by omega) (by omega) (by omega) (by omega) (by omega) (jhold_c (hs.2.2.2.2 (by omega) (by omega)).2 rfl (by omega) (by omega))
              · unfold F_X12_holdsLine_222
                refine jok_b (t_gR w ta0 rfl rfl) (fun p225_76 tp225_76 => ?_)
                have f77 : ((12 : Int32)).toInt = 12 := rfl
                refine jok_eq (fun c78 d78 => ?_) (fun c78 => ?_)
                · refine jok_b (t_as w tp225_76 rfl (by omega) (by omega) trivial (fun q => by cases q)) (fun h256_79 wh256_79 => ?_)
                  obtain ⟨wh256_79, rh256_79⟩ := wh256_79
                  have f80 : ((x5 + (1 : Int32))).toInt = (x5).toInt + ((1 : Int32)).toInt := jadd (by omega) (by omega)
                  exact ih wh256_79 ta0 (by omega) (by omega) (by omega) (by omega) (by omega) (by omega) (by omega) (by omega) (by omega) (jhold_c (hs.2.2.2.2 (by omega) (by omega)).2 rfl (by omega) (by omega))
                · have f81 : ((0 : Int32)).toInt = 0 := rfl
                  refine jok_eq (fun c82 d82 => ?_) (fun c82 => ?_)
                  · refine jok_b (t_as w tp225_76 rfl (by omega) (by omega) trivial (fun q => by cases q)) (fun h256_83 wh256_83 => ?_)
                    obtain ⟨wh256_83, rh256_83⟩ := wh256_83
                    have f84 : ((x5 + (1 : Int32))).toInt = (x5).toInt + ((1 : Int32)).toInt := jadd (by omega) (by omega)
                    exact ih wh256_83 ta0 (by omega) (by omega) (by omega) (by omega) (by omega) (by omega) (by omega) (by omega) (by omega) (jhold_c (hs.2.2.2.2 (by omega) (by omega)).2 rfl (by omega) (by omega))
                  · refine jok_b (t_as w tp225_76 rfl (by omega) (by omega) trivial (fun q => by cases q)) (fun h256_85 wh256_85 => ?_)
                    obtain ⟨wh256_85, rh256_85⟩ := wh256_85
                    have f86 : ((x5 + (1 : Int32))).toInt = (x5).toInt + ((1 : Int32)).toInt := jadd (by omega) (by omega)
                    exact ih wh256_85 ta0 (by omega) (by omega) (by omega) (by omega) (by omega) (by omega) (by omega) (by omega) (by omega) (jhold_c (hs.2.2.2.2 (by omega) (by omega)).2 rfl (by omega) (by omega))
            · have f87 : ((16 : Int32)).toInt = 16 := rfl
              refine jok_eq (fun c88 d88 => ?_) (fun c88 => ?_)
              · refine jok_eq (fun c89 d89 => ?_) (fun c89 => ?_)
                · unfold F_X12_holdsLine_222
                  refine jok_b (t_gR w ta0 rfl rfl) (fun p225_90 tp225_90 => ?_)
                  have f91 : ((12 : Int32)).toInt = 12 := rfl
                  refine jok_eq (fun c92 d92 => ?_) (fun c92 => ?_)
                  · refine jok_b (t_as w tp225_90 rfl (by omega) (by omega) trivial (fun q => by cases q)) (fun h256_93 wh256_93 => ?_)
                    obtain ⟨wh256_93, rh256_93⟩ := wh256_93
                    have f94 : ((x5 + (1 : Int32))).toInt = (x5).toInt + ((1 : Int32)).toInt := jadd (by omega) (by omega)
                    exact ih wh256_93 ta0 (by omega) (by omega) (by omega) (by omega) (by omega) (by omega) (by omega) (by omega) (by omega) (jhold_c (hs.2.2.2.2 (by omega) (by omega)).2 rfl (by omega) (by omega))
                  · have f95 : ((0 : Int32)).toInt = 0 := rfl
                    refine jok_eq (fun c96 d96 => ?_) (fun c96 => ?_)
                    · refine jok_b (t_as w tp225_90 rfl (by omega) (by omega) trivial (fun q => by cases q)) (fun h256_97 wh256_97 => ?_)
                      obtain ⟨wh256_97, rh256_97⟩ := wh256_97
                      have f98 : ((x5 + (1 : Int32))).toInt = (x5).toInt + ((1 : Int32)).toInt := jadd (by omega) (by omega)
                      exact ih wh256_97 ta0 (by omega) (by omega) (by omega) (by omega) (by omega) (by omega) (by omega) (by omega) (by omega) (jhold_c (hs.2.2.2.2 (by omega) (by omega)).2 rfl (by omega) (by omega))
                    · refine jok_b (t_as w tp225_90 rfl (by omega) (by omega) trivial (fun q => by cases q)) (fun h256_99 wh256_99 => ?_)
                      obtain ⟨wh256_99, rh256_99⟩ := wh256_99
                      have f100 : ((x5 + (1 : Int32))).toInt = (x5).toInt + ((1 : Int32)).toInt := jadd (by omega) (by omega)
                      exact ih wh256_99 ta0 (by omega) (by omega) (by omega) (by omega) (by omega) (by omega) (by omega) (by omega) (by omega) (jhold_c (hs.2.2.2.2 (by omega) (by omega)).2 rfl (by omega) (by omega))
                · unfold F_X12_holdsLine_222
                  refine jok_b (t_gR w ta0 rfl rfl) (fun p225_101 tp225_101 => ?_)
                  have f102 : ((12 : Int32)).toInt = 12 := rfl
                  refine jok_eq (fun c103 d103 => ?_) (fun c103 => ?_)
                  · refine jok_b (t_as w tp225_101 rfl (by omega) (by omega) trivial (fun q => by cases q)) (fun h256_104 wh256_104 => ?_)
                    obtain ⟨wh256_104, rh256_104⟩ := wh256_104
                    have f105 : ((x5 + (1 : Int32))).toInt = (x5).toInt + ((1 : Int32)).toInt := jadd (by omega) (by omega)
                    exact ih wh256_104 ta0 (by omega) (by omega) (by omega) (by omega) (by omega) (by omega) (by omega) (by omega) (by omega) (jhold_c (hs.2.2.2.2 (by omega) (by omega)).2 rfl (by omega) (by omega))
                  · have f106 : ((0 : Int32)).toInt = 0 := rfl
                    refine jok_eq (fun c107 d107 => ?_) (fun c107 => ?_)
                    · refine jok_b (t_as w tp225_101 rfl (by omega) (by omega) trivial (fun q => by cases q)) (fun h256_108 wh256_108 => ?_)
                      obtain ⟨wh256_108, rh256_108⟩ := wh256_108
                      have f109 : ((x5 + (1 : Int32))).toInt = (x5).toInt + ((1 : Int32)).toInt := jadd (by omega) (by omega)
                      exact ih wh256_108 ta0 (by omega) (by omega) (by omega) (by omega) (by omega) (by omega) (by omega) (by omega) (by omega) (jhold_c (hs.2.2.2.2 (by omega) (by omega)).2 rfl (by omega) (by omega))
                    · refine jok_b (t_as w tp225_101 rfl (by omega) (by omega) trivial (fun q => by cases q)) (fun h256_110 wh256_110 => ?_)
                      obtain ⟨wh256_110, rh256_110⟩ := wh256_110
                      have f111 : ((x5 + (1 : Int32))).toInt = (x5).toInt + ((1 : Int32)).toInt := jadd (by omega) (by omega)
                      exact ih wh256_110 ta0 (by omega) (by omega) (by omega) (by omega) (by omega) (by omega) (by omega) (by omega) (by omega) (jhold_c (hs.2.2.2.2 (by omega) (by omega)).2 rfl (by omega) (by omega))
              · have f112 : ((0 : Int32)).toInt = 0 := rfl
                refine jok_le (fun c113 => ?_) (fun c113 => ?_)
                · unfold F_X12_holdsLine_222
                  refine jok_b (t_gR w ta0 rfl rfl) (fun p225_114 tp225_114 => ?_)
                  have f115 : ((12 : Int32)).toInt = 12 := rfl
                  refine jok_eq (fun c116 d116 => ?_) (fun c116 => ?_)
                  · refine jok_b (t_as w tp225_114 rfl (by omega) (by omega) trivial (fun q => by cases q)) (fun h256_117 wh256_117 => ?_)
                    obtain ⟨wh256_117, rh256_117⟩ := wh256_117
                    have f118 : ((x5 + (1 : Int32))).toInt = (x5).toInt + ((1 : Int32)).toInt := jadd (by omega) (by omega)
                    exact ih wh256_117 ta0 (by omega) (by omega) (by omega) (by omega) (by omega) (by omega) (by omega) (by omega) (by omega) (jhold_c (hs.2.2.2.2 (by omega) (by omega)).2 rfl (by omega) (by omega))
                  · refine jok_eq (fun c119 d119 => ?_) (fun c119 => ?_)
                    · refine jok_b (t_as w tp225_114 rfl (by omega) (by omega) trivial (fun q => by cases q)) (fun h256_120 wh256_120 => ?_)
                      obtain ⟨wh256_120, rh256_120⟩ := wh256_120
                      have f121 : ((x5 + (1 : Int32))).toInt = (x5).toInt + ((1 : Int32)).toInt := jadd (by omega) (by omega)
                      exact ih wh256_120 ta0 (by omega) (by omega) (by omega) (by omega) (by omega) (by omega) (by omega) (by omega) (by omega) (jhold_c (hs.2.2.2.2 (by omega) (by omega)).2 rfl (by omega) (by omega))
                    · refine jok_b (t_as w tp225_114 rfl (by omega) (by omega) trivial (fun q => by cases q)) (fun h256_122 wh256_122 => ?_)
                      obtain ⟨wh256_122, rh256_122⟩ := wh256_122
                      have f123 : ((x5 + (1 : Int32))).toInt = (x5).toInt + ((1 : Int32)).toInt := jadd (by omega) (by omega)
                      exact ih wh256_122 ta0 (by omega) (by omega) (by omega) (by omega) (by omega) (by omega) (by omega) (by omega) (by omega) (jhold_c (hs.2.2.2.2 (by omega) (by omega)).2 rfl (by omega) (by omega))
                · unfold F_X12_holdsLine_222
                  refine jok_b (t_gR w ta0 rfl rfl) (fun p225_124 tp225_124 => ?_)
                  have f125 : ((12 : Int32)).toInt = 12 := rfl
                  refine jok_eq (fun c126 d126 => ?_) (fun c126 => ?_)
                  · refine jok_b (t_as w tp225_124 rfl (by omega) (by omega) trivial (fun q => by cases q)) (fun h256_127 wh256_127 => ?_)
                    obtain ⟨wh256_127, rh256_127⟩ := wh256_127
                    have f128 : ((x5 + (1 : Int32))).toInt = (x5).toInt + ((1 : Int32)).toInt := jadd (by omega) (by omega)
                    exact ih wh256_127 ta0 (by omega) (by omega) (by omega) (by omega) (by omega) (by omega) (by omega) (by omega) (by omega) (jhold_c (hs.2.2.2.2 (by omega) (by omega)).2 rfl (by omega) (by omega))
                  · refine jok_eq (fun c129 d129 => ?_) (fun c129 => ?_)
                    · refine jok_b (t_as w tp225_124 rfl (by omega) (by omega) trivial (fun q => by cases q)) (fun h256_130 wh256_130 => ?_)
                      obtain ⟨wh256_130, rh256_130⟩ := wh256_130
                      have f131 : ((x5 + (1 : Int32))).toInt = (x5).toInt + ((1 : Int32)).toInt := jadd (by omega) (by omega)
                      exact ih wh256_130 ta0 (by omega) (by omega) (by omega) (by omega) (by omega) (by omega) (by omega) (by omega) (by omega) (jhold_c (hs.2.2.2.2 (by omega) (by omega)).2 rfl (by omega) (by omega))
                    · refine jok_b (t_as w tp225_124 rfl (by omega) (by omega) trivial (fun q => by cases q)) (fun h256_132 wh256_132 => ?_)
                      obtain ⟨wh256_132, rh256_132⟩ := wh256_132
                      have f133 : ((x5 + (1 : Int32))).toInt = (x5).toInt + ((1 : Int32)).toInt := jadd (by omega) (by omega)
                      exact ih wh256_132 ta0 (by omega) (by omega) (by omega) (by omega) (by omega) (by omega) (by omega) (by omega) (by omega) (jhold_c (hs.2.2.2.2 (by omega) (by omega)).2 rfl (by omega) (by omega))
      · have hs := jhold_step hg hv pv32_2 (by omega) (by omega) pv48_14 (by omega)
        have hb1 := hs.1
        have hb2 := hs.2.1
        refine jok_b (t_gR w ta0 rfl rfl) (fun p59_134 tp59_134 => ?_)
        refine jok_b (t_gR w ta0 rfl rfl) (fun p67_135 tp67_135 => ?_)
        have f137 : ((1 : Int32)).toInt = 1 := rfl
        have f138 : ((((484 : Int32) + ((2 : Int32) * x5)) + (1 : Int32))).toInt = (((484 : Int32) + ((2 : Int32) * x5))).toInt + ((1 : Int32)).toInt := jadd (by omega) (by omega)
        refine jok_b (t_al w tp67_135 rfl (by omega) (by omega)) (fun v80_136 pv80_136 => ?_)
        try rw [t_cv w ta0 rfl]
        refine jok_b (S_X12_factOf hn hg w ta0 (by omega) (by omega)) (fun v82_139 pv82_139 => ?_)
        refine jok_b (t_as w tp59_134 rfl (by omega) (by omega) trivial (fun q => by cases q)) (fun h85_140 wh85_140 => ?_)
        obtain ⟨wh85_140, rh85_140⟩ := wh85_140
        have f141 : ((x3 + (1 : Int32))).toInt = (x3).toInt + ((1 : Int32)).toInt := jadd (by omega) (by omega)
        have f142 : ((x5 + (1 : Int32))).toInt = (x5).toInt + ((1 : Int32)).toInt := jadd (by omega) (by omega)
        exact ih wh85_140 ta0 (by omega) (by omega) (by omega) (by omega) (by omega) (by omega) (by omega) (by omega) (by omega) (jhold_c (hs.2.2.1 (by omega)) rfl (by omega) (by omega))
set_option maxHeartbeats 1000000 in
theorem S_X12_holdsLine {g : jGh} {Γ : Nat → Option Nat} {n : Nat} {a0 : Nat} {x1 : Int32} {x2 : Int32} {h : jH} (hn : 6000 ≤ n) (hg : jgok g) (w : jW (jKd g) Γ h) (ta0 : Γ a0 = some 20) (lx1 : 0 ≤ x1.toInt) (ux1 : x1.toInt ≤ 11) (lx2 : 0 ≤ x2.toInt) (ux2 : x2.toInt ≤ 7) (hl : x1.toInt < (g.2.2.2.1 435).toInt) : jok (F_X12_holdsLine n a0 x1 x2 h) (fun q => jW (jKd g) Γ q.2 ∧ (fun v : Int32 => 0 ≤ v.toInt ∧ v.toInt ≤ 1) q.1) := by
  unfold F_X12_holdsLine
  refine jok_b (t_gR w ta0 rfl rfl) (fun p12_1 tp12_1 => ?_)
  have f3 : ((436 : Int32)).toInt = 436 := rfl
  have f4 : ((4 : Int32)).toInt = 4 := rfl
  have f5 : (((4 : Int32) * x1)).toInt = 4 * (x1).toInt := jmulL (c := 4) (by omega) (by omega) (by omega)
  have f6 : (((436 : Int32) + ((4 : Int32) * x1))).toInt = ((436 : Int32)).toInt + (((4 : Int32) * x1)).toInt := jadd (by omega) (by omega)
  have f7 : ((2 : Int32)).toInt = 2 := rfl
  have f8 : ((((436 : Int32) + ((4 : Int32) * x1)) + (2 : Int32))).toInt = (((436 : Int32) + ((4 : Int32) * x1))).toInt + ((2 : Int32)).toInt := jadd (by omega) (by omega)
  refine jok_b (t_al w tp12_1 rfl (by omega) (by omega)) (fun v19_2 pv19_2 => ?_)
  have hz := jhold_0 hg (by omega) hl pv19_2 (by omega)
  have hz2 := jhold_bd hg hz
  have f9 : ((0 : Int32)).toInt = 0 := rfl
  exact S_X12_holdsLine_22 hn hg  n w ta0 (by omega) (by omega) (by omega) (by omega) (by omega) (by omega) (by omega) (by omega) (by omega) (jhold_c hz (by omega) (by omega) rfl)
set_option maxHeartbeats 1000000 in
theorem S_X12_sumOf_5 {g : jGh} {Γ : Nat → Option Nat} {n : Nat} (hn : 6000 ≤ n) (hg : jgok g)  (k : Nat) : ∀ {a0 : Nat} {x1 : Int32} {x2 : Int32} {x3 : Int32} {x4 : Int32} {h : jH}, jW (jKd g) Γ h → (Γ a0 = some 20) → (0 ≤ x2.toInt) → (x2.toInt ≤ 7) → (0 ≤ x4.toInt) → (x4.toInt ≤ 12) → (12 : Int) - x4.toInt < (k : Int) → jok (F_X12_sumOf_5 n k a0 x1 x2 x3 x4 h) (fun q => jW (jKd g) Γ q.2 ∧ (fun v : Int32 => True) q.1) := by
  induction k with
  | zero =>
    intro a0 x1 x2 x3 x4 h w ta0 lx2 ux2 lx4 ux4 mk
    omega
  | succ k ih =>
    intro a0 x1 x2 x3 x4 h w ta0 lx2 ux2 lx4 ux4 mk
    show jok (F_X12_sumOf_5_b n (F_X12_sumOf_5 n k) a0 x1 x2 x3 x4 h) _
    unfold F_X12_sumOf_5_b
    refine jok_b (t_gR w ta0 rfl rfl) (fun p8_1 tp8_1 => ?_)
    have f3 : ((435 : Int32)).toInt = 435 := rfl
    refine jok_b (t_al w tp8_1 rfl (by omega) (by omega)) (fun v14_2 pv14_2 => ?_)
    have bv14_2 := jw435 hg pv14_2
    obtain ⟨rv14_2, lv14_2, uv14_2⟩ := bv14_2
    refine jok_le (fun c4 => ?_) (fun c4 => ?_)
    · exact jok_s ⟨w, trivial⟩
    · refine jok_b (t_gR w ta0 rfl rfl) (fun p19_5 tp19_5 => ?_)
      have f7 : ((436 : Int32)).toInt = 436 := rfl
      have f8 : ((4 : Int32)).toInt = 4 := rfl
      have f9 : (((4 : Int32) * x4)).toInt = 4 * (x4).toInt := jmulL (c := 4) (by omega) (by omega) (by omega)
      have f10 : (((436 : Int32) + ((4 : Int32) * x4))).toInt = ((436 : Int32)).toInt + (((4 : Int32) * x4)).toInt := jadd (by omega) (by omega)
      refine jok_b (t_al w tp19_5 rfl (by omega) (by omega)) (fun v30_6 pv30_6 => ?_)
      refine jok_eq (fun c11 d11 => ?_) (fun c11 => ?_)
      · try rw [t_cv w ta0 rfl]
        refine jok_b (S_X12_holdsLine hn hg w ta0 (by omega) (by omega) (by omega) (by omega) (by omega)) (fun q39_12 wq39_12 => ?_)
        obtain ⟨wq39_12, pq39_12⟩ := wq39_12
        obtain ⟨lq39_12, uq39_12⟩ := pq39_12
        have f13 : ((0 : Int32)).toInt = 0 := rfl
        refine jok_eq (fun c14 d14 => ?_) (fun c14 => ?_)
        · have f15 : ((1 : Int32)).toInt = 1 := rfl
          have f16 : ((x4 + (1 : Int32))).toInt = (x4).toInt + ((1 : Int32)).toInt := jadd (by omega) (by omega)
          exact ih wq39_12 ta0 (by omega) (by omega) (by omega) (by omega) (by omega)
        · refine jok_b (t_gR wq39_12 ta0 rfl rfl) (fun p47_17 tp47_17 => ?_)
          have f19 : ((1 : Int32)).toInt = 1 := rfl
          have f20 : ((((436 : Int32) + ((4 : Int32) * x4)) + (1 : Int32))).toInt = (((436 : Int32) + ((4 : Int32) * x4))).toInt + ((1 : Int32)).toInt := jadd (by omega) (by omega)
          refine jok_b (t_al wq39_12 tp47_17 rfl (by omega) (by omega)) (fun v60_18 pv60_18 => ?_)
          have f21 : ((x4 + (1 : Int32))).toInt = (x4).toInt + ((1 : Int32)).toInt := jadd (by omega) (by omega)
          exact ih wq39_12 ta0 (by omega) (by omega) (by omega) (by omega) (by omega)
      · have f22 : ((1 : Int32)).toInt = 1 := rfl
        have f23 : ((x4 + (1 : Int32))).toInt = (x4).toInt + ((1 : Int32)).toInt := jadd (by omega) (by omega)
        exact ih w ta0 (by omega) (by omega) (by omega) (by omega) (by omega)
set_option maxHeartbeats 1000000 in
theorem S_X12_sumOf {g : jGh} {Γ : Nat → Option Nat} {n : Nat} {a0 : Nat} {x1 : Int32} {x2 : Int32} {h : jH} (hn : 6000 ≤ n) (hg : jgok g) (w : jW (jKd g) Γ h) (ta0 : Γ a0 = some 20) (lx2 : 0 ≤ x2.toInt) (ux2 : x2.toInt ≤ 7) : jok (F_X12_sumOf n a0 x1 x2 h) (fun q => jW (jKd g) Γ q.2 ∧ (fun v : Int32 => True) q.1) := by
  unfold F_X12_sumOf
  have f1 : ((0 : Int32)).toInt = 0 := rfl
  exact S_X12_sumOf_5 hn hg  n w ta0 (by omega) (by omega) (by omega) (by omega) (by omega)
set_option maxHeartbeats 1000000 in
theorem S_X12_byLaw {g : jGh} {Γ : Nat → Option Nat} {n : Nat} {a0 : Nat} {x1 : Int32} {x2 : Int32} {h : jH} (hn : 6000 ≤ n) (hg : jgok g) (w : jW (jKd g) Γ h) (ta0 : Γ a0 = some 20) (lx2 : 0 ≤ x2.toInt) (ux2 : x2.toInt ≤ 7) : jok (F_X12_byLaw n a0 x1 x2 h) (fun q => jW (jKd g) Γ q.2 ∧ (fun v : Int32 => True) q.1) := by
  unfold F_X12_byLaw
  refine jok_b (t_gR w ta0 rfl rfl) (fun p1_1 tp1_1 => ?_)
  have f3 : ((2 : Int32)).toInt = 2 := rfl
  refine jok_b (t_al w tp1_1 rfl (by omega) (by omega)) (fun v5_2 pv5_2 => ?_)
  have f4 : ((1 : Int32)).toInt = 1 := rfl
  refine jok_eq (fun c5 d5 => ?_) (fun c5 => ?_)
  · try rw [t_cv w ta0 rfl]
    refine jok_b (S_X12_sumOf hn hg w ta0 (by omega) (by omega)) (fun q13_6 wq13_6 => ?_)
    obtain ⟨wq13_6, pq13_6⟩ := wq13_6
    exact jok_s ⟨wq13_6, trivial⟩
  · have f7 : ((0 : Int32)).toInt = 0 := rfl
    refine jok_eq (fun c8 d8 => ?_) (fun c8 => ?_)
    · refine jok_b (t_gR w ta0 rfl rfl) (fun p24_9 tp24_9 => ?_)
      have f11 : ((3 : Int32)).toInt = 3 := rfl
      refine jok_b (t_al w tp24_9 rfl (by omega) (by omega)) (fun v28_10 pv28_10 => ?_)
      try rw [t_cv w ta0 rfl]
      refine jok_b (S_X12_isLit hn hg w ta0 (by omega) (by omega)) (fun v29_12 pv29_12 => ?_)
      obtain ⟨lv29_12, uv29_12⟩ := pv29_12
      refine jok_eq (fun c13 d13 => ?_) (fun c13 => ?_)
      · exact jok_s ⟨w, trivial⟩
      · exact jok_s ⟨w, trivial⟩
    · refine jok_eq (fun c14 d14 => ?_) (fun c14 => ?_)
      · exact jok_s ⟨w, trivial⟩
      · exact jok_s ⟨w, trivial⟩
set_option maxHeartbeats 1000000 in
theorem S_X12_catches_4 {g : jGh} {Γ : Nat → Option Nat} {n : Nat} (hn : 6000 ≤ n) (hg : jgok g)  (k : Nat) : ∀ {a0 : Nat} {x1 : Int32} {x2 : Int32} {h : jH}, jW (jKd g) Γ h → (Γ a0 = some 20) → (0 ≤ x2.toInt) → (x2.toInt ≤ 8) → (8 : Int) - x2.toInt < (k : Int) → jok (F_X12_catches_4 n k a0 x1 x2 h) (fun q => jW (jKd g) Γ q.2 ∧ (fun v : Int32 => True) q.1) := by
  induction k with
  | zero =>
    intro a0 x1 x2 h w ta0 lx2 ux2 mk
    omega
  | succ k ih =>
    intro a0 x1 x2 h w ta0 lx2 ux2 mk
    show jok (F_X12_catches_4_b n (F_X12_catches_4 n k) a0 x1 x2 h) _
    unfold F_X12_catches_4_b
    try rw [t_cv w ta0 rfl]
    refine jok_b2 (S_X12_lastRing hn hg w ta0) (fun v6_1 ev6_1 pv6_1 => ?_)
    obtain ⟨lv6_1, uv6_1⟩ := pv6_1
    refine jok_le (fun c2 => ?_) (fun c2 => ?_)
    · exact jok_s ⟨w, trivial⟩
    · try rw [t_cv w ta0 rfl]
      refine jok_b (S_X12_gapOf hn hg w ta0 (by omega) (by omega)) (fun v14_3 pv14_3 => ?_)
      have f4 : ((1 : Int32)).toInt = 1 := rfl
      refine jok_eq (fun c5 d5 => ?_) (fun c5 => ?_)
      · try rw [t_cv w ta0 rfl]
        have f7 : ((7 : Int32)).toInt = 7 := rfl
        refine jok_b (S_X12_is hn hg w ta0 (by omega) (by omega) (by omega) (by omega)) (fun v25_6 pv25_6 => ?_)
        obtain ⟨lv25_6, uv25_6⟩ := pv25_6
        have f8 : ((0 : Int32)).toInt = 0 := rfl
        refine jok_eq (fun c9 d9 => ?_) (fun c9 => ?_)
        · try rw [t_cv w ta0 rfl]
          have f11 : ((100 : Int32)).toInt = 100 := rfl
          refine jok_b (S_X12_drawn hn hg w ta0 (by omega) (by omega)) (fun q34_10 wq34_10 => ?_)
          obtain ⟨wq34_10, pq34_10⟩ := wq34_10
          try rw [t_cv wq34_10 ta0 rfl]
          refine jok_b (S_X12_byLaw hn hg wq34_10 ta0 (by omega) (by omega)) (fun q40_12 wq40_12 => ?_)
          obtain ⟨wq40_12, pq40_12⟩ := wq40_12
          refine jok_lt (fun c13 => ?_) (fun c13 => ?_)
          · refine jok_b (t_gR wq40_12 ta0 rfl rfl) (fun p50_14 tp50_14 => ?_)
            refine jok_b (S_X12_at hn hg wq40_12 (by omega) (by omega) (by omega) (by omega)) (fun v56_15 pv56_15 => ?_)
            have pv56_15_9 := pv56_15
            try dsimp only at pv56_15_9
            refine jok_b (t_as wq40_12 tp50_14 rfl (by omega) (by omega) (show jRw g (v56_15).toInt.toNat (1 : Int32) from ⟨⟨by omega, by omega, by omega⟩, Or.inl (by omega)⟩) (fun q => by cases q)) (fun h60_16 wh60_16 => ?_)
            obtain ⟨wh60_16, rh60_16⟩ := wh60_16
            try rw [t_cv wh60_16 ta0 rfl]
            refine jok_b (S_X12_tells hn hg wh60_16 ta0 (by omega) (by omega)) (fun h65_17 wh65_17 => ?_)
            have f18 : ((x2 + (1 : Int32))).toInt = (x2).toInt + ((1 : Int32)).toInt := jadd (by omega) (by omega)
            exact ih wh65_17 ta0 (by omega) (by omega) (by omega)
          · have f19 : ((x2 + (1 : Int32))).toInt = (x2).toInt + ((1 : Int32)).toInt := jadd (by omega) (by omega)
            exact ih wq40_12 ta0 (by omega) (by omega) (by omega)
        · have f20 : ((x2 + (1 : Int32))).toInt = (x2).toInt + ((1 : Int32)).toInt := jadd (by omega) (by omega)
          exact ih w ta0 (by omega) (by omega) (by omega)
      · have f21 : ((x2 + (1 : Int32))).toInt = (x2).toInt + ((1 : Int32)).toInt := jadd (by omega) (by omega)
        exact ih w ta0 (by omega) (by omega) (by omega)
set_option maxHeartbeats 1000000 in
theorem S_X12_catches {g : jGh} {Γ : Nat → Option Nat} {n : Nat} {a0 : Nat} {h : jH} (hn : 6000 ≤ n) (hg : jgok g) (w : jW (jKd g) Γ h) (ta0 : Γ a0 = some 20) : jok (F_X12_catches n a0 h) (fun q => jW (jKd g) Γ q.2 ∧ (fun v : Int32 => True) q.1) := by
  unfold F_X12_catches
  have f1 : ((0 : Int32)).toInt = 0 := rfl
  exact S_X12_catches_4 hn hg  n w ta0 (by omega) (by omega) (by omega)
set_option maxHeartbeats 1000000 in
theorem S_X12_falls_4 {g : jGh} {Γ : Nat → Option Nat} {n : Nat} (hn : 6000 ≤ n) (hg : jgok g)  (k : Nat) : ∀ {a0 : Nat} {x1 : Int32} {x2 : Int32} {h : jH}, jW (jKd g) Γ h → (Γ a0 = some 20) → (0 ≤ x2.toInt) → (x2.toInt ≤ 8) → (8 : Int) - x2.toInt < (k : Int) → jok (F_X12_falls_4 n k a0 x1 x2 h) (fun q => jW (jKd g) Γ q.2 ∧ (fun v : Int32 => True) q.1) := by
  induction k with
  | zero =>
    intro a0 x1 x2 h w ta0 lx2 ux2 mk
    omega
  | succ k ih =>
    intro a0 x1 x2 h w ta0 lx2 ux2 mk
    show jok (F_X12_falls_4_b n (F_X12_falls_4 n k) a0 x1 x2 h) _
    unfold F_X12_falls_4_b
    try rw [t_cv w ta0 rfl]
    refine jok_b2 (S_X12_rings hn hg w ta0) (fun v6_1 ev6_1 pv6_1 => ?_)
    obtain ⟨lv6_1, uv6_1⟩ := pv6_1
    refine jok_le (fun c2 => ?_) (fun c2 => ?_)
    · exact jok_s ⟨w, trivial⟩
    · try rw [t_cv w ta0 rfl]
      have f4 : ((6 : Int32)).toInt = 6 := rfl
      refine jok_b (S_X12_is hn hg w ta0 (by omega) (by omega) (by omega) (by omega)) (fun v16_3 pv16_3 => ?_)
      obtain ⟨lv16_3, uv16_3⟩ := pv16_3
      have f5 : ((0 : Int32)).toInt = 0 := rfl
      refine jok_eq (fun c6 d6 => ?_) (fun c6 => ?_)
      · have f7 : ((1 : Int32)).toInt = 1 := rfl
        have f8 : ((x2 + (1 : Int32))).toInt = (x2).toInt + ((1 : Int32)).toInt := jadd (by omega) (by omega)
        exact ih w ta0 (by omega) (by omega) (by omega)
      · try rw [t_cv w ta0 rfl]
        have f10 : ((100 : Int32)).toInt = 100 := rfl
        refine jok_b (S_X12_drawn hn hg w ta0 (by omega) (by omega)) (fun q25_9 wq25_9 => ?_)
        obtain ⟨wq25_9, pq25_9⟩ := wq25_9
        try rw [t_cv wq25_9 ta0 rfl]
        refine jok_b (S_X12_byLaw hn hg wq25_9 ta0 (by omega) (by omega)) (fun q31_11 wq31_11 => ?_)
        obtain ⟨wq31_11, pq31_11⟩ := wq31_11
        refine jok_lt (fun c12 => ?_) (fun c12 => ?_)
        · refine jok_b (t_gR wq31_11 ta0 rfl rfl) (fun p41_13 tp41_13 => ?_)
          refine jok_b (S_X12_at hn hg wq31_11 (by omega) (by omega) (by omega) (by omega)) (fun v47_14 pv47_14 => ?_)
          have pv47_14_9 := pv47_14
          try dsimp only at pv47_14_9
          refine jok_b (t_as wq31_11 tp41_13 rfl (by omega) (by omega) (show jRw g (v47_14).toInt.toNat (0 : Int32) from ⟨⟨by omega, by omega, by omega⟩, Or.inl (by omega)⟩) (fun q => by cases q)) (fun h51_15 wh51_15 => ?_)
          obtain ⟨wh51_15, rh51_15⟩ := wh51_15
          try rw [t_cv wh51_15 ta0 rfl]
          refine jok_b (S_X12_tells hn hg wh51_15 ta0 (by omega) (by omega)) (fun h56_16 wh56_16 => ?_)
          have f17 : ((1 : Int32)).toInt = 1 := rfl
          have f18 : ((x2 + (1 : Int32))).toInt = (x2).toInt + ((1 : Int32)).toInt := jadd (by omega) (by omega)
          exact ih wh56_16 ta0 (by omega) (by omega) (by omega)
        · have f19 : ((1 : Int32)).toInt = 1 := rfl
          have f20 : ((x2 + (1 : Int32))).toInt = (x2).toInt + ((1 : Int32)).toInt := jadd (by omega) (by omega)
          exact ih wq31_11 ta0 (by omega) (by omega) (by omega)
set_option maxHeartbeats 1000000 in
theorem S_X12_falls {g : jGh} {Γ : Nat → Option Nat} {n : Nat} {a0 : Nat} {h : jH} (hn : 6000 ≤ n) (hg : jgok g) (w : jW (jKd g) Γ h) (ta0 : Γ a0 = some 20) : jok (F_X12_falls n a0 h) (fun q => jW (jKd g) Γ q.2 ∧ (fun v : Int32 => True) q.1) := by
  unfold F_X12_falls
  have f1 : ((0 : Int32)).toInt = 0 := rfl
  exact S_X12_falls_4 hn hg  n w ta0 (by omega) (by omega) (by omega)
set_option maxHeartbeats 1000000 in
theorem S_X12_oneHour_2 {g : jGh} {Γ : Nat → Option Nat} {n : Nat} (hn : 6000 ≤ n) (hg : jgok g)  (k : Nat) : ∀ {a0 : Nat} {x1 : Int32} {x2 : Int32} {h : jH}, jW (jKd g) Γ h → (Γ a0 = some 20) → (0 ≤ x2.toInt) → (x2.toInt ≤ 8) → (8 : Int) - x2.toInt < (k : Int) → jok (F_X12_oneHour_2 n k a0 x1 x2 h) (fun q => jW (jKd g) Γ q.2 ∧ (fun v : Int32 => True) q.1) := by
  induction k with
  | zero =>
    intro a0 x1 x2 h w ta0 lx2 ux2 mk
    omega
  | succ k ih =>
    intro a0 x1 x2 h w ta0 lx2 ux2 mk
    show jok (F_X12_oneHour_2_b n (F_X12_oneHour_2 n k) a0 x1 x2 h) _
    unfold F_X12_oneHour_2_b
    try rw [t_cv w ta0 rfl]
    refine jok_b2 (S_X12_rings hn hg w ta0) (fun v4_1 ev4_1 pv4_1 => ?_)
    obtain ⟨lv4_1, uv4_1⟩ := pv4_1
    refine jok_le (fun c2 => ?_) (fun c2 => ?_)
    · have f3 : ((0 : Int32)).toInt = 0 := rfl
      refine jok_eq (fun c4 d4 => ?_) (fun c4 => ?_)
      · try rw [t_cv w ta0 rfl]
        refine jok_b (S_X12_catches hn hg w ta0) (fun q53_5 wq53_5 => ?_)
        obtain ⟨wq53_5, pq53_5⟩ := wq53_5
        try rw [t_cv wq53_5 ta0 rfl]
        refine jok_b (S_X12_falls hn hg wq53_5 ta0) (fun q57_6 wq57_6 => ?_)
        obtain ⟨wq57_6, pq57_6⟩ := wq57_6
        unfold F_X12_oneHour_61
        refine jok_b (t_gR wq57_6 ta0 rfl rfl) (fun p63_7 tp63_7 => ?_)
        have f9 : ((3 : Int32)).toInt = 3 := rfl
        refine jok_b (t_al wq57_6 tp63_7 rfl (by omega) (by omega)) (fun v68_8 pv68_8 => ?_)
        have f11 : ((1 : Int32)).toInt = 1 := rfl
        refine jok_b (t_as wq57_6 tp63_7 rfl (by omega) (by omega) (show jRw g ((3 : Int32)).toInt.toNat (v68_8 + (1 : Int32)) from ⟨⟨by omega, by omega, by omega⟩, Or.inl (by omega)⟩) (fun q => by cases q)) (fun h71_10 wh71_10 => ?_)
        obtain ⟨wh71_10, rh71_10⟩ := wh71_10
        refine jok_b (t_gR wh71_10 ta0 rfl rfl) (fun p73_12 tp73_12 => ?_)
        refine jok_b (t_al wh71_10 tp73_12 rfl (by omega) (by omega)) (fun v77_13 pv77_13 => ?_)
        have f14 : ((8 : Int32)).toInt = 8 := rfl
        refine jok_eq (fun c15 d15 => ?_) (fun c15 => ?_)
        · refine jok_b (t_gR wh71_10 ta0 rfl rfl) (fun p84_16 tp84_16 => ?_)
          refine jok_b (t_as wh71_10 tp84_16 rfl (by omega) (by omega) (show jRw g ((3 : Int32)).toInt.toNat (0 : Int32) from ⟨⟨by omega, by omega, by omega⟩, Or.inl (by omega)⟩) (fun q => by cases q)) (fun h89_17 wh89_17 => ?_)
          obtain ⟨wh89_17, rh89_17⟩ := wh89_17
          refine jok_b (t_gR wh89_17 ta0 rfl rfl) (fun p91_18 tp91_18 => ?_)
          refine jok_b (t_gR wh89_17 ta0 rfl rfl) (fun p99_19 tp99_19 => ?_)
          have f21 : ((4 : Int32)).toInt = 4 := rfl
          refine jok_b (t_al wh89_17 tp99_19 rfl (by omega) (by omega)) (fun v103_20 pv103_20 => ?_)
          have f23 : ((9999 : Int32)).toInt = 9999 := rfl
          refine jok_b (t_as wh89_17 tp91_18 rfl (by omega) (by omega) (show jRw g ((4 : Int32)).toInt.toNat (if (v103_20 + (1 : Int32)) < (9999 : Int32) then (v103_20 + (1 : Int32)) else (9999 : Int32)) from ⟨⟨by omega, by omega, by omega⟩, Or.inl (by omega)⟩) (fun q => by cases q)) (fun h109_22 wh109_22 => ?_)
          obtain ⟨wh109_22, rh109_22⟩ := wh109_22
          exact jok_s ⟨wh109_22, trivial⟩
        · exact jok_s ⟨wh71_10, trivial⟩
      · unfold F_X12_oneHour_61
        refine jok_b (t_gR w ta0 rfl rfl) (fun p63_24 tp63_24 => ?_)
        have f26 : ((3 : Int32)).toInt = 3 := rfl
        refine jok_b (t_al w tp63_24 rfl (by omega) (by omega)) (fun v68_25 pv68_25 => ?_)
        have f28 : ((1 : Int32)).toInt = 1 := rfl
        refine jok_b (t_as w tp63_24 rfl (by omega) (by omega) (show jRw g ((3 : Int32)).toInt.toNat (v68_25 + (1 : Int32)) from ⟨⟨by omega, by omega, by omega⟩, Or.inl (by omega)⟩) (fun q => by cases q)) (fun h71_27 wh71_27 => ?_)
        obtain ⟨wh71_27, rh71_27⟩ := wh71_27
        refine jok_b (t_gR wh71_27 ta0 rfl rfl) (fun p73_29 tp73_29 => ?_)
        refine jok_b (t_al wh71_27 tp73_29 rfl (by omega) (by omega)) (fun v77_30 pv77_30 => ?_)
        have f31 : ((8 : Int32)).toInt = 8 := rfl
        refine jok_eq (fun c32 d32 => ?_) (fun c32 => ?_)
        · refine jok_b (t_gR wh71_27 ta0 rfl rfl) (fun p84_33 tp84_33 => ?_)
          refine jok_b (t_as wh71_27 tp84_33 rfl (by omega) (by omega) (show jRw g ((3 : Int32)).toInt.toNat (0 : Int32) from ⟨⟨by omega, by omega, by omega⟩, Or.inl (by omega)⟩) (fun q => by cases q)) (fun h89_34 wh89_34 => ?_)
          obtain ⟨wh89_34, rh89_34⟩ := wh89_34
          refine jok_b (t_gR wh89_34 ta0 rfl rfl) (fun p91_35 tp91_35 => ?_)
          refine jok_b (t_gR wh89_34 ta0 rfl rfl) (fun p99_36 tp99_36 => ?_)
          have f38 : ((4 : Int32)).toInt = 4 := rfl
          refine jok_b (t_al wh89_34 tp99_36 rfl (by omega) (by omega)) (fun v103_37 pv103_37 => ?_)
          have f40 : ((9999 : Int32)).toInt = 9999 := rfl
          refine jok_b (t_as wh89_34 tp91_35 rfl (by omega) (by omega) (show jRw g ((4 : Int32)).toInt.toNat (if (v103_37 + (1 : Int32)) < (9999 : Int32) then (v103_37 + (1 : Int32)) else (9999 : Int32)) from ⟨⟨by omega, by omega, by omega⟩, Or.inl (by omega)⟩) (fun q => by cases q)) (fun h109_39 wh109_39 => ?_)
          obtain ⟨wh109_39, rh109_39⟩ := wh109_39
          exact jok_s ⟨wh109_39, trivial⟩
        · exact jok_s ⟨wh71_27, trivial⟩
    · refine jok_b (t_gR w ta0 rfl rfl) (fun p11_41 tp11_41 => ?_)
      have f43 : ((4 : Int32)).toInt = 4 := rfl
      refine jok_b (S_X12_at hn hg w (by omega) (by omega) (by omega) (by omega)) (fun v16_42 pv16_42 => ?_)
      have pv16_42_9 := pv16_42
      try dsimp only at pv16_42_9
      try rw [t_cv w ta0 rfl]
      refine jok_b (S_X12_of hn hg w ta0 (by omega) (by omega) (by omega) (by omega)) (fun v24_44 pv24_44 => ?_)
      have pv24_44_9 := pv24_44
      try dsimp only at pv24_44_9
      try rw [t_cv w ta0 rfl]
      refine jok_b (S_X12_byLaw hn hg w ta0 (by omega) (by omega)) (fun q30_45 wq30_45 => ?_)
      obtain ⟨wq30_45, pq30_45⟩ := wq30_45
      have f47 : ((99 : Int32)).toInt = 99 := rfl
      refine jok_b (t_as wq30_45 tp11_41 rfl (by omega) (by omega) (show jRw g (v16_42).toInt.toNat (if (v24_44 + q30_45.1) < (99 : Int32) then (v24_44 + q30_45.1) else (99 : Int32)) from ⟨⟨by omega, by omega, by omega⟩, Or.inl (by omega)⟩) (fun q => by cases q)) (fun h37_46 wh37_46 => ?_)
      obtain ⟨wh37_46, rh37_46⟩ := wh37_46
      have f48 : ((1 : Int32)).toInt = 1 := rfl
      have f49 : ((x2 + (1 : Int32))).toInt = (x2).toInt + ((1 : Int32)).toInt := jadd (by omega) (by omega)
      exact ih wh37_46 ta0 (by omega) (by omega) (by omega)
set_option maxHeartbeats 1000000 in
theorem S_X12_oneHour {g : jGh} {Γ : Nat → Option Nat} {n : Nat} {a0 : Nat} {x1 : Int32} {h : jH} (hn : 6000 ≤ n) (hg : jgok g) (w : jW (jKd g) Γ h) (ta0 : Γ a0 = some 20) : jok (F_X12_oneHour n a0 x1 h) (fun q => jW (jKd g) Γ q.2 ∧ (fun v : Int32 => True) q.1) := by
  unfold F_X12_oneHour
  have f1 : ((0 : Int32)).toInt = 0 := rfl
  exact S_X12_oneHour_2 hn hg  n w ta0 (by omega) (by omega) (by omega)
set_option maxHeartbeats 1000000 in
theorem S_X12_goesOn_5 {g : jGh} {Γ : Nat → Option Nat} {n : Nat} (hn : 6000 ≤ n) (hg : jgok g)  (k : Nat) : ∀ {a0 : Nat} {x1 : Int32} {x2 : Int32} {x3 : Int32} {x4 : Int32} {h : jH}, jW (jKd g) Γ h → (Γ a0 = some 20) → (0 ≤ x1.toInt) → (x1.toInt ≤ 80) → (0 ≤ x4.toInt) → (x4.toInt ≤ 80) → (80 : Int) - x4.toInt < (k : Int) → jok (F_X12_goesOn_5 n k a0 x1 x2 x3 x4 h) (fun q => jW (jKd g) Γ q.2 ∧ (fun v : Int32 => True) q.1) := by
  induction k with
  | zero =>
    intro a0 x1 x2 x3 x4 h w ta0 lx1 ux1 lx4 ux4 mk
    omega
  | succ k ih =>
    intro a0 x1 x2 x3 x4 h w ta0 lx1 ux1 lx4 ux4 mk
    show jok (F_X12_goesOn_5_b n (F_X12_goesOn_5 n k) a0 x1 x2 x3 x4 h) _
    unfold F_X12_goesOn_5_b
    refine jok_le (fun c1 => ?_) (fun c1 => ?_)
    · exact jok_s ⟨w, trivial⟩
    · try rw [t_cv w ta0 rfl]
      refine jok_b (S_X12_oneHour hn hg w ta0) (fun q14_2 wq14_2 => ?_)
      obtain ⟨wq14_2, pq14_2⟩ := wq14_2
      have f3 : ((1 : Int32)).toInt = 1 := rfl
      have f4 : ((x4 + (1 : Int32))).toInt = (x4).toInt + ((1 : Int32)).toInt := jadd (by omega) (by omega)
      exact ih wq14_2 ta0 (by omega) (by omega) (by omega) (by omega) (by omega)
set_option maxHeartbeats 1000000 in
theorem S_X12_goesOn {g : jGh} {Γ : Nat → Option Nat} {n : Nat} {a0 : Nat} {x1 : Int32} {x2 : Int32} {h : jH} (hn : 6000 ≤ n) (hg : jgok g) (w : jW (jKd g) Γ h) (ta0 : Γ a0 = some 20) (lx1 : 0 ≤ x1.toInt) (ux1 : x1.toInt ≤ 80) : jok (F_X12_goesOn n a0 x1 x2 h) (fun q => jW (jKd g) Γ q.2 ∧ (fun v : Int32 => True) q.1) := by
  unfold F_X12_goesOn
  have f1 : ((0 : Int32)).toInt = 0 := rfl
  exact S_X12_goesOn_5 hn hg  n w ta0 (by omega) (by omega) (by omega) (by omega) (by omega)
def jgF (n a0 : Nat) (x2 x3 : Int32) (h : jH) (b r : Int) : Prop := ∀ (y u : Int32), b ≤ y.toInt → y.toInt < r → F_X12_has n x3 y h = some u → ¬ u.toInt = 0 → jgood n a0 x2 h y
theorem jok_u {α : Type} {o : Option α} {P : α → Prop} {v : α} (h : jok o P) (e : o = some v) : P v := by
  obtain ⟨w, e2, hw⟩ := h
  cases e2.symm.trans e
  exact hw
theorem has_0 {n : Nat} {y u : Int32} {h : jH} (e : F_X12_has n 0 y h = some u) : u.toInt = 0 := by
  unfold F_X12_has at e
  have e9 : ((0 : Int32) >>> (y &&& 31)) &&& (1 : Int32) = 0 := by
    rw [show (0 : Int32) >>> (y &&& 31) = 0 from by simp]
    rfl
  rw [e9, if_neg (by decide)] at e
  cases e
  rfl
theorem jal_pf {t p ci a k : Nat} {j : Int32} {v : Value} {h h1 : jH} (e : jpf ci h a k v = some h1) : jal t h1 p j = jal t h p j := by
  obtain ⟨fs, e1, -, rfl⟩ := jpf_o e
  unfold jal
  show (match (if p = a then some _ else h.2 p) with | some (.inr (.inl x)) => if x.1 = t ∧ ¬ (j < 0 ∨ x.2.1 ≤ j.toNatClampNeg) then some (x.2.2 j.toNatClampNeg) else none | _ => none) = _
  by_cases q : p = a
  · subst q
    rw [if_pos rfl, e1]
  · rw [if_neg q]
    rfl
theorem jgR_pf {ci a k b k2 c : Nat} {v : Value} {h h1 : jH} (e : jpf ci h a k v = some h1) (hk : k2 ≠ k) : jgR c h1 b k2 = jgR c h b k2 := by
  obtain ⟨fs, e1, -, rfl⟩ := jpf_o e
  unfold jgR
  rw [jfr_up e1 c b k2 (Or.inr hk)]
theorem of_pf {n a0 a : Nat} {y : Int32} {v : Value} {h h1 : jH} (e : jpf 10 h a 18 v = some h1) : F_X12_of n a0 y (0 : Int32) h1 = F_X12_of n a0 y (0 : Int32) h := by
  unfold F_X12_of
  rw [jgR_pf e (by decide)]
  cases jgR 10 h a0 1 with
  | none => rfl
  | some p =>
    show (jal 0 h1 p _).bind _ = (jal 0 h p _).bind _
    rw [jal_pf e]
theorem rings_pf {n a0 a : Nat} {v : Value} {h h1 : jH} (e : jpf 10 h a 18 v = some h1) : F_X12_rings n a0 h1 = F_X12_rings n a0 h := by
  unfold F_X12_rings
  rw [jgR_pf e (by decide)]
  cases jgR 10 h a0 1 with
  | none => rfl
  | some p =>
    show (jal 0 h1 p _).bind _ = (jal 0 h p _).bind _
    rw [jal_pf e]
theorem goes_in {n a0 : Nat} {x2 v3 : Int32} {h : jH} (p : v3.toInt = 0 ∨ ∀ r, F_X12_rings n a0 h = some r → jgo n a0 x2 v3 h r.toInt) : ∀ r, F_X12_rings n a0 h = some r → jgF n a0 x2 v3 h (0 : Int32).toInt r.toInt := by
  intro r er y u h0 h1 eu hu
  rcases p with p | p
  · have e : v3 = 0 := Int32.toInt_inj.mp p
    rw [e] at eu
    exact absurd (has_0 eu) hu
  · exact p r er y u h0 h1 eu hu
theorem goes_gd {n a0 p32 : Nat} {x2 x3 x4 v13 v22 v38 v42 : Int32} {h : jH} (hv : ∀ r, F_X12_rings n a0 h = some r → jgF n a0 x2 x3 h x4.toInt r.toInt) (e13 : F_X12_rings n a0 h = some v13) (hlt : x4.toInt < v13.toInt) (e22 : F_X12_has n x3 x4 h = some v22) (hne : ¬ v22.toInt = 0) (ep : jgR 10 h a0 1 = some p32) (e38 : F_X12_at n x4 (0 : Int32) h = some v38) (e42 : jal 0 h p32 v38 = some v42) : (x2 = 0 → 1 ≤ v42.toInt) ∧ (¬ x2.toInt = 0 → v42.toInt ≤ 30) := by
  refine hv v13 e13 x4 v22 (Int.le_refl _) hlt e22 hne v42 ?_
  unfold F_X12_of
  simp only [ep, e38, e42, Option.bind_some]
theorem goes_nx1 {n a0 : Nat} {x2 x3 x4 : Int32} {h : jH} (hv : ∀ r, F_X12_rings n a0 h = some r → jgF n a0 x2 x3 h x4.toInt r.toInt) (fx : (x4 + (1 : Int32)).toInt = x4.toInt + 1) : ∀ r, F_X12_rings n a0 h = some r → jgF n a0 x2 x3 h (x4 + (1 : Int32)).toInt r.toInt := by
  intro r er y u h0 h1 eu hu
  exact hv r er y u (by omega) h1 eu hu
theorem goes_nx2 {n a0 p32 : Nat} {x2 x3 x4 v38 x : Int32} {v : Value} {h h53 h75 : jH} (hv : ∀ r, F_X12_rings n a0 h = some r → jgF n a0 x2 x3 h x4.toInt r.toInt) (ep : jgR 10 h a0 1 = some p32) (e53 : jas 0 h p32 v38 x = some h53) (e75 : jpf 10 h53 a0 18 v = some h75) (p38 : v38.toInt = 11 + 8 * x4.toInt) (b0 : 0 ≤ x4.toInt) (b1 : x4.toInt ≤ 7) (fx : (x4 + (1 : Int32)).toInt = x4.toInt + 1) (hr : ∀ r, F_X12_rings n a0 h75 = some r → r.toInt ≤ 8) : ∀ r, F_X12_rings n a0 h75 = some r → jgF n a0 x2 x3 h75 (x4 + (1 : Int32)).toInt r.toInt := by
  intro r er y u h0 h1 eu hu p ep9
  have hr8 := hr r er
  have hi : v38.toNatClampNeg = v38.toInt.toNat := rfl
  have h00 : (0 : Int32).toNatClampNeg = 0 := rfl
  rw [rings_pf e75, rings_as ep e53 (by omega)] at er
  have l11 : (11 : Int32).toInt = 11 := rfl
  have l0 : (0 : Int32).toInt = 0 := rfl
  have f1 : ((8 : Int32) * y).toInt = 8 * y.toInt := jmulL (c := 8) rfl (by omega) (by omega)
  have f2 : ((11 : Int32) + ((8 : Int32) * y)).toInt = (11 : Int32).toInt + ((8 : Int32) * y).toInt := jadd (by omega) (by omega)
  have f3 : (((11 : Int32) + ((8 : Int32) * y)) + (0 : Int32)).toInt = ((11 : Int32) + ((8 : Int32) * y)).toInt + (0 : Int32).toInt := jadd (by omega) (by omega)
  have hj : (((11 : Int32) + ((8 : Int32) * y)) + (0 : Int32)).toNatClampNeg = (((11 : Int32) + ((8 : Int32) * y)) + (0 : Int32)).toInt.toNat := rfl
  rw [of_pf e75, of_as ep e53 (by omega)] at ep9
  exact hv r er y u (by omega) h1 eu hu p ep9
set_option maxHeartbeats 1000000 in
theorem S_X12_goesOne_10 {g : jGh} {Γ : Nat → Option Nat} {n : Nat} (hn : 6000 ≤ n) (hg : jgok g)  (k : Nat) : ∀ {a0 : Nat} {x2 : Int32} {x3 : Int32} {x4 : Int32} {h : jH}, jW (jKd g) Γ h → (Γ a0 = some 20) → (0 ≤ x4.toInt) → (x4.toInt ≤ 8) → (8 : Int) - x4.toInt < (k : Int) → (∀ r, F_X12_rings n a0 h = some r → jgF n a0 x2 x3 h x4.toInt r.toInt) → jok (F_X12_goesOne_10 n k a0 x2 x3 x4 h) (fun q => jW (jKd g) Γ q.2 ∧ (fun v : Int32 => 0 ≤ v.toInt ∧ v.toInt ≤ 1) q.1) := by
  induction k with
  | zero =>
    intro a0 x2 x3 x4 h w ta0 lx4 ux4 mk hv
    omega
  | succ k ih =>
    intro a0 x2 x3 x4 h w ta0 lx4 ux4 mk hv
    show jok (F_X12_goesOne_10_b n (F_X12_goesOne_10 n k) a0 x2 x3 x4 h) _
    unfold F_X12_goesOne_10_b
    try rw [t_cv w ta0 rfl]
    refine jok_b2 (S_X12_rings hn hg w ta0) (fun v13_1 ev13_1 pv13_1 => ?_)
    obtain ⟨lv13_1, uv13_1⟩ := pv13_1
    refine jok_le (fun c2 => ?_) (fun c2 => ?_)
    · have f3 : ((0 : Int32)).toInt = 0 := rfl
      refine jok_eq (fun c4 d4 => ?_) (fun c4 => ?_)
      · exact jok_s ⟨w, (show jI 0 1 (0 : Int32) from ⟨by omega, by omega⟩)⟩
      · have f5 : ((1 : Int32)).toInt = 1 := rfl
        exact jok_s ⟨w, (show jI 0 1 (1 : Int32) from ⟨by omega, by omega⟩)⟩
    · refine jok_b2 (S_X12_has hn hg w) (fun v22_6 ev22_6 pv22_6 => ?_)
      obtain ⟨lv22_6, uv22_6⟩ := pv22_6
      have f7 : ((0 : Int32)).toInt = 0 := rfl
      refine jok_eq (fun c8 d8 => ?_) (fun c8 => ?_)
      · have f9 : ((1 : Int32)).toInt = 1 := rfl
        have f10 : ((x4 + (1 : Int32))).toInt = (x4).toInt + ((1 : Int32)).toInt := jadd (by omega) (by omega)
        exact ih w ta0 (by omega) (by omega) (by omega) (goes_nx1 hv (by omega))
      · refine jok_b2 (t_gR w ta0 rfl rfl) (fun p32_11 ep32_11 tp32_11 => ?_)
        refine jok_b2 (S_X12_at hn hg w (by omega) (by omega) (by omega) (by omega)) (fun v38_12 ev38_12 pv38_12 => ?_)
        have pv38_12_9 := pv38_12
        try dsimp only at pv38_12_9
        refine jok_b2 (t_al w tp32_11 rfl (by omega) (by omega)) (fun v42_13 ev42_13 pv42_13 => ?_)
        have ov42_13 := pv42_13.1.2.2
        have bv42_13 : 0 ≤ (v42_13).toInt ∧ (v42_13).toInt ≤ 31 := by omega
        obtain ⟨lv42_13, uv42_13⟩ := bv42_13
        have gd := goes_gd hv ev13_1 (by omega) ev22_6 (by omega) ep32_11 ev38_12 ev42_13
        refine jok_eq (fun c14 d14 => ?_) (fun c14 => ?_)
        · unfold F_X12_goesOne_52
          have gd2 : 1 ≤ (v42_13).toInt := gd.1 (by assumption)
          obtain ⟨y16, hy16⟩ : ∃ y : Int32, y = (v42_13 + (-1 : Int32)) := ⟨_, rfl⟩
          have fy16 : (y16).toInt = (v42_13).toInt - 1 := by rw [hy16]; exact jaddN rfl (by omega) (by omega)
          try rw [← hy16]
          refine jok_b2 (t_as w tp32_11 rfl (by omega) (by omega) (show jRw g (v38_12).toInt.toNat y16 from ⟨⟨by omega, by omega, by omega⟩, Or.inl (by omega)⟩) (fun q => by cases q)) (fun h53_15 eh53_15 wh53_15 => ?_)
          obtain ⟨wh53_15, rh53_15⟩ := wh53_15
          refine jok_b2 (t_gI wh53_15 ta0 rfl rfl) (fun v56_17 ev56_17 pv56_17 => ?_)
          try rw [t_cv wh53_15 ta0 rfl]
          have f19 : ((3 : Int32)).toInt = 3 := rfl
          refine jok_b (S_X12_is hn hg wh53_15 ta0 (by omega) (by omega) (by omega) (by omega)) (fun v63_18 pv63_18 => ?_)
          obtain ⟨lv63_18, uv63_18⟩ := pv63_18
          refine jok_eq (fun c20 d20 => ?_) (fun c20 => ?_)
          · have f22 : ((1 : Int32)).toInt = 1 := rfl
            refine jok_b2 (t_pI wh53_15 ta0 rfl rfl trivial) (fun h75_21 eh75_21 wh75_21 => ?_)
            obtain ⟨wh75_21, jh75_21, rh75_21⟩ := wh75_21
            have f23 : ((x4 + (1 : Int32))).toInt = (x4).toInt + ((1 : Int32)).toInt := jadd (by omega) (by omega)
            exact ih wh75_21 ta0 (by omega) (by omega) (by omega) (goes_nx2 hv ep32_11 eh53_15 eh75_21 (by omega) (by omega) (by omega) (by omega) (fun r er => (jok_u (S_X12_rings hn hg wh75_21 ta0) er).2))
          · refine jok_b2 (t_pI wh53_15 ta0 rfl rfl trivial) (fun h75_24 eh75_24 wh75_24 => ?_)
            obtain ⟨wh75_24, jh75_24, rh75_24⟩ := wh75_24
            have f25 : ((1 : Int32)).toInt = 1 := rfl
            have f26 : ((x4 + (1 : Int32))).toInt = (x4).toInt + ((1 : Int32)).toInt := jadd (by omega) (by omega)
            exact ih wh75_24 ta0 (by omega) (by omega) (by omega) (goes_nx2 hv ep32_11 eh53_15 eh75_24 (by omega) (by omega) (by omega) (by omega) (fun r er => (jok_u (S_X12_rings hn hg wh75_24 ta0) er).2))
        · unfold F_X12_goesOne_52
          have gd2 : (v42_13).toInt ≤ 30 := gd.2 (by omega)
          have f28 : ((1 : Int32)).toInt = 1 := rfl
          have f29 : ((v42_13 + (1 : Int32))).toInt = (v42_13).toInt + ((1 : Int32)).toInt := jadd (by omega) (by omega)
          refine jok_b2 (t_as w tp32_11 rfl (by omega) (by omega) (show jRw g (v38_12).toInt.toNat (v42_13 + (1 : Int32)) from ⟨⟨by omega, by omega, by omega⟩, Or.inl (by omega)⟩) (fun q => by cases q)) (fun h53_27 eh53_27 wh53_27 => ?_)
          obtain ⟨wh53_27, rh53_27⟩ := wh53_27
          refine jok_b2 (t_gI wh53_27 ta0 rfl rfl) (fun v56_30 ev56_30 pv56_30 => ?_)
          try rw [t_cv wh53_27 ta0 rfl]
          have f32 : ((3 : Int32)).toInt = 3 := rfl
          refine jok_b (S_X12_is hn hg wh53_27 ta0 (by omega) (by omega) (by omega) (by omega)) (fun v63_31 pv63_31 => ?_)
          obtain ⟨lv63_31, uv63_31⟩ := pv63_31
          refine jok_eq (fun c33 d33 => ?_) (fun c33 => ?_)
          · refine jok_b2 (t_pI wh53_27 ta0 rfl rfl trivial) (fun h75_34 eh75_34 wh75_34 => ?_)
            obtain ⟨wh75_34, jh75_34, rh75_34⟩ := wh75_34
            have f35 : ((x4 + (1 : Int32))).toInt = (x4).toInt + ((1 : Int32)).toInt := jadd (by omega) (by omega)
            exact ih wh75_34 ta0 (by omega) (by omega) (by omega) (goes_nx2 hv ep32_11 eh53_27 eh75_34 (by omega) (by omega) (by omega) (by omega) (fun r er => (jok_u (S_X12_rings hn hg wh75_34 ta0) er).2))
          · refine jok_b2 (t_pI wh53_27 ta0 rfl rfl trivial) (fun h75_36 eh75_36 wh75_36 => ?_)
            obtain ⟨wh75_36, jh75_36, rh75_36⟩ := wh75_36
            have f37 : ((x4 + (1 : Int32))).toInt = (x4).toInt + ((1 : Int32)).toInt := jadd (by omega) (by omega)
            exact ih wh75_36 ta0 (by omega) (by omega) (by omega) (goes_nx2 hv ep32_11 eh53_27 eh75_36 (by omega) (by omega) (by omega) (by omega) (fun r er => (jok_u (S_X12_rings hn hg wh75_36 ta0) er).2))
set_option maxHeartbeats 1000000 in
theorem S_X12_goesOne {g : jGh} {Γ : Nat → Option Nat} {n : Nat} {a0 : Nat} {x1 : Int32} {x2 : Int32} {h : jH} (hn : 6000 ≤ n) (hg : jgok g) (w : jW (jKd g) Γ h) (ta0 : Γ a0 = some 20) (lx1 : -128 ≤ x1.toInt) (ux1 : x1.toInt ≤ 127) : jok (F_X12_goesOne n a0 x1 x2 h) (fun q => jW (jKd g) Γ q.2 ∧ (fun v : Int32 => 0 ≤ v.toInt ∧ v.toInt ≤ 1) q.1) := by
  unfold F_X12_goesOne
  try rw [t_cv w ta0 rfl]
  refine jok_b2 (S_X12_goingBy hn hg w ta0 (by omega) (by omega)) (fun v3_1 ev3_1 pv3_1 => ?_)
  have pv3_1_9 := pv3_1
  try dsimp only at pv3_1_9
  have f2 : ((0 : Int32)).toInt = 0 := rfl
  exact S_X12_goesOne_10 hn hg  n w ta0 (by omega) (by omega) (by omega) (goes_in pv3_1_9)
set_option maxHeartbeats 1000000 in
theorem S_X12_pulls_8 {g : jGh} {Γ : Nat → Option Nat} {n : Nat} (hn : 6000 ≤ n) (hg : jgok g)  (k : Nat) : ∀ {a0 : Nat} {x1 : Int32} {x2 : Int32} {x3 : Int32} {x4 : Int32} {h : jH}, jW (jKd g) Γ h → (Γ a0 = some 20) → (-128 ≤ x1.toInt) → (x1.toInt ≤ 127) → (-128 ≤ x3.toInt) → (x3.toInt ≤ 127) → (0 ≤ x4.toInt) → (x4.toInt ≤ 127) → (127 : Int) - x4.toInt < (k : Int) → (x4.toInt ≤ x3.toInt ∨ x4.toInt = 0) → jok (F_X12_pulls_8 n k a0 x1 x2 x3 x4 h) (fun q => jW (jKd g) Γ q.2 ∧ (fun v : Int32 => 0 ≤ v.toInt ∧ (v.toInt ≤ x3.toInt ∨ v.toInt = 0)) q.1) := by
  induction k with
  | zero =>
    intro a0 x1 x2 x3 x4 h w ta0 lx1 ux1 lx3 ux3 lx4 ux4 mk hv
    omega
  | succ k ih =>
    intro a0 x1 x2 x3 x4 h w ta0 lx1 ux1 lx3 ux3 lx4 ux4 mk hv
    show jok (F_X12_pulls_8_b n (F_X12_pulls_8 n k) a0 x1 x2 x3 x4 h) _
    unfold F_X12_pulls_8_b
    refine jok_le (fun c1 => ?_) (fun c1 => ?_)
    · unfold F_X12_pulls_29
      refine jok_b (t_gR w ta0 rfl rfl) (fun p30_2 tp30_2 => ?_)
      refine jok_b (t_gR w ta0 rfl rfl) (fun p39_3 tp39_3 => ?_)
      have f5 : ((8 : Int32)).toInt = 8 := rfl
      refine jok_b (t_al w tp39_3 rfl (by omega) (by omega)) (fun v44_4 pv44_4 => ?_)
      refine jok_b2 (t_gI w ta0 rfl rfl) (fun v46_6 ev46_6 pv46_6 => ?_)
      have f8 : ((9999 : Int32)).toInt = 9999 := rfl
      refine jok_b (t_as w tp30_2 rfl (by omega) (by omega) (show jRw g ((8 : Int32)).toInt.toNat (if (v44_4 + v46_6) < (9999 : Int32) then (v44_4 + v46_6) else (9999 : Int32)) from ⟨⟨by omega, by omega, by omega⟩, Or.inl (by omega)⟩) (fun q => by cases q)) (fun h53_7 wh53_7 => ?_)
      obtain ⟨wh53_7, rh53_7⟩ := wh53_7
      exact jok_s ⟨wh53_7, (show 0 ≤ x4.toInt ∧ (x4.toInt ≤ x3.toInt ∨ x4.toInt = 0) from by omega)⟩
    · try rw [t_cv w ta0 rfl]
      refine jok_b (S_X12_goesOne hn hg w ta0 (by omega) (by omega)) (fun q17_9 wq17_9 => ?_)
      obtain ⟨wq17_9, pq17_9⟩ := wq17_9
      obtain ⟨lq17_9, uq17_9⟩ := pq17_9
      have f10 : ((0 : Int32)).toInt = 0 := rfl
      refine jok_eq (fun c11 d11 => ?_) (fun c11 => ?_)
      · unfold F_X12_pulls_29
        refine jok_b (t_gR wq17_9 ta0 rfl rfl) (fun p30_12 tp30_12 => ?_)
        refine jok_b (t_gR wq17_9 ta0 rfl rfl) (fun p39_13 tp39_13 => ?_)
        have f15 : ((8 : Int32)).toInt = 8 := rfl
        refine jok_b (t_al wq17_9 tp39_13 rfl (by omega) (by omega)) (fun v44_14 pv44_14 => ?_)
        refine jok_b2 (t_gI wq17_9 ta0 rfl rfl) (fun v46_16 ev46_16 pv46_16 => ?_)
        have f18 : ((9999 : Int32)).toInt = 9999 := rfl
        refine jok_b (t_as wq17_9 tp30_12 rfl (by omega) (by omega) (show jRw g ((8 : Int32)).toInt.toNat (if (v44_14 + v46_16) < (9999 : Int32) then (v44_14 + v46_16) else (9999 : Int32)) from ⟨⟨by omega, by omega, by omega⟩, Or.inl (by omega)⟩) (fun q => by cases q)) (fun h53_17 wh53_17 => ?_)
        obtain ⟨wh53_17, rh53_17⟩ := wh53_17
        exact jok_s ⟨wh53_17, (show 0 ≤ x4.toInt ∧ (x4.toInt ≤ x3.toInt ∨ x4.toInt = 0) from by omega)⟩
      · have f19 : ((1 : Int32)).toInt = 1 := rfl
        have f20 : ((x4 + (1 : Int32))).toInt = (x4).toInt + ((1 : Int32)).toInt := jadd (by omega) (by omega)
        exact jok_w (ih wq17_9 ta0 (by omega) (by omega) (by omega) (by omega) (by omega) (by omega) (by omega) (by omega)) (fun v q => (by first | omega | (dsimp only at q ⊢; omega)))
set_option maxHeartbeats 1000000 in
theorem S_X12_pulls {g : jGh} {Γ : Nat → Option Nat} {n : Nat} {a0 : Nat} {x1 : Int32} {x2 : Int32} {x3 : Int32} {h : jH} (hn : 6000 ≤ n) (hg : jgok g) (w : jW (jKd g) Γ h) (ta0 : Γ a0 = some 20) (lx1 : -128 ≤ x1.toInt) (ux1 : x1.toInt ≤ 127) (lx3 : -128 ≤ x3.toInt) (ux3 : x3.toInt ≤ 127) : jok (F_X12_pulls n a0 x1 x2 x3 h) (fun q => jW (jKd g) Γ q.2 ∧ (fun v : Int32 => 0 ≤ v.toInt ∧ (v.toInt ≤ x3.toInt ∨ v.toInt = 0)) q.1) := by
  unfold F_X12_pulls
  have f2 : ((0 : Int32)).toInt = 0 := rfl
  refine jok_b (t_pI w ta0 rfl rfl trivial) (fun h2_1 wh2_1 => ?_)
  obtain ⟨wh2_1, jh2_1, rh2_1⟩ := wh2_1
  exact jok_w (S_X12_pulls_8 hn hg  n wh2_1 ta0 (by omega) (by omega) (by omega) (by omega) (by omega) (by omega) (by omega) (by omega)) (fun v q => (by first | omega | (dsimp only at q ⊢; omega)))
set_option maxHeartbeats 1000000 in
theorem S_X12_wentWith {g : jGh} {Γ : Nat → Option Nat} {n : Nat} {a0 : Nat} {x1 : Int32} {x2 : Int32} {x3 : Int32} {x4 : Int32} {h : jH} (hn : 6000 ≤ n) (hg : jgok g) (w : jW (jKd g) Γ h) (ta0 : Γ a0 = some 20) (lx2 : -128 ≤ x2.toInt) (ux2 : x2.toInt ≤ 127) (lx4 : -128 ≤ x4.toInt) (ux4 : x4.toInt ≤ 127) : jok (F_X12_wentWith n a0 x1 x2 x3 x4 h) (fun q => jW (jKd g) Γ q.2 ∧ (fun v : Int32 => 0 ≤ v.toInt ∧ (v.toInt ≤ x4.toInt ∨ v.toInt = 0)) q.1) := by
  unfold F_X12_wentWith
  try rw [t_cv w ta0 rfl]
  refine jok_b (S_X12_keepsAll hn hg w ta0) (fun h1_1 wh1_1 => ?_)
  try rw [t_cv wh1_1 ta0 rfl]
  refine jok_b (S_X12_areCaught hn hg wh1_1 ta0) (fun h6_2 wh6_2 => ?_)
  try rw [t_cv wh6_2 ta0 rfl]
  refine jok_b (S_X12_pulls hn hg wh6_2 ta0 (by omega) (by omega) (by omega) (by omega)) (fun q14_3 wq14_3 => ?_)
  obtain ⟨wq14_3, pq14_3⟩ := wq14_3
  have pq14_3_9 := pq14_3
  try dsimp only at pq14_3_9
  try rw [t_cv wq14_3 ta0 rfl]
  refine jok_b (S_X12_bringsBack hn hg wq14_3 ta0) (fun h20_4 wh20_4 => ?_)
  exact jok_s ⟨wh20_4, (show 0 ≤ q14_3.1.toInt ∧ (q14_3.1.toInt ≤ x4.toInt ∨ q14_3.1.toInt = 0) from by omega)⟩
set_option maxHeartbeats 1000000 in
theorem S_X12_shadesAll {g : jGh} {Γ : Nat → Option Nat} {n : Nat} {a0 : Nat} {x1 : Int32} {h : jH} (hn : 6000 ≤ n) (hg : jgok g) (w : jW (jKd g) Γ h) (ta0 : Γ a0 = some 20) : jok (F_X12_shadesAll n a0 x1 h) (fun v => 0 ≤ v.toInt ∧ v.toInt ≤ 1) := by
  unfold F_X12_shadesAll
  try rw [t_cv w ta0 rfl]
  refine jok_b (S_X12_shadeNow hn hg w ta0) (fun v2_1 pv2_1 => ?_)
  have f2 : ((0 : Int32)).toInt = 0 := rfl
  refine jok_eq (fun c3 d3 => ?_) (fun c3 => ?_)
  · have f4 : ((1 : Int32)).toInt = 1 := rfl
    exact jok_s (show jI 0 1 (1 : Int32) from ⟨by omega, by omega⟩)
  · exact jok_s (show jI 0 1 (0 : Int32) from ⟨by omega, by omega⟩)
set_option maxHeartbeats 1000000 in
theorem S_X12_stepsTo_15 {g : jGh} {Γ : Nat → Option Nat} {n : Nat} (hn : 6000 ≤ n) (hg : jgok g)  (k : Nat) : ∀ {a0 : Nat} {x1 : Int32} {x2 : Int32} {x3 : Int32} {x4 : Int32} {x5 : Int32} {x6 : Int32} {h : jH}, jW (jKd g) Γ h → (Γ a0 = some 20) → (0 ≤ x2.toInt) → (x2.toInt ≤ 7) → (1 ≤ x6.toInt) → (x6.toInt ≤ 32) → (32 : Int) - x6.toInt < (k : Int) → jok (F_X12_stepsTo_15 n k a0 x1 x2 x3 x4 x5 x6 h) (fun q => jW (jKd g) Γ q.2 ∧ (fun v : Int32 => True) q.1) := by
  induction k with
  | zero =>
    intro a0 x1 x2 x3 x4 x5 x6 h w ta0 lx2 ux2 lx6 ux6 mk
    omega
  | succ k ih =>
    intro a0 x1 x2 x3 x4 x5 x6 h w ta0 lx2 ux2 lx6 ux6 mk
    show jok (F_X12_stepsTo_15_b n (F_X12_stepsTo_15 n k) a0 x1 x2 x3 x4 x5 x6 h) _
    unfold F_X12_stepsTo_15_b
    have f1 : ((31 : Int32)).toInt = 31 := rfl
    refine jok_lt (fun c2 => ?_) (fun c2 => ?_)
    · unfold F_X12_stepsTo_72
      try rw [t_cv w ta0 rfl]
      refine jok_b (S_X12_bringsBack hn hg w ta0) (fun h73_3 wh73_3 => ?_)
      exact jok_s ⟨wh73_3, trivial⟩
    · have f4 : ((0 : Int32)).toInt = 0 := rfl
      refine jok_eq (fun c5 d5 => ?_) (fun c5 => ?_)
      · unfold F_X12_stepsTo_72
        try rw [t_cv w ta0 rfl]
        refine jok_b (S_X12_bringsBack hn hg w ta0) (fun h73_6 wh73_6 => ?_)
        exact jok_s ⟨wh73_6, trivial⟩
      · have f7 : ((1000000 : Int32)).toInt = 1000000 := rfl
        refine jok_eq (fun c8 d8 => ?_) (fun c8 => ?_)
        · try rw [t_cv w ta0 rfl]
          refine jok_b (S_X12_goesOne hn hg w ta0 (by omega) (by omega)) (fun q38_9 wq38_9 => ?_)
          obtain ⟨wq38_9, pq38_9⟩ := wq38_9
          obtain ⟨lq38_9, uq38_9⟩ := pq38_9
          refine jok_eq (fun c10 d10 => ?_) (fun c10 => ?_)
          · have f11 : ((1 : Int32)).toInt = 1 := rfl
            have f12 : ((x6 + (1 : Int32))).toInt = (x6).toInt + ((1 : Int32)).toInt := jadd (by omega) (by omega)
            exact ih wq38_9 ta0 (by omega) (by omega) (by omega) (by omega) (by omega)
          · try rw [t_cv wq38_9 ta0 rfl]
            refine jok_b (S_X12_shadesAll hn hg wq38_9 ta0) (fun v50_13 pv50_13 => ?_)
            obtain ⟨lv50_13, uv50_13⟩ := pv50_13
            refine jok_eq (fun c14 d14 => ?_) (fun c14 => ?_)
            · have f15 : ((1 : Int32)).toInt = 1 := rfl
              have f16 : ((x6 + (1 : Int32))).toInt = (x6).toInt + ((1 : Int32)).toInt := jadd (by omega) (by omega)
              exact ih wq38_9 ta0 (by omega) (by omega) (by omega) (by omega) (by omega)
            · have f17 : ((1 : Int32)).toInt = 1 := rfl
              have f18 : ((x6 + (1 : Int32))).toInt = (x6).toInt + ((1 : Int32)).toInt := jadd (by omega) (by omega)
              exact ih wq38_9 ta0 (by omega) (by omega) (by omega) (by omega) (by omega)
        · unfold F_X12_stepsTo_72
          try rw [t_cv w ta0 rfl]
          refine jok_b (S_X12_bringsBack hn hg w ta0) (fun h73_19 wh73_19 => ?_)
          exact jok_s ⟨wh73_19, trivial⟩
set_option maxHeartbeats 1000000 in
theorem S_X12_stepsTo {g : jGh} {Γ : Nat → Option Nat} {n : Nat} {a0 : Nat} {x1 : Int32} {x2 : Int32} {x3 : Int32} {h : jH} (hn : 6000 ≤ n) (hg : jgok g) (w : jW (jKd g) Γ h) (ta0 : Γ a0 = some 20) (lx2 : 0 ≤ x2.toInt) (ux2 : x2.toInt ≤ 7) : jok (F_X12_stepsTo n a0 x1 x2 x3 h) (fun q => jW (jKd g) Γ q.2 ∧ (fun v : Int32 => True) q.1) := by
  unfold F_X12_stepsTo
  try rw [t_cv w ta0 rfl]
  refine jok_b (S_X12_keepsAll hn hg w ta0) (fun h9_1 wh9_1 => ?_)
  have f2 : ((1 : Int32)).toInt = 1 := rfl
  exact S_X12_stepsTo_15 hn hg  n wh9_1 ta0 (by omega) (by omega) (by omega) (by omega) (by omega)
set_option maxHeartbeats 1000000 in
theorem S_X12_fewestTo_10 {g : jGh} {Γ : Nat → Option Nat} {n : Nat} (hn : 6000 ≤ n) (hg : jgok g)  (k : Nat) : ∀ {a0 : Nat} {x1 : Int32} {x2 : Int32} {x3 : Int32} {x4 : Int32} {x5 : Int32} {h : jH}, jW (jKd g) Γ h → (Γ a0 = some 20) → (0 ≤ x5.toInt) → (x5.toInt ≤ 16) → (16 : Int) - x5.toInt < (k : Int) → jok (F_X12_fewestTo_10 n k a0 x1 x2 x3 x4 x5 h) (fun q => jW (jKd g) Γ q.2 ∧ (fun v : Int32 => True) q.1) := by
  induction k with
  | zero =>
    intro a0 x1 x2 x3 x4 x5 h w ta0 lx5 ux5 mk
    omega
  | succ k ih =>
    intro a0 x1 x2 x3 x4 x5 h w ta0 lx5 ux5 mk
    show jok (F_X12_fewestTo_10_b n (F_X12_fewestTo_10 n k) a0 x1 x2 x3 x4 x5 h) _
    unfold F_X12_fewestTo_10_b
    try rw [t_cv w ta0 rfl]
    refine jok_b2 (S_X12_rings hn hg w ta0) (fun v14_1 ev14_1 pv14_1 => ?_)
    obtain ⟨lv14_1, uv14_1⟩ := pv14_1
    have f2 : ((2 : Int32)).toInt = 2 := rfl
    have f3 : (((2 : Int32) * v14_1)).toInt = 2 * (v14_1).toInt := jmulL (c := 2) (by omega) (by omega) (by omega)
    refine jok_le (fun c4 => ?_) (fun c4 => ?_)
    · have f5 : ((0 : Int32)).toInt = 0 := rfl
      refine jok_eq (fun c6 d6 => ?_) (fun c6 => ?_)
      · have f7 : ((-1 : Int32)).toInt = -1 := rfl
        refine jok_eq (fun c8 d8 => ?_) (fun c8 => ?_)
        · exact jok_s ⟨w, trivial⟩
        · exact jok_s ⟨w, trivial⟩
      · exact jok_s ⟨w, trivial⟩
    · have f9 : ((x5 / (2 : Int32))).toInt = (x5).toInt / 2 := jdivL (c := 2) (by omega) rfl (by decide)
      have f10 : (((x5 / (2 : Int32)) * (2 : Int32))).toInt = 2 * ((x5 / (2 : Int32))).toInt := jmulR (c := 2) (by omega) (by omega) (by omega)
      have f11 : ((x5 - ((x5 / (2 : Int32)) * (2 : Int32)))).toInt = (x5).toInt - (((x5 / (2 : Int32)) * (2 : Int32))).toInt := jsub (by omega) (by omega)
      have f12 : ((1 : Int32)).toInt = 1 := rfl
      refine jok_eq (fun c13 d13 => ?_) (fun c13 => ?_)
      · unfold F_X12_fewestTo_40
        try rw [t_cv w ta0 rfl]
        refine jok_b (S_X12_stepsTo hn hg w ta0 (by omega) (by omega)) (fun q40_14 wq40_14 => ?_)
        obtain ⟨wq40_14, pq40_14⟩ := wq40_14
        refine jok_le (fun c15 => ?_) (fun c15 => ?_)
        · unfold F_X12_fewestTo_58
          have f16 : ((x5 + (1 : Int32))).toInt = (x5).toInt + ((1 : Int32)).toInt := jadd (by omega) (by omega)
          exact ih wq40_14 ta0 (by omega) (by omega) (by omega)
        · unfold F_X12_fewestTo_58
          have f17 : ((x5 + (1 : Int32))).toInt = (x5).toInt + ((1 : Int32)).toInt := jadd (by omega) (by omega)
          exact ih wq40_14 ta0 (by omega) (by omega) (by omega)
      · unfold F_X12_fewestTo_40
        try rw [t_cv w ta0 rfl]
        refine jok_b (S_X12_stepsTo hn hg w ta0 (by omega) (by omega)) (fun q40_18 wq40_18 => ?_)
        obtain ⟨wq40_18, pq40_18⟩ := wq40_18
        refine jok_le (fun c19 => ?_) (fun c19 => ?_)
        · unfold F_X12_fewestTo_58
          have f20 : ((x5 + (1 : Int32))).toInt = (x5).toInt + ((1 : Int32)).toInt := jadd (by omega) (by omega)
          exact ih wq40_18 ta0 (by omega) (by omega) (by omega)
        · unfold F_X12_fewestTo_58
          have f21 : ((x5 + (1 : Int32))).toInt = (x5).toInt + ((1 : Int32)).toInt := jadd (by omega) (by omega)
          exact ih wq40_18 ta0 (by omega) (by omega) (by omega)
set_option maxHeartbeats 1000000 in
theorem S_X12_fewestTo {g : jGh} {Γ : Nat → Option Nat} {n : Nat} {a0 : Nat} {x1 : Int32} {x2 : Int32} {h : jH} (hn : 6000 ≤ n) (hg : jgok g) (w : jW (jKd g) Γ h) (ta0 : Γ a0 = some 20) : jok (F_X12_fewestTo n a0 x1 x2 h) (fun q => jW (jKd g) Γ q.2 ∧ (fun v : Int32 => True) q.1) := by
  unfold F_X12_fewestTo
  have f1 : ((0 : Int32)).toInt = 0 := rfl
  exact S_X12_fewestTo_10 hn hg  n w ta0 (by omega) (by omega) (by omega)
end
section
set_option maxHeartbeats 1000000 in
theorem S_X12_best_34 {g : jGh} {Γ : Nat → Option Nat} {n : Nat} (hn : 6000 ≤ n) (hg : jgok g) {k14 : Nat} {rc14 : Nat → Int32 → Int32 → Int32 → jH → Option (Int32 × jH)} (k : Nat) : ∀ {a0 : Nat} {x1 : Int32} {x2 : Int32} {x3 : Int32} {x4 : Int32} {x5 : Int32} {h : jH}, jW (jKd g) Γ h → (Γ a0 = some 20) → (0 ≤ x3.toInt) → (x3.toInt ≤ 15) → (1 ≤ x5.toInt) → (x5.toInt ≤ 32) → (32 : Int) - x5.toInt < (k : Int) → (∀ {a0 : Nat} {x1 : Int32} {x2 : Int32} {x3 : Int32} {h : jH}, jW (jKd g) Γ h → (Γ a0 = some 20) → (0 ≤ x3.toInt) → (x3.toInt ≤ 16) → (16 : Int) - x3.toInt < (k14 : Int) → jok (rc14 a0 x1 x2 x3 h) (fun q => jW (jKd g) Γ q.2 ∧ (fun v : Int32 => True) q.1)) → ((16 : Int) - x3.toInt ≤ (k14 : Int)) → jok (F_X12_best_34 n rc14 k a0 x1 x2 x3 x4 x5 h) (fun q => jW (jKd g) Γ q.2 ∧ (fun v : Int32 => True) q.1) := by
  induction k with
  | zero =>
    intro a0 x1 x2 x3 x4 x5 h w ta0 lx3 ux3 lx5 ux5 mk hrc14 m14
    omega
  | succ k ih =>
    intro a0 x1 x2 x3 x4 x5 h w ta0 lx3 ux3 lx5 ux5 mk hrc14 m14
    show jok (F_X12_best_34_b n rc14 (F_X12_best_34 n rc14 k) a0 x1 x2 x3 x4 x5 h) _
    unfold F_X12_best_34_b
    have f1 : ((31 : Int32)).toInt = 31 := rfl
    refine jok_lt (fun c2 => ?_) (fun c2 => ?_)
    · unfold F_X12_best_113
      try rw [t_cv w ta0 rfl]
      refine jok_b (S_X12_bringsBack hn hg w ta0) (fun h114_3 wh114_3 => ?_)
      have f4 : ((1 : Int32)).toInt = 1 := rfl
      have f5 : ((x3 + (1 : Int32))).toInt = (x3).toInt + ((1 : Int32)).toInt := jadd (by omega) (by omega)
      exact hrc14 wh114_3 ta0 (by omega) (by omega) (by omega)
    · have f6 : ((0 : Int32)).toInt = 0 := rfl
      refine jok_eq (fun c7 d7 => ?_) (fun c7 => ?_)
      · unfold F_X12_best_113
        try rw [t_cv w ta0 rfl]
        refine jok_b (S_X12_bringsBack hn hg w ta0) (fun h114_8 wh114_8 => ?_)
        have f9 : ((1 : Int32)).toInt = 1 := rfl
        have f10 : ((x3 + (1 : Int32))).toInt = (x3).toInt + ((1 : Int32)).toInt := jadd (by omega) (by omega)
        exact hrc14 wh114_8 ta0 (by omega) (by omega) (by omega)
      · have f11 : ((2 : Int32)).toInt = 2 := rfl
        have f12 : ((x3 / (2 : Int32))).toInt = (x3).toInt / 2 := jdivL (c := 2) (by omega) rfl (by decide)
        have f13 : (((x3 / (2 : Int32)) * (2 : Int32))).toInt = 2 * ((x3 / (2 : Int32))).toInt := jmulR (c := 2) (by omega) (by omega) (by omega)
        have f14 : ((x3 - ((x3 / (2 : Int32)) * (2 : Int32)))).toInt = (x3).toInt - (((x3 / (2 : Int32)) * (2 : Int32))).toInt := jsub (by omega) (by omega)
        have f15 : ((1 : Int32)).toInt = 1 := rfl
        refine jok_eq (fun c16 d16 => ?_) (fun c16 => ?_)
        · unfold F_X12_best_62
          try rw [t_cv w ta0 rfl]
          refine jok_b (S_X12_goesOne hn hg w ta0 (by omega) (by omega)) (fun q62_17 wq62_17 => ?_)
          obtain ⟨wq62_17, pq62_17⟩ := wq62_17
          obtain ⟨lq62_17, uq62_17⟩ := pq62_17
          refine jok_eq (fun c18 d18 => ?_) (fun c18 => ?_)
          · refine jok_le (fun c19 => ?_) (fun c19 => ?_)
            · unfold F_X12_best_99
              have f20 : ((x5 + (1 : Int32))).toInt = (x5).toInt + ((1 : Int32)).toInt := jadd (by omega) (by omega)
              exact ih wq62_17 ta0 (by omega) (by omega) (by omega) (by omega) (by omega) hrc14 (by omega)
            · unfold F_X12_best_99
              have f21 : ((x5 + (1 : Int32))).toInt = (x5).toInt + ((1 : Int32)).toInt := jadd (by omega) (by omega)
              exact ih wq62_17 ta0 (by omega) (by omega) (by omega) (by omega) (by omega) hrc14 (by omega)
          · try rw [t_cv wq62_17 ta0 rfl]
            refine jok_b (S_X12_darkNow hn hg wq62_17 ta0) (fun v73_22 pv73_22 => ?_)
            refine jok_le (fun c23 => ?_) (fun c23 => ?_)
            · unfold F_X12_best_99
              have f24 : ((x5 + (1 : Int32))).toInt = (x5).toInt + ((1 : Int32)).toInt := jadd (by omega) (by omega)
              exact ih wq62_17 ta0 (by omega) (by omega) (by omega) (by omega) (by omega) hrc14 (by omega)
            · unfold F_X12_best_99
              have f25 : ((x5 + (1 : Int32))).toInt = (x5).toInt + ((1 : Int32)).toInt := jadd (by omega) (by omega)
              exact ih wq62_17 ta0 (by omega) (by omega) (by omega) (by omega) (by omega) hrc14 (by omega)
        · unfold F_X12_best_62
          try rw [t_cv w ta0 rfl]
          refine jok_b (S_X12_goesOne hn hg w ta0 (by omega) (by omega)) (fun q62_26 wq62_26 => ?_)
          obtain ⟨wq62_26, pq62_26⟩ := wq62_26
          obtain ⟨lq62_26, uq62_26⟩ := pq62_26
          refine jok_eq (fun c27 d27 => ?_) (fun c27 => ?_)
          · refine jok_le (fun c28 => ?_) (fun c28 => ?_)
            · unfold F_X12_best_99
              have f29 : ((x5 + (1 : Int32))).toInt = (x5).toInt + ((1 : Int32)).toInt := jadd (by omega) (by omega)
              exact ih wq62_26 ta0 (by omega) (by omega) (by omega) (by omega) (by omega) hrc14 (by omega)
            · unfold F_X12_best_99
              have f30 : ((x5 + (1 : Int32))).toInt = (x5).toInt + ((1 : Int32)).toInt := jadd (by omega) (by omega)
              exact ih wq62_26 ta0 (by omega) (by omega) (by omega) (by omega) (by omega) hrc14 (by omega)
          · try rw [t_cv wq62_26 ta0 rfl]
            refine jok_b (S_X12_darkNow hn hg wq62_26 ta0) (fun v73_31 pv73_31 => ?_)
            refine jok_le (fun c32 => ?_) (fun c32 => ?_)
            · unfold F_X12_best_99
              have f33 : ((x5 + (1 : Int32))).toInt = (x5).toInt + ((1 : Int32)).toInt := jadd (by omega) (by omega)
              exact ih wq62_26 ta0 (by omega) (by omega) (by omega) (by omega) (by omega) hrc14 (by omega)
            · unfold F_X12_best_99
              have f34 : ((x5 + (1 : Int32))).toInt = (x5).toInt + ((1 : Int32)).toInt := jadd (by omega) (by omega)
              exact ih wq62_26 ta0 (by omega) (by omega) (by omega) (by omega) (by omega) hrc14 (by omega)
set_option maxHeartbeats 1000000 in
theorem S_X12_best_14 {g : jGh} {Γ : Nat → Option Nat} {n : Nat} (hn : 6000 ≤ n) (hg : jgok g)  (k : Nat) : ∀ {a0 : Nat} {x1 : Int32} {x2 : Int32} {x3 : Int32} {h : jH}, jW (jKd g) Γ h → (Γ a0 = some 20) → (0 ≤ x3.toInt) → (x3.toInt ≤ 16) → (16 : Int) - x3.toInt < (k : Int) → jok (F_X12_best_14 n k a0 x1 x2 x3 h) (fun q => jW (jKd g) Γ q.2 ∧ (fun v : Int32 => True) q.1) := by
  induction k with
  | zero =>
    intro a0 x1 x2 x3 h w ta0 lx3 ux3 mk
    omega
  | succ k ih =>
    intro a0 x1 x2 x3 h w ta0 lx3 ux3 mk
    show jok (F_X12_best_14_b n (F_X12_best_14 n k) a0 x1 x2 x3 h) _
    unfold F_X12_best_14_b
    try rw [t_cv w ta0 rfl]
    refine jok_b2 (S_X12_rings hn hg w ta0) (fun v17_1 ev17_1 pv17_1 => ?_)
    obtain ⟨lv17_1, uv17_1⟩ := pv17_1
    have f2 : ((2 : Int32)).toInt = 2 := rfl
    have f3 : (((2 : Int32) * v17_1)).toInt = 2 * (v17_1).toInt := jmulL (c := 2) (by omega) (by omega) (by omega)
    refine jok_le (fun c4 => ?_) (fun c4 => ?_)
    · exact jok_s ⟨w, trivial⟩
    · try rw [t_cv w ta0 rfl]
      refine jok_b (S_X12_keepsAll hn hg w ta0) (fun h28_5 wh28_5 => ?_)
      have f6 : ((1 : Int32)).toInt = 1 := rfl
      exact S_X12_best_34 hn hg  n wh28_5 ta0 (by omega) (by omega) (by omega) (by omega) (by omega) ih (by omega)
set_option maxHeartbeats 1000000 in
theorem S_X12_best {g : jGh} {Γ : Nat → Option Nat} {n : Nat} {a0 : Nat} {h : jH} (hn : 6000 ≤ n) (hg : jgok g) (w : jW (jKd g) Γ h) (ta0 : Γ a0 = some 20) : jok (F_X12_best n a0 h) (fun q => jW (jKd g) Γ q.2 ∧ (fun v : Int32 => True) q.1) := by
  unfold F_X12_best
  have f2 : ((0 : Int32)).toInt = 0 := rfl
  refine jok_b (t_pI w ta0 rfl rfl trivial) (fun h2_1 wh2_1 => ?_)
  obtain ⟨wh2_1, jh2_1, rh2_1⟩ := wh2_1
  try rw [t_cv wh2_1 ta0 rfl]
  refine jok_b (S_X12_darkNow hn hg wh2_1 ta0) (fun v8_3 pv8_3 => ?_)
  exact S_X12_best_14 hn hg  n wh2_1 ta0 (by omega) (by omega) (by omega)
set_option maxHeartbeats 1000000 in
theorem S_X12_fewest {g : jGh} {Γ : Nat → Option Nat} {n : Nat} {a0 : Nat} {x1 : Int32} {h : jH} (hn : 6000 ≤ n) (hg : jgok g) (w : jW (jKd g) Γ h) (ta0 : Γ a0 = some 20) : jok (F_X12_fewest n a0 x1 h) (fun q => jW (jKd g) Γ q.2 ∧ (fun v : Int32 => True) q.1) := by
  unfold F_X12_fewest
  have f2 : ((0 : Int32)).toInt = 0 := rfl
  refine jok_b (t_pI w ta0 rfl rfl trivial) (fun h2_1 wh2_1 => ?_)
  obtain ⟨wh2_1, jh2_1, rh2_1⟩ := wh2_1
  try rw [t_cv wh2_1 ta0 rfl]
  refine jok_b (S_X12_shadesAll hn hg wh2_1 ta0) (fun v7_3 pv7_3 => ?_)
  obtain ⟨lv7_3, uv7_3⟩ := pv7_3
  refine jok_eq (fun c4 d4 => ?_) (fun c4 => ?_)
  · try rw [t_cv wh2_1 ta0 rfl]
    refine jok_b (S_X12_fewestTo hn hg wh2_1 ta0) (fun q20_5 wq20_5 => ?_)
    obtain ⟨wq20_5, pq20_5⟩ := wq20_5
    exact jok_s ⟨wq20_5, trivial⟩
  · exact jok_s ⟨wh2_1, trivial⟩
set_option maxHeartbeats 1000000 in
theorem S_X12_first {g : jGh} {Γ : Nat → Option Nat} {n : Nat} {a0 : Nat} {x1 : Int32} {h : jH} (hn : 6000 ≤ n) (hg : jgok g) (w : jW (jKd g) Γ h) (ta0 : Γ a0 = some 20) : jok (F_X12_first n a0 x1 h) (fun q => jW (jKd g) Γ q.2 ∧ (fun v : Int32 => True) q.1) := by
  unfold F_X12_first
  have f2 : ((0 : Int32)).toInt = 0 := rfl
  refine jok_b (t_pI w ta0 rfl rfl trivial) (fun h2_1 wh2_1 => ?_)
  obtain ⟨wh2_1, jh2_1, rh2_1⟩ := wh2_1
  try rw [t_cv wh2_1 ta0 rfl]
  refine jok_b (S_X12_shadesAll hn hg wh2_1 ta0) (fun v7_3 pv7_3 => ?_)
  obtain ⟨lv7_3, uv7_3⟩ := pv7_3
  refine jok_eq (fun c4 d4 => ?_) (fun c4 => ?_)
  · try rw [t_cv wh2_1 ta0 rfl]
    refine jok_b (S_X12_fewestTo hn hg wh2_1 ta0) (fun q20_5 wq20_5 => ?_)
    obtain ⟨wq20_5, pq20_5⟩ := wq20_5
    exact jok_s ⟨wq20_5, trivial⟩
  · exact jok_s ⟨wh2_1, trivial⟩
set_option maxHeartbeats 1000000 in
theorem S_X12_goes {g : jGh} {Γ : Nat → Option Nat} {n : Nat} {a0 : Nat} {x1 : Int32} {x2 : Int32} {h : jH} (hn : 6000 ≤ n) (hg : jgok g) (w : jW (jKd g) Γ h) (ta0 : Γ a0 = some 20) : jok (F_X12_goes n a0 x1 x2 h) (fun q => jW (jKd g) Γ q.2 ∧ (fun v : Int32 => True) q.1) := by
  unfold F_X12_goes
  have f2 : ((0 : Int32)).toInt = 0 := rfl
  refine jok_b (t_pI w ta0 rfl rfl trivial) (fun h2_1 wh2_1 => ?_)
  obtain ⟨wh2_1, jh2_1, rh2_1⟩ := wh2_1
  try rw [t_cv wh2_1 ta0 rfl]
  refine jok_b (S_X12_noRing hn hg wh2_1 ta0) (fun v8_3 pv8_3 => ?_)
  have pv8_3_9 := pv8_3
  try dsimp only at pv8_3_9
  try rw [t_cv wh2_1 ta0 rfl]
  refine jok_b (S_X12_throwsIf hn hg wh2_1 ta0 (by omega) (by omega)) (fun q12_4 wq12_4 => ?_)
  obtain ⟨wq12_4, pq12_4⟩ := wq12_4
  have f5 : ((1 : Int32)).toInt = 1 := rfl
  have pq12_4_9 := pq12_4
  try dsimp only at pq12_4_9
  refine jok_eq (fun c6 d6 => ?_) (fun c6 => ?_)
  · try rw [t_cv wq12_4 ta0 rfl]
    refine jok_b (S_X12_keepsAll hn hg wq12_4 ta0) (fun h21_7 wh21_7 => ?_)
    try rw [t_cv wh21_7 ta0 rfl]
    have f9 : ((31 : Int32)).toInt = 31 := rfl
    refine jok_b (S_X12_pulls hn hg wh21_7 ta0 (by omega) (by omega) (by omega) (by omega)) (fun q29_8 wq29_8 => ?_)
    obtain ⟨wq29_8, pq29_8⟩ := wq29_8
    have pq29_8_9 := pq29_8
    try dsimp only at pq29_8_9
    try rw [t_cv wq29_8 ta0 rfl]
    refine jok_b (S_X12_bringsBack hn hg wq29_8 ta0) (fun h34_10 wh34_10 => ?_)
    exact jok_s ⟨wh34_10, trivial⟩
  · exact jok_s ⟨wq12_4, trivial⟩
set_option maxHeartbeats 1000000 in
theorem S_X12_with {g : jGh} {Γ : Nat → Option Nat} {n : Nat} {a0 : Nat} {x1 : Int32} {x2 : Int32} {h : jH} (hn : 6000 ≤ n) (hg : jgok g) (w : jW (jKd g) Γ h) (ta0 : Γ a0 = some 20) : jok (F_X12_with n a0 x1 x2 h) (fun q => jW (jKd g) Γ q.2 ∧ (fun v : Int32 => True) q.1) := by
  unfold F_X12_with
  have f2 : ((0 : Int32)).toInt = 0 := rfl
  refine jok_b (t_pI w ta0 rfl rfl trivial) (fun h2_1 wh2_1 => ?_)
  obtain ⟨wh2_1, jh2_1, rh2_1⟩ := wh2_1
  try rw [t_cv wh2_1 ta0 rfl]
  refine jok_b (S_X12_noRing hn hg wh2_1 ta0) (fun v8_3 pv8_3 => ?_)
  have pv8_3_9 := pv8_3
  try dsimp only at pv8_3_9
  try rw [t_cv wh2_1 ta0 rfl]
  refine jok_b (S_X12_throwsIf hn hg wh2_1 ta0 (by omega) (by omega)) (fun q12_4 wq12_4 => ?_)
  obtain ⟨wq12_4, pq12_4⟩ := wq12_4
  have f5 : ((1 : Int32)).toInt = 1 := rfl
  have pq12_4_9 := pq12_4
  try dsimp only at pq12_4_9
  refine jok_eq (fun c6 d6 => ?_) (fun c6 => ?_)
  · try rw [t_cv wq12_4 ta0 rfl]
    refine jok_b (S_X12_goingBy hn hg wq12_4 ta0 (by omega) (by omega)) (fun v25_7 pv25_7 => ?_)
    have pv25_7_9 := pv25_7
    try dsimp only at pv25_7_9
    exact jok_s ⟨wq12_4, trivial⟩
  · exact jok_s ⟨wq12_4, trivial⟩
set_option maxHeartbeats 1000000 in
theorem S_X12_would {g : jGh} {Γ : Nat → Option Nat} {n : Nat} {a0 : Nat} {x1 : Int32} {x2 : Int32} {x3 : Int32} {x4 : Int32} {h : jH} (hn : 6000 ≤ n) (hg : jgok g) (w : jW (jKd g) Γ h) (ta0 : Γ a0 = some 20) : jok (F_X12_would n a0 x1 x2 x3 x4 h) (fun q => jW (jKd g) Γ q.2 ∧ (fun v : Int32 => True) q.1) := by
  unfold F_X12_would
  have f2 : ((0 : Int32)).toInt = 0 := rfl
  refine jok_b (t_pI w ta0 rfl rfl trivial) (fun h2_1 wh2_1 => ?_)
  obtain ⟨wh2_1, jh2_1, rh2_1⟩ := wh2_1
  try rw [t_cv wh2_1 ta0 rfl]
  refine jok_b (S_X12_noRing hn hg wh2_1 ta0) (fun v8_3 pv8_3 => ?_)
  have pv8_3_9 := pv8_3
  try dsimp only at pv8_3_9
  try rw [t_cv wh2_1 ta0 rfl]
  refine jok_b (S_X12_throwsIf hn hg wh2_1 ta0 (by omega) (by omega)) (fun q12_4 wq12_4 => ?_)
  obtain ⟨wq12_4, pq12_4⟩ := wq12_4
  have f5 : ((1 : Int32)).toInt = 1 := rfl
  have pq12_4_9 := pq12_4
  try dsimp only at pq12_4_9
  refine jok_eq (fun c6 d6 => ?_) (fun c6 => ?_)
  · refine jok_b (S_X12_noSteps hn hg wq12_4) (fun v20_7 pv20_7 => ?_)
    have pv20_7_9 := pv20_7
    try dsimp only at pv20_7_9
    try rw [t_cv wq12_4 ta0 rfl]
    refine jok_b (S_X12_throwsIf hn hg wq12_4 ta0 (by omega) (by omega)) (fun q24_8 wq24_8 => ?_)
    obtain ⟨wq24_8, pq24_8⟩ := wq24_8
    have f9 : ((2 : Int32)).toInt = 2 := rfl
    have pq24_8_9 := pq24_8
    try dsimp only at pq24_8_9
    refine jok_eq (fun c10 d10 => ?_) (fun c10 => ?_)
    · try rw [t_cv wq24_8 ta0 rfl]
      refine jok_b (S_X12_keepsAll hn hg wq24_8 ta0) (fun h33_11 wh33_11 => ?_)
      try rw [t_cv wh33_11 ta0 rfl]
      refine jok_b (S_X12_pulls hn hg wh33_11 ta0 (by omega) (by omega) (by omega) (by omega)) (fun q40_12 wq40_12 => ?_)
      obtain ⟨wq40_12, pq40_12⟩ := wq40_12
      have pq40_12_9 := pq40_12
      try dsimp only at pq40_12_9
      refine jok_eq (fun c13 d13 => ?_) (fun c13 => ?_)
      · try rw [t_cv wq40_12 ta0 rfl]
        refine jok_b (S_X12_darkNow hn hg wq40_12 ta0) (fun v57_14 pv57_14 => ?_)
        unfold F_X12_would_60
        try rw [t_cv wq40_12 ta0 rfl]
        refine jok_b (S_X12_bringsBack hn hg wq40_12 ta0) (fun h63_15 wh63_15 => ?_)
        exact jok_s ⟨wh63_15, trivial⟩
      · refine jok_b2 (t_gI wq40_12 ta0 rfl rfl) (fun v50_16 ev50_16 pv50_16 => ?_)
        unfold F_X12_would_60
        try rw [t_cv wq40_12 ta0 rfl]
        refine jok_b (S_X12_bringsBack hn hg wq40_12 ta0) (fun h63_17 wh63_17 => ?_)
        exact jok_s ⟨wh63_17, trivial⟩
    · exact jok_s ⟨wq24_8, trivial⟩
  · exact jok_s ⟨wq12_4, trivial⟩
set_option maxHeartbeats 1000000 in
theorem S_X12_loosen_51 {g : jGh} {Γ : Nat → Option Nat} {n : Nat} (hn : 6000 ≤ n) (hg : jgok g)  (k : Nat) : ∀ {a0 : Nat} {x1 : Int32} {x2 : Int32} {x3 : Int32} {x4 : Int32} {x5 : Int32} {x6 : Int32} {x7 : Int32} {h : jH}, jW (jKd g) Γ h → (Γ a0 = some 20) → (0 ≤ x1.toInt) → (x1.toInt ≤ 7) → (1 ≤ x3.toInt) → (x3.toInt ≤ 31) → (0 ≤ x4.toInt) → (x4.toInt ≤ 255) → (0 ≤ x7.toInt) → (x7.toInt ≤ 256) → (256 : Int) - x7.toInt < (k : Int) → jok (F_X12_loosen_51 n k a0 x1 x2 x3 x4 x5 x6 x7 h) (fun q => jW (jKd g) Γ q.2 ∧ (fun v : Int32 => True) q.1) := by
  induction k with
  | zero =>
    intro a0 x1 x2 x3 x4 x5 x6 x7 h w ta0 lx1 ux1 lx3 ux3 lx4 ux4 lx7 ux7 mk
    omega
  | succ k ih =>
    intro a0 x1 x2 x3 x4 x5 x6 x7 h w ta0 lx1 ux1 lx3 ux3 lx4 ux4 lx7 ux7 mk
    show jok (F_X12_loosen_51_b n (F_X12_loosen_51 n k) a0 x1 x2 x3 x4 x5 x6 x7 h) _
    unfold F_X12_loosen_51_b
    refine jok_lt (fun c1 => ?_) (fun c1 => ?_)
    · exact jok_s ⟨w, trivial⟩
    · have f2 : ((0 : Int32)).toInt = 0 := rfl
      refine jok_eq (fun c3 d3 => ?_) (fun c3 => ?_)
      · refine jok_b (S_J6_bitCount_0f7a4 hn hg w) (fun v70_4 pv70_4 => ?_)
        refine jok_le (fun c5 => ?_) (fun c5 => ?_)
        · have f6 : ((1 : Int32)).toInt = 1 := rfl
          have f7 : ((x7 + (1 : Int32))).toInt = (x7).toInt + ((1 : Int32)).toInt := jadd (by omega) (by omega)
          exact ih w ta0 (by omega) (by omega) (by omega) (by omega) (by omega) (by omega) (by omega) (by omega) (by omega)
        · try rw [t_cv w ta0 rfl]
          refine jok_b (S_X12_wentWith hn hg w ta0 (by omega) (by omega) (by omega) (by omega)) (fun q89_8 wq89_8 => ?_)
          obtain ⟨wq89_8, pq89_8⟩ := wq89_8
          have pq89_8_9 := pq89_8
          try dsimp only at pq89_8_9
          refine jok_le (fun c9 => ?_) (fun c9 => ?_)
          · refine jok_b (S_J6_bitCount_0f7a4 hn hg wq89_8) (fun v105_10 pv105_10 => ?_)
            have f11 : ((1 : Int32)).toInt = 1 := rfl
            have f12 : ((x7 + (1 : Int32))).toInt = (x7).toInt + ((1 : Int32)).toInt := jadd (by omega) (by omega)
            exact ih wq89_8 ta0 (by omega) (by omega) (by omega) (by omega) (by omega) (by omega) (by omega) (by omega) (by omega)
          · have f13 : ((1 : Int32)).toInt = 1 := rfl
            have f14 : ((x7 + (1 : Int32))).toInt = (x7).toInt + ((1 : Int32)).toInt := jadd (by omega) (by omega)
            exact ih wq89_8 ta0 (by omega) (by omega) (by omega) (by omega) (by omega) (by omega) (by omega) (by omega) (by omega)
      · have f15 : ((1 : Int32)).toInt = 1 := rfl
        have f16 : ((x7 + (1 : Int32))).toInt = (x7).toInt + ((1 : Int32)).toInt := jadd (by omega) (by omega)
        exact ih w ta0 (by omega) (by omega) (by omega) (by omega) (by omega) (by omega) (by omega) (by omega) (by omega)
set_option maxHeartbeats 1000000 in
theorem S_X12_loosen {g : jGh} {Γ : Nat → Option Nat} {n : Nat} {a0 : Nat} {x1 : Int32} {x2 : Int32} {x3 : Int32} {h : jH} (hn : 6000 ≤ n) (hg : jgok g) (w : jW (jKd g) Γ h) (ta0 : Γ a0 = some 20) : jok (F_X12_loosen n a0 x1 x2 x3 h) (fun q => jW (jKd g) Γ q.2 ∧ (fun v : Int32 => True) q.1) := by
  unfold F_X12_loosen
  have f2 : ((0 : Int32)).toInt = 0 := rfl
  refine jok_b (t_pI w ta0 rfl rfl trivial) (fun h2_1 wh2_1 => ?_)
  obtain ⟨wh2_1, jh2_1, rh2_1⟩ := wh2_1
  try rw [t_cv wh2_1 ta0 rfl]
  refine jok_b (S_X12_noRing hn hg wh2_1 ta0) (fun v8_3 pv8_3 => ?_)
  have pv8_3_9 := pv8_3
  try dsimp only at pv8_3_9
  try rw [t_cv wh2_1 ta0 rfl]
  refine jok_b (S_X12_throwsIf hn hg wh2_1 ta0 (by omega) (by omega)) (fun q12_4 wq12_4 => ?_)
  obtain ⟨wq12_4, pq12_4⟩ := wq12_4
  have f5 : ((1 : Int32)).toInt = 1 := rfl
  have pq12_4_9 := pq12_4
  try dsimp only at pq12_4_9
  refine jok_eq (fun c6 d6 => ?_) (fun c6 => ?_)
  · refine jok_b (S_X12_noSteps hn hg wq12_4) (fun v20_7 pv20_7 => ?_)
    have pv20_7_9 := pv20_7
    try dsimp only at pv20_7_9
    try rw [t_cv wq12_4 ta0 rfl]
    refine jok_b (S_X12_throwsIf hn hg wq12_4 ta0 (by omega) (by omega)) (fun q24_8 wq24_8 => ?_)
    obtain ⟨wq24_8, pq24_8⟩ := wq24_8
    have f9 : ((2 : Int32)).toInt = 2 := rfl
    have pq24_8_9 := pq24_8
    try dsimp only at pq24_8_9
    refine jok_eq (fun c10 d10 => ?_) (fun c10 => ?_)
    · try rw [t_cv wq24_8 ta0 rfl]
      have f12 : ((7 : Int32)).toInt = 7 := rfl
      refine jok_b (S_X12_ringsThat hn hg wq24_8 ta0 (by omega) (by omega)) (fun v35_11 pv35_11 => ?_)
      obtain ⟨lv35_11, uv35_11⟩ := pv35_11
      exact S_X12_loosen_51 hn hg  n wq24_8 ta0 (by omega) (by omega) (by omega) (by omega) (by omega) (by omega) (by omega) (by omega) (by omega)
    · exact jok_s ⟨wq24_8, trivial⟩
  · exact jok_s ⟨wq12_4, trivial⟩
set_option maxHeartbeats 1000000 in
theorem S_X12_order_26 {g : jGh} {Γ : Nat → Option Nat} {n : Nat} (hn : 6000 ≤ n) (hg : jgok g) {k9 : Nat} {rc9 : Nat → Int32 → Int32 → jH → Option (Int32 × jH)} (k : Nat) : ∀ {a0 : Nat} {x1 : Int32} {x2 : Int32} {x3 : Int32} {h : jH}, jW (jKd g) Γ h → (Γ a0 = some 20) → (0 ≤ x2.toInt) → (x2.toInt ≤ 7) → (0 ≤ x3.toInt) → (x3.toInt ≤ 8) → (8 : Int) - x3.toInt < (k : Int) → (∀ {a0 : Nat} {x1 : Int32} {x2 : Int32} {h : jH}, jW (jKd g) Γ h → (Γ a0 = some 20) → (0 ≤ x2.toInt) → (x2.toInt ≤ 8) → (8 : Int) - x2.toInt < (k9 : Int) → jok (rc9 a0 x1 x2 h) (fun q => jW (jKd g) Γ q.2 ∧ (fun v : Int32 => True) q.1)) → ((8 : Int) - x2.toInt ≤ (k9 : Int)) → jok (F_X12_order_26 n rc9 k a0 x1 x2 x3 h) (fun q => jW (jKd g) Γ q.2 ∧ (fun v : Int32 => True) q.1) := by
  induction k with
  | zero =>
    intro a0 x1 x2 x3 h w ta0 lx2 ux2 lx3 ux3 mk hrc9 m9
    omega
  | succ k ih =>
    intro a0 x1 x2 x3 h w ta0 lx2 ux2 lx3 ux3 mk hrc9 m9
    show jok (F_X12_order_26_b n rc9 (F_X12_order_26 n rc9 k) a0 x1 x2 x3 h) _
    unfold F_X12_order_26_b
    refine jok_le (fun c1 => ?_) (fun c1 => ?_)
    · refine jok_b (t_gR w ta0 rfl rfl) (fun p86_2 tp86_2 => ?_)
      refine jok_b (t_al w tp86_2 rfl (by omega) (by omega)) (fun v90_3 pv90_3 => ?_)
      have f4 : ((1 : Int32)).toInt = 1 := rfl
      have f5 : ((x2 + (1 : Int32))).toInt = (x2).toInt + ((1 : Int32)).toInt := jadd (by omega) (by omega)
      exact hrc9 w ta0 (by omega) (by omega) (by omega)
    · refine jok_b (t_gR w ta0 rfl rfl) (fun p32_6 tp32_6 => ?_)
      try rw [t_cv w ta0 rfl]
      have f8 : ((4 : Int32)).toInt = 4 := rfl
      refine jok_b (S_X12_of hn hg w ta0 (by omega) (by omega) (by omega) (by omega)) (fun v39_7 pv39_7 => ?_)
      have pv39_7_9 := pv39_7
      try dsimp only at pv39_7_9
      try rw [t_cv w ta0 rfl]
      refine jok_b (S_X12_of hn hg w ta0 (by omega) (by omega) (by omega) (by omega)) (fun v45_9 pv45_9 => ?_)
      have pv45_9_9 := pv45_9
      try dsimp only at pv45_9_9
      refine jok_lt (fun c10 => ?_) (fun c10 => ?_)
      · refine jok_b (t_gR w ta0 rfl rfl) (fun p72_11 tp72_11 => ?_)
        refine jok_b (t_al w tp72_11 rfl (by omega) (by omega)) (fun v76_12 pv76_12 => ?_)
        refine jok_b (t_as w tp32_6 rfl (by omega) (by omega) trivial (fun q => by cases q)) (fun h77_13 wh77_13 => ?_)
        obtain ⟨wh77_13, rh77_13⟩ := wh77_13
        have f14 : ((1 : Int32)).toInt = 1 := rfl
        have f15 : ((x3 + (1 : Int32))).toInt = (x3).toInt + ((1 : Int32)).toInt := jadd (by omega) (by omega)
        exact ih wh77_13 ta0 (by omega) (by omega) (by omega) (by omega) (by omega) hrc9 (by omega)
      · refine jok_b (t_gR w ta0 rfl rfl) (fun p52_16 tp52_16 => ?_)
        refine jok_b (t_al w tp52_16 rfl (by omega) (by omega)) (fun v56_17 pv56_17 => ?_)
        refine jok_b (t_gR w ta0 rfl rfl) (fun p58_18 tp58_18 => ?_)
        refine jok_b (t_al w tp58_18 rfl (by omega) (by omega)) (fun v62_19 pv62_19 => ?_)
        have f21 : ((1 : Int32)).toInt = 1 := rfl
        refine jok_b (t_as w tp32_6 rfl (by omega) (by omega) trivial (fun q => by cases q)) (fun h77_20 wh77_20 => ?_)
        obtain ⟨wh77_20, rh77_20⟩ := wh77_20
        have f22 : ((x3 + (1 : Int32))).toInt = (x3).toInt + ((1 : Int32)).toInt := jadd (by omega) (by omega)
        exact ih wh77_20 ta0 (by omega) (by omega) (by omega) (by omega) (by omega) hrc9 (by omega)
set_option maxHeartbeats 1000000 in
theorem S_X12_order_9 {g : jGh} {Γ : Nat → Option Nat} {n : Nat} (hn : 6000 ≤ n) (hg : jgok g)  (k : Nat) : ∀ {a0 : Nat} {x1 : Int32} {x2 : Int32} {h : jH}, jW (jKd g) Γ h → (Γ a0 = some 20) → (0 ≤ x2.toInt) → (x2.toInt ≤ 8) → (8 : Int) - x2.toInt < (k : Int) → jok (F_X12_order_9 n k a0 x1 x2 h) (fun q => jW (jKd g) Γ q.2 ∧ (fun v : Int32 => True) q.1) := by
  induction k with
  | zero =>
    intro a0 x1 x2 h w ta0 lx2 ux2 mk
    omega
  | succ k ih =>
    intro a0 x1 x2 h w ta0 lx2 ux2 mk
    show jok (F_X12_order_9_b n (F_X12_order_9 n k) a0 x1 x2 h) _
    unfold F_X12_order_9_b
    try rw [t_cv w ta0 rfl]
    refine jok_b2 (S_X12_rings hn hg w ta0) (fun v11_1 ev11_1 pv11_1 => ?_)
    obtain ⟨lv11_1, uv11_1⟩ := pv11_1
    refine jok_le (fun c2 => ?_) (fun c2 => ?_)
    · try rw [t_cv w ta0 rfl]
      refine jok_r ev11_1 ?_
      exact jok_s ⟨w, trivial⟩
    · refine jok_b (t_gR w ta0 rfl rfl) (fun p18_4 tp18_4 => ?_)
      have f6 : ((1 : Int32)).toInt = 1 := rfl
      refine jok_b (t_as w tp18_4 rfl (by omega) (by omega) trivial (fun q => by cases q)) (fun h23_5 wh23_5 => ?_)
      obtain ⟨wh23_5, rh23_5⟩ := wh23_5
      have f7 : ((0 : Int32)).toInt = 0 := rfl
      exact S_X12_order_26 hn hg  n wh23_5 ta0 (by omega) (by omega) (by omega) (by omega) (by omega) ih (by omega)
set_option maxHeartbeats 1000000 in
theorem S_X12_order {g : jGh} {Γ : Nat → Option Nat} {n : Nat} {a0 : Nat} {h : jH} (hn : 6000 ≤ n) (hg : jgok g) (w : jW (jKd g) Γ h) (ta0 : Γ a0 = some 20) : jok (F_X12_order n a0 h) (fun q => jW (jKd g) Γ q.2 ∧ (fun v : Int32 => True) q.1) := by
  unfold F_X12_order
  have f2 : ((0 : Int32)).toInt = 0 := rfl
  refine jok_b (t_pI w ta0 rfl rfl trivial) (fun h2_1 wh2_1 => ?_)
  obtain ⟨wh2_1, jh2_1, rh2_1⟩ := wh2_1
  exact S_X12_order_9 hn hg  n wh2_1 ta0 (by omega) (by omega) (by omega)
set_option maxHeartbeats 1000000 in
theorem S_X12_tight_39 {g : jGh} {Γ : Nat → Option Nat} {n : Nat} (hn : 6000 ≤ n) (hg : jgok g)  (k : Nat) : ∀ {a0 : Nat} {x1 : Int32} {x2 : Int32} {x3 : Int32} {x4 : Int32} {h : jH}, jW (jKd g) Γ h → (Γ a0 = some 20) → (2 ≤ x1.toInt) → (x1.toInt ≤ 8) → (0 ≤ x4.toInt) → (x4.toInt ≤ 8) → (8 : Int) - x4.toInt < (k : Int) → jok (F_X12_tight_39 n k a0 x1 x2 x3 x4 h) (fun q => jW (jKd g) Γ q.2 ∧ (fun v : Int32 => True) q.1) := by
  induction k with
  | zero =>
    intro a0 x1 x2 x3 x4 h w ta0 lx1 ux1 lx4 ux4 mk
    omega
  | succ k ih =>
    intro a0 x1 x2 x3 x4 h w ta0 lx1 ux1 lx4 ux4 mk
    show jok (F_X12_tight_39_b n (F_X12_tight_39 n k) a0 x1 x2 x3 x4 h) _
    unfold F_X12_tight_39_b
    try rw [t_cv w ta0 rfl]
    refine jok_b2 (S_X12_rings hn hg w ta0) (fun v44_1 ev44_1 pv44_1 => ?_)
    obtain ⟨lv44_1, uv44_1⟩ := pv44_1
    have f2 : ((x4 + x1)).toInt = (x4).toInt + (x1).toInt := jadd (by omega) (by omega)
    refine jok_lt (fun c3 => ?_) (fun c3 => ?_)
    · exact jok_s ⟨w, trivial⟩
    · try rw [t_cv w ta0 rfl]
      have f5 : ((1 : Int32)).toInt = 1 := rfl
      have f6 : (((x4 + x1) - (1 : Int32))).toInt = ((x4 + x1)).toInt - ((1 : Int32)).toInt := jsub (by omega) (by omega)
      have f7 : ((0 : Int32)).toInt = 0 := rfl
      refine jok_b (S_X12_of hn hg w ta0 (by omega) (by omega) (by omega) (by omega)) (fun v58_4 pv58_4 => ?_)
      have pv58_4_9 := pv58_4
      try dsimp only at pv58_4_9
      try rw [t_cv w ta0 rfl]
      refine jok_b (S_X12_of hn hg w ta0 (by omega) (by omega) (by omega) (by omega)) (fun v65_8 pv65_8 => ?_)
      have pv65_8_9 := pv65_8
      try dsimp only at pv65_8_9
      refine jok_le (fun c9 => ?_) (fun c9 => ?_)
      · unfold F_X12_tight_83
        have f10 : ((x4 + (1 : Int32))).toInt = (x4).toInt + ((1 : Int32)).toInt := jadd (by omega) (by omega)
        exact ih w ta0 (by omega) (by omega) (by omega) (by omega) (by omega)
      · unfold F_X12_tight_83
        have f11 : ((x4 + (1 : Int32))).toInt = (x4).toInt + ((1 : Int32)).toInt := jadd (by omega) (by omega)
        exact ih w ta0 (by omega) (by omega) (by omega) (by omega) (by omega)
set_option maxHeartbeats 1000000 in
theorem S_X12_tight {g : jGh} {Γ : Nat → Option Nat} {n : Nat} {a0 : Nat} {x1 : Int32} {h : jH} (hn : 6000 ≤ n) (hg : jgok g) (w : jW (jKd g) Γ h) (ta0 : Γ a0 = some 20) : jok (F_X12_tight n a0 x1 h) (fun q => jW (jKd g) Γ q.2 ∧ (fun v : Int32 => True) q.1) := by
  unfold F_X12_tight
  have f2 : ((0 : Int32)).toInt = 0 := rfl
  refine jok_b (t_pI w ta0 rfl rfl trivial) (fun h2_1 wh2_1 => ?_)
  obtain ⟨wh2_1, jh2_1, rh2_1⟩ := wh2_1
  refine jok_b (S_X12_in hn hg wh2_1) (fun v10_3 pv10_3 => ?_)
  have f4 : ((2 : Int32)).toInt = 2 := rfl
  have f5 : ((8 : Int32)).toInt = 8 := rfl
  have pv10_3_9 := pv10_3
  try dsimp only at pv10_3_9
  refine jok_eq (fun c6 d6 => ?_) (fun c6 => ?_)
  · unfold F_X12_tight_21
    try rw [t_cv wh2_1 ta0 rfl]
    have f8 : ((1 : Int32)).toInt = 1 := rfl
    refine jok_b (S_X12_throwsIf hn hg wh2_1 ta0 (by omega) (by omega)) (fun q22_7 wq22_7 => ?_)
    obtain ⟨wq22_7, pq22_7⟩ := wq22_7
    have pq22_7_9 := pq22_7
    try dsimp only at pq22_7_9
    refine jok_eq (fun c9 d9 => ?_) (fun c9 => ?_)
    · exact S_X12_tight_39 hn hg  n wq22_7 ta0 (by omega) (by omega) (by omega) (by omega) (by omega)
    · exact jok_s ⟨wq22_7, trivial⟩
  · unfold F_X12_tight_21
    try rw [t_cv wh2_1 ta0 rfl]
    refine jok_b (S_X12_throwsIf hn hg wh2_1 ta0 (by omega) (by omega)) (fun q22_10 wq22_10 => ?_)
    obtain ⟨wq22_10, pq22_10⟩ := wq22_10
    have f11 : ((1 : Int32)).toInt = 1 := rfl
    have pq22_10_9 := pq22_10
    try dsimp only at pq22_10_9
    refine jok_eq (fun c12 d12 => ?_) (fun c12 => ?_)
    · exact S_X12_tight_39 hn hg  n wq22_10 ta0 (by omega) (by omega) (by omega) (by omega) (by omega)
    · exact jok_s ⟨wq22_10, trivial⟩
set_option maxHeartbeats 1000000 in
theorem S_X12_lit {g : jGh} {Γ : Nat → Option Nat} {n : Nat} {a0 : Nat} {x1 : Int32} {h : jH} (hn : 6000 ≤ n) (hg : jgok g) (w : jW (jKd g) Γ h) (ta0 : Γ a0 = some 20) : jok (F_X12_lit n a0 x1 h) (fun q => jW (jKd g) Γ q.2 ∧ (fun v : Int32 => True) q.1) := by
  unfold F_X12_lit
  have f2 : ((0 : Int32)).toInt = 0 := rfl
  refine jok_b (t_pI w ta0 rfl rfl trivial) (fun h2_1 wh2_1 => ?_)
  obtain ⟨wh2_1, jh2_1, rh2_1⟩ := wh2_1
  refine jok_b (S_X12_in hn hg wh2_1) (fun v10_3 pv10_3 => ?_)
  have f4 : ((7 : Int32)).toInt = 7 := rfl
  have pv10_3_9 := pv10_3
  try dsimp only at pv10_3_9
  refine jok_eq (fun c5 d5 => ?_) (fun c5 => ?_)
  · unfold F_X12_lit_21
    try rw [t_cv wh2_1 ta0 rfl]
    have f7 : ((1 : Int32)).toInt = 1 := rfl
    refine jok_b (S_X12_throwsIf hn hg wh2_1 ta0 (by omega) (by omega)) (fun q22_6 wq22_6 => ?_)
    obtain ⟨wq22_6, pq22_6⟩ := wq22_6
    have pq22_6_9 := pq22_6
    try dsimp only at pq22_6_9
    refine jok_eq (fun c8 d8 => ?_) (fun c8 => ?_)
    · try rw [t_cv wq22_6 ta0 rfl]
      refine jok_b (S_X12_litIn hn hg wq22_6 ta0) (fun v34_9 pv34_9 => ?_)
      exact jok_s ⟨wq22_6, trivial⟩
    · exact jok_s ⟨wq22_6, trivial⟩
  · unfold F_X12_lit_21
    try rw [t_cv wh2_1 ta0 rfl]
    refine jok_b (S_X12_throwsIf hn hg wh2_1 ta0 (by omega) (by omega)) (fun q22_10 wq22_10 => ?_)
    obtain ⟨wq22_10, pq22_10⟩ := wq22_10
    have f11 : ((1 : Int32)).toInt = 1 := rfl
    have pq22_10_9 := pq22_10
    try dsimp only at pq22_10_9
    refine jok_eq (fun c12 d12 => ?_) (fun c12 => ?_)
    · try rw [t_cv wq22_10 ta0 rfl]
      refine jok_b (S_X12_litIn hn hg wq22_10 ta0) (fun v34_13 pv34_13 => ?_)
      exact jok_s ⟨wq22_10, trivial⟩
    · exact jok_s ⟨wq22_10, trivial⟩
set_option maxHeartbeats 1000000 in
theorem S_X12_sunny_25 {g : jGh} {Γ : Nat → Option Nat} {n : Nat} (hn : 6000 ≤ n) (hg : jgok g) {k11 : Nat} {rc11 : Nat → Int32 → Int32 → Int32 → jH → Option (Int32 × jH)} (k : Nat) : ∀ {a0 : Nat} {x1 : Int32} {x2 : Int32} {x3 : Int32} {x4 : Int32} {x5 : Int32} {h : jH}, jW (jKd g) Γ h → (Γ a0 = some 20) → (0 ≤ x3.toInt) → (x3.toInt ≤ 7) → (0 ≤ x5.toInt) → (x5.toInt ≤ 8) → (8 : Int) - x5.toInt < (k : Int) → (∀ {a0 : Nat} {x1 : Int32} {x2 : Int32} {x3 : Int32} {h : jH}, jW (jKd g) Γ h → (Γ a0 = some 20) → (0 ≤ x3.toInt) → (x3.toInt ≤ 8) → (8 : Int) - x3.toInt < (k11 : Int) → jok (rc11 a0 x1 x2 x3 h) (fun q => jW (jKd g) Γ q.2 ∧ (fun v : Int32 => True) q.1)) → ((8 : Int) - x3.toInt ≤ (k11 : Int)) → jok (F_X12_sunny_25 n rc11 k a0 x1 x2 x3 x4 x5 h) (fun q => jW (jKd g) Γ q.2 ∧ (fun v : Int32 => True) q.1) := by
  induction k with
  | zero =>
    intro a0 x1 x2 x3 x4 x5 h w ta0 lx3 ux3 lx5 ux5 mk hrc11 m11
    omega
  | succ k ih =>
    intro a0 x1 x2 x3 x4 x5 h w ta0 lx3 ux3 lx5 ux5 mk hrc11 m11
    show jok (F_X12_sunny_25_b n rc11 (F_X12_sunny_25 n rc11 k) a0 x1 x2 x3 x4 x5 h) _
    unfold F_X12_sunny_25_b
    have f1 : ((8 : Int32)).toInt = 8 := rfl
    refine jok_le (fun c2 => ?_) (fun c2 => ?_)
    · refine jok_le (fun c3 => ?_) (fun c3 => ?_)
      · unfold F_X12_sunny_69
        have f4 : ((1 : Int32)).toInt = 1 := rfl
        have f5 : ((x3 + (1 : Int32))).toInt = (x3).toInt + ((1 : Int32)).toInt := jadd (by omega) (by omega)
        exact hrc11 w ta0 (by omega) (by omega) (by omega)
      · unfold F_X12_sunny_69
        have f6 : ((1 : Int32)).toInt = 1 := rfl
        have f7 : ((x3 + (1 : Int32))).toInt = (x3).toInt + ((1 : Int32)).toInt := jadd (by omega) (by omega)
        exact hrc11 w ta0 (by omega) (by omega) (by omega)
    · try rw [t_cv w ta0 rfl]
      refine jok_b (S_X12_isLit hn hg w ta0 (by omega) (by omega)) (fun v38_8 pv38_8 => ?_)
      obtain ⟨lv38_8, uv38_8⟩ := pv38_8
      have f9 : ((0 : Int32)).toInt = 0 := rfl
      refine jok_eq (fun c10 d10 => ?_) (fun c10 => ?_)
      · have f11 : ((1 : Int32)).toInt = 1 := rfl
        have f12 : ((x5 + (1 : Int32))).toInt = (x5).toInt + ((1 : Int32)).toInt := jadd (by omega) (by omega)
        exact ih w ta0 (by omega) (by omega) (by omega) (by omega) (by omega) hrc11 (by omega)
      · have f13 : ((1 : Int32)).toInt = 1 := rfl
        have f14 : ((x5 + (1 : Int32))).toInt = (x5).toInt + ((1 : Int32)).toInt := jadd (by omega) (by omega)
        exact ih w ta0 (by omega) (by omega) (by omega) (by omega) (by omega) hrc11 (by omega)
set_option maxHeartbeats 1000000 in
theorem S_X12_sunny_11 {g : jGh} {Γ : Nat → Option Nat} {n : Nat} (hn : 6000 ≤ n) (hg : jgok g)  (k : Nat) : ∀ {a0 : Nat} {x1 : Int32} {x2 : Int32} {x3 : Int32} {h : jH}, jW (jKd g) Γ h → (Γ a0 = some 20) → (0 ≤ x3.toInt) → (x3.toInt ≤ 8) → (8 : Int) - x3.toInt < (k : Int) → jok (F_X12_sunny_11 n k a0 x1 x2 x3 h) (fun q => jW (jKd g) Γ q.2 ∧ (fun v : Int32 => True) q.1) := by
  induction k with
  | zero =>
    intro a0 x1 x2 x3 h w ta0 lx3 ux3 mk
    omega
  | succ k ih =>
    intro a0 x1 x2 x3 h w ta0 lx3 ux3 mk
    show jok (F_X12_sunny_11_b n (F_X12_sunny_11 n k) a0 x1 x2 x3 h) _
    unfold F_X12_sunny_11_b
    try rw [t_cv w ta0 rfl]
    refine jok_b2 (S_X12_rings hn hg w ta0) (fun v13_1 ev13_1 pv13_1 => ?_)
    obtain ⟨lv13_1, uv13_1⟩ := pv13_1
    refine jok_le (fun c2 => ?_) (fun c2 => ?_)
    · exact jok_s ⟨w, trivial⟩
    · have f3 : ((0 : Int32)).toInt = 0 := rfl
      exact S_X12_sunny_25 hn hg  n w ta0 (by omega) (by omega) (by omega) (by omega) (by omega) ih (by omega)
set_option maxHeartbeats 1000000 in
theorem S_X12_sunny {g : jGh} {Γ : Nat → Option Nat} {n : Nat} {a0 : Nat} {h : jH} (hn : 6000 ≤ n) (hg : jgok g) (w : jW (jKd g) Γ h) (ta0 : Γ a0 = some 20) : jok (F_X12_sunny n a0 h) (fun q => jW (jKd g) Γ q.2 ∧ (fun v : Int32 => True) q.1) := by
  unfold F_X12_sunny
  have f2 : ((0 : Int32)).toInt = 0 := rfl
  refine jok_b (t_pI w ta0 rfl rfl trivial) (fun h2_1 wh2_1 => ?_)
  obtain ⟨wh2_1, jh2_1, rh2_1⟩ := wh2_1
  exact S_X12_sunny_11 hn hg  n wh2_1 ta0 (by omega) (by omega) (by omega)
set_option maxHeartbeats 1000000 in
theorem S_X12_envy_9 {g : jGh} {Γ : Nat → Option Nat} {n : Nat} (hn : 6000 ≤ n) (hg : jgok g)  (k : Nat) : ∀ {a0 : Nat} {x1 : Int32} {x2 : Int32} {h : jH}, jW (jKd g) Γ h → (Γ a0 = some 20) → (0 ≤ x2.toInt) → (x2.toInt ≤ 7) → (7 : Int) - x2.toInt < (k : Int) → jok (F_X12_envy_9 n k a0 x1 x2 h) (fun q => jW (jKd g) Γ q.2 ∧ (fun v : Int32 => True) q.1) := by
  induction k with
  | zero =>
    intro a0 x1 x2 h w ta0 lx2 ux2 mk
    omega
  | succ k ih =>
    intro a0 x1 x2 h w ta0 lx2 ux2 mk
    show jok (F_X12_envy_9_b n (F_X12_envy_9 n k) a0 x1 x2 h) _
    unfold F_X12_envy_9_b
    try rw [t_cv w ta0 rfl]
    refine jok_b2 (S_X12_lastRing hn hg w ta0) (fun v11_1 ev11_1 pv11_1 => ?_)
    obtain ⟨lv11_1, uv11_1⟩ := pv11_1
    refine jok_le (fun c2 => ?_) (fun c2 => ?_)
    · exact jok_s ⟨w, trivial⟩
    · try rw [t_cv w ta0 rfl]
      have f4 : ((5 : Int32)).toInt = 5 := rfl
      refine jok_b (S_X12_of hn hg w ta0 (by omega) (by omega) (by omega) (by omega)) (fun v21_3 pv21_3 => ?_)
      have pv21_3_9 := pv21_3
      try dsimp only at pv21_3_9
      try rw [t_cv w ta0 rfl]
      have f6 : ((1 : Int32)).toInt = 1 := rfl
      have f7 : ((x2 + (1 : Int32))).toInt = (x2).toInt + ((1 : Int32)).toInt := jadd (by omega) (by omega)
      refine jok_b (S_X12_of hn hg w ta0 (by omega) (by omega) (by omega) (by omega)) (fun v29_5 pv29_5 => ?_)
      have pv29_5_9 := pv29_5
      try dsimp only at pv29_5_9
      have f8 : ((0 : Int32)).toInt = 0 := rfl
      refine jok_le (fun c9 => ?_) (fun c9 => ?_)
      · exact ih w ta0 (by omega) (by omega) (by omega)
      · exact ih w ta0 (by omega) (by omega) (by omega)
set_option maxHeartbeats 1000000 in
theorem S_X12_envy {g : jGh} {Γ : Nat → Option Nat} {n : Nat} {a0 : Nat} {h : jH} (hn : 6000 ≤ n) (hg : jgok g) (w : jW (jKd g) Γ h) (ta0 : Γ a0 = some 20) : jok (F_X12_envy n a0 h) (fun q => jW (jKd g) Γ q.2 ∧ (fun v : Int32 => True) q.1) := by
  unfold F_X12_envy
  have f2 : ((0 : Int32)).toInt = 0 := rfl
  refine jok_b (t_pI w ta0 rfl rfl trivial) (fun h2_1 wh2_1 => ?_)
  obtain ⟨wh2_1, jh2_1, rh2_1⟩ := wh2_1
  exact S_X12_envy_9 hn hg  n wh2_1 ta0 (by omega) (by omega) (by omega)
set_option maxHeartbeats 1000000 in
theorem S_X12_rests_42 {g : jGh} {Γ : Nat → Option Nat} {n : Nat} (hn : 6000 ≤ n) (hg : jgok g) {k34 : Nat} {rc34 : Nat → Int32 → Int32 → Int32 → jH → Option (Int32 × jH)} (k : Nat) : ∀ {a0 : Nat} {x1 : Int32} {x2 : Int32} {x3 : Int32} {x4 : Int32} {h : jH}, jW (jKd g) Γ h → (Γ a0 = some 20) → (0 ≤ x1.toInt) → (x1.toInt ≤ 7) → (0 ≤ x3.toInt) → (x3.toInt ≤ 1) → (0 ≤ x4.toInt) → (x4.toInt ≤ 2) → (2 : Int) - x4.toInt < (k : Int) → (∀ {a0 : Nat} {x1 : Int32} {x2 : Int32} {x3 : Int32} {h : jH}, jW (jKd g) Γ h → (Γ a0 = some 20) → (0 ≤ x1.toInt) → (x1.toInt ≤ 7) → (0 ≤ x3.toInt) → (x3.toInt ≤ 2) → (2 : Int) - x3.toInt < (k34 : Int) → jok (rc34 a0 x1 x2 x3 h) (fun q => jW (jKd g) Γ q.2 ∧ (fun v : Int32 => True) q.1)) → ((2 : Int) - x3.toInt ≤ (k34 : Int)) → jok (F_X12_rests_42 n rc34 k a0 x1 x2 x3 x4 h) (fun q => jW (jKd g) Γ q.2 ∧ (fun v : Int32 => True) q.1) := by
  induction k with
  | zero =>
    intro a0 x1 x2 x3 x4 h w ta0 lx1 ux1 lx3 ux3 lx4 ux4 mk hrc34 m34
    omega
  | succ k ih =>
    intro a0 x1 x2 x3 x4 h w ta0 lx1 ux1 lx3 ux3 lx4 ux4 mk hrc34 m34
    show jok (F_X12_rests_42_b n rc34 (F_X12_rests_42 n rc34 k) a0 x1 x2 x3 x4 h) _
    unfold F_X12_rests_42_b
    have f1 : ((2 : Int32)).toInt = 2 := rfl
    refine jok_le (fun c2 => ?_) (fun c2 => ?_)
    · have f3 : ((1 : Int32)).toInt = 1 := rfl
      have f4 : ((x3 + (1 : Int32))).toInt = (x3).toInt + ((1 : Int32)).toInt := jadd (by omega) (by omega)
      exact hrc34 w ta0 (by omega) (by omega) (by omega) (by omega) (by omega)
    · try rw [t_cv w ta0 rfl]
      refine jok_b (S_X12_eachHas hn hg w ta0 (by omega) (by omega)) (fun v54_5 pv54_5 => ?_)
      try rw [t_cv w ta0 rfl]
      refine jok_b (S_X12_eachHas hn hg w ta0 (by omega) (by omega)) (fun v64_6 pv64_6 => ?_)
      refine jok_lt (fun c7 => ?_) (fun c7 => ?_)
      · have f8 : ((1 : Int32)).toInt = 1 := rfl
        have f9 : ((x4 + (1 : Int32))).toInt = (x4).toInt + ((1 : Int32)).toInt := jadd (by omega) (by omega)
        exact ih w ta0 (by omega) (by omega) (by omega) (by omega) (by omega) (by omega) (by omega) hrc34 (by omega)
      · try rw [t_cv w ta0 rfl]
        refine jok_b (S_X12_eachHas hn hg w ta0 (by omega) (by omega)) (fun v75_10 pv75_10 => ?_)
        try rw [t_cv w ta0 rfl]
        refine jok_b (S_X12_eachHas hn hg w ta0 (by omega) (by omega)) (fun v85_11 pv85_11 => ?_)
        refine jok_lt (fun c12 => ?_) (fun c12 => ?_)
        · have f13 : ((1 : Int32)).toInt = 1 := rfl
          have f14 : ((x4 + (1 : Int32))).toInt = (x4).toInt + ((1 : Int32)).toInt := jadd (by omega) (by omega)
          exact ih w ta0 (by omega) (by omega) (by omega) (by omega) (by omega) (by omega) (by omega) hrc34 (by omega)
        · have f15 : ((1 : Int32)).toInt = 1 := rfl
          have f16 : ((x4 + (1 : Int32))).toInt = (x4).toInt + ((1 : Int32)).toInt := jadd (by omega) (by omega)
          exact ih w ta0 (by omega) (by omega) (by omega) (by omega) (by omega) (by omega) (by omega) hrc34 (by omega)
set_option maxHeartbeats 1000000 in
theorem S_X12_rests_34 {g : jGh} {Γ : Nat → Option Nat} {n : Nat} (hn : 6000 ≤ n) (hg : jgok g)  (k : Nat) : ∀ {a0 : Nat} {x1 : Int32} {x2 : Int32} {x3 : Int32} {h : jH}, jW (jKd g) Γ h → (Γ a0 = some 20) → (0 ≤ x1.toInt) → (x1.toInt ≤ 7) → (0 ≤ x3.toInt) → (x3.toInt ≤ 2) → (2 : Int) - x3.toInt < (k : Int) → jok (F_X12_rests_34 n k a0 x1 x2 x3 h) (fun q => jW (jKd g) Γ q.2 ∧ (fun v : Int32 => True) q.1) := by
  induction k with
  | zero =>
    intro a0 x1 x2 x3 h w ta0 lx1 ux1 lx3 ux3 mk
    omega
  | succ k ih =>
    intro a0 x1 x2 x3 h w ta0 lx1 ux1 lx3 ux3 mk
    show jok (F_X12_rests_34_b n (F_X12_rests_34 n k) a0 x1 x2 x3 h) _
    unfold F_X12_rests_34_b
    have f1 : ((2 : Int32)).toInt = 2 := rfl
    refine jok_le (fun c2 => ?_) (fun c2 => ?_)
    · exact jok_s ⟨w, trivial⟩
    · have f3 : ((0 : Int32)).toInt = 0 := rfl
      exact S_X12_rests_42 hn hg  n w ta0 (by omega) (by omega) (by omega) (by omega) (by omega) (by omega) (by omega) ih (by omega)
set_option maxHeartbeats 1000000 in
theorem S_X12_rests {g : jGh} {Γ : Nat → Option Nat} {n : Nat} {a0 : Nat} {x1 : Int32} {h : jH} (hn : 6000 ≤ n) (hg : jgok g) (w : jW (jKd g) Γ h) (ta0 : Γ a0 = some 20) : jok (F_X12_rests n a0 x1 h) (fun q => jW (jKd g) Γ q.2 ∧ (fun v : Int32 => True) q.1) := by
  unfold F_X12_rests
  have f2 : ((0 : Int32)).toInt = 0 := rfl
  refine jok_b (t_pI w ta0 rfl rfl trivial) (fun h2_1 wh2_1 => ?_)
  obtain ⟨wh2_1, jh2_1, rh2_1⟩ := wh2_1
  try rw [t_cv wh2_1 ta0 rfl]
  refine jok_b (S_X12_noRing hn hg wh2_1 ta0) (fun v8_3 pv8_3 => ?_)
  have pv8_3_9 := pv8_3
  try dsimp only at pv8_3_9
  try rw [t_cv wh2_1 ta0 rfl]
  refine jok_b (S_X12_throwsIf hn hg wh2_1 ta0 (by omega) (by omega)) (fun q12_4 wq12_4 => ?_)
  obtain ⟨wq12_4, pq12_4⟩ := wq12_4
  have f5 : ((1 : Int32)).toInt = 1 := rfl
  have pq12_4_9 := pq12_4
  try dsimp only at pq12_4_9
  refine jok_eq (fun c6 d6 => ?_) (fun c6 => ?_)
  · try rw [t_cv wq12_4 ta0 rfl]
    refine jok_b2 (S_X12_lastRing hn hg wq12_4 ta0) (fun v22_7 ev22_7 pv22_7 => ?_)
    obtain ⟨lv22_7, uv22_7⟩ := pv22_7
    refine jok_eq (fun c8 d8 => ?_) (fun c8 => ?_)
    · exact jok_s ⟨wq12_4, trivial⟩
    · exact S_X12_rests_34 hn hg  n wq12_4 ta0 (by omega) (by omega) (by omega) (by omega) (by omega)
  · exact jok_s ⟨wq12_4, trivial⟩
set_option maxHeartbeats 1000000 in
theorem S_X12_bunch_11 {g : jGh} {Γ : Nat → Option Nat} {n : Nat} (hn : 6000 ≤ n) (hg : jgok g)  (k : Nat) : ∀ {a0 : Nat} {x1 : Int32} {x2 : Int32} {x3 : Int32} {h : jH}, jW (jKd g) Γ h → (Γ a0 = some 20) → (0 ≤ x3.toInt) → (x3.toInt ≤ 8) → (8 : Int) - x3.toInt < (k : Int) → jok (F_X12_bunch_11 n k a0 x1 x2 x3 h) (fun q => jW (jKd g) Γ q.2 ∧ (fun v : Int32 => True) q.1) := by
  induction k with
  | zero =>
    intro a0 x1 x2 x3 h w ta0 lx3 ux3 mk
    omega
  | succ k ih =>
    intro a0 x1 x2 x3 h w ta0 lx3 ux3 mk
    show jok (F_X12_bunch_11_b n (F_X12_bunch_11 n k) a0 x1 x2 x3 h) _
    unfold F_X12_bunch_11_b
    try rw [t_cv w ta0 rfl]
    refine jok_b2 (S_X12_rings hn hg w ta0) (fun v13_1 ev13_1 pv13_1 => ?_)
    obtain ⟨lv13_1, uv13_1⟩ := pv13_1
    refine jok_le (fun c2 => ?_) (fun c2 => ?_)
    · exact jok_s ⟨w, trivial⟩
    · have f3 : ((0 : Int32)).toInt = 0 := rfl
      refine jok_le (fun c4 => ?_) (fun c4 => ?_)
      · unfold F_X12_bunch_41
        have f5 : ((1 : Int32)).toInt = 1 := rfl
        have f6 : ((x3 + (1 : Int32))).toInt = (x3).toInt + ((1 : Int32)).toInt := jadd (by omega) (by omega)
        exact ih w ta0 (by omega) (by omega) (by omega)
      · try rw [t_cv w ta0 rfl]
        have f8 : ((1 : Int32)).toInt = 1 := rfl
        have f9 : ((x3 - (1 : Int32))).toInt = (x3).toInt - ((1 : Int32)).toInt := jsub (by omega) (by omega)
        refine jok_b (S_X12_gapOf hn hg w ta0 (by omega) (by omega)) (fun v27_7 pv27_7 => ?_)
        refine jok_eq (fun c10 d10 => ?_) (fun c10 => ?_)
        · unfold F_X12_bunch_41
          have f11 : ((x3 + (1 : Int32))).toInt = (x3).toInt + ((1 : Int32)).toInt := jadd (by omega) (by omega)
          exact ih w ta0 (by omega) (by omega) (by omega)
        · unfold F_X12_bunch_41
          have f12 : ((x3 + (1 : Int32))).toInt = (x3).toInt + ((1 : Int32)).toInt := jadd (by omega) (by omega)
          exact ih w ta0 (by omega) (by omega) (by omega)
set_option maxHeartbeats 1000000 in
theorem S_X12_bunch {g : jGh} {Γ : Nat → Option Nat} {n : Nat} {a0 : Nat} {h : jH} (hn : 6000 ≤ n) (hg : jgok g) (w : jW (jKd g) Γ h) (ta0 : Γ a0 = some 20) : jok (F_X12_bunch n a0 h) (fun q => jW (jKd g) Γ q.2 ∧ (fun v : Int32 => True) q.1) := by
  unfold F_X12_bunch
  have f2 : ((0 : Int32)).toInt = 0 := rfl
  refine jok_b (t_pI w ta0 rfl rfl trivial) (fun h2_1 wh2_1 => ?_)
  obtain ⟨wh2_1, jh2_1, rh2_1⟩ := wh2_1
  exact S_X12_bunch_11 hn hg  n wh2_1 ta0 (by omega) (by omega) (by omega)
set_option maxHeartbeats 1000000 in
theorem S_X12_wooden {g : jGh} {Γ : Nat → Option Nat} {n : Nat} {a0 : Nat} {h : jH} (hn : 6000 ≤ n) (hg : jgok g) (w : jW (jKd g) Γ h) (ta0 : Γ a0 = some 20) : jok (F_X12_wooden n a0 h) (fun q => jW (jKd g) Γ q.2 ∧ (fun v : Int32 => True) q.1) := by
  unfold F_X12_wooden
  have f2 : ((0 : Int32)).toInt = 0 := rfl
  refine jok_b (t_pI w ta0 rfl rfl trivial) (fun h2_1 wh2_1 => ?_)
  obtain ⟨wh2_1, jh2_1, rh2_1⟩ := wh2_1
  try rw [t_cv wh2_1 ta0 rfl]
  have f4 : ((3 : Int32)).toInt = 3 := rfl
  refine jok_b (S_X12_ringsThat hn hg wh2_1 ta0 (by omega) (by omega)) (fun v7_3 pv7_3 => ?_)
  obtain ⟨lv7_3, uv7_3⟩ := pv7_3
  exact jok_s ⟨wh2_1, trivial⟩
set_option maxHeartbeats 1000000 in
theorem S_X12_caught {g : jGh} {Γ : Nat → Option Nat} {n : Nat} {a0 : Nat} {h : jH} (hn : 6000 ≤ n) (hg : jgok g) (w : jW (jKd g) Γ h) (ta0 : Γ a0 = some 20) : jok (F_X12_caught n a0 h) (fun q => jW (jKd g) Γ q.2 ∧ (fun v : Int32 => True) q.1) := by
  unfold F_X12_caught
  have f2 : ((0 : Int32)).toInt = 0 := rfl
  refine jok_b (t_pI w ta0 rfl rfl trivial) (fun h2_1 wh2_1 => ?_)
  obtain ⟨wh2_1, jh2_1, rh2_1⟩ := wh2_1
  try rw [t_cv wh2_1 ta0 rfl]
  have f4 : ((7 : Int32)).toInt = 7 := rfl
  refine jok_b (S_X12_ringsThat hn hg wh2_1 ta0 (by omega) (by omega)) (fun v8_3 pv8_3 => ?_)
  obtain ⟨lv8_3, uv8_3⟩ := pv8_3
  exact jok_s ⟨wh2_1, trivial⟩
set_option maxHeartbeats 1000000 in
theorem S_X12_loose {g : jGh} {Γ : Nat → Option Nat} {n : Nat} {a0 : Nat} {h : jH} (hn : 6000 ≤ n) (hg : jgok g) (w : jW (jKd g) Γ h) (ta0 : Γ a0 = some 20) : jok (F_X12_loose n a0 h) (fun q => jW (jKd g) Γ q.2 ∧ (fun v : Int32 => True) q.1) := by
  unfold F_X12_loose
  have f2 : ((0 : Int32)).toInt = 0 := rfl
  refine jok_b (t_pI w ta0 rfl rfl trivial) (fun h2_1 wh2_1 => ?_)
  obtain ⟨wh2_1, jh2_1, rh2_1⟩ := wh2_1
  try rw [t_cv wh2_1 ta0 rfl]
  refine jok_b (S_X12_looseOnes hn hg wh2_1 ta0) (fun v6_3 pv6_3 => ?_)
  exact jok_s ⟨wh2_1, trivial⟩
set_option maxHeartbeats 1000000 in
theorem S_X12_beyond_9 {g : jGh} {Γ : Nat → Option Nat} {n : Nat} (hn : 6000 ≤ n) (hg : jgok g)  (k : Nat) : ∀ {a0 : Nat} {x1 : Int32} {x2 : Int32} {h : jH}, jW (jKd g) Γ h → (Γ a0 = some 20) → (0 ≤ x2.toInt) → (x2.toInt ≤ 8) → (8 : Int) - x2.toInt < (k : Int) → jok (F_X12_beyond_9 n k a0 x1 x2 h) (fun q => jW (jKd g) Γ q.2 ∧ (fun v : Int32 => True) q.1) := by
  induction k with
  | zero =>
    intro a0 x1 x2 h w ta0 lx2 ux2 mk
    omega
  | succ k ih =>
    intro a0 x1 x2 h w ta0 lx2 ux2 mk
    show jok (F_X12_beyond_9_b n (F_X12_beyond_9 n k) a0 x1 x2 h) _
    unfold F_X12_beyond_9_b
    try rw [t_cv w ta0 rfl]
    refine jok_b2 (S_X12_rings hn hg w ta0) (fun v11_1 ev11_1 pv11_1 => ?_)
    obtain ⟨lv11_1, uv11_1⟩ := pv11_1
    refine jok_le (fun c2 => ?_) (fun c2 => ?_)
    · exact jok_s ⟨w, trivial⟩
    · try rw [t_cv w ta0 rfl]
      have f4 : ((2 : Int32)).toInt = 2 := rfl
      refine jok_b (S_X12_is hn hg w ta0 (by omega) (by omega) (by omega) (by omega)) (fun v21_3 pv21_3 => ?_)
      obtain ⟨lv21_3, uv21_3⟩ := pv21_3
      have f5 : ((0 : Int32)).toInt = 0 := rfl
      refine jok_eq (fun c6 d6 => ?_) (fun c6 => ?_)
      · have f7 : ((1 : Int32)).toInt = 1 := rfl
        have f8 : ((x2 + (1 : Int32))).toInt = (x2).toInt + ((1 : Int32)).toInt := jadd (by omega) (by omega)
        exact ih w ta0 (by omega) (by omega) (by omega)
      · try rw [t_cv w ta0 rfl]
        refine jok_b (S_X12_of hn hg w ta0 (by omega) (by omega) (by omega) (by omega)) (fun v30_9 pv30_9 => ?_)
        have pv30_9_9 := pv30_9
        try dsimp only at pv30_9_9
        refine jok_b (t_gR w ta0 rfl rfl) (fun p34_10 tp34_10 => ?_)
        have f12 : ((5 : Int32)).toInt = 5 := rfl
        refine jok_b (t_al w tp34_10 rfl (by omega) (by omega)) (fun v38_11 pv38_11 => ?_)
        refine jok_lt (fun c13 => ?_) (fun c13 => ?_)
        · have f14 : ((1 : Int32)).toInt = 1 := rfl
          have f15 : ((x2 + (1 : Int32))).toInt = (x2).toInt + ((1 : Int32)).toInt := jadd (by omega) (by omega)
          exact ih w ta0 (by omega) (by omega) (by omega)
        · have f16 : ((1 : Int32)).toInt = 1 := rfl
          have f17 : ((x2 + (1 : Int32))).toInt = (x2).toInt + ((1 : Int32)).toInt := jadd (by omega) (by omega)
          exact ih w ta0 (by omega) (by omega) (by omega)
set_option maxHeartbeats 1000000 in
theorem S_X12_beyond {g : jGh} {Γ : Nat → Option Nat} {n : Nat} {a0 : Nat} {h : jH} (hn : 6000 ≤ n) (hg : jgok g) (w : jW (jKd g) Γ h) (ta0 : Γ a0 = some 20) : jok (F_X12_beyond n a0 h) (fun q => jW (jKd g) Γ q.2 ∧ (fun v : Int32 => True) q.1) := by
  unfold F_X12_beyond
  have f2 : ((0 : Int32)).toInt = 0 := rfl
  refine jok_b (t_pI w ta0 rfl rfl trivial) (fun h2_1 wh2_1 => ?_)
  obtain ⟨wh2_1, jh2_1, rh2_1⟩ := wh2_1
  exact S_X12_beyond_9 hn hg  n wh2_1 ta0 (by omega) (by omega) (by omega)
set_option maxHeartbeats 1000000 in
theorem S_X12_odds_65 {g : jGh} {Γ : Nat → Option Nat} {n : Nat} (hn : 6000 ≤ n) (hg : jgok g)  (k : Nat) : ∀ {x2 : Int32} {x3 : Int32} {x4 : Int32} {x5 : Int32} {h : jH}, jW (jKd g) Γ h → (0 ≤ x2.toInt) → (x2.toInt ≤ 4) → (0 ≤ x5.toInt) → (x5.toInt ≤ 4) → (4 : Int) - x5.toInt < (k : Int) → jok (F_X12_odds_65 n k x2 x3 x4 x5 h) (fun q => jW (jKd g) Γ q.2 ∧ (fun v : Int32 => True) q.1) := by
  induction k with
  | zero =>
    intro x2 x3 x4 x5 h w lx2 ux2 lx5 ux5 mk
    omega
  | succ k ih =>
    intro x2 x3 x4 x5 h w lx2 ux2 lx5 ux5 mk
    show jok (F_X12_odds_65_b n (F_X12_odds_65 n k) x2 x3 x4 x5 h) _
    unfold F_X12_odds_65_b
    refine jok_le (fun c1 => ?_) (fun c1 => ?_)
    · exact jok_s ⟨w, trivial⟩
    · have f2 : ((1 : Int32)).toInt = 1 := rfl
      have f3 : ((x5 + (1 : Int32))).toInt = (x5).toInt + ((1 : Int32)).toInt := jadd (by omega) (by omega)
      exact ih w (by omega) (by omega) (by omega) (by omega) (by omega)
set_option maxHeartbeats 1000000 in
theorem S_X12_odds {g : jGh} {Γ : Nat → Option Nat} {n : Nat} {a0 : Nat} {x1 : Int32} {x2 : Int32} {h : jH} (hn : 6000 ≤ n) (hg : jgok g) (w : jW (jKd g) Γ h) (ta0 : Γ a0 = some 20) : jok (F_X12_odds n a0 x1 x2 h) (fun q => jW (jKd g) Γ q.2 ∧ (fun v : Int32 => True) q.1) := by
  unfold F_X12_odds
  have f2 : ((0 : Int32)).toInt = 0 := rfl
  refine jok_b (t_pI w ta0 rfl rfl trivial) (fun h2_1 wh2_1 => ?_)
  obtain ⟨wh2_1, jh2_1, rh2_1⟩ := wh2_1
  try rw [t_cv wh2_1 ta0 rfl]
  refine jok_b (S_X12_noRing hn hg wh2_1 ta0) (fun v8_3 pv8_3 => ?_)
  have pv8_3_9 := pv8_3
  try dsimp only at pv8_3_9
  try rw [t_cv wh2_1 ta0 rfl]
  refine jok_b (S_X12_throwsIf hn hg wh2_1 ta0 (by omega) (by omega)) (fun q12_4 wq12_4 => ?_)
  obtain ⟨wq12_4, pq12_4⟩ := wq12_4
  have f5 : ((1 : Int32)).toInt = 1 := rfl
  have pq12_4_9 := pq12_4
  try dsimp only at pq12_4_9
  refine jok_eq (fun c6 d6 => ?_) (fun c6 => ?_)
  · refine jok_b (S_X12_in hn hg wq12_4) (fun v22_7 pv22_7 => ?_)
    have f8 : ((4 : Int32)).toInt = 4 := rfl
    have pv22_7_9 := pv22_7
    try dsimp only at pv22_7_9
    refine jok_eq (fun c9 d9 => ?_) (fun c9 => ?_)
    · unfold F_X12_odds_33
      try rw [t_cv wq12_4 ta0 rfl]
      refine jok_b (S_X12_throwsIf hn hg wq12_4 ta0 (by omega) (by omega)) (fun q34_10 wq34_10 => ?_)
      obtain ⟨wq34_10, pq34_10⟩ := wq34_10
      have f11 : ((2 : Int32)).toInt = 2 := rfl
      have pq34_10_9 := pq34_10
      try dsimp only at pq34_10_9
      refine jok_eq (fun c12 d12 => ?_) (fun c12 => ?_)
      · try rw [t_cv wq34_10 ta0 rfl]
        refine jok_b (S_X12_byLaw hn hg wq34_10 ta0 (by omega) (by omega)) (fun q49_13 wq49_13 => ?_)
        obtain ⟨wq49_13, pq49_13⟩ := wq49_13
        exact S_X12_odds_65 hn hg  n wq49_13 (by omega) (by omega) (by omega) (by omega) (by omega)
      · exact jok_s ⟨wq34_10, trivial⟩
    · unfold F_X12_odds_33
      try rw [t_cv wq12_4 ta0 rfl]
      refine jok_b (S_X12_throwsIf hn hg wq12_4 ta0 (by omega) (by omega)) (fun q34_14 wq34_14 => ?_)
      obtain ⟨wq34_14, pq34_14⟩ := wq34_14
      have f15 : ((2 : Int32)).toInt = 2 := rfl
      have pq34_14_9 := pq34_14
      try dsimp only at pq34_14_9
      refine jok_eq (fun c16 d16 => ?_) (fun c16 => ?_)
      · try rw [t_cv wq34_14 ta0 rfl]
        refine jok_b (S_X12_byLaw hn hg wq34_14 ta0 (by omega) (by omega)) (fun q49_17 wq49_17 => ?_)
        obtain ⟨wq49_17, pq49_17⟩ := wq49_17
        exact S_X12_odds_65 hn hg  n wq49_17 (by omega) (by omega) (by omega) (by omega) (by omega)
      · exact jok_s ⟨wq34_14, trivial⟩
  · exact jok_s ⟨wq12_4, trivial⟩
set_option maxHeartbeats 1000000 in
theorem S_X12_twins_19 {g : jGh} {Γ : Nat → Option Nat} {n : Nat} (hn : 6000 ≤ n) (hg : jgok g) {k9 : Nat} {rc9 : Nat → Int32 → Int32 → jH → Option (Int32 × jH)} (k : Nat) : ∀ {a0 : Nat} {x1 : Int32} {x2 : Int32} {x3 : Int32} {h : jH}, jW (jKd g) Γ h → (Γ a0 = some 20) → (0 ≤ x2.toInt) → (x2.toInt ≤ 7) → (0 ≤ x3.toInt) → (x3.toInt ≤ 8) → (8 : Int) - x3.toInt < (k : Int) → (∀ {a0 : Nat} {x1 : Int32} {x2 : Int32} {h : jH}, jW (jKd g) Γ h → (Γ a0 = some 20) → (0 ≤ x2.toInt) → (x2.toInt ≤ 8) → (8 : Int) - x2.toInt < (k9 : Int) → jok (rc9 a0 x1 x2 h) (fun q => jW (jKd g) Γ q.2 ∧ (fun v : Int32 => True) q.1)) → ((8 : Int) - x2.toInt ≤ (k9 : Int)) → jok (F_X12_twins_19 n rc9 k a0 x1 x2 x3 h) (fun q => jW (jKd g) Γ q.2 ∧ (fun v : Int32 => True) q.1) := by
  induction k with
  | zero =>
    intro a0 x1 x2 x3 h w ta0 lx2 ux2 lx3 ux3 mk hrc9 m9
    omega
  | succ k ih =>
    intro a0 x1 x2 x3 h w ta0 lx2 ux2 lx3 ux3 mk hrc9 m9
    show jok (F_X12_twins_19_b n rc9 (F_X12_twins_19 n rc9 k) a0 x1 x2 x3 h) _
    unfold F_X12_twins_19_b
    refine jok_le (fun c1 => ?_) (fun c1 => ?_)
    · have f2 : ((1 : Int32)).toInt = 1 := rfl
      have f3 : ((x2 + (1 : Int32))).toInt = (x2).toInt + ((1 : Int32)).toInt := jadd (by omega) (by omega)
      exact hrc9 w ta0 (by omega) (by omega) (by omega)
    · try rw [t_cv w ta0 rfl]
      refine jok_b (S_X12_likens hn hg w ta0 (by omega) (by omega) (by omega) (by omega)) (fun v28_4 pv28_4 => ?_)
      obtain ⟨lv28_4, uv28_4⟩ := pv28_4
      have f5 : ((0 : Int32)).toInt = 0 := rfl
      refine jok_eq (fun c6 d6 => ?_) (fun c6 => ?_)
      · have f7 : ((1 : Int32)).toInt = 1 := rfl
        have f8 : ((x3 + (1 : Int32))).toInt = (x3).toInt + ((1 : Int32)).toInt := jadd (by omega) (by omega)
        exact ih w ta0 (by omega) (by omega) (by omega) (by omega) (by omega) hrc9 (by omega)
      · have f9 : ((1 : Int32)).toInt = 1 := rfl
        have f10 : ((x3 + (1 : Int32))).toInt = (x3).toInt + ((1 : Int32)).toInt := jadd (by omega) (by omega)
        exact ih w ta0 (by omega) (by omega) (by omega) (by omega) (by omega) hrc9 (by omega)
set_option maxHeartbeats 1000000 in
theorem S_X12_twins_9 {g : jGh} {Γ : Nat → Option Nat} {n : Nat} (hn : 6000 ≤ n) (hg : jgok g)  (k : Nat) : ∀ {a0 : Nat} {x1 : Int32} {x2 : Int32} {h : jH}, jW (jKd g) Γ h → (Γ a0 = some 20) → (0 ≤ x2.toInt) → (x2.toInt ≤ 8) → (8 : Int) - x2.toInt < (k : Int) → jok (F_X12_twins_9 n k a0 x1 x2 h) (fun q => jW (jKd g) Γ q.2 ∧ (fun v : Int32 => True) q.1) := by
  induction k with
  | zero =>
    intro a0 x1 x2 h w ta0 lx2 ux2 mk
    omega
  | succ k ih =>
    intro a0 x1 x2 h w ta0 lx2 ux2 mk
    show jok (F_X12_twins_9_b n (F_X12_twins_9 n k) a0 x1 x2 h) _
    unfold F_X12_twins_9_b
    try rw [t_cv w ta0 rfl]
    refine jok_b2 (S_X12_rings hn hg w ta0) (fun v11_1 ev11_1 pv11_1 => ?_)
    obtain ⟨lv11_1, uv11_1⟩ := pv11_1
    refine jok_le (fun c2 => ?_) (fun c2 => ?_)
    · exact jok_s ⟨w, trivial⟩
    · have f3 : ((0 : Int32)).toInt = 0 := rfl
      exact S_X12_twins_19 hn hg  n w ta0 (by omega) (by omega) (by omega) (by omega) (by omega) ih (by omega)
set_option maxHeartbeats 1000000 in
theorem S_X12_twins {g : jGh} {Γ : Nat → Option Nat} {n : Nat} {a0 : Nat} {h : jH} (hn : 6000 ≤ n) (hg : jgok g) (w : jW (jKd g) Γ h) (ta0 : Γ a0 = some 20) : jok (F_X12_twins n a0 h) (fun q => jW (jKd g) Γ q.2 ∧ (fun v : Int32 => True) q.1) := by
  unfold F_X12_twins
  have f2 : ((0 : Int32)).toInt = 0 := rfl
  refine jok_b (t_pI w ta0 rfl rfl trivial) (fun h2_1 wh2_1 => ?_)
  obtain ⟨wh2_1, jh2_1, rh2_1⟩ := wh2_1
  exact S_X12_twins_9 hn hg  n wh2_1 ta0 (by omega) (by omega) (by omega)
set_option maxHeartbeats 1000000 in
theorem S_X12_ahead {g : jGh} {Γ : Nat → Option Nat} {n : Nat} {a0 : Nat} {x1 : Int32} {x2 : Int32} {h : jH} (hn : 6000 ≤ n) (hg : jgok g) (w : jW (jKd g) Γ h) (ta0 : Γ a0 = some 20) : jok (F_X12_ahead n a0 x1 x2 h) (fun q => jW (jKd g) Γ q.2 ∧ (fun v : Int32 => True) q.1) := by
  unfold F_X12_ahead
  have f2 : ((0 : Int32)).toInt = 0 := rfl
  refine jok_b (t_pI w ta0 rfl rfl trivial) (fun h2_1 wh2_1 => ?_)
  obtain ⟨wh2_1, jh2_1, rh2_1⟩ := wh2_1
  try rw [t_cv wh2_1 ta0 rfl]
  refine jok_b (S_X12_noRing hn hg wh2_1 ta0) (fun v8_3 pv8_3 => ?_)
  have pv8_3_9 := pv8_3
  try dsimp only at pv8_3_9
  try rw [t_cv wh2_1 ta0 rfl]
  refine jok_b (S_X12_throwsIf hn hg wh2_1 ta0 (by omega) (by omega)) (fun q12_4 wq12_4 => ?_)
  obtain ⟨wq12_4, pq12_4⟩ := wq12_4
  have f5 : ((1 : Int32)).toInt = 1 := rfl
  have pq12_4_9 := pq12_4
  try dsimp only at pq12_4_9
  refine jok_eq (fun c6 d6 => ?_) (fun c6 => ?_)
  · refine jok_b (S_X12_noAhead hn hg wq12_4) (fun v20_7 pv20_7 => ?_)
    have pv20_7_9 := pv20_7
    try dsimp only at pv20_7_9
    try rw [t_cv wq12_4 ta0 rfl]
    refine jok_b (S_X12_throwsIf hn hg wq12_4 ta0 (by omega) (by omega)) (fun q24_8 wq24_8 => ?_)
    obtain ⟨wq24_8, pq24_8⟩ := wq24_8
    have f9 : ((2 : Int32)).toInt = 2 := rfl
    have pq24_8_9 := pq24_8
    try dsimp only at pq24_8_9
    refine jok_eq (fun c10 d10 => ?_) (fun c10 => ?_)
    · try rw [t_cv wq24_8 ta0 rfl]
      refine jok_b (S_X12_keepsAll hn hg wq24_8 ta0) (fun h33_11 wh33_11 => ?_)
      try rw [t_cv wh33_11 ta0 rfl]
      refine jok_b (S_X12_goesOn hn hg wh33_11 ta0 (by omega) (by omega)) (fun q39_12 wq39_12 => ?_)
      obtain ⟨wq39_12, pq39_12⟩ := wq39_12
      try rw [t_cv wq39_12 ta0 rfl]
      have f14 : ((4 : Int32)).toInt = 4 := rfl
      refine jok_b (S_X12_of hn hg wq39_12 ta0 (by omega) (by omega) (by omega) (by omega)) (fun v46_13 pv46_13 => ?_)
      have pv46_13_9 := pv46_13
      try dsimp only at pv46_13_9
      try rw [t_cv wq39_12 ta0 rfl]
      refine jok_b (S_X12_bringsBack hn hg wq39_12 ta0) (fun h51_15 wh51_15 => ?_)
      exact jok_s ⟨wh51_15, trivial⟩
    · exact jok_s ⟨wq24_8, trivial⟩
  · exact jok_s ⟨wq12_4, trivial⟩
set_option maxHeartbeats 1000000 in
theorem S_X12_faded {g : jGh} {Γ : Nat → Option Nat} {n : Nat} {a0 : Nat} {x1 : Int32} {h : jH} (hn : 6000 ≤ n) (hg : jgok g) (w : jW (jKd g) Γ h) (ta0 : Γ a0 = some 20) : jok (F_X12_faded n a0 x1 h) (fun q => jW (jKd g) Γ q.2 ∧ (fun v : Int32 => True) q.1) := by
  unfold F_X12_faded
  have f2 : ((0 : Int32)).toInt = 0 := rfl
  refine jok_b (t_pI w ta0 rfl rfl trivial) (fun h2_1 wh2_1 => ?_)
  obtain ⟨wh2_1, jh2_1, rh2_1⟩ := wh2_1
  refine jok_b (S_X12_noAhead hn hg wh2_1) (fun v7_3 pv7_3 => ?_)
  have pv7_3_9 := pv7_3
  try dsimp only at pv7_3_9
  try rw [t_cv wh2_1 ta0 rfl]
  refine jok_b (S_X12_throwsIf hn hg wh2_1 ta0 (by omega) (by omega)) (fun q11_4 wq11_4 => ?_)
  obtain ⟨wq11_4, pq11_4⟩ := wq11_4
  have f5 : ((1 : Int32)).toInt = 1 := rfl
  have pq11_4_9 := pq11_4
  try dsimp only at pq11_4_9
  refine jok_eq (fun c6 d6 => ?_) (fun c6 => ?_)
  · try rw [t_cv wq11_4 ta0 rfl]
    refine jok_b (S_X12_keepsAll hn hg wq11_4 ta0) (fun h20_7 wh20_7 => ?_)
    try rw [t_cv wh20_7 ta0 rfl]
    refine jok_b (S_X12_goesOn hn hg wh20_7 ta0 (by omega) (by omega)) (fun q26_8 wq26_8 => ?_)
    obtain ⟨wq26_8, pq26_8⟩ := wq26_8
    try rw [t_cv wq26_8 ta0 rfl]
    refine jok_b (S_X12_fadesOfAll hn hg wq26_8 ta0) (fun v31_9 pv31_9 => ?_)
    try rw [t_cv wq26_8 ta0 rfl]
    refine jok_b (S_X12_bringsBack hn hg wq26_8 ta0) (fun h36_10 wh36_10 => ?_)
    exact jok_s ⟨wh36_10, trivial⟩
  · exact jok_s ⟨wq11_4, trivial⟩
set_option maxHeartbeats 1000000 in
theorem S_X12_pale_13 {g : jGh} {Γ : Nat → Option Nat} {n : Nat} (hn : 6000 ≤ n) (hg : jgok g)  (k : Nat) : ∀ {a0 : Nat} {x1 : Int32} {x2 : Int32} {h : jH}, jW (jKd g) Γ h → (Γ a0 = some 20) → (0 ≤ x2.toInt) → (x2.toInt ≤ 81) → (81 : Int) - x2.toInt < (k : Int) → jok (F_X12_pale_13 n k a0 x1 x2 h) (fun q => jW (jKd g) Γ q.2 ∧ (fun v : Int32 => True) q.1) := by
  induction k with
  | zero =>
    intro a0 x1 x2 h w ta0 lx2 ux2 mk
    omega
  | succ k ih =>
    intro a0 x1 x2 h w ta0 lx2 ux2 mk
    show jok (F_X12_pale_13_b n (F_X12_pale_13 n k) a0 x1 x2 h) _
    unfold F_X12_pale_13_b
    have f1 : ((80 : Int32)).toInt = 80 := rfl
    refine jok_lt (fun c2 => ?_) (fun c2 => ?_)
    · unfold F_X12_pale_49
      try rw [t_cv w ta0 rfl]
      refine jok_b (S_X12_bringsBack hn hg w ta0) (fun h50_3 wh50_3 => ?_)
      exact jok_s ⟨wh50_3, trivial⟩
    · have f4 : ((-1 : Int32)).toInt = -1 := rfl
      refine jok_eq (fun c5 d5 => ?_) (fun c5 => ?_)
      · try rw [t_cv w ta0 rfl]
        refine jok_b (S_X12_somePale hn hg w ta0) (fun v25_6 pv25_6 => ?_)
        obtain ⟨lv25_6, uv25_6⟩ := pv25_6
        have f7 : ((0 : Int32)).toInt = 0 := rfl
        refine jok_eq (fun c8 d8 => ?_) (fun c8 => ?_)
        · unfold F_X12_pale_36
          try rw [t_cv w ta0 rfl]
          refine jok_b (S_X12_oneHour hn hg w ta0) (fun q39_9 wq39_9 => ?_)
          obtain ⟨wq39_9, pq39_9⟩ := wq39_9
          have f10 : ((1 : Int32)).toInt = 1 := rfl
          have f11 : ((x2 + (1 : Int32))).toInt = (x2).toInt + ((1 : Int32)).toInt := jadd (by omega) (by omega)
          exact ih wq39_9 ta0 (by omega) (by omega) (by omega)
        · unfold F_X12_pale_36
          try rw [t_cv w ta0 rfl]
          refine jok_b (S_X12_oneHour hn hg w ta0) (fun q39_12 wq39_12 => ?_)
          obtain ⟨wq39_12, pq39_12⟩ := wq39_12
          have f13 : ((1 : Int32)).toInt = 1 := rfl
          have f14 : ((x2 + (1 : Int32))).toInt = (x2).toInt + ((1 : Int32)).toInt := jadd (by omega) (by omega)
          exact ih wq39_12 ta0 (by omega) (by omega) (by omega)
      · unfold F_X12_pale_49
        try rw [t_cv w ta0 rfl]
        refine jok_b (S_X12_bringsBack hn hg w ta0) (fun h50_15 wh50_15 => ?_)
        exact jok_s ⟨wh50_15, trivial⟩
set_option maxHeartbeats 1000000 in
theorem S_X12_pale {g : jGh} {Γ : Nat → Option Nat} {n : Nat} {a0 : Nat} {h : jH} (hn : 6000 ≤ n) (hg : jgok g) (w : jW (jKd g) Γ h) (ta0 : Γ a0 = some 20) : jok (F_X12_pale n a0 h) (fun q => jW (jKd g) Γ q.2 ∧ (fun v : Int32 => True) q.1) := by
  unfold F_X12_pale
  have f2 : ((0 : Int32)).toInt = 0 := rfl
  refine jok_b (t_pI w ta0 rfl rfl trivial) (fun h2_1 wh2_1 => ?_)
  obtain ⟨wh2_1, jh2_1, rh2_1⟩ := wh2_1
  try rw [t_cv wh2_1 ta0 rfl]
  refine jok_b (S_X12_keepsAll hn hg wh2_1 ta0) (fun h8_3 wh8_3 => ?_)
  exact S_X12_pale_13 hn hg  n wh8_3 ta0 (by omega) (by omega) (by omega)
set_option maxHeartbeats 1000000 in
theorem S_X12_trial {g : jGh} {Γ : Nat → Option Nat} {n : Nat} {a0 : Nat} {x1 : Int32} {x2 : Int32} {h : jH} (hn : 6000 ≤ n) (hg : jgok g) (w : jW (jKd g) Γ h) (ta0 : Γ a0 = some 20) : jok (F_X12_trial n a0 x1 x2 h) (fun q => jW (jKd g) Γ q.2 ∧ (fun v : Int32 => True) q.1) := by
  unfold F_X12_trial
  have f2 : ((0 : Int32)).toInt = 0 := rfl
  refine jok_b (t_pI w ta0 rfl rfl trivial) (fun h2_1 wh2_1 => ?_)
  obtain ⟨wh2_1, jh2_1, rh2_1⟩ := wh2_1
  refine jok_b (S_X12_noAhead hn hg wh2_1) (fun v7_3 pv7_3 => ?_)
  have pv7_3_9 := pv7_3
  try dsimp only at pv7_3_9
  try rw [t_cv wh2_1 ta0 rfl]
  refine jok_b (S_X12_throwsIf hn hg wh2_1 ta0 (by omega) (by omega)) (fun q11_4 wq11_4 => ?_)
  obtain ⟨wq11_4, pq11_4⟩ := wq11_4
  have f5 : ((1 : Int32)).toInt = 1 := rfl
  have pq11_4_9 := pq11_4
  try dsimp only at pq11_4_9
  refine jok_eq (fun c6 d6 => ?_) (fun c6 => ?_)
  · try rw [t_cv wq11_4 ta0 rfl]
    refine jok_b (S_X12_keepsAll hn hg wq11_4 ta0) (fun h20_7 wh20_7 => ?_)
    try rw [t_cv wh20_7 ta0 rfl]
    refine jok_b (S_X12_goesOn hn hg wh20_7 ta0 (by omega) (by omega)) (fun q26_8 wq26_8 => ?_)
    obtain ⟨wq26_8, pq26_8⟩ := wq26_8
    refine jok_eq (fun c9 d9 => ?_) (fun c9 => ?_)
    · try rw [t_cv wq26_8 ta0 rfl]
      have f11 : ((7 : Int32)).toInt = 7 := rfl
      refine jok_b (S_X12_ringsThat hn hg wq26_8 ta0 (by omega) (by omega)) (fun v44_10 pv44_10 => ?_)
      obtain ⟨lv44_10, uv44_10⟩ := pv44_10
      unfold F_X12_trial_47
      try rw [t_cv wq26_8 ta0 rfl]
      refine jok_b (S_X12_bringsBack hn hg wq26_8 ta0) (fun h49_12 wh49_12 => ?_)
      exact jok_s ⟨wh49_12, trivial⟩
    · try rw [t_cv wq26_8 ta0 rfl]
      refine jok_b (S_X12_looseOnes hn hg wq26_8 ta0) (fun v35_13 pv35_13 => ?_)
      unfold F_X12_trial_47
      try rw [t_cv wq26_8 ta0 rfl]
      refine jok_b (S_X12_bringsBack hn hg wq26_8 ta0) (fun h49_14 wh49_14 => ?_)
      exact jok_s ⟨wh49_14, trivial⟩
  · exact jok_s ⟨wq11_4, trivial⟩
set_option maxHeartbeats 1000000 in
theorem S_X12_span_28 {g : jGh} {Γ : Nat → Option Nat} {n : Nat} (hn : 6000 ≤ n) (hg : jgok g)  (k : Nat) : ∀ {a0 : Nat} {x1 : Int32} {x2 : Int32} {x3 : Int32} {x4 : Int32} {h : jH}, jW (jKd g) Γ h → (Γ a0 = some 20) → (0 ≤ x1.toInt) → (x1.toInt ≤ 80) → (1 ≤ x4.toInt) → (x4.toInt ≤ 7) → (7 : Int) - x4.toInt < (k : Int) → jok (F_X12_span_28 n k a0 x1 x2 x3 x4 h) (fun q => jW (jKd g) Γ q.2 ∧ (fun v : Int32 => True) q.1) := by
  induction k with
  | zero =>
    intro a0 x1 x2 x3 x4 h w ta0 lx1 ux1 lx4 ux4 mk
    omega
  | succ k ih =>
    intro a0 x1 x2 x3 x4 h w ta0 lx1 ux1 lx4 ux4 mk
    show jok (F_X12_span_28_b n (F_X12_span_28 n k) a0 x1 x2 x3 x4 h) _
    unfold F_X12_span_28_b
    have f1 : ((6 : Int32)).toInt = 6 := rfl
    refine jok_lt (fun c2 => ?_) (fun c2 => ?_)
    · exact jok_s ⟨w, trivial⟩
    · refine jok_b (t_gR w ta0 rfl rfl) (fun p36_3 tp36_3 => ?_)
      have f5 : ((10 : Int32)).toInt = 10 := rfl
      refine jok_b (t_as w tp36_3 rfl (by omega) (by omega) (show jRw g ((10 : Int32)).toInt.toNat x4 from ⟨⟨by omega, by omega, by omega⟩, Or.inl (by omega)⟩) (fun q => by cases q)) (fun h43_4 wh43_4 => ?_)
      obtain ⟨wh43_4, rh43_4⟩ := wh43_4
      try rw [t_cv wh43_4 ta0 rfl]
      refine jok_b (S_X12_goesOn hn hg wh43_4 ta0 (by omega) (by omega)) (fun q47_6 wq47_6 => ?_)
      obtain ⟨wq47_6, pq47_6⟩ := wq47_6
      try rw [t_cv wq47_6 ta0 rfl]
      have f8 : ((7 : Int32)).toInt = 7 := rfl
      refine jok_b (S_X12_ringsThat hn hg wq47_6 ta0 (by omega) (by omega)) (fun v54_7 pv54_7 => ?_)
      obtain ⟨lv54_7, uv54_7⟩ := pv54_7
      refine jok_b (S_J6_bitCount_0f7a4 hn hg wq47_6) (fun v57_9 pv57_9 => ?_)
      try rw [t_cv wq47_6 ta0 rfl]
      refine jok_b (S_X12_looseOnes hn hg wq47_6 ta0) (fun v61_10 pv61_10 => ?_)
      refine jok_b (S_J6_bitCount_0f7a4 hn hg wq47_6) (fun v64_11 pv64_11 => ?_)
      try rw [t_cv wq47_6 ta0 rfl]
      refine jok_b (S_X12_bringsBack hn hg wq47_6 ta0) (fun h71_12 wh71_12 => ?_)
      have f13 : ((0 : Int32)).toInt = 0 := rfl
      refine jok_le (fun c14 => ?_) (fun c14 => ?_)
      · refine jok_eq (fun c15 d15 => ?_) (fun c15 => ?_)
        · have f16 : ((1 : Int32)).toInt = 1 := rfl
          have f17 : ((x4 + (1 : Int32))).toInt = (x4).toInt + ((1 : Int32)).toInt := jadd (by omega) (by omega)
          exact ih wh71_12 ta0 (by omega) (by omega) (by omega) (by omega) (by omega)
        · have f18 : ((1 : Int32)).toInt = 1 := rfl
          have f19 : ((x4 + (1 : Int32))).toInt = (x4).toInt + ((1 : Int32)).toInt := jadd (by omega) (by omega)
          exact ih wh71_12 ta0 (by omega) (by omega) (by omega) (by omega) (by omega)
      · have f20 : ((1 : Int32)).toInt = 1 := rfl
        have f21 : ((x4 + (1 : Int32))).toInt = (x4).toInt + ((1 : Int32)).toInt := jadd (by omega) (by omega)
        exact ih wh71_12 ta0 (by omega) (by omega) (by omega) (by omega) (by omega)
set_option maxHeartbeats 1000000 in
theorem S_X12_span {g : jGh} {Γ : Nat → Option Nat} {n : Nat} {a0 : Nat} {x1 : Int32} {x2 : Int32} {h : jH} (hn : 6000 ≤ n) (hg : jgok g) (w : jW (jKd g) Γ h) (ta0 : Γ a0 = some 20) : jok (F_X12_span n a0 x1 x2 h) (fun q => jW (jKd g) Γ q.2 ∧ (fun v : Int32 => True) q.1) := by
  unfold F_X12_span
  have f2 : ((0 : Int32)).toInt = 0 := rfl
  refine jok_b (t_pI w ta0 rfl rfl trivial) (fun h2_1 wh2_1 => ?_)
  obtain ⟨wh2_1, jh2_1, rh2_1⟩ := wh2_1
  refine jok_b (S_X12_noAhead hn hg wh2_1) (fun v7_3 pv7_3 => ?_)
  have pv7_3_9 := pv7_3
  try dsimp only at pv7_3_9
  try rw [t_cv wh2_1 ta0 rfl]
  refine jok_b (S_X12_throwsIf hn hg wh2_1 ta0 (by omega) (by omega)) (fun q11_4 wq11_4 => ?_)
  obtain ⟨wq11_4, pq11_4⟩ := wq11_4
  have f5 : ((1 : Int32)).toInt = 1 := rfl
  have pq11_4_9 := pq11_4
  try dsimp only at pq11_4_9
  refine jok_eq (fun c6 d6 => ?_) (fun c6 => ?_)
  · try rw [t_cv wq11_4 ta0 rfl]
    refine jok_b (S_X12_keepsAll hn hg wq11_4 ta0) (fun h20_7 wh20_7 => ?_)
    exact S_X12_span_28 hn hg  n wh20_7 ta0 (by omega) (by omega) (by omega) (by omega) (by omega)
  · exact jok_s ⟨wq11_4, trivial⟩
set_option maxHeartbeats 1000000 in
theorem S_X12_led_36 {g : jGh} {Γ : Nat → Option Nat} {n : Nat} (hn : 6000 ≤ n) (hg : jgok g)  (k : Nat) : ∀ {a0 : Nat} {x1 : Int32} {x2 : Int32} {x3 : Int32} {x4 : Int32} {x5 : Int32} {h : jH}, jW (jKd g) Γ h → (Γ a0 = some 20) → (-1 ≤ x5.toInt) → (x5.toInt ≤ 59) → x5.toInt - (-1 : Int) < (k : Int) → jok (F_X12_led_36 n k a0 x1 x2 x3 x4 x5 h) (fun q => jW (jKd g) Γ q.2 ∧ (fun v : Int32 => True) q.1) := by
  induction k with
  | zero =>
    intro a0 x1 x2 x3 x4 x5 h w ta0 lx5 ux5 mk
    omega
  | succ k ih =>
    intro a0 x1 x2 x3 x4 x5 h w ta0 lx5 ux5 mk
    show jok (F_X12_led_36_b n (F_X12_led_36 n k) a0 x1 x2 x3 x4 x5 h) _
    unfold F_X12_led_36_b
    have f1 : ((0 : Int32)).toInt = 0 := rfl
    refine jok_lt (fun c2 => ?_) (fun c2 => ?_)
    · refine jok_eq (fun c3 d3 => ?_) (fun c3 => ?_)
      · exact jok_s ⟨w, trivial⟩
      · exact jok_s ⟨w, trivial⟩
    · try rw [t_cv w ta0 rfl]
      have f5 : ((2 : Int32)).toInt = 2 := rfl
      refine jok_b (S_X12_ofLog hn hg w ta0 (by omega) (by omega) (by omega) (by omega)) (fun v45_4 pv45_4 => ?_)
      refine jok_eq (fun c6 d6 => ?_) (fun c6 => ?_)
      · try rw [t_cv w ta0 rfl]
        have f8 : ((5 : Int32)).toInt = 5 := rfl
        refine jok_b (S_X12_ofLog hn hg w ta0 (by omega) (by omega) (by omega) (by omega)) (fun v62_7 pv62_7 => ?_)
        obtain ⟨y9, hy9⟩ : ∃ y : Int32, y = (x5 + (-1 : Int32)) := ⟨_, rfl⟩
        have fy9 : (y9).toInt = (x5).toInt - 1 := by rw [hy9]; exact jaddN rfl (by omega) (by omega)
        try rw [← hy9]
        exact ih w ta0 (by omega) (by omega) (by omega)
      · obtain ⟨y10, hy10⟩ : ∃ y : Int32, y = (x5 + (-1 : Int32)) := ⟨_, rfl⟩
        have fy10 : (y10).toInt = (x5).toInt - 1 := by rw [hy10]; exact jaddN rfl (by omega) (by omega)
        try rw [← hy10]
        exact ih w ta0 (by omega) (by omega) (by omega)
set_option maxHeartbeats 1000000 in
theorem S_X12_led {g : jGh} {Γ : Nat → Option Nat} {n : Nat} {a0 : Nat} {x1 : Int32} {x2 : Int32} {h : jH} (hn : 6000 ≤ n) (hg : jgok g) (w : jW (jKd g) Γ h) (ta0 : Γ a0 = some 20) : jok (F_X12_led n a0 x1 x2 h) (fun q => jW (jKd g) Γ q.2 ∧ (fun v : Int32 => True) q.1) := by
  unfold F_X12_led
  have f2 : ((0 : Int32)).toInt = 0 := rfl
  refine jok_b (t_pI w ta0 rfl rfl trivial) (fun h2_1 wh2_1 => ?_)
  obtain ⟨wh2_1, jh2_1, rh2_1⟩ := wh2_1
  try rw [t_cv wh2_1 ta0 rfl]
  refine jok_b (S_X12_noRing hn hg wh2_1 ta0) (fun v8_3 pv8_3 => ?_)
  have pv8_3_9 := pv8_3
  try dsimp only at pv8_3_9
  try rw [t_cv wh2_1 ta0 rfl]
  refine jok_b (S_X12_throwsIf hn hg wh2_1 ta0 (by omega) (by omega)) (fun q12_4 wq12_4 => ?_)
  obtain ⟨wq12_4, pq12_4⟩ := wq12_4
  have f5 : ((1 : Int32)).toInt = 1 := rfl
  have pq12_4_9 := pq12_4
  try dsimp only at pq12_4_9
  refine jok_eq (fun c6 d6 => ?_) (fun c6 => ?_)
  · refine jok_b (t_gR wq12_4 ta0 rfl rfl) (fun p26_7 tp26_7 => ?_)
    have f9 : ((9 : Int32)).toInt = 9 := rfl
    refine jok_b (t_al wq12_4 tp26_7 rfl (by omega) (by omega)) (fun v31_8 pv31_8 => ?_)
    have bv31_8 : 0 ≤ (v31_8).toInt ∧ (v31_8).toInt ≤ 60 := by rcases pv31_8.1.2.1 with z | z; exact absurd rfl z; exact z
    obtain ⟨lv31_8, uv31_8⟩ := bv31_8
    have f10 : ((v31_8 - (1 : Int32))).toInt = (v31_8).toInt - ((1 : Int32)).toInt := jsub (by omega) (by omega)
    exact S_X12_led_36 hn hg  n wq12_4 ta0 (by omega) (by omega) (by omega)
  · exact jok_s ⟨wq12_4, trivial⟩
set_option maxHeartbeats 1000000 in
theorem S_X12_log {g : jGh} {Γ : Nat → Option Nat} {n : Nat} {a0 : Nat} {x1 : Int32} {x2 : Int32} {h : jH} (hn : 6000 ≤ n) (hg : jgok g) (w : jW (jKd g) Γ h) (ta0 : Γ a0 = some 20) : jok (F_X12_log n a0 x1 x2 h) (fun q => jW (jKd g) Γ q.2 ∧ (fun v : Int32 => True) q.1) := by
  unfold F_X12_log
  have f2 : ((0 : Int32)).toInt = 0 := rfl
  refine jok_b (t_pI w ta0 rfl rfl trivial) (fun h2_1 wh2_1 => ?_)
  obtain ⟨wh2_1, jh2_1, rh2_1⟩ := wh2_1
  refine jok_b (S_X12_in hn hg wh2_1) (fun v9_3 pv9_3 => ?_)
  have f4 : ((5 : Int32)).toInt = 5 := rfl
  have pv9_3_9 := pv9_3
  try dsimp only at pv9_3_9
  refine jok_eq (fun c5 d5 => ?_) (fun c5 => ?_)
  · unfold F_X12_log_20
    try rw [t_cv wh2_1 ta0 rfl]
    have f7 : ((1 : Int32)).toInt = 1 := rfl
    refine jok_b (S_X12_throwsIf hn hg wh2_1 ta0 (by omega) (by omega)) (fun q21_6 wq21_6 => ?_)
    obtain ⟨wq21_6, pq21_6⟩ := wq21_6
    have pq21_6_9 := pq21_6
    try dsimp only at pq21_6_9
    refine jok_eq (fun c8 d8 => ?_) (fun c8 => ?_)
    · refine jok_b (t_gR wq21_6 ta0 rfl rfl) (fun p32_9 tp32_9 => ?_)
      have f11 : ((9 : Int32)).toInt = 9 := rfl
      refine jok_b (t_al wq21_6 tp32_9 rfl (by omega) (by omega)) (fun v37_10 pv37_10 => ?_)
      have bv37_10 : 0 ≤ (v37_10).toInt ∧ (v37_10).toInt ≤ 60 := by rcases pv37_10.1.2.1 with z | z; exact absurd rfl z; exact z
      obtain ⟨lv37_10, uv37_10⟩ := bv37_10
      refine jok_b (S_X12_in hn hg wq21_6) (fun v40_12 pv40_12 => ?_)
      have f13 : ((v37_10 - (1 : Int32))).toInt = (v37_10).toInt - ((1 : Int32)).toInt := jsub (by omega) (by omega)
      have pv40_12_9 := pv40_12
      try dsimp only at pv40_12_9
      refine jok_eq (fun c14 d14 => ?_) (fun c14 => ?_)
      · exact jok_s ⟨wq21_6, trivial⟩
      · try rw [t_cv wq21_6 ta0 rfl]
        refine jok_b (S_X12_ofLog hn hg wq21_6 ta0 (by omega) (by omega) (by omega) (by omega)) (fun v49_15 pv49_15 => ?_)
        exact jok_s ⟨wq21_6, trivial⟩
    · exact jok_s ⟨wq21_6, trivial⟩
  · unfold F_X12_log_20
    try rw [t_cv wh2_1 ta0 rfl]
    refine jok_b (S_X12_throwsIf hn hg wh2_1 ta0 (by omega) (by omega)) (fun q21_16 wq21_16 => ?_)
    obtain ⟨wq21_16, pq21_16⟩ := wq21_16
    have f17 : ((1 : Int32)).toInt = 1 := rfl
    have pq21_16_9 := pq21_16
    try dsimp only at pq21_16_9
    refine jok_eq (fun c18 d18 => ?_) (fun c18 => ?_)
    · refine jok_b (t_gR wq21_16 ta0 rfl rfl) (fun p32_19 tp32_19 => ?_)
      have f21 : ((9 : Int32)).toInt = 9 := rfl
      refine jok_b (t_al wq21_16 tp32_19 rfl (by omega) (by omega)) (fun v37_20 pv37_20 => ?_)
      have bv37_20 : 0 ≤ (v37_20).toInt ∧ (v37_20).toInt ≤ 60 := by rcases pv37_20.1.2.1 with z | z; exact absurd rfl z; exact z
      obtain ⟨lv37_20, uv37_20⟩ := bv37_20
      refine jok_b (S_X12_in hn hg wq21_16) (fun v40_22 pv40_22 => ?_)
      have f23 : ((v37_20 - (1 : Int32))).toInt = (v37_20).toInt - ((1 : Int32)).toInt := jsub (by omega) (by omega)
      have pv40_22_9 := pv40_22
      try dsimp only at pv40_22_9
      refine jok_eq (fun c24 d24 => ?_) (fun c24 => ?_)
      · exact jok_s ⟨wq21_16, trivial⟩
      · try rw [t_cv wq21_16 ta0 rfl]
        refine jok_b (S_X12_ofLog hn hg wq21_16 ta0 (by omega) (by omega) (by omega) (by omega)) (fun v49_25 pv49_25 => ?_)
        exact jok_s ⟨wq21_16, trivial⟩
    · exact jok_s ⟨wq21_16, trivial⟩
set_option maxHeartbeats 1000000 in
theorem S_X12_seed {g : jGh} {Γ : Nat → Option Nat} {n : Nat} {a0 : Nat} {x1 : Int32} {h : jH} (hn : 6000 ≤ n) (hg : jgok g) (w : jW (jKd g) Γ h) (ta0 : Γ a0 = some 20) : jok (F_X12_seed n a0 x1 h) (fun q => jW (jKd g) Γ q.2 ∧ (fun v : Int32 => True) q.1) := by
  unfold F_X12_seed
  have f2 : ((0 : Int32)).toInt = 0 := rfl
  refine jok_b (t_pI w ta0 rfl rfl trivial) (fun h2_1 wh2_1 => ?_)
  obtain ⟨wh2_1, jh2_1, rh2_1⟩ := wh2_1
  refine jok_b (t_gR wh2_1 ta0 rfl rfl) (fun p6_3 tp6_3 => ?_)
  have f5 : ((10 : Int32)).toInt = 10 := rfl
  refine jok_b (t_al wh2_1 tp6_3 rfl (by omega) (by omega)) (fun v11_4 pv11_4 => ?_)
  refine jok_b (t_gR wh2_1 ta0 rfl rfl) (fun p14_6 tp14_6 => ?_)
  refine jok_b (t_as wh2_1 tp14_6 rfl (by omega) (by omega) (show jRw g ((10 : Int32)).toInt.toNat x1 from ⟨⟨by omega, by omega, by omega⟩, Or.inl (by omega)⟩) (fun q => by cases q)) (fun h20_7 wh20_7 => ?_)
  obtain ⟨wh20_7, rh20_7⟩ := wh20_7
  exact jok_s ⟨wh20_7, trivial⟩
set_option maxHeartbeats 1000000 in
theorem S_X12_count {g : jGh} {Γ : Nat → Option Nat} {n : Nat} {a0 : Nat} {x1 : Int32} {h : jH} (hn : 6000 ≤ n) (hg : jgok g) (w : jW (jKd g) Γ h) (ta0 : Γ a0 = some 20) : jok (F_X12_count n a0 x1 h) (fun q => jW (jKd g) Γ q.2 ∧ (fun v : Int32 => True) q.1) := by
  unfold F_X12_count
  have f2 : ((0 : Int32)).toInt = 0 := rfl
  refine jok_b (t_pI w ta0 rfl rfl trivial) (fun h2_1 wh2_1 => ?_)
  obtain ⟨wh2_1, jh2_1, rh2_1⟩ := wh2_1
  have f3 : ((2 : Int32)).toInt = 2 := rfl
  refine jok_eq (fun c4 d4 => ?_) (fun c4 => ?_)
  · refine jok_b (t_gR wh2_1 ta0 rfl rfl) (fun p41_5 tp41_5 => ?_)
    refine jok_b (t_al wh2_1 tp41_5 rfl (by omega) (by omega)) (fun v45_6 pv45_6 => ?_)
    have f7 : ((1 : Int32)).toInt = 1 := rfl
    refine jok_eq (fun c8 d8 => ?_) (fun c8 => ?_)
    · refine jok_b (t_gR wh2_1 ta0 rfl rfl) (fun p51_9 tp51_9 => ?_)
      have f11 : ((435 : Int32)).toInt = 435 := rfl
      refine jok_b (t_al wh2_1 tp51_9 rfl (by omega) (by omega)) (fun v57_10 pv57_10 => ?_)
      have bv57_10 := jw435 hg pv57_10
      obtain ⟨rv57_10, lv57_10, uv57_10⟩ := bv57_10
      exact jok_s ⟨wh2_1, trivial⟩
    · exact jok_s ⟨wh2_1, trivial⟩
  · have f12 : ((9 : Int32)).toInt = 9 := rfl
    refine jok_eq (fun c13 d13 => ?_) (fun c13 => ?_)
    · refine jok_b (t_gR wh2_1 ta0 rfl rfl) (fun p64_14 tp64_14 => ?_)
      refine jok_b (t_al wh2_1 tp64_14 rfl (by omega) (by omega)) (fun v69_15 pv69_15 => ?_)
      have bv69_15 : 0 ≤ (v69_15).toInt ∧ (v69_15).toInt ≤ 60 := by rcases pv69_15.1.2.1 with z | z; exact absurd rfl z; exact z
      obtain ⟨lv69_15, uv69_15⟩ := bv69_15
      exact jok_s ⟨wh2_1, trivial⟩
    · have f16 : ((10 : Int32)).toInt = 10 := rfl
      refine jok_eq (fun c17 d17 => ?_) (fun c17 => ?_)
      · refine jok_b2 (t_gI wh2_1 ta0 rfl rfl) (fun v72_18 ev72_18 pv72_18 => ?_)
        obtain ⟨lv72_18, uv72_18⟩ := pv72_18
        exact jok_s ⟨wh2_1, trivial⟩
      · refine jok_b (S_X12_in hn hg wh2_1) (fun v80_19 pv80_19 => ?_)
        have f20 : ((8 : Int32)).toInt = 8 := rfl
        have pv80_19_9 := pv80_19
        try dsimp only at pv80_19_9
        refine jok_eq (fun c21 d21 => ?_) (fun c21 => ?_)
        · exact jok_s ⟨wh2_1, trivial⟩
        · refine jok_b (t_gR wh2_1 ta0 rfl rfl) (fun p87_22 tp87_22 => ?_)
          refine jok_b (t_al wh2_1 tp87_22 rfl (by omega) (by omega)) (fun v91_23 pv91_23 => ?_)
          exact jok_s ⟨wh2_1, trivial⟩
set_option maxHeartbeats 1000000 in
theorem S_X12_ring {g : jGh} {Γ : Nat → Option Nat} {n : Nat} {a0 : Nat} {x1 : Int32} {x2 : Int32} {h : jH} (hn : 6000 ≤ n) (hg : jgok g) (w : jW (jKd g) Γ h) (ta0 : Γ a0 = some 20) : jok (F_X12_ring n a0 x1 x2 h) (fun q => jW (jKd g) Γ q.2 ∧ (fun v : Int32 => True) q.1) := by
  unfold F_X12_ring
  have f2 : ((0 : Int32)).toInt = 0 := rfl
  refine jok_b (t_pI w ta0 rfl rfl trivial) (fun h2_1 wh2_1 => ?_)
  obtain ⟨wh2_1, jh2_1, rh2_1⟩ := wh2_1
  try rw [t_cv wh2_1 ta0 rfl]
  refine jok_b (S_X12_noRing hn hg wh2_1 ta0) (fun v8_3 pv8_3 => ?_)
  have pv8_3_9 := pv8_3
  try dsimp only at pv8_3_9
  try rw [t_cv wh2_1 ta0 rfl]
  refine jok_b (S_X12_throwsIf hn hg wh2_1 ta0 (by omega) (by omega)) (fun q12_4 wq12_4 => ?_)
  obtain ⟨wq12_4, pq12_4⟩ := wq12_4
  have f5 : ((1 : Int32)).toInt = 1 := rfl
  have pq12_4_9 := pq12_4
  try dsimp only at pq12_4_9
  refine jok_eq (fun c6 d6 => ?_) (fun c6 => ?_)
  · refine jok_b (S_X12_in hn hg wq12_4) (fun v23_7 pv23_7 => ?_)
    have f8 : ((13 : Int32)).toInt = 13 := rfl
    have pv23_7_9 := pv23_7
    try dsimp only at pv23_7_9
    refine jok_eq (fun c9 d9 => ?_) (fun c9 => ?_)
    · unfold F_X12_ring_34
      try rw [t_cv wq12_4 ta0 rfl]
      refine jok_b (S_X12_throwsIf hn hg wq12_4 ta0 (by omega) (by omega)) (fun q35_10 wq35_10 => ?_)
      obtain ⟨wq35_10, pq35_10⟩ := wq35_10
      have f11 : ((2 : Int32)).toInt = 2 := rfl
      have pq35_10_9 := pq35_10
      try dsimp only at pq35_10_9
      refine jok_eq (fun c12 d12 => ?_) (fun c12 => ?_)
      · have f13 : ((8 : Int32)).toInt = 8 := rfl
        refine jok_eq (fun c14 d14 => ?_) (fun c14 => ?_)
        · try rw [t_cv wq35_10 ta0 rfl]
          refine jok_b2 (S_X12_lastRing hn hg wq35_10 ta0) (fun v86_15 ev86_15 pv86_15 => ?_)
          obtain ⟨lv86_15, uv86_15⟩ := pv86_15
          refine jok_eq (fun c16 d16 => ?_) (fun c16 => ?_)
          · exact jok_s ⟨wq35_10, trivial⟩
          · try rw [t_cv wq35_10 ta0 rfl]
            refine jok_b (S_X12_gapOf hn hg wq35_10 ta0 (by omega) (by omega)) (fun v98_17 pv98_17 => ?_)
            exact jok_s ⟨wq35_10, trivial⟩
        · have f18 : ((9 : Int32)).toInt = 9 := rfl
          refine jok_eq (fun c19 d19 => ?_) (fun c19 => ?_)
          · try rw [t_cv wq35_10 ta0 rfl]
            refine jok_b (S_X12_byLaw hn hg wq35_10 ta0 (by omega) (by omega)) (fun q105_20 wq105_20 => ?_)
            obtain ⟨wq105_20, pq105_20⟩ := wq105_20
            exact jok_s ⟨wq105_20, trivial⟩
          · have f21 : ((10 : Int32)).toInt = 10 := rfl
            refine jok_eq (fun c22 d22 => ?_) (fun c22 => ?_)
            · try rw [t_cv wq35_10 ta0 rfl]
              refine jok_b (S_X12_byLaw hn hg wq35_10 ta0 (by omega) (by omega)) (fun q112_23 wq112_23 => ?_)
              obtain ⟨wq112_23, pq112_23⟩ := wq112_23
              exact jok_s ⟨wq112_23, trivial⟩
            · have f24 : ((11 : Int32)).toInt = 11 := rfl
              refine jok_eq (fun c25 d25 => ?_) (fun c25 => ?_)
              · try rw [t_cv wq35_10 ta0 rfl]
                refine jok_b (S_X12_byLaw hn hg wq35_10 ta0 (by omega) (by omega)) (fun q119_26 wq119_26 => ?_)
                obtain ⟨wq119_26, pq119_26⟩ := wq119_26
                exact jok_s ⟨wq119_26, trivial⟩
              · have f27 : ((12 : Int32)).toInt = 12 := rfl
                refine jok_eq (fun c28 d28 => ?_) (fun c28 => ?_)
                · try rw [t_cv wq35_10 ta0 rfl]
                  refine jok_b (S_X12_hangsOn hn hg wq35_10 ta0 (by omega) (by omega)) (fun v125_29 pv125_29 => ?_)
                  exact jok_s ⟨wq35_10, trivial⟩
                · refine jok_eq (fun c30 d30 => ?_) (fun c30 => ?_)
                  · try rw [t_cv wq35_10 ta0 rfl]
                    refine jok_b (S_X12_shareOf hn hg wq35_10 ta0 (by omega) (by omega)) (fun v131_31 pv131_31 => ?_)
                    exact jok_s ⟨wq35_10, trivial⟩
                  · try rw [t_cv wq35_10 ta0 rfl]
                    refine jok_b (S_X12_of hn hg wq35_10 ta0 (by omega) (by omega) (by omega) (by omega)) (fun v138_32 pv138_32 => ?_)
                    have pv138_32_9 := pv138_32
                    try dsimp only at pv138_32_9
                    exact jok_s ⟨wq35_10, trivial⟩
      · exact jok_s ⟨wq35_10, trivial⟩
    · unfold F_X12_ring_34
      try rw [t_cv wq12_4 ta0 rfl]
      refine jok_b (S_X12_throwsIf hn hg wq12_4 ta0 (by omega) (by omega)) (fun q35_33 wq35_33 => ?_)
      obtain ⟨wq35_33, pq35_33⟩ := wq35_33
      have f34 : ((2 : Int32)).toInt = 2 := rfl
      have pq35_33_9 := pq35_33
      try dsimp only at pq35_33_9
      refine jok_eq (fun c35 d35 => ?_) (fun c35 => ?_)
      · have f36 : ((8 : Int32)).toInt = 8 := rfl
        refine jok_eq (fun c37 d37 => ?_) (fun c37 => ?_)
        · try rw [t_cv wq35_33 ta0 rfl]
          refine jok_b2 (S_X12_lastRing hn hg wq35_33 ta0) (fun v86_38 ev86_38 pv86_38 => ?_)
          obtain ⟨lv86_38, uv86_38⟩ := pv86_38
          refine jok_eq (fun c39 d39 => ?_) (fun c39 => ?_)
          · exact jok_s ⟨wq35_33, trivial⟩
          · try rw [t_cv wq35_33 ta0 rfl]
            refine jok_b (S_X12_gapOf hn hg wq35_33 ta0 (by omega) (by omega)) (fun v98_40 pv98_40 => ?_)
            exact jok_s ⟨wq35_33, trivial⟩
        · have f41 : ((9 : Int32)).toInt = 9 := rfl
          refine jok_eq (fun c42 d42 => ?_) (fun c42 => ?_)
          · try rw [t_cv wq35_33 ta0 rfl]
            refine jok_b (S_X12_byLaw hn hg wq35_33 ta0 (by omega) (by omega)) (fun q105_43 wq105_43 => ?_)
            obtain ⟨wq105_43, pq105_43⟩ := wq105_43
            exact jok_s ⟨wq105_43, trivial⟩
          · have f44 : ((10 : Int32)).toInt = 10 := rfl
            refine jok_eq (fun c45 d45 => ?_) (fun c45 => ?_)
            · try rw [t_cv wq35_33 ta0 rfl]
              refine jok_b (S_X12_byLaw hn hg wq35_33 ta0 (by omega) (by omega)) (fun q112_46 wq112_46 => ?_)
              obtain ⟨wq112_46, pq112_46⟩ := wq112_46
              exact jok_s ⟨wq112_46, trivial⟩
            · have f47 : ((11 : Int32)).toInt = 11 := rfl
              refine jok_eq (fun c48 d48 => ?_) (fun c48 => ?_)
              · try rw [t_cv wq35_33 ta0 rfl]
                refine jok_b (S_X12_byLaw hn hg wq35_33 ta0 (by omega) (by omega)) (fun q119_49 wq119_49 => ?_)
                obtain ⟨wq119_49, pq119_49⟩ := wq119_49
                exact jok_s ⟨wq119_49, trivial⟩
              · have f50 : ((12 : Int32)).toInt = 12 := rfl
                refine jok_eq (fun c51 d51 => ?_) (fun c51 => ?_)
                · try rw [t_cv wq35_33 ta0 rfl]
                  refine jok_b (S_X12_hangsOn hn hg wq35_33 ta0 (by omega) (by omega)) (fun v125_52 pv125_52 => ?_)
                  exact jok_s ⟨wq35_33, trivial⟩
                · refine jok_eq (fun c53 d53 => ?_) (fun c53 => ?_)
                  · try rw [t_cv wq35_33 ta0 rfl]
                    refine jok_b (S_X12_shareOf hn hg wq35_33 ta0 (by omega) (by omega)) (fun v131_54 pv131_54 => ?_)
                    exact jok_s ⟨wq35_33, trivial⟩
                  · try rw [t_cv wq35_33 ta0 rfl]
                    refine jok_b (S_X12_of hn hg wq35_33 ta0 (by omega) (by omega) (by omega) (by omega)) (fun v138_55 pv138_55 => ?_)
                    have pv138_55_9 := pv138_55
                    try dsimp only at pv138_55_9
                    exact jok_s ⟨wq35_33, trivial⟩
      · exact jok_s ⟨wq35_33, trivial⟩
  · exact jok_s ⟨wq12_4, trivial⟩
set_option maxHeartbeats 1000000 in
theorem S_X12_remembers_55 {g : jGh} {Γ : Nat → Option Nat} {n : Nat} (hn : 6000 ≤ n) (hg : jgok g)  (k : Nat) : ∀ {a0 : Nat} {x1 : Int32} {h : jH}, jW (jKd g) Γ h → (Γ a0 = some 20) → (0 ≤ x1.toInt) → (x1.toInt ≤ 435) → (435 : Int) - x1.toInt < (k : Int) → (∀ v, jgI 10 h a0 7 = some v → 1 ≤ v.toInt) → jok (F_X12_remembers_55 n k a0 x1 h) (fun q => jW (jKd g) Γ q) := by
  induction k with
  | zero =>
    intro a0 x1 h w ta0 lx1 ux1 mk hr
    omega
  | succ k ih =>
    intro a0 x1 h w ta0 lx1 ux1 mk hr
    show jok (F_X12_remembers_55_b n (F_X12_remembers_55 n k) a0 x1 h) _
    unfold F_X12_remembers_55_b
    have f1 : ((435 : Int32)).toInt = 435 := rfl
    refine jok_le (fun c2 => ?_) (fun c2 => ?_)
    · exact jok_s w
    · refine jok_b (t_gR w ta0 rfl rfl) (fun p63_3 tp63_3 => ?_)
      refine jok_b2 (t_gI w ta0 rfl rfl) (fun v70_4 ev70_4 pv70_4 => ?_)
      obtain ⟨lv70_4, uv70_4⟩ := pv70_4
      have hr9 := hr _ ev70_4
      refine jok_b (t_gR w ta0 rfl rfl) (fun p79_5 tp79_5 => ?_)
      refine jok_b (t_al w tp79_5 rfl (by omega) (by omega)) (fun v83_6 pv83_6 => ?_)
      have f8 : ((1 : Int32)).toInt = 1 := rfl
      have f9 : ((v70_4 - (1 : Int32))).toInt = (v70_4).toInt - ((1 : Int32)).toInt := jsub (by omega) (by omega)
      have f10 : (((435 : Int32) * (v70_4 - (1 : Int32)))).toInt = 435 * ((v70_4 - (1 : Int32))).toInt := jmulL (c := 435) (by omega) (by omega) (by omega)
      have f11 : ((((435 : Int32) * (v70_4 - (1 : Int32))) + x1)).toInt = (((435 : Int32) * (v70_4 - (1 : Int32)))).toInt + (x1).toInt := jadd (by omega) (by omega)
      refine jok_b (t_as w tp63_3 rfl (by omega) (by omega) (by show jR3 _ _; rw [show ((((435 : Int32) * (v70_4 - (1 : Int32))) + x1)).toInt.toNat % 435 = (x1).toInt.toNat by omega]; exact pv83_6.1) (fun q => by cases q)) (fun h84_7 wh84_7 => ?_)
      obtain ⟨wh84_7, rh84_7⟩ := wh84_7
      have f12 : ((x1 + (1 : Int32))).toInt = (x1).toInt + ((1 : Int32)).toInt := jadd (by omega) (by omega)
      exact ih wh84_7 ta0 (by omega) (by omega) (by omega) (fun v q => hr v (fI (rh84_7 _ _ _).symm q))
set_option maxHeartbeats 1000000 in
theorem S_X12_remembers_11 {g : jGh} {Γ : Nat → Option Nat} {n : Nat} (hn : 6000 ≤ n) (hg : jgok g)  (k : Nat) : ∀ {a0 : Nat} {x1 : Int32} {h : jH}, jW (jKd g) Γ h → (Γ a0 = some 20) → (0 ≤ x1.toInt) → (x1.toInt ≤ 4785) → (4785 : Int) - x1.toInt < (k : Int) → (∀ v, jgI 10 h a0 7 = some v → 1 ≤ v.toInt) → jok (F_X12_remembers_11 n k a0 x1 h) (fun q => jW (jKd g) Γ q) := by
  induction k with
  | zero =>
    intro a0 x1 h w ta0 lx1 ux1 mk hr
    omega
  | succ k ih =>
    intro a0 x1 h w ta0 lx1 ux1 mk hr
    show jok (F_X12_remembers_11_b n (F_X12_remembers_11 n k) a0 x1 h) _
    unfold F_X12_remembers_11_b
    have f1 : ((4785 : Int32)).toInt = 4785 := rfl
    refine jok_le (fun c2 => ?_) (fun c2 => ?_)
    · have f3 : ((0 : Int32)).toInt = 0 := rfl
      exact S_X12_remembers_55 hn hg  n w ta0 (by omega) (by omega) (by omega) hr
    · refine jok_b (t_gR w ta0 rfl rfl) (fun p19_4 tp19_4 => ?_)
      refine jok_b (t_gR w ta0 rfl rfl) (fun p24_5 tp24_5 => ?_)
      have f7 : ((435 : Int32)).toInt = 435 := rfl
      have f8 : ((x1 + (435 : Int32))).toInt = (x1).toInt + ((435 : Int32)).toInt := jadd (by omega) (by omega)
      refine jok_b (t_al w tp24_5 rfl (by omega) (by omega)) (fun v32_6 pv32_6 => ?_)
      refine jok_b (t_as w tp19_4 rfl (by omega) (by omega) (by show jR3 _ _; rw [show (x1).toInt.toNat % 435 = ((x1 + (435 : Int32))).toInt.toNat % 435 by omega]; exact pv32_6) (fun q => by cases q)) (fun h33_9 wh33_9 => ?_)
      obtain ⟨wh33_9, rh33_9⟩ := wh33_9
      have f10 : ((1 : Int32)).toInt = 1 := rfl
      have f11 : ((x1 + (1 : Int32))).toInt = (x1).toInt + ((1 : Int32)).toInt := jadd (by omega) (by omega)
      exact ih wh33_9 ta0 (by omega) (by omega) (by omega) (fun v q => hr v (fI (rh33_9 _ _ _).symm q))
set_option maxHeartbeats 1000000 in
theorem S_X12_remembers {g : jGh} {Γ : Nat → Option Nat} {n : Nat} {a0 : Nat} {h : jH} (hn : 6000 ≤ n) (hg : jgok g) (w : jW (jKd g) Γ h) (ta0 : Γ a0 = some 20) : jok (F_X12_remembers n a0 h) (fun q => jW (jKd g) Γ q) := by
  unfold F_X12_remembers
  refine jok_b2 (t_gI w ta0 rfl rfl) (fun v1_1 ev1_1 pv1_1 => ?_)
  obtain ⟨lv1_1, uv1_1⟩ := pv1_1
  have f2 : ((12 : Int32)).toInt = 12 := rfl
  refine jok_eq (fun c3 d3 => ?_) (fun c3 => ?_)
  · have f4 : ((0 : Int32)).toInt = 0 := rfl
    exact S_X12_remembers_11 hn hg  n w ta0 (by omega) (by omega) (by omega) (fun v q => by cases ev1_1.symm.trans q; omega)
  · refine jok_r ev1_1 ?_
    have f7 : ((1 : Int32)).toInt = 1 := rfl
    have f8 : ((v1_1 + (1 : Int32))).toInt = (v1_1).toInt + ((1 : Int32)).toInt := jadd (by omega) (by omega)
    refine jok_b (t_pI w ta0 rfl rfl (show jI 0 12 (v1_1 + (1 : Int32)) from ⟨by omega, by omega⟩)) (fun h50_6 wh50_6 => ?_)
    obtain ⟨wh50_6, jh50_6, rh50_6⟩ := wh50_6
    have f9 : ((0 : Int32)).toInt = 0 := rfl
    exact S_X12_remembers_55 hn hg  n wh50_6 ta0 (by omega) (by omega) (by omega) (fun v q => by cases (fJ jh50_6).symm.trans q; omega)
set_option maxHeartbeats 1000000 in
theorem S_X12_undo_26 {g : jGh} {Γ : Nat → Option Nat} {n : Nat} (hn : 6000 ≤ n) (hg : jgok g)  (k : Nat) : ∀ {a0 : Nat} {x1 : Int32} {h : jH}, jW (jKd g) Γ h → (Γ a0 = some 20) → (0 ≤ x1.toInt) → (x1.toInt ≤ 435) → (435 : Int) - x1.toInt < (k : Int) → (∀ v, jgI 10 h a0 7 = some v → v.toInt ≤ 11) → jok (F_X12_undo_26 n k a0 x1 h) (fun q => jW (jKd g) Γ q.2 ∧ (fun v : Int32 => 0 ≤ v.toInt ∧ v.toInt ≤ 1) q.1) := by
  induction k with
  | zero =>
    intro a0 x1 h w ta0 lx1 ux1 mk hr
    omega
  | succ k ih =>
    intro a0 x1 h w ta0 lx1 ux1 mk hr
    show jok (F_X12_undo_26_b n (F_X12_undo_26 n k) a0 x1 h) _
    unfold F_X12_undo_26_b
    have f1 : ((435 : Int32)).toInt = 435 := rfl
    refine jok_le (fun c2 => ?_) (fun c2 => ?_)
    · have f3 : ((1 : Int32)).toInt = 1 := rfl
      exact jok_s ⟨w, (show jI 0 1 (1 : Int32) from ⟨by omega, by omega⟩)⟩
    · refine jok_b (t_gR w ta0 rfl rfl) (fun p34_4 tp34_4 => ?_)
      refine jok_b (t_gR w ta0 rfl rfl) (fun p39_5 tp39_5 => ?_)
      refine jok_b2 (t_gI w ta0 rfl rfl) (fun v46_6 ev46_6 pv46_6 => ?_)
      obtain ⟨lv46_6, uv46_6⟩ := pv46_6
      have hr9 := hr _ ev46_6
      have f8 : (((435 : Int32) * v46_6)).toInt = 435 * (v46_6).toInt := jmulL (c := 435) (by omega) (by omega) (by omega)
      have f9 : ((((435 : Int32) * v46_6) + x1)).toInt = (((435 : Int32) * v46_6)).toInt + (x1).toInt := jadd (by omega) (by omega)
      refine jok_b (t_al w tp39_5 rfl (by omega) (by omega)) (fun v52_7 pv52_7 => ?_)
      refine jok_b (t_as w tp34_4 rfl (by omega) (by omega) ⟨by show jR3 _ _; rw [show (x1).toInt.toNat = ((((435 : Int32) * v46_6) + x1)).toInt.toNat % 435 by omega]; exact pv52_7, Or.inl (by omega)⟩ (fun q => by cases q)) (fun h53_10 wh53_10 => ?_)
      obtain ⟨wh53_10, rh53_10⟩ := wh53_10
      have f11 : ((1 : Int32)).toInt = 1 := rfl
      have f12 : ((x1 + (1 : Int32))).toInt = (x1).toInt + ((1 : Int32)).toInt := jadd (by omega) (by omega)
      exact ih wh53_10 ta0 (by omega) (by omega) (by omega) (fun v q => hr v (fI (rh53_10 _ _ _).symm q))
set_option maxHeartbeats 1000000 in
theorem S_X12_undo {g : jGh} {Γ : Nat → Option Nat} {n : Nat} {a0 : Nat} {h : jH} (hn : 6000 ≤ n) (hg : jgok g) (w : jW (jKd g) Γ h) (ta0 : Γ a0 = some 20) : jok (F_X12_undo n a0 h) (fun q => jW (jKd g) Γ q.2 ∧ (fun v : Int32 => 0 ≤ v.toInt ∧ v.toInt ≤ 1) q.1) := by
  unfold F_X12_undo
  have f2 : ((0 : Int32)).toInt = 0 := rfl
  refine jok_b (t_pI w ta0 rfl rfl trivial) (fun h2_1 wh2_1 => ?_)
  obtain ⟨wh2_1, jh2_1, rh2_1⟩ := wh2_1
  refine jok_b2 (t_gI wh2_1 ta0 rfl rfl) (fun v6_3 ev6_3 pv6_3 => ?_)
  obtain ⟨lv6_3, uv6_3⟩ := pv6_3
  refine jok_eq (fun c4 d4 => ?_) (fun c4 => ?_)
  · exact jok_s ⟨wh2_1, (show jI 0 1 (0 : Int32) from ⟨by omega, by omega⟩)⟩
  · refine jok_r ev6_3 ?_
    have f7 : ((1 : Int32)).toInt = 1 := rfl
    have f8 : ((v6_3 - (1 : Int32))).toInt = (v6_3).toInt - ((1 : Int32)).toInt := jsub (by omega) (by omega)
    refine jok_b (t_pI wh2_1 ta0 rfl rfl (show jI 0 12 (v6_3 - (1 : Int32)) from ⟨by omega, by omega⟩)) (fun h21_6 wh21_6 => ?_)
    obtain ⟨wh21_6, jh21_6, rh21_6⟩ := wh21_6
    exact S_X12_undo_26 hn hg  n wh21_6 ta0 (by omega) (by omega) (by omega) (fun v q => by cases (fJ jh21_6).symm.trans q; omega)
set_option maxHeartbeats 1000000 in
theorem S_X12_leastPlace {g : jGh} {Γ : Nat → Option Nat} {n : Nat} {a0 : Nat} {h : jH} (hn : 6000 ≤ n) (hg : jgok g) (w : jW (jKd g) Γ h) (ta0 : Γ a0 = some 20) : jok (F_X12_leastPlace n a0 h) (fun v => 0 ≤ v.toInt ∧ v.toInt ≤ 32) := by
  unfold F_X12_leastPlace
  try rw [t_cv w ta0 rfl]
  refine jok_b2 (S_X12_rings hn hg w ta0) (fun v1_1 ev1_1 pv1_1 => ?_)
  obtain ⟨lv1_1, uv1_1⟩ := pv1_1
  have f2 : ((0 : Int32)).toInt = 0 := rfl
  refine jok_eq (fun c3 d3 => ?_) (fun c3 => ?_)
  · exact jok_s (show jI 0 32 (0 : Int32) from ⟨by omega, by omega⟩)
  · try rw [t_cv w ta0 rfl]
    refine jok_r (last_of w ta0 ev1_1) ?_
    have f5 : ((1 : Int32)).toInt = 1 := rfl
    have f6 : ((v1_1 - (1 : Int32))).toInt = (v1_1).toInt - ((1 : Int32)).toInt := jsub (by omega) (by omega)
    try rw [t_cv w ta0 rfl]
    refine jok_b (S_X12_of hn hg w ta0 (by omega) (by omega) (by omega) (by omega)) (fun v17_7 pv17_7 => ?_)
    have pv17_7_9 := pv17_7
    try dsimp only at pv17_7_9
    have f8 : ((v17_7 + (1 : Int32))).toInt = (v17_7).toInt + ((1 : Int32)).toInt := jadd (by omega) (by omega)
    exact jok_s (show jI 0 32 (v17_7 + (1 : Int32)) from ⟨by omega, by omega⟩)
set_option maxHeartbeats 1000000 in
theorem S_X12_mostPlace {g : jGh} {Γ : Nat → Option Nat} {n : Nat} {a0 : Nat} {h : jH} (hn : 6000 ≤ n) (hg : jgok g) (w : jW (jKd g) Γ h) (ta0 : Γ a0 = some 20) : jok (F_X12_mostPlace n a0 h) (fun v => v.toInt ≤ 31) := by
  unfold F_X12_mostPlace
  try rw [t_cv w ta0 rfl]
  refine jok_b2 (S_X12_rings hn hg w ta0) (fun v1_1 ev1_1 pv1_1 => ?_)
  obtain ⟨lv1_1, uv1_1⟩ := pv1_1
  have f2 : ((0 : Int32)).toInt = 0 := rfl
  refine jok_eq (fun c3 d3 => ?_) (fun c3 => ?_)
  · have f4 : ((31 : Int32)).toInt = 31 := rfl
    exact jok_s (show (31 : Int32).toInt ≤ 31 from by omega)
  · try rw [t_cv w ta0 rfl]
    refine jok_r (last_of w ta0 ev1_1) ?_
    have f6 : ((1 : Int32)).toInt = 1 := rfl
    have f7 : ((v1_1 - (1 : Int32))).toInt = (v1_1).toInt - ((1 : Int32)).toInt := jsub (by omega) (by omega)
    try rw [t_cv w ta0 rfl]
    refine jok_b (S_X12_of hn hg w ta0 (by omega) (by omega) (by omega) (by omega)) (fun v20_8 pv20_8 => ?_)
    have pv20_8_9 := pv20_8
    try dsimp only at pv20_8_9
    try rw [t_cv w ta0 rfl]
    refine jok_r (last_of w ta0 ev1_1) ?_
    try rw [t_cv w ta0 rfl]
    refine jok_b (S_X12_of hn hg w ta0 (by omega) (by omega) (by omega) (by omega)) (fun v29_10 pv29_10 => ?_)
    have pv29_10_9 := pv29_10
    try dsimp only at pv29_10_9
    have f11 : ((31 : Int32)).toInt = 31 := rfl
    exact jok_s jmin31
set_option maxHeartbeats 1000000 in
theorem S_X12_let {g : jGh} {Γ : Nat → Option Nat} {n : Nat} {a0 : Nat} {x1 : Int32} {x2 : Int32} {h : jH} (hn : 6000 ≤ n) (hg : jgok g) (w : jW (jKd g) Γ h) (ta0 : Γ a0 = some 20) : jok (F_X12_let n a0 x1 x2 h) (fun q => jW (jKd g) Γ q.2 ∧ (fun v : Int32 => True) q.1) := by
  unfold F_X12_let
  have f2 : ((0 : Int32)).toInt = 0 := rfl
  refine jok_b (t_pI w ta0 rfl rfl trivial) (fun h2_1 wh2_1 => ?_)
  obtain ⟨wh2_1, jh2_1, rh2_1⟩ := wh2_1
  try rw [t_cv wh2_1 ta0 rfl]
  refine jok_b (S_X12_noRing hn hg wh2_1 ta0) (fun v8_3 pv8_3 => ?_)
  have pv8_3_9 := pv8_3
  try dsimp only at pv8_3_9
  try rw [t_cv wh2_1 ta0 rfl]
  refine jok_b (S_X12_throwsIf hn hg wh2_1 ta0 (by omega) (by omega)) (fun q12_4 wq12_4 => ?_)
  obtain ⟨wq12_4, pq12_4⟩ := wq12_4
  have f5 : ((1 : Int32)).toInt = 1 := rfl
  have pq12_4_9 := pq12_4
  try dsimp only at pq12_4_9
  refine jok_eq (fun c6 d6 => ?_) (fun c6 => ?_)
  · refine jok_b (S_X12_in hn hg wq12_4) (fun v23_7 pv23_7 => ?_)
    have f8 : ((9 : Int32)).toInt = 9 := rfl
    have pv23_7_9 := pv23_7
    try dsimp only at pv23_7_9
    refine jok_eq (fun c9 d9 => ?_) (fun c9 => ?_)
    · unfold F_X12_let_34
      try rw [t_cv wq12_4 ta0 rfl]
      refine jok_b (S_X12_throwsIf hn hg wq12_4 ta0 (by omega) (by omega)) (fun q35_10 wq35_10 => ?_)
      obtain ⟨wq35_10, pq35_10⟩ := wq35_10
      have f11 : ((2 : Int32)).toInt = 2 := rfl
      have pq35_10_9 := pq35_10
      try dsimp only at pq35_10_9
      refine jok_eq (fun c12 d12 => ?_) (fun c12 => ?_)
      · try rw [t_cv wq35_10 ta0 rfl]
        refine jok_b (S_X12_remembers hn hg wq35_10 ta0) (fun h44_13 wh44_13 => ?_)
        try rw [t_cv wh44_13 ta0 rfl]
        have f15 : ((5 : Int32)).toInt = 5 := rfl
        refine jok_b (S_X12_of hn hg wh44_13 ta0 (by omega) (by omega) (by omega) (by omega)) (fun v50_14 pv50_14 => ?_)
        have pv50_14_9 := pv50_14
        try dsimp only at pv50_14_9
        refine jok_b (t_gR wh44_13 ta0 rfl rfl) (fun p55_16 tp55_16 => ?_)
        refine jok_b (S_X12_at hn hg wh44_13 (by omega) (by omega) (by omega) (by omega)) (fun v60_17 pv60_17 => ?_)
        have pv60_17_9 := pv60_17
        try dsimp only at pv60_17_9
        refine jok_b (t_as wh44_13 tp55_16 rfl (by omega) (by omega) (show jRw g (v60_17).toInt.toNat x2 from ⟨⟨by omega, by omega, by omega⟩, Or.inl (by omega)⟩) (fun q => by cases q)) (fun h64_18 wh64_18 => ?_)
        obtain ⟨wh64_18, rh64_18⟩ := wh64_18
        exact jok_s ⟨wh64_18, trivial⟩
      · exact jok_s ⟨wq35_10, trivial⟩
    · unfold F_X12_let_34
      try rw [t_cv wq12_4 ta0 rfl]
      refine jok_b (S_X12_throwsIf hn hg wq12_4 ta0 (by omega) (by omega)) (fun q35_19 wq35_19 => ?_)
      obtain ⟨wq35_19, pq35_19⟩ := wq35_19
      have f20 : ((2 : Int32)).toInt = 2 := rfl
      have pq35_19_9 := pq35_19
      try dsimp only at pq35_19_9
      refine jok_eq (fun c21 d21 => ?_) (fun c21 => ?_)
      · try rw [t_cv wq35_19 ta0 rfl]
        refine jok_b (S_X12_remembers hn hg wq35_19 ta0) (fun h44_22 wh44_22 => ?_)
        try rw [t_cv wh44_22 ta0 rfl]
        have f24 : ((5 : Int32)).toInt = 5 := rfl
        refine jok_b (S_X12_of hn hg wh44_22 ta0 (by omega) (by omega) (by omega) (by omega)) (fun v50_23 pv50_23 => ?_)
        have pv50_23_9 := pv50_23
        try dsimp only at pv50_23_9
        refine jok_b (t_gR wh44_22 ta0 rfl rfl) (fun p55_25 tp55_25 => ?_)
        refine jok_b (S_X12_at hn hg wh44_22 (by omega) (by omega) (by omega) (by omega)) (fun v60_26 pv60_26 => ?_)
        have pv60_26_9 := pv60_26
        try dsimp only at pv60_26_9
        refine jok_b (t_as wh44_22 tp55_25 rfl (by omega) (by omega) (show jRw g (v60_26).toInt.toNat x2 from ⟨⟨by omega, by omega, by omega⟩, Or.inl (by omega)⟩) (fun q => by cases q)) (fun h64_27 wh64_27 => ?_)
        obtain ⟨wh64_27, rh64_27⟩ := wh64_27
        exact jok_s ⟨wh64_27, trivial⟩
      · exact jok_s ⟨wq35_19, trivial⟩
  · exact jok_s ⟨wq12_4, trivial⟩
set_option maxHeartbeats 1000000 in
theorem S_X12_chair {g : jGh} {Γ : Nat → Option Nat} {n : Nat} {a0 : Nat} {x1 : Int32} {x2 : Int32} {h : jH} (hn : 6000 ≤ n) (hg : jgok g) (w : jW (jKd g) Γ h) (ta0 : Γ a0 = some 20) : jok (F_X12_chair n a0 x1 x2 h) (fun q => jW (jKd g) Γ q.2 ∧ (fun v : Int32 => 0 ≤ v.toInt ∧ v.toInt ≤ 1) q.1) := by
  unfold F_X12_chair
  have f2 : ((0 : Int32)).toInt = 0 := rfl
  refine jok_b (t_pI w ta0 rfl rfl trivial) (fun h2_1 wh2_1 => ?_)
  obtain ⟨wh2_1, jh2_1, rh2_1⟩ := wh2_1
  refine jok_b (S_X12_noPlace hn hg wh2_1) (fun v7_3 pv7_3 => ?_)
  have pv7_3_9 := pv7_3
  try dsimp only at pv7_3_9
  try rw [t_cv wh2_1 ta0 rfl]
  refine jok_b (S_X12_throwsIf hn hg wh2_1 ta0 (by omega) (by omega)) (fun q11_4 wq11_4 => ?_)
  obtain ⟨wq11_4, pq11_4⟩ := wq11_4
  have f5 : ((1 : Int32)).toInt = 1 := rfl
  have pq11_4_9 := pq11_4
  try dsimp only at pq11_4_9
  refine jok_eq (fun c6 d6 => ?_) (fun c6 => ?_)
  · try rw [t_cv wq11_4 ta0 rfl]
    refine jok_b (S_X12_remembers hn hg wq11_4 ta0) (fun h20_7 wh20_7 => ?_)
    refine jok_b (t_gR wh20_7 ta0 rfl rfl) (fun p24_8 tp24_8 => ?_)
    have f10 : ((7 : Int32)).toInt = 7 := rfl
    refine jok_b (t_al wh20_7 tp24_8 rfl (by omega) (by omega)) (fun v29_9 pv29_9 => ?_)
    refine jok_b (S_X12_has hn hg wh20_7) (fun v31_11 pv31_11 => ?_)
    obtain ⟨lv31_11, uv31_11⟩ := pv31_11
    refine jok_b (t_gR wh20_7 ta0 rfl rfl) (fun p36_12 tp36_12 => ?_)
    refine jok_b (t_al wh20_7 tp36_12 rfl (by omega) (by omega)) (fun v41_13 pv41_13 => ?_)
    refine jok_b (t_gR wh20_7 ta0 rfl rfl) (fun p51_14 tp51_14 => ?_)
    refine jok_eq (fun c15 d15 => ?_) (fun c15 => ?_)
    · refine jok_b (t_as wh20_7 tp51_14 rfl (by omega) (by omega) (show jRw g ((7 : Int32)).toInt.toNat (v41_13 &&& (((1 : Int32) <<< (x1 &&& (31 : Int32))) ^^^ (-1 : Int32))) from ⟨⟨by omega, by omega, by omega⟩, Or.inl (by omega)⟩) (fun q => by cases q)) (fun h71_16 wh71_16 => ?_)
      obtain ⟨wh71_16, rh71_16⟩ := wh71_16
      refine jok_eq (fun c17 d17 => ?_) (fun c17 => ?_)
      · exact jok_s ⟨wh71_16, (show jI 0 1 (0 : Int32) from ⟨by omega, by omega⟩)⟩
      · exact jok_s ⟨wh71_16, (show jI 0 1 (1 : Int32) from ⟨by omega, by omega⟩)⟩
    · refine jok_b (t_as wh20_7 tp51_14 rfl (by omega) (by omega) (show jRw g ((7 : Int32)).toInt.toNat ((v41_13 &&& (((1 : Int32) <<< (x1 &&& (31 : Int32))) ^^^ (-1 : Int32))) ||| ((1 : Int32) <<< (x1 &&& (31 : Int32)))) from ⟨⟨by omega, by omega, by omega⟩, Or.inl (by omega)⟩) (fun q => by cases q)) (fun h71_18 wh71_18 => ?_)
      obtain ⟨wh71_18, rh71_18⟩ := wh71_18
      refine jok_eq (fun c19 d19 => ?_) (fun c19 => ?_)
      · exact jok_s ⟨wh71_18, (show jI 0 1 (0 : Int32) from ⟨by omega, by omega⟩)⟩
      · exact jok_s ⟨wh71_18, (show jI 0 1 (1 : Int32) from ⟨by omega, by omega⟩)⟩
  · exact jok_s ⟨wq11_4, (show jI 0 1 (0 : Int32) from ⟨by omega, by omega⟩)⟩
set_option maxHeartbeats 1000000 in
theorem S_X12_hook {g : jGh} {Γ : Nat → Option Nat} {n : Nat} {a0 : Nat} {x1 : Int32} {x2 : Int32} {h : jH} (hn : 6000 ≤ n) (hg : jgok g) (w : jW (jKd g) Γ h) (ta0 : Γ a0 = some 20) : jok (F_X12_hook n a0 x1 x2 h) (fun q => jW (jKd g) Γ q.2 ∧ (fun v : Int32 => 0 ≤ v.toInt ∧ v.toInt ≤ 1) q.1) := by
  unfold F_X12_hook
  have f2 : ((0 : Int32)).toInt = 0 := rfl
  refine jok_b (t_pI w ta0 rfl rfl trivial) (fun h2_1 wh2_1 => ?_)
  obtain ⟨wh2_1, jh2_1, rh2_1⟩ := wh2_1
  try rw [t_cv wh2_1 ta0 rfl]
  refine jok_b (S_X12_noRing hn hg wh2_1 ta0) (fun v8_3 pv8_3 => ?_)
  have pv8_3_9 := pv8_3
  try dsimp only at pv8_3_9
  try rw [t_cv wh2_1 ta0 rfl]
  refine jok_b (S_X12_throwsIf hn hg wh2_1 ta0 (by omega) (by omega)) (fun q12_4 wq12_4 => ?_)
  obtain ⟨wq12_4, pq12_4⟩ := wq12_4
  have f5 : ((1 : Int32)).toInt = 1 := rfl
  have pq12_4_9 := pq12_4
  try dsimp only at pq12_4_9
  refine jok_eq (fun c6 d6 => ?_) (fun c6 => ?_)
  · try rw [t_cv wq12_4 ta0 rfl]
    refine jok_b (S_X12_remembers hn hg wq12_4 ta0) (fun h21_7 wh21_7 => ?_)
    try rw [t_cv wh21_7 ta0 rfl]
    have f9 : ((6 : Int32)).toInt = 6 := rfl
    refine jok_b (S_X12_is hn hg wh21_7 ta0 (by omega) (by omega) (by omega) (by omega)) (fun v28_8 pv28_8 => ?_)
    obtain ⟨lv28_8, uv28_8⟩ := pv28_8
    refine jok_b (t_gR wh21_7 ta0 rfl rfl) (fun p33_10 tp33_10 => ?_)
    refine jok_b (S_X12_at hn hg wh21_7 (by omega) (by omega) (by omega) (by omega)) (fun v39_11 pv39_11 => ?_)
    have pv39_11_9 := pv39_11
    try dsimp only at pv39_11_9
    refine jok_eq (fun c12 d12 => ?_) (fun c12 => ?_)
    · refine jok_b (t_as wh21_7 tp33_10 rfl (by omega) (by omega) (show jRw g (v39_11).toInt.toNat (0 : Int32) from ⟨⟨by omega, by omega, by omega⟩, Or.inl (by omega)⟩) (fun q => by cases q)) (fun h51_13 wh51_13 => ?_)
      obtain ⟨wh51_13, rh51_13⟩ := wh51_13
      refine jok_eq (fun c14 d14 => ?_) (fun c14 => ?_)
      · exact jok_s ⟨wh51_13, (show jI 0 1 (0 : Int32) from ⟨by omega, by omega⟩)⟩
      · exact jok_s ⟨wh51_13, (show jI 0 1 (1 : Int32) from ⟨by omega, by omega⟩)⟩
    · refine jok_b (t_as wh21_7 tp33_10 rfl (by omega) (by omega) (show jRw g (v39_11).toInt.toNat (1 : Int32) from ⟨⟨by omega, by omega, by omega⟩, Or.inl (by omega)⟩) (fun q => by cases q)) (fun h51_15 wh51_15 => ?_)
      obtain ⟨wh51_15, rh51_15⟩ := wh51_15
      refine jok_eq (fun c16 d16 => ?_) (fun c16 => ?_)
      · exact jok_s ⟨wh51_15, (show jI 0 1 (0 : Int32) from ⟨by omega, by omega⟩)⟩
      · exact jok_s ⟨wh51_15, (show jI 0 1 (1 : Int32) from ⟨by omega, by omega⟩)⟩
  · exact jok_s ⟨wq12_4, (show jI 0 1 (0 : Int32) from ⟨by omega, by omega⟩)⟩
set_option maxHeartbeats 1000000 in
theorem S_X12_snag {g : jGh} {Γ : Nat → Option Nat} {n : Nat} {a0 : Nat} {x1 : Int32} {h : jH} (hn : 6000 ≤ n) (hg : jgok g) (w : jW (jKd g) Γ h) (ta0 : Γ a0 = some 20) : jok (F_X12_snag n a0 x1 h) (fun q => jW (jKd g) Γ q.2 ∧ (fun v : Int32 => True) q.1) := by
  unfold F_X12_snag
  have f2 : ((0 : Int32)).toInt = 0 := rfl
  refine jok_b (t_pI w ta0 rfl rfl trivial) (fun h2_1 wh2_1 => ?_)
  obtain ⟨wh2_1, jh2_1, rh2_1⟩ := wh2_1
  try rw [t_cv wh2_1 ta0 rfl]
  refine jok_b (S_X12_noRing hn hg wh2_1 ta0) (fun v8_3 pv8_3 => ?_)
  have pv8_3_9 := pv8_3
  try dsimp only at pv8_3_9
  try rw [t_cv wh2_1 ta0 rfl]
  refine jok_b (S_X12_throwsIf hn hg wh2_1 ta0 (by omega) (by omega)) (fun q12_4 wq12_4 => ?_)
  obtain ⟨wq12_4, pq12_4⟩ := wq12_4
  have f5 : ((1 : Int32)).toInt = 1 := rfl
  have pq12_4_9 := pq12_4
  try dsimp only at pq12_4_9
  refine jok_eq (fun c6 d6 => ?_) (fun c6 => ?_)
  · try rw [t_cv wq12_4 ta0 rfl]
    refine jok_b2 (S_X12_lastRing hn hg wq12_4 ta0) (fun v21_7 ev21_7 pv21_7 => ?_)
    obtain ⟨lv21_7, uv21_7⟩ := pv21_7
    refine jok_eq (fun c8 d8 => ?_) (fun c8 => ?_)
    · unfold F_X12_snag_42
      try rw [t_cv wq12_4 ta0 rfl]
      refine jok_b (S_X12_throwsIf hn hg wq12_4 ta0 (by omega) (by omega)) (fun q43_9 wq43_9 => ?_)
      obtain ⟨wq43_9, pq43_9⟩ := wq43_9
      have f10 : ((2 : Int32)).toInt = 2 := rfl
      have pq43_9_9 := pq43_9
      try dsimp only at pq43_9_9
      refine jok_eq (fun c11 d11 => ?_) (fun c11 => ?_)
      · try rw [t_cv wq43_9 ta0 rfl]
        refine jok_b (S_X12_remembers hn hg wq43_9 ta0) (fun h52_12 wh52_12 => ?_)
        refine jok_b (t_gR wh52_12 ta0 rfl rfl) (fun p56_13 tp56_13 => ?_)
        have f15 : ((7 : Int32)).toInt = 7 := rfl
        refine jok_b (S_X12_at hn hg wh52_12 (by omega) (by omega) (by omega) (by omega)) (fun v62_14 pv62_14 => ?_)
        have pv62_14_9 := pv62_14
        try dsimp only at pv62_14_9
        refine jok_b (t_as wh52_12 tp56_13 rfl (by omega) (by omega) (show jRw g (v62_14).toInt.toNat (1 : Int32) from ⟨⟨by omega, by omega, by omega⟩, Or.inl (by omega)⟩) (fun q => by cases q)) (fun h66_16 wh66_16 => ?_)
        obtain ⟨wh66_16, rh66_16⟩ := wh66_16
        try rw [t_cv wh66_16 ta0 rfl]
        refine jok_b (S_X12_gapOf hn hg wh66_16 ta0 (by omega) (by omega)) (fun v69_17 pv69_17 => ?_)
        exact jok_s ⟨wh66_16, trivial⟩
      · exact jok_s ⟨wq43_9, trivial⟩
    · try rw [t_cv wq12_4 ta0 rfl]
      have f19 : ((7 : Int32)).toInt = 7 := rfl
      refine jok_b (S_X12_is hn hg wq12_4 ta0 (by omega) (by omega) (by omega) (by omega)) (fun v31_18 pv31_18 => ?_)
      obtain ⟨lv31_18, uv31_18⟩ := pv31_18
      refine jok_eq (fun c20 d20 => ?_) (fun c20 => ?_)
      · unfold F_X12_snag_42
        try rw [t_cv wq12_4 ta0 rfl]
        refine jok_b (S_X12_throwsIf hn hg wq12_4 ta0 (by omega) (by omega)) (fun q43_21 wq43_21 => ?_)
        obtain ⟨wq43_21, pq43_21⟩ := wq43_21
        have f22 : ((2 : Int32)).toInt = 2 := rfl
        have pq43_21_9 := pq43_21
        try dsimp only at pq43_21_9
        refine jok_eq (fun c23 d23 => ?_) (fun c23 => ?_)
        · try rw [t_cv wq43_21 ta0 rfl]
          refine jok_b (S_X12_remembers hn hg wq43_21 ta0) (fun h52_24 wh52_24 => ?_)
          refine jok_b (t_gR wh52_24 ta0 rfl rfl) (fun p56_25 tp56_25 => ?_)
          refine jok_b (S_X12_at hn hg wh52_24 (by omega) (by omega) (by omega) (by omega)) (fun v62_26 pv62_26 => ?_)
          have pv62_26_9 := pv62_26
          try dsimp only at pv62_26_9
          refine jok_b (t_as wh52_24 tp56_25 rfl (by omega) (by omega) (show jRw g (v62_26).toInt.toNat (1 : Int32) from ⟨⟨by omega, by omega, by omega⟩, Or.inl (by omega)⟩) (fun q => by cases q)) (fun h66_27 wh66_27 => ?_)
          obtain ⟨wh66_27, rh66_27⟩ := wh66_27
          try rw [t_cv wh66_27 ta0 rfl]
          refine jok_b (S_X12_gapOf hn hg wh66_27 ta0 (by omega) (by omega)) (fun v69_28 pv69_28 => ?_)
          exact jok_s ⟨wh66_27, trivial⟩
        · exact jok_s ⟨wq43_21, trivial⟩
      · unfold F_X12_snag_42
        try rw [t_cv wq12_4 ta0 rfl]
        refine jok_b (S_X12_throwsIf hn hg wq12_4 ta0 (by omega) (by omega)) (fun q43_29 wq43_29 => ?_)
        obtain ⟨wq43_29, pq43_29⟩ := wq43_29
        have f30 : ((2 : Int32)).toInt = 2 := rfl
        have pq43_29_9 := pq43_29
        try dsimp only at pq43_29_9
        refine jok_eq (fun c31 d31 => ?_) (fun c31 => ?_)
        · try rw [t_cv wq43_29 ta0 rfl]
          refine jok_b (S_X12_remembers hn hg wq43_29 ta0) (fun h52_32 wh52_32 => ?_)
          refine jok_b (t_gR wh52_32 ta0 rfl rfl) (fun p56_33 tp56_33 => ?_)
          refine jok_b (S_X12_at hn hg wh52_32 (by omega) (by omega) (by omega) (by omega)) (fun v62_34 pv62_34 => ?_)
          have pv62_34_9 := pv62_34
          try dsimp only at pv62_34_9
          refine jok_b (t_as wh52_32 tp56_33 rfl (by omega) (by omega) (show jRw g (v62_34).toInt.toNat (1 : Int32) from ⟨⟨by omega, by omega, by omega⟩, Or.inl (by omega)⟩) (fun q => by cases q)) (fun h66_35 wh66_35 => ?_)
          obtain ⟨wh66_35, rh66_35⟩ := wh66_35
          try rw [t_cv wh66_35 ta0 rfl]
          refine jok_b (S_X12_gapOf hn hg wh66_35 ta0 (by omega) (by omega)) (fun v69_36 pv69_36 => ?_)
          exact jok_s ⟨wh66_35, trivial⟩
        · exact jok_s ⟨wq43_29, trivial⟩
  · exact jok_s ⟨wq12_4, trivial⟩
set_option maxHeartbeats 1000000 in
theorem S_X12_free {g : jGh} {Γ : Nat → Option Nat} {n : Nat} {a0 : Nat} {x1 : Int32} {h : jH} (hn : 6000 ≤ n) (hg : jgok g) (w : jW (jKd g) Γ h) (ta0 : Γ a0 = some 20) : jok (F_X12_free n a0 x1 h) (fun q => jW (jKd g) Γ q.2 ∧ (fun v : Int32 => True) q.1) := by
  unfold F_X12_free
  have f2 : ((0 : Int32)).toInt = 0 := rfl
  refine jok_b (t_pI w ta0 rfl rfl trivial) (fun h2_1 wh2_1 => ?_)
  obtain ⟨wh2_1, jh2_1, rh2_1⟩ := wh2_1
  try rw [t_cv wh2_1 ta0 rfl]
  refine jok_b (S_X12_noRing hn hg wh2_1 ta0) (fun v8_3 pv8_3 => ?_)
  have pv8_3_9 := pv8_3
  try dsimp only at pv8_3_9
  try rw [t_cv wh2_1 ta0 rfl]
  refine jok_b (S_X12_throwsIf hn hg wh2_1 ta0 (by omega) (by omega)) (fun q12_4 wq12_4 => ?_)
  obtain ⟨wq12_4, pq12_4⟩ := wq12_4
  have f5 : ((1 : Int32)).toInt = 1 := rfl
  have pq12_4_9 := pq12_4
  try dsimp only at pq12_4_9
  refine jok_eq (fun c6 d6 => ?_) (fun c6 => ?_)
  · try rw [t_cv wq12_4 ta0 rfl]
    have f8 : ((7 : Int32)).toInt = 7 := rfl
    refine jok_b (S_X12_is hn hg wq12_4 ta0 (by omega) (by omega) (by omega) (by omega)) (fun v23_7 pv23_7 => ?_)
    obtain ⟨lv23_7, uv23_7⟩ := pv23_7
    refine jok_eq (fun c9 d9 => ?_) (fun c9 => ?_)
    · unfold F_X12_free_34
      try rw [t_cv wq12_4 ta0 rfl]
      refine jok_b (S_X12_throwsIf hn hg wq12_4 ta0 (by omega) (by omega)) (fun q35_10 wq35_10 => ?_)
      obtain ⟨wq35_10, pq35_10⟩ := wq35_10
      have f11 : ((2 : Int32)).toInt = 2 := rfl
      have pq35_10_9 := pq35_10
      try dsimp only at pq35_10_9
      refine jok_eq (fun c12 d12 => ?_) (fun c12 => ?_)
      · try rw [t_cv wq35_10 ta0 rfl]
        refine jok_b (S_X12_remembers hn hg wq35_10 ta0) (fun h44_13 wh44_13 => ?_)
        refine jok_b (t_gR wh44_13 ta0 rfl rfl) (fun p48_14 tp48_14 => ?_)
        refine jok_b (S_X12_at hn hg wh44_13 (by omega) (by omega) (by omega) (by omega)) (fun v54_15 pv54_15 => ?_)
        have pv54_15_9 := pv54_15
        try dsimp only at pv54_15_9
        refine jok_b (t_as wh44_13 tp48_14 rfl (by omega) (by omega) (show jRw g (v54_15).toInt.toNat (0 : Int32) from ⟨⟨by omega, by omega, by omega⟩, Or.inl (by omega)⟩) (fun q => by cases q)) (fun h58_16 wh58_16 => ?_)
        obtain ⟨wh58_16, rh58_16⟩ := wh58_16
        try rw [t_cv wh58_16 ta0 rfl]
        refine jok_b (S_X12_gapOf hn hg wh58_16 ta0 (by omega) (by omega)) (fun v61_17 pv61_17 => ?_)
        exact jok_s ⟨wh58_16, trivial⟩
      · exact jok_s ⟨wq35_10, trivial⟩
    · unfold F_X12_free_34
      try rw [t_cv wq12_4 ta0 rfl]
      refine jok_b (S_X12_throwsIf hn hg wq12_4 ta0 (by omega) (by omega)) (fun q35_18 wq35_18 => ?_)
      obtain ⟨wq35_18, pq35_18⟩ := wq35_18
      have f19 : ((2 : Int32)).toInt = 2 := rfl
      have pq35_18_9 := pq35_18
      try dsimp only at pq35_18_9
      refine jok_eq (fun c20 d20 => ?_) (fun c20 => ?_)
      · try rw [t_cv wq35_18 ta0 rfl]
        refine jok_b (S_X12_remembers hn hg wq35_18 ta0) (fun h44_21 wh44_21 => ?_)
        refine jok_b (t_gR wh44_21 ta0 rfl rfl) (fun p48_22 tp48_22 => ?_)
        refine jok_b (S_X12_at hn hg wh44_21 (by omega) (by omega) (by omega) (by omega)) (fun v54_23 pv54_23 => ?_)
        have pv54_23_9 := pv54_23
        try dsimp only at pv54_23_9
        refine jok_b (t_as wh44_21 tp48_22 rfl (by omega) (by omega) (show jRw g (v54_23).toInt.toNat (0 : Int32) from ⟨⟨by omega, by omega, by omega⟩, Or.inl (by omega)⟩) (fun q => by cases q)) (fun h58_24 wh58_24 => ?_)
        obtain ⟨wh58_24, rh58_24⟩ := wh58_24
        try rw [t_cv wh58_24 ta0 rfl]
        refine jok_b (S_X12_gapOf hn hg wh58_24 ta0 (by omega) (by omega)) (fun v61_25 pv61_25 => ?_)
        exact jok_s ⟨wh58_24, trivial⟩
      · exact jok_s ⟨wq35_18, trivial⟩
  · exact jok_s ⟨wq12_4, trivial⟩
set_option maxHeartbeats 1000000 in
theorem S_X12_pull {g : jGh} {Γ : Nat → Option Nat} {n : Nat} {a0 : Nat} {x1 : Int32} {x2 : Int32} {x3 : Int32} {h : jH} (hn : 6000 ≤ n) (hg : jgok g) (w : jW (jKd g) Γ h) (ta0 : Γ a0 = some 20) : jok (F_X12_pull n a0 x1 x2 x3 h) (fun q => jW (jKd g) Γ q.2 ∧ (fun v : Int32 => True) q.1) := by
  unfold F_X12_pull
  have f2 : ((0 : Int32)).toInt = 0 := rfl
  refine jok_b (t_pI w ta0 rfl rfl trivial) (fun h2_1 wh2_1 => ?_)
  obtain ⟨wh2_1, jh2_1, rh2_1⟩ := wh2_1
  try rw [t_cv wh2_1 ta0 rfl]
  refine jok_b (S_X12_noRing hn hg wh2_1 ta0) (fun v8_3 pv8_3 => ?_)
  have pv8_3_9 := pv8_3
  try dsimp only at pv8_3_9
  try rw [t_cv wh2_1 ta0 rfl]
  refine jok_b (S_X12_throwsIf hn hg wh2_1 ta0 (by omega) (by omega)) (fun q12_4 wq12_4 => ?_)
  obtain ⟨wq12_4, pq12_4⟩ := wq12_4
  have f5 : ((1 : Int32)).toInt = 1 := rfl
  have pq12_4_9 := pq12_4
  try dsimp only at pq12_4_9
  refine jok_eq (fun c6 d6 => ?_) (fun c6 => ?_)
  · refine jok_b (S_X12_noSteps hn hg wq12_4) (fun v20_7 pv20_7 => ?_)
    have pv20_7_9 := pv20_7
    try dsimp only at pv20_7_9
    try rw [t_cv wq12_4 ta0 rfl]
    refine jok_b (S_X12_throwsIf hn hg wq12_4 ta0 (by omega) (by omega)) (fun q24_8 wq24_8 => ?_)
    obtain ⟨wq24_8, pq24_8⟩ := wq24_8
    have f9 : ((2 : Int32)).toInt = 2 := rfl
    have pq24_8_9 := pq24_8
    try dsimp only at pq24_8_9
    refine jok_eq (fun c10 d10 => ?_) (fun c10 => ?_)
    · try rw [t_cv wq24_8 ta0 rfl]
      refine jok_b (S_X12_remembers hn hg wq24_8 ta0) (fun h33_11 wh33_11 => ?_)
      try rw [t_cv wh33_11 ta0 rfl]
      refine jok_b (S_X12_pulls hn hg wh33_11 ta0 (by omega) (by omega) (by omega) (by omega)) (fun q40_12 wq40_12 => ?_)
      obtain ⟨wq40_12, pq40_12⟩ := wq40_12
      have pq40_12_9 := pq40_12
      try dsimp only at pq40_12_9
      try rw [t_cv wq40_12 ta0 rfl]
      refine jok_b (S_X12_tells hn hg wq40_12 ta0 (by omega) (by omega)) (fun h50_13 wh50_13 => ?_)
      exact jok_s ⟨wh50_13, trivial⟩
    · exact jok_s ⟨wq24_8, trivial⟩
  · exact jok_s ⟨wq12_4, trivial⟩
set_option maxHeartbeats 1000000 in
theorem S_X12_hours {g : jGh} {Γ : Nat → Option Nat} {n : Nat} {a0 : Nat} {x1 : Int32} {h : jH} (hn : 6000 ≤ n) (hg : jgok g) (w : jW (jKd g) Γ h) (ta0 : Γ a0 = some 20) : jok (F_X12_hours n a0 x1 h) (fun q => jW (jKd g) Γ q.2 ∧ (fun v : Int32 => True) q.1) := by
  unfold F_X12_hours
  have f2 : ((0 : Int32)).toInt = 0 := rfl
  refine jok_b (t_pI w ta0 rfl rfl trivial) (fun h2_1 wh2_1 => ?_)
  obtain ⟨wh2_1, jh2_1, rh2_1⟩ := wh2_1
  refine jok_b (S_X12_in hn hg wh2_1) (fun v10_3 pv10_3 => ?_)
  have f4 : ((1 : Int32)).toInt = 1 := rfl
  have f5 : ((80 : Int32)).toInt = 80 := rfl
  have pv10_3_9 := pv10_3
  try dsimp only at pv10_3_9
  refine jok_eq (fun c6 d6 => ?_) (fun c6 => ?_)
  · unfold F_X12_hours_21
    try rw [t_cv wh2_1 ta0 rfl]
    refine jok_b (S_X12_throwsIf hn hg wh2_1 ta0 (by omega) (by omega)) (fun q22_7 wq22_7 => ?_)
    obtain ⟨wq22_7, pq22_7⟩ := wq22_7
    have pq22_7_9 := pq22_7
    try dsimp only at pq22_7_9
    refine jok_eq (fun c8 d8 => ?_) (fun c8 => ?_)
    · try rw [t_cv wq22_7 ta0 rfl]
      refine jok_b (S_X12_remembers hn hg wq22_7 ta0) (fun h31_9 wh31_9 => ?_)
      try rw [t_cv wh31_9 ta0 rfl]
      refine jok_b (S_X12_goesOn hn hg wh31_9 ta0 (by omega) (by omega)) (fun q37_10 wq37_10 => ?_)
      obtain ⟨wq37_10, pq37_10⟩ := wq37_10
      exact jok_s ⟨wq37_10, trivial⟩
    · exact jok_s ⟨wq22_7, trivial⟩
  · unfold F_X12_hours_21
    try rw [t_cv wh2_1 ta0 rfl]
    refine jok_b (S_X12_throwsIf hn hg wh2_1 ta0 (by omega) (by omega)) (fun q22_11 wq22_11 => ?_)
    obtain ⟨wq22_11, pq22_11⟩ := wq22_11
    have pq22_11_9 := pq22_11
    try dsimp only at pq22_11_9
    refine jok_eq (fun c12 d12 => ?_) (fun c12 => ?_)
    · try rw [t_cv wq22_11 ta0 rfl]
      refine jok_b (S_X12_remembers hn hg wq22_11 ta0) (fun h31_13 wh31_13 => ?_)
      try rw [t_cv wh31_13 ta0 rfl]
      refine jok_b (S_X12_goesOn hn hg wh31_13 ta0 (by omega) (by omega)) (fun q37_14 wq37_14 => ?_)
      obtain ⟨wq37_14, pq37_14⟩ := wq37_14
      exact jok_s ⟨wq37_14, trivial⟩
    · exact jok_s ⟨wq22_11, trivial⟩
set_option maxHeartbeats 1000000 in
theorem S_X12_isTold_26 {g : jGh} {Γ : Nat → Option Nat} {n : Nat} (hn : 6000 ≤ n) (hg : jgok g)  (k : Nat) : ∀ {a0 : Nat} {x1 : Int32} {x2 : Int32} {h : jH}, jW (jKd g) Γ h → (Γ a0 = some 20) → (0 ≤ x1.toInt) → (x1.toInt ≤ 1) → (0 ≤ x2.toInt) → (x2.toInt ≤ 400) → (400 : Int) - x2.toInt < (k : Int) → (x2.toInt % 4 = 0) → jok (F_X12_isTold_26 n k a0 x1 x2 h) (fun v => 0 ≤ v.toInt ∧ v.toInt ≤ 1) := by
  induction k with
  | zero =>
    intro a0 x1 x2 h w ta0 lx1 ux1 lx2 ux2 mk hm
    omega
  | succ k ih =>
    intro a0 x1 x2 h w ta0 lx1 ux1 lx2 ux2 mk hm
    show jok (F_X12_isTold_26_b n (F_X12_isTold_26 n k) a0 x1 x2 h) _
    unfold F_X12_isTold_26_b
    refine jok_b2 (t_gI w ta0 rfl rfl) (fun v28_1 ev28_1 pv28_1 => ?_)
    obtain ⟨lv28_1, uv28_1⟩ := pv28_1
    refine jok_le (fun c2 => ?_) (fun c2 => ?_)
    · rw [if_pos (show x1 = 0 ∨ x1 = 1 from j01 (by omega) (by omega))]
      exact jok_s (show jI 0 1 x1 from ⟨by omega, by omega⟩)
    · have f3 : ((0 : Int32)).toInt = 0 := rfl
      refine jok_eq (fun c4 d4 => ?_) (fun c4 => ?_)
      · rw [if_pos (show x1 = 0 ∨ x1 = 1 from j01 (by omega) (by omega))]
        exact jok_s (show jI 0 1 x1 from ⟨by omega, by omega⟩)
      · refine jok_b (t_gR w ta0 rfl rfl) (fun p40_5 tp40_5 => ?_)
        refine jok_b (t_al w tp40_5 rfl (by omega) (by omega)) (fun v44_6 pv44_6 => ?_)
        obtain ⟨lv44_6, uv44_6⟩ := pv44_6
        try rw [t_cv w ta0 rfl]
        refine jok_b (S_X12_noRing hn hg w ta0) (fun v45_7 pv45_7 => ?_)
        have pv45_7_9 := pv45_7
        try dsimp only at pv45_7_9
        refine jok_eq (fun c8 d8 => ?_) (fun c8 => ?_)
        · refine jok_b (t_gR w ta0 rfl rfl) (fun p52_9 tp52_9 => ?_)
          have f11 : ((1 : Int32)).toInt = 1 := rfl
          have f12 : ((x2 + (1 : Int32))).toInt = (x2).toInt + ((1 : Int32)).toInt := jadd (by omega) (by omega)
          refine jok_b (t_al w tp52_9 rfl (by omega) (by omega)) (fun v58_10 pv58_10 => ?_)
          obtain ⟨lv58_10, uv58_10⟩ := pv58_10
          refine jok_b (S_X12_in hn hg w) (fun v61_13 pv61_13 => ?_)
          have pv61_13_9 := pv61_13
          try dsimp only at pv61_13_9
          refine jok_eq (fun c14 d14 => ?_) (fun c14 => ?_)
          · have f15 : ((4 : Int32)).toInt = 4 := rfl
            have f16 : ((x2 + (4 : Int32))).toInt = (x2).toInt + ((4 : Int32)).toInt := jadd (by omega) (by omega)
            exact ih w ta0 (by omega) (by omega) (by omega) (by omega) (by omega) (by omega)
          · refine jok_b (t_gR w ta0 rfl rfl) (fun p68_17 tp68_17 => ?_)
            have f19 : ((2 : Int32)).toInt = 2 := rfl
            have f20 : ((x2 + (2 : Int32))).toInt = (x2).toInt + ((2 : Int32)).toInt := jadd (by omega) (by omega)
            refine jok_b (t_al w tp68_17 rfl (by omega) (by omega)) (fun v74_18 pv74_18 => ?_)
            obtain ⟨lv74_18, uv74_18⟩ := pv74_18
            refine jok_b (S_X12_noSteps hn hg w) (fun v75_21 pv75_21 => ?_)
            have pv75_21_9 := pv75_21
            try dsimp only at pv75_21_9
            refine jok_eq (fun c22 d22 => ?_) (fun c22 => ?_)
            · refine jok_b (t_gR w ta0 rfl rfl) (fun p82_23 tp82_23 => ?_)
              have f25 : ((3 : Int32)).toInt = 3 := rfl
              have f26 : ((x2 + (3 : Int32))).toInt = (x2).toInt + ((3 : Int32)).toInt := jadd (by omega) (by omega)
              refine jok_b (t_al w tp82_23 rfl (by omega) (by omega)) (fun v88_24 pv88_24 => ?_)
              obtain ⟨lv88_24, uv88_24⟩ := pv88_24
              refine jok_b (S_X12_in hn hg w) (fun v92_27 pv92_27 => ?_)
              have f28 : ((31 : Int32)).toInt = 31 := rfl
              have pv92_27_9 := pv92_27
              try dsimp only at pv92_27_9
              refine jok_eq (fun c29 d29 => ?_) (fun c29 => ?_)
              · have f30 : ((4 : Int32)).toInt = 4 := rfl
                have f31 : ((x2 + (4 : Int32))).toInt = (x2).toInt + ((4 : Int32)).toInt := jadd (by omega) (by omega)
                exact ih w ta0 (by omega) (by omega) (by omega) (by omega) (by omega) (by omega)
              · have f32 : ((4 : Int32)).toInt = 4 := rfl
                have f33 : ((x2 + (4 : Int32))).toInt = (x2).toInt + ((4 : Int32)).toInt := jadd (by omega) (by omega)
                exact ih w ta0 (by omega) (by omega) (by omega) (by omega) (by omega) (by omega)
            · have f34 : ((4 : Int32)).toInt = 4 := rfl
              have f35 : ((x2 + (4 : Int32))).toInt = (x2).toInt + ((4 : Int32)).toInt := jadd (by omega) (by omega)
              exact ih w ta0 (by omega) (by omega) (by omega) (by omega) (by omega) (by omega)
        · have f36 : ((4 : Int32)).toInt = 4 := rfl
          have f37 : ((x2 + (4 : Int32))).toInt = (x2).toInt + ((4 : Int32)).toInt := jadd (by omega) (by omega)
          exact ih w ta0 (by omega) (by omega) (by omega) (by omega) (by omega) (by omega)
set_option maxHeartbeats 1000000 in
theorem S_X12_isTold {g : jGh} {Γ : Nat → Option Nat} {n : Nat} {a0 : Nat} {h : jH} (hn : 6000 ≤ n) (hg : jgok g) (w : jW (jKd g) Γ h) (ta0 : Γ a0 = some 20) : jok (F_X12_isTold n a0 h) (fun v => 0 ≤ v.toInt ∧ v.toInt ≤ 1) := by
  unfold F_X12_isTold
  refine jok_b2 (t_gI w ta0 rfl rfl) (fun v1_1 ev1_1 pv1_1 => ?_)
  obtain ⟨lv1_1, uv1_1⟩ := pv1_1
  have f2 : ((4 : Int32)).toInt = 4 := rfl
  have f3 : ((v1_1 / (4 : Int32))).toInt = (v1_1).toInt / 4 := jdivL (c := 4) (by omega) rfl (by decide)
  have f4 : (((v1_1 / (4 : Int32)) * (4 : Int32))).toInt = 4 * ((v1_1 / (4 : Int32))).toInt := jmulR (c := 4) (by omega) (by omega) (by omega)
  have f5 : ((v1_1 - ((v1_1 / (4 : Int32)) * (4 : Int32)))).toInt = (v1_1).toInt - (((v1_1 / (4 : Int32)) * (4 : Int32))).toInt := jsub (by omega) (by omega)
  have f6 : ((0 : Int32)).toInt = 0 := rfl
  refine jok_eq (fun c7 d7 => ?_) (fun c7 => ?_)
  · refine jok_r ev1_1 ?_
    have f9 : ((40 : Int32)).toInt = 40 := rfl
    refine jok_lt (fun c10 => ?_) (fun c10 => ?_)
    · exact S_X12_isTold_26 hn hg  n w ta0 (by omega) (by omega) (by omega) (by omega) (by omega) (by omega)
    · have f11 : ((1 : Int32)).toInt = 1 := rfl
      exact S_X12_isTold_26 hn hg  n w ta0 (by omega) (by omega) (by omega) (by omega) (by omega) (by omega)
  · exact S_X12_isTold_26 hn hg  n w ta0 (by omega) (by omega) (by omega) (by omega) (by omega) (by omega)
set_option maxHeartbeats 1000000 in
theorem S_X12_fits_4 {g : jGh} {Γ : Nat → Option Nat} {n : Nat} (hn : 6000 ≤ n) (hg : jgok g)  (k : Nat) : ∀ {a0 : Nat} {x1 : Int32} {x2 : Int32} {x3 : Int32} {h : jH}, jW (jKd g) Γ h → (Γ a0 = some 20) → (0 ≤ x2.toInt) → (x2.toInt ≤ 1) → (0 ≤ x3.toInt) → (x3.toInt ≤ 400) → (400 : Int) - x3.toInt < (k : Int) → (x3.toInt % 4 = 0) → jok (F_X12_fits_4 n k a0 x1 x2 x3 h) (fun q => jW (jKd g) Γ q.2 ∧ (fun v : Int32 => 0 ≤ v.toInt ∧ v.toInt ≤ 1) q.1) := by
  induction k with
  | zero =>
    intro a0 x1 x2 x3 h w ta0 lx2 ux2 lx3 ux3 mk hm
    omega
  | succ k ih =>
    intro a0 x1 x2 x3 h w ta0 lx2 ux2 lx3 ux3 mk hm
    show jok (F_X12_fits_4_b n (F_X12_fits_4 n k) a0 x1 x2 x3 h) _
    unfold F_X12_fits_4_b
    refine jok_b2 (t_gI w ta0 rfl rfl) (fun v6_1 ev6_1 pv6_1 => ?_)
    obtain ⟨lv6_1, uv6_1⟩ := pv6_1
    refine jok_le (fun c2 => ?_) (fun c2 => ?_)
    · rw [if_pos (show x2 = 0 ∨ x2 = 1 from j01 (by omega) (by omega))]
      exact jok_s ⟨w, (show jI 0 1 x2 from ⟨by omega, by omega⟩)⟩
    · have f3 : ((0 : Int32)).toInt = 0 := rfl
      refine jok_eq (fun c4 d4 => ?_) (fun c4 => ?_)
      · rw [if_pos (show x2 = 0 ∨ x2 = 1 from j01 (by omega) (by omega))]
        exact jok_s ⟨w, (show jI 0 1 x2 from ⟨by omega, by omega⟩)⟩
      · refine jok_b (t_gR w ta0 rfl rfl) (fun p19_5 tp19_5 => ?_)
        refine jok_b (t_al w tp19_5 rfl (by omega) (by omega)) (fun v23_6 pv23_6 => ?_)
        obtain ⟨lv23_6, uv23_6⟩ := pv23_6
        refine jok_b (t_gR w ta0 rfl rfl) (fun p25_7 tp25_7 => ?_)
        have f9 : ((1 : Int32)).toInt = 1 := rfl
        have f10 : ((x3 + (1 : Int32))).toInt = (x3).toInt + ((1 : Int32)).toInt := jadd (by omega) (by omega)
        refine jok_b (t_al w tp25_7 rfl (by omega) (by omega)) (fun v31_8 pv31_8 => ?_)
        obtain ⟨lv31_8, uv31_8⟩ := pv31_8
        refine jok_eq (fun c11 d11 => ?_) (fun c11 => ?_)
        · unfold F_X12_fits_41
          refine jok_b (t_gR w ta0 rfl rfl) (fun p42_12 tp42_12 => ?_)
          have f14 : ((2 : Int32)).toInt = 2 := rfl
          have f15 : ((x3 + (2 : Int32))).toInt = (x3).toInt + ((2 : Int32)).toInt := jadd (by omega) (by omega)
          refine jok_b (t_al w tp42_12 rfl (by omega) (by omega)) (fun v48_13 pv48_13 => ?_)
          obtain ⟨lv48_13, uv48_13⟩ := pv48_13
          try rw [t_cv w ta0 rfl]
          refine jok_b (S_X12_wentWith hn hg w ta0 (by omega) (by omega) (by omega) (by omega)) (fun q49_16 wq49_16 => ?_)
          obtain ⟨wq49_16, pq49_16⟩ := wq49_16
          have pq49_16_9 := pq49_16
          try dsimp only at pq49_16_9
          refine jok_b (t_gR wq49_16 ta0 rfl rfl) (fun p53_17 tp53_17 => ?_)
          have f19 : ((3 : Int32)).toInt = 3 := rfl
          have f20 : ((x3 + (3 : Int32))).toInt = (x3).toInt + ((3 : Int32)).toInt := jadd (by omega) (by omega)
          refine jok_b (t_al wq49_16 tp53_17 rfl (by omega) (by omega)) (fun v59_18 pv59_18 => ?_)
          obtain ⟨lv59_18, uv59_18⟩ := pv59_18
          refine jok_eq (fun c21 d21 => ?_) (fun c21 => ?_)
          · have f22 : ((4 : Int32)).toInt = 4 := rfl
            have f23 : ((x3 + (4 : Int32))).toInt = (x3).toInt + ((4 : Int32)).toInt := jadd (by omega) (by omega)
            exact ih wq49_16 ta0 (by omega) (by omega) (by omega) (by omega) (by omega) (by omega)
          · have f24 : ((4 : Int32)).toInt = 4 := rfl
            have f25 : ((x3 + (4 : Int32))).toInt = (x3).toInt + ((4 : Int32)).toInt := jadd (by omega) (by omega)
            exact ih wq49_16 ta0 (by omega) (by omega) (by omega) (by omega) (by omega) (by omega)
        · unfold F_X12_fits_41
          refine jok_b (t_gR w ta0 rfl rfl) (fun p42_26 tp42_26 => ?_)
          have f28 : ((2 : Int32)).toInt = 2 := rfl
          have f29 : ((x3 + (2 : Int32))).toInt = (x3).toInt + ((2 : Int32)).toInt := jadd (by omega) (by omega)
          refine jok_b (t_al w tp42_26 rfl (by omega) (by omega)) (fun v48_27 pv48_27 => ?_)
          obtain ⟨lv48_27, uv48_27⟩ := pv48_27
          try rw [t_cv w ta0 rfl]
          refine jok_b (S_X12_wentWith hn hg w ta0 (by omega) (by omega) (by omega) (by omega)) (fun q49_30 wq49_30 => ?_)
          obtain ⟨wq49_30, pq49_30⟩ := wq49_30
          have pq49_30_9 := pq49_30
          try dsimp only at pq49_30_9
          refine jok_b (t_gR wq49_30 ta0 rfl rfl) (fun p53_31 tp53_31 => ?_)
          have f33 : ((3 : Int32)).toInt = 3 := rfl
          have f34 : ((x3 + (3 : Int32))).toInt = (x3).toInt + ((3 : Int32)).toInt := jadd (by omega) (by omega)
          refine jok_b (t_al wq49_30 tp53_31 rfl (by omega) (by omega)) (fun v59_32 pv59_32 => ?_)
          obtain ⟨lv59_32, uv59_32⟩ := pv59_32
          refine jok_eq (fun c35 d35 => ?_) (fun c35 => ?_)
          · have f36 : ((4 : Int32)).toInt = 4 := rfl
            have f37 : ((x3 + (4 : Int32))).toInt = (x3).toInt + ((4 : Int32)).toInt := jadd (by omega) (by omega)
            exact ih wq49_30 ta0 (by omega) (by omega) (by omega) (by omega) (by omega) (by omega)
          · have f38 : ((4 : Int32)).toInt = 4 := rfl
            have f39 : ((x3 + (4 : Int32))).toInt = (x3).toInt + ((4 : Int32)).toInt := jadd (by omega) (by omega)
            exact ih wq49_30 ta0 (by omega) (by omega) (by omega) (by omega) (by omega) (by omega)
set_option maxHeartbeats 1000000 in
theorem S_X12_fits {g : jGh} {Γ : Nat → Option Nat} {n : Nat} {a0 : Nat} {x1 : Int32} {h : jH} (hn : 6000 ≤ n) (hg : jgok g) (w : jW (jKd g) Γ h) (ta0 : Γ a0 = some 20) : jok (F_X12_fits n a0 x1 h) (fun q => jW (jKd g) Γ q.2 ∧ (fun v : Int32 => 0 ≤ v.toInt ∧ v.toInt ≤ 1) q.1) := by
  unfold F_X12_fits
  have f1 : ((1 : Int32)).toInt = 1 := rfl
  have f2 : ((0 : Int32)).toInt = 0 := rfl
  exact S_X12_fits_4 hn hg  n w ta0 (by omega) (by omega) (by omega) (by omega) (by omega) (by omega)
set_option maxHeartbeats 1000000 in
theorem S_X12_partBy_29 {g : jGh} {Γ : Nat → Option Nat} {n : Nat} (hn : 6000 ≤ n) (hg : jgok g)  (k : Nat) : ∀ {a0 : Nat} {x1 : Int32} {x2 : Int32} {x3 : Int32} {x4 : Int32} {h : jH}, jW (jKd g) Γ h → (Γ a0 = some 20) → (0 ≤ x1.toInt) → (x1.toInt ≤ 7) → (0 ≤ x4.toInt) → (x4.toInt ≤ 128) → (128 : Int) - x4.toInt < (k : Int) → jok (F_X12_partBy_29 n k a0 x1 x2 x3 x4 h) (fun q => jW (jKd g) Γ q.2 ∧ (fun v : Int32 => True) q.1) := by
  induction k with
  | zero =>
    intro a0 x1 x2 x3 x4 h w ta0 lx1 ux1 lx4 ux4 mk
    omega
  | succ k ih =>
    intro a0 x1 x2 x3 x4 h w ta0 lx1 ux1 lx4 ux4 mk
    show jok (F_X12_partBy_29_b n (F_X12_partBy_29 n k) a0 x1 x2 x3 x4 h) _
    unfold F_X12_partBy_29_b
    try rw [t_cv w ta0 rfl]
    refine jok_b (S_X12_thatCanCatch hn hg w ta0) (fun v32_1 pv32_1 => ?_)
    obtain ⟨lv32_1, uv32_1⟩ := pv32_1
    refine jok_lt (fun c2 => ?_) (fun c2 => ?_)
    · exact jok_s ⟨w, trivial⟩
    · refine jok_b (t_gR w ta0 rfl rfl) (fun p39_3 tp39_3 => ?_)
      refine jok_b (t_al w tp39_3 rfl (by omega) (by omega)) (fun v44_4 pv44_4 => ?_)
      have f5 : ((0 : Int32)).toInt = 0 := rfl
      refine jok_eq (fun c6 d6 => ?_) (fun c6 => ?_)
      · have f7 : ((1 : Int32)).toInt = 1 := rfl
        have f8 : ((x4 + (1 : Int32))).toInt = (x4).toInt + ((1 : Int32)).toInt := jadd (by omega) (by omega)
        exact ih w ta0 (by omega) (by omega) (by omega) (by omega) (by omega)
      · try rw [t_cv w ta0 rfl]
        have f10 : ((31 : Int32)).toInt = 31 := rfl
        refine jok_b (S_X12_wentWith hn hg w ta0 (by omega) (by omega) (by omega) (by omega)) (fun q58_9 wq58_9 => ?_)
        obtain ⟨wq58_9, pq58_9⟩ := wq58_9
        have pq58_9_9 := pq58_9
        try dsimp only at pq58_9_9
        refine jok_b (t_gR wq58_9 ta0 rfl rfl) (fun p64_11 tp64_11 => ?_)
        refine jok_b (t_al wq58_9 tp64_11 rfl (by omega) (by omega)) (fun v70_12 pv70_12 => ?_)
        have f14 : ((1 : Int32)).toInt = 1 := rfl
        refine jok_b (t_as wq58_9 tp64_11 rfl (by omega) (by omega) trivial (fun q => by cases q)) (fun h73_13 wh73_13 => ?_)
        obtain ⟨wh73_13, rh73_13⟩ := wh73_13
        refine jok_b (t_gR wh73_13 ta0 rfl rfl) (fun p76_15 tp76_15 => ?_)
        refine jok_b (t_al wh73_13 tp76_15 rfl (by omega) (by omega)) (fun v81_16 pv81_16 => ?_)
        have f17 : ((x4 + (1 : Int32))).toInt = (x4).toInt + ((1 : Int32)).toInt := jadd (by omega) (by omega)
        exact ih wh73_13 ta0 (by omega) (by omega) (by omega) (by omega) (by omega)
set_option maxHeartbeats 1000000 in
theorem S_X12_partBy_5 {g : jGh} {Γ : Nat → Option Nat} {n : Nat} (hn : 6000 ≤ n) (hg : jgok g)  (k : Nat) : ∀ {a0 : Nat} {x1 : Int32} {x2 : Int32} {x3 : Int32} {x4 : Int32} {h : jH}, jW (jKd g) Γ h → (Γ a0 = some 20) → (0 ≤ x1.toInt) → (x1.toInt ≤ 7) → (0 ≤ x4.toInt) → (x4.toInt ≤ 32) → (32 : Int) - x4.toInt < (k : Int) → jok (F_X12_partBy_5 n k a0 x1 x2 x3 x4 h) (fun q => jW (jKd g) Γ q.2 ∧ (fun v : Int32 => True) q.1) := by
  induction k with
  | zero =>
    intro a0 x1 x2 x3 x4 h w ta0 lx1 ux1 lx4 ux4 mk
    omega
  | succ k ih =>
    intro a0 x1 x2 x3 x4 h w ta0 lx1 ux1 lx4 ux4 mk
    show jok (F_X12_partBy_5_b n (F_X12_partBy_5 n k) a0 x1 x2 x3 x4 h) _
    unfold F_X12_partBy_5_b
    have f1 : ((31 : Int32)).toInt = 31 := rfl
    refine jok_lt (fun c2 => ?_) (fun c2 => ?_)
    · have f3 : ((0 : Int32)).toInt = 0 := rfl
      exact S_X12_partBy_29 hn hg  n w ta0 (by omega) (by omega) (by omega) (by omega) (by omega)
    · refine jok_b (t_gR w ta0 rfl rfl) (fun p13_4 tp13_4 => ?_)
      have f6 : ((0 : Int32)).toInt = 0 := rfl
      refine jok_b (t_as w tp13_4 rfl (by omega) (by omega) trivial (fun q => by cases q)) (fun h19_5 wh19_5 => ?_)
      obtain ⟨wh19_5, rh19_5⟩ := wh19_5
      have f7 : ((1 : Int32)).toInt = 1 := rfl
      have f8 : ((x4 + (1 : Int32))).toInt = (x4).toInt + ((1 : Int32)).toInt := jadd (by omega) (by omega)
      exact ih wh19_5 ta0 (by omega) (by omega) (by omega) (by omega) (by omega)
set_option maxHeartbeats 1000000 in
theorem S_X12_partBy {g : jGh} {Γ : Nat → Option Nat} {n : Nat} {a0 : Nat} {x1 : Int32} {x2 : Int32} {h : jH} (hn : 6000 ≤ n) (hg : jgok g) (w : jW (jKd g) Γ h) (ta0 : Γ a0 = some 20) (lx1 : 0 ≤ x1.toInt) (ux1 : x1.toInt ≤ 7) : jok (F_X12_partBy n a0 x1 x2 h) (fun q => jW (jKd g) Γ q.2 ∧ (fun v : Int32 => True) q.1) := by
  unfold F_X12_partBy
  have f1 : ((0 : Int32)).toInt = 0 := rfl
  exact S_X12_partBy_5 hn hg  n w ta0 (by omega) (by omega) (by omega) (by omega) (by omega)
end
section
/-! what constructors make: entries one behind another from z on -/
def jx (z : Nat) (Es : List jE) (h0 h : jH) : Prop := h.1 = z + Es.length ∧ (∀ b, b < z → h.2 b = h0.2 b) ∧ ∀ (i : Nat) (e : jE), Es[i]? = some e → h.2 (z + i) = some e
theorem jx_one {h : jH} {e : jE} : jx h.1 [e] h (jnew h e) := by
  refine ⟨rfl, fun b hb => ?_, fun i e2 hi => ?_⟩
  · show (if b = h.1 then some e else h.2 b) = _
    rw [if_neg (by omega)]
  · cases i with
    | zero =>
      cases hi
      show (if h.1 + 0 = h.1 then some e else h.2 (h.1 + 0)) = _
      exact if_pos rfl
    | succ i => cases hi
theorem jx_nw {z : Nat} {Es : List jE} {h0 h : jH} (j : jx z Es h0 h) (e : jE) : jx z (Es ++ [e]) h0 (jnew h e) := by
  obtain ⟨j1, j2, j3⟩ := j
  refine ⟨?_, fun b hb => ?_, fun i e2 hi => ?_⟩
  · show h.1 + 1 = _
    rw [List.length_append, j1]
    rfl
  · show (if b = h.1 then some e else h.2 b) = _
    rw [if_neg (by omega)]
    exact j2 b hb
  · show (if z + i = h.1 then some e else h.2 (z + i)) = _
    by_cases q : i < Es.length
    · rw [List.getElem?_append_left q] at hi
      rw [if_neg (by omega)]
      exact j3 i e2 hi
    · rw [List.getElem?_append_right (by omega)] at hi
      have hz : i - Es.length < 1 := (List.getElem?_eq_some_iff.mp hi).1
      rw [if_pos (by omega)]
      rw [show i - Es.length = 0 by omega] at hi
      exact hi
theorem jx_up {z i : Nat} {Es : List jE} {h0 h : jH} (j : jx z Es h0 h) {e e2 : jE} (hi : Es[i]? = some e) : jx z (Es.set i e2) h0 (jup h (z + i) e2) := by
  obtain ⟨j1, j2, j3⟩ := j
  have hlt : i < Es.length := (List.getElem?_eq_some_iff.mp hi).1
  refine ⟨by rw [List.length_set]; exact j1, fun b hb => ?_, fun k e3 hk => ?_⟩
  · show (if b = z + i then some e2 else h.2 b) = _
    rw [if_neg (by omega)]
    exact j2 b hb
  · show (if z + k = z + i then some e2 else h.2 (z + k)) = _
    by_cases q : k = i
    · subst q
      rw [if_pos rfl]
      rw [List.getElem?_set_self hlt] at hk
      exact hk
    · rw [if_neg (by omega)]
      rw [List.getElem?_set_ne (Ne.symm q)] at hk
      exact j3 k e3 hk
theorem jx_pf {z i ci k a : Nat} {Es : List jE} {h0 h : jH} {vs : List Value} {v : Value} (j : jx z Es h0 h) (hi : Es[i]? = some (.inl (ci, vs))) (hk : k < vs.length) (ha : a = z + i) : ∃ h1, jpf ci h a k v = some h1 ∧ jx z (Es.set i (.inl (ci, vs.set k v))) h0 h1 := by
  subst ha
  refine ⟨jup h (z + i) (.inl (ci, vs.set k v)), ?_, jx_up j hi⟩
  unfold jpf
  rw [j.2.2 i _ hi]
  dsimp only
  rw [if_pos ⟨rfl, hk⟩]
theorem jx_as {z i a N : Nat} {Es : List jE} {h0 h : jH} {f : Nat → Int32} {x y : Int32} (j : jx z Es h0 h) (hi : Es[i]? = some (.inr (.inl (0, N, f)))) (h1 : 0 ≤ x.toInt) (h2 : x.toInt < (N : Int)) (ha : a = z + i) : ∃ h1, jas 0 h a x y = some h1 ∧ jx z (Es.set i (.inr (.inl (0, N, upd f x.toNatClampNeg y)))) h0 h1 := by
  subst ha
  refine ⟨jup h (z + i) (.inr (.inl (0, N, upd f x.toNatClampNeg y))), ?_, jx_up j hi⟩
  unfold jas
  rw [j.2.2 i _ hi]
  dsimp only
  rw [if_pos ⟨rfl, jnoob h1 h2, fun q => by cases q⟩]
  rfl
theorem jx_gR {z i ci k a b : Nat} {Es : List jE} {h0 h : jH} {vs : List Value} (j : jx z Es h0 h) (hi : Es[i]? = some (.inl (ci, vs))) (hk : vs[k]? = some (.ref b)) (ha : a = z + i) : jgR ci h a k = some b := by
  subst ha
  have e : jgf ci h (z + i) k = some (.ref b) := by
    unfold jgf
    rw [j.2.2 i _ hi]
    dsimp only
    rw [if_pos rfl]
    exact hk
  unfold jgR
  rw [e]
theorem jx_cat {z : Nat} {Es Fs : List jE} {h0 h q : jH} (j : jx z Es h0 h) (k : jx (z + Es.length) Fs h q) : jx z (Es ++ Fs) h0 q := by
  obtain ⟨j1, j2, j3⟩ := j
  obtain ⟨k1, k2, k3⟩ := k
  refine ⟨by rw [k1, List.length_append]; omega, fun b hb => (k2 b (by omega)).trans (j2 b hb), fun i e hi => ?_⟩
  by_cases q : i < Es.length
  · rw [List.getElem?_append_left q] at hi
    rw [k2 (z + i) (by omega)]
    exact j3 i e hi
  · rw [List.getElem?_append_right (by omega)] at hi
    have := k3 _ _ hi
    rw [show z + Es.length + (i - Es.length) = z + i by omega] at this
    exact this
def eX5_init (z : Nat)  : List jE := [.inl (4, [.ref (z + 1), .int 0, .int 0]), .inr (.inl (0, 60, fun _ => 0))]
set_option maxHeartbeats 1000000 in
theorem I_X5_init {n : Nat}  {h : jH} : jok (F_X5_init n h.1  (jnew h (.inl (4, [.null, .int 0, .int 0])))) (fun q => jx h.1 (eX5_init h.1 ) h q) := by
  unfold F_X5_init
  have j : jx h.1 [.inl (4, [.null, .int 0, .int 0])] h (jnew h (.inl (4, [.null, .int 0, .int 0]))) := jx_one
  generalize jnew h (.inl (4, [.null, .int 0, .int 0])) = h_0 at j ⊢
  obtain ⟨z, hz⟩ : ∃ z, z = h.1 := ⟨_, rfl⟩
  rw [← hz] at j ⊢
  have sz : h_0.1 = z + 1 := j.1
  refine jok_r (rfl : jnw h_0 _ = some (jnew h_0 _)) ?_
  try rw [sz]
  clear sz
  replace j : jx z [.inl (4, [.null, .int 0, .int 0]), .inr (.inl (0, 60, fun _ => 0))] h (jnew h_0 (.inr (.inl (0, 60, fun _ => 0)))) := jx_nw j _
  generalize jnew h_0 (.inr (.inl (0, 60, fun _ => 0))) = h_1 at j ⊢
  obtain ⟨h_2, e9, j9⟩ := jx_pf (i := 0) (ci := 4) (k := 0) (v := .ref (z + 1)) j rfl (by exact Nat.le_of_ble_eq_true rfl) rfl
  refine jok_r e9 ?_
  clear e9 j
  have j : jx z [.inl (4, [.ref (z + 1), .int 0, .int 0]), .inr (.inl (0, 60, fun _ => 0))] h h_2 := j9
  clear j9
  subst hz
  exact jok_s j
def eX8_init (z : Nat)  : List jE := [.inl (6, [.ref (z + 1), .ref (z + 2), .ref (z + 3), .ref (z + 4), .ref (z + 5), .int 0, .int 0, .int 0, .int 0, .int 0, .int 0, .int 16, .int 8, .int 0, .int 0, .int 0, .int 1, .int 0]), .inr (.inl (0, 8, fun _ => 0)), .inr (.inl (0, 8, fun _ => 0)), .inr (.inl (0, 8, fun _ => 0)), .inr (.inl (0, 8, fun _ => 0)), .inl (4, [.ref (z + 6), .int 0, .int 0]), .inr (.inl (0, 60, fun _ => 0))]
set_option maxHeartbeats 1000000 in
theorem I_X8_init {n : Nat}  {h : jH} : jok (F_X8_init n h.1  (jnew h (.inl (6, [.null, .null, .null, .null, .null, .int 0, .int 0, .int 0, .int 0, .int 0, .int 0, .int 0, .int 0, .int 0, .int 0, .int 0, .int 0, .int 0])))) (fun q => jx h.1 (eX8_init h.1 ) h q) := by
  unfold F_X8_init
  have j : jx h.1 [.inl (6, [.null, .null, .null, .null, .null, .int 0, .int 0, .int 0, .int 0, .int 0, .int 0, .int 0, .int 0, .int 0, .int 0, .int 0, .int 0, .int 0])] h (jnew h (.inl (6, [.null, .null, .null, .null, .null, .int 0, .int 0, .int 0, .int 0, .int 0, .int 0, .int 0, .int 0, .int 0, .int 0, .int 0, .int 0, .int 0]))) := jx_one
  generalize jnew h (.inl (6, [.null, .null, .null, .null, .null, .int 0, .int 0, .int 0, .int 0, .int 0, .int 0, .int 0, .int 0, .int 0, .int 0, .int 0, .int 0, .int 0])) = h_0 at j ⊢
  obtain ⟨z, hz⟩ : ∃ z, z = h.1 := ⟨_, rfl⟩
  rw [← hz] at j ⊢
  have sz : h_0.1 = z + 1 := j.1
  refine jok_r (rfl : jnw h_0 _ = some (jnew h_0 _)) ?_
  try rw [sz]
  clear sz
  replace j : jx z [.inl (6, [.null, .null, .null, .null, .null, .int 0, .int 0, .int 0, .int 0, .int 0, .int 0, .int 0, .int 0, .int 0, .int 0, .int 0, .int 0, .int 0]), .inr (.inl (0, 8, fun _ => 0))] h (jnew h_0 (.inr (.inl (0, 8, fun _ => 0)))) := jx_nw j _
  generalize jnew h_0 (.inr (.inl (0, 8, fun _ => 0))) = h_1 at j ⊢
  obtain ⟨h_2, e9, j9⟩ := jx_pf (i := 0) (ci := 6) (k := 0) (v := .ref (z + 1)) j rfl (by exact Nat.le_of_ble_eq_true rfl) rfl
  refine jok_r e9 ?_
  clear e9 j
  have j : jx z [.inl (6, [.ref (z + 1), .null, .null, .null, .null, .int 0, .int 0, .int 0, .int 0, .int 0, .int 0, .int 0, .int 0, .int 0, .int 0, .int 0, .int 0, .int 0]), .inr (.inl (0, 8, fun _ => 0))] h h_2 := j9
  clear j9
  have sz : h_2.1 = z + 2 := j.1
  refine jok_r (rfl : jnw h_2 _ = some (jnew h_2 _)) ?_
  try rw [sz]
  clear sz
  replace j : jx z [.inl (6, [.ref (z + 1), .null, .null, .null, .null, .int 0, .int 0, .int 0, .int 0, .int 0, .int 0, .int 0, .int 0, .int 0, .int 0, .int 0, .int 0, .int 0]), .inr (.inl (0, 8, fun _ => 0)), .inr (.inl (0, 8, fun _ => 0))] h (jnew h_2 (.inr (.inl (0, 8, fun _ => 0)))) := jx_nw j _
  generalize jnew h_2 (.inr (.inl (0, 8, fun _ => 0))) = h_3 at j ⊢
  obtain ⟨h_4, e9, j9⟩ := jx_pf (i := 0) (ci := 6) (k := 1) (v := .ref (z + 2)) j rfl (by exact Nat.le_of_ble_eq_true rfl) rfl
  refine jok_r e9 ?_
  clear e9 j
  have j : jx z [.inl (6, [.ref (z + 1), .ref (z + 2), .null, .null, .null, .int 0, .int 0, .int 0, .int 0, .int 0, .int 0, .int 0, .int 0, .int 0, .int 0, .int 0, .int 0, .int 0]), .inr (.inl (0, 8, fun _ => 0)), .inr (.inl (0, 8, fun _ => 0))] h h_4 := j9
  clear j9
  have sz : h_4.1 = z + 3 := j.1
  refine jok_r (rfl : jnw h_4 _ = some (jnew h_4 _)) ?_
  try rw [sz]
  clear sz
  replace j : jx z [.inl (6, [.ref (z + 1), .ref (z + 2), .null, .null, .null, .int 0, .int 0, .int 0, .int 0, .int 0, .int 0, .int 0, .int 0, .int 0, .int 0, .int 0, .int 0, .int 0]), .inr (.inl (0, 8, fun _ => 0)), .inr (.inl (0, 8, fun _ => 0)), .inr (.inl (0, 8, fun _ => 0))] h (jnew h_4 (.inr (.inl (0, 8, fun _ => 0)))) := jx_nw j _
  generalize jnew h_4 (.inr (.inl (0, 8, fun _ => 0))) = h_5 at j ⊢
  obtain ⟨h_6, e9, j9⟩ := jx_pf (i := 0) (ci := 6) (k := 2) (v := .ref (z + 3)) j rfl (by exact Nat.le_of_ble_eq_true rfl) rfl
  refine jok_r e9 ?_
  clear e9 j
  have j : jx z [.inl (6, [.ref (z + 1), .ref (z + 2), .ref (z + 3), .null, .null, .int 0, .int 0, .int 0, .int 0, .int 0, .int 0, .int 0, .int 0, .int 0, .int 0, .int 0, .int 0, .int 0]), .inr (.inl (0, 8, fun _ => 0)), .inr (.inl (0, 8, fun _ => 0)), .inr (.inl (0, 8, fun _ => 0))] h h_6 := j9
  clear j9
  have sz : h_6.1 = z + 4 := j.1
  refine jok_r (rfl : jnw h_6 _ = some (jnew h_6 _)) ?_
  try rw [sz]
  clear sz
  replace j : jx z [.inl (6, [.ref (z + 1), .ref (z + 2), .ref (z + 3), .null, .null, .int 0, .int 0, .int 0, .int 0, .int 0, .int 0, .int 0, .int 0, .int 0, .int 0, .int 0, .int 0, .int 0]), .inr (.inl (0, 8, fun _ => 0)), .inr (.inl (0, 8, fun _ => 0)), .inr (.inl (0, 8, fun _ => 0)), .inr (.inl (0, 8, fun _ => 0))] h (jnew h_6 (.inr (.inl (0, 8, fun _ => 0)))) := jx_nw j _
  generalize jnew h_6 (.inr (.inl (0, 8, fun _ => 0))) = h_7 at j ⊢
  obtain ⟨h_8, e9, j9⟩ := jx_pf (i := 0) (ci := 6) (k := 3) (v := .ref (z + 4)) j rfl (by exact Nat.le_of_ble_eq_true rfl) rfl
  refine jok_r e9 ?_
  clear e9 j
  have j : jx z [.inl (6, [.ref (z + 1), .ref (z + 2), .ref (z + 3), .ref (z + 4), .null, .int 0, .int 0, .int 0, .int 0, .int 0, .int 0, .int 0, .int 0, .int 0, .int 0, .int 0, .int 0, .int 0]), .inr (.inl (0, 8, fun _ => 0)), .inr (.inl (0, 8, fun _ => 0)), .inr (.inl (0, 8, fun _ => 0)), .inr (.inl (0, 8, fun _ => 0))] h h_8 := j9
  clear j9
  have sz : h_8.1 = z + 5 := j.1
  refine jok_r (rfl : jnw h_8 _ = some (jnew h_8 _)) ?_
  refine jok_b (I_X5_init (h := h_8)) (fun h_9 j9 => ?_)
  rw [sz] at j9
  try rw [sz]
  clear sz
  have j : jx z [.inl (6, [.ref (z + 1), .ref (z + 2), .ref (z + 3), .ref (z + 4), .null, .int 0, .int 0, .int 0, .int 0, .int 0, .int 0, .int 0, .int 0, .int 0, .int 0, .int 0, .int 0, .int 0]), .inr (.inl (0, 8, fun _ => 0)), .inr (.inl (0, 8, fun _ => 0)), .inr (.inl (0, 8, fun _ => 0)), .inr (.inl (0, 8, fun _ => 0)), .inl (4, [.ref (z + 6), .int 0, .int 0]), .inr (.inl (0, 60, fun _ => 0))] h h_9 := jx_cat j j9
  clear j9
  obtain ⟨h_10, e9, j9⟩ := jx_pf (i := 0) (ci := 6) (k := 4) (v := .ref (z + 5)) j rfl (by exact Nat.le_of_ble_eq_true rfl) rfl
  refine jok_r e9 ?_
  clear e9 j
  have j : jx z [.inl (6, [.ref (z + 1), .ref (z + 2), .ref (z + 3), .ref (z + 4), .ref (z + 5), .int 0, .int 0, .int 0, .int 0, .int 0, .int 0, .int 0, .int 0, .int 0, .int 0, .int 0, .int 0, .int 0]), .inr (.inl (0, 8, fun _ => 0)), .inr (.inl (0, 8, fun _ => 0)), .inr (.inl (0, 8, fun _ => 0)), .inr (.inl (0, 8, fun _ => 0)), .inl (4, [.ref (z + 6), .int 0, .int 0]), .inr (.inl (0, 60, fun _ => 0))] h h_10 := j9
  clear j9
  obtain ⟨h_11, e9, j9⟩ := jx_pf (i := 0) (ci := 6) (k := 11) (v := .int 16) j rfl (by exact Nat.le_of_ble_eq_true rfl) rfl
  refine jok_r e9 ?_
  clear e9 j
  have j : jx z [.inl (6, [.ref (z + 1), .ref (z + 2), .ref (z + 3), .ref (z + 4), .ref (z + 5), .int 0, .int 0, .int 0, .int 0, .int 0, .int 0, .int 16, .int 0, .int 0, .int 0, .int 0, .int 0, .int 0]), .inr (.inl (0, 8, fun _ => 0)), .inr (.inl (0, 8, fun _ => 0)), .inr (.inl (0, 8, fun _ => 0)), .inr (.inl (0, 8, fun _ => 0)), .inl (4, [.ref (z + 6), .int 0, .int 0]), .inr (.inl (0, 60, fun _ => 0))] h h_11 := j9
  clear j9
  obtain ⟨h_12, e9, j9⟩ := jx_pf (i := 0) (ci := 6) (k := 12) (v := .int 8) j rfl (by exact Nat.le_of_ble_eq_true rfl) rfl
  refine jok_r e9 ?_
  clear e9 j
  have j : jx z [.inl (6, [.ref (z + 1), .ref (z + 2), .ref (z + 3), .ref (z + 4), .ref (z + 5), .int 0, .int 0, .int 0, .int 0, .int 0, .int 0, .int 16, .int 8, .int 0, .int 0, .int 0, .int 0, .int 0]), .inr (.inl (0, 8, fun _ => 0)), .inr (.inl (0, 8, fun _ => 0)), .inr (.inl (0, 8, fun _ => 0)), .inr (.inl (0, 8, fun _ => 0)), .inl (4, [.ref (z + 6), .int 0, .int 0]), .inr (.inl (0, 60, fun _ => 0))] h h_12 := j9
  clear j9
  obtain ⟨h_13, e9, j9⟩ := jx_pf (i := 0) (ci := 6) (k := 16) (v := .int 1) j rfl (by exact Nat.le_of_ble_eq_true rfl) rfl
  refine jok_r e9 ?_
  clear e9 j
  have j : jx z [.inl (6, [.ref (z + 1), .ref (z + 2), .ref (z + 3), .ref (z + 4), .ref (z + 5), .int 0, .int 0, .int 0, .int 0, .int 0, .int 0, .int 16, .int 8, .int 0, .int 0, .int 0, .int 1, .int 0]), .inr (.inl (0, 8, fun _ => 0)), .inr (.inl (0, 8, fun _ => 0)), .inr (.inl (0, 8, fun _ => 0)), .inr (.inl (0, 8, fun _ => 0)), .inl (4, [.ref (z + 6), .int 0, .int 0]), .inr (.inl (0, 60, fun _ => 0))] h h_13 := j9
  clear j9
  subst hz
  exact jok_s j
def eX2_init (z : Nat)  : List jE := [.inl (2, [.ref (z + 1), .ref (z + 2), .ref (z + 3), .ref (z + 4), .ref (z + 5), .int 0, .int 0, .int 0, .int 0]), .inr (.inl (0, 12, fun _ => 0)), .inr (.inl (0, 12, fun _ => 0)), .inr (.inl (0, 12, fun _ => 0)), .inr (.inl (0, 400, fun _ => 0)), .inr (.inl (0, 24, fun _ => 0))]
set_option maxHeartbeats 1000000 in
theorem I_X2_init {n : Nat}  {h : jH} : jok (F_X2_init n h.1  (jnew h (.inl (2, [.null, .null, .null, .null, .null, .int 0, .int 0, .int 0, .int 0])))) (fun q => jx h.1 (eX2_init h.1 ) h q) := by
  unfold F_X2_init
  have j : jx h.1 [.inl (2, [.null, .null, .null, .null, .null, .int 0, .int 0, .int 0, .int 0])] h (jnew h (.inl (2, [.null, .null, .null, .null, .null, .int 0, .int 0, .int 0, .int 0]))) := jx_one
  generalize jnew h (.inl (2, [.null, .null, .null, .null, .null, .int 0, .int 0, .int 0, .int 0])) = h_0 at j ⊢
  obtain ⟨z, hz⟩ : ∃ z, z = h.1 := ⟨_, rfl⟩
  rw [← hz] at j ⊢
  have sz : h_0.1 = z + 1 := j.1
  refine jok_r (rfl : jnw h_0 _ = some (jnew h_0 _)) ?_
  try rw [sz]
  clear sz
  replace j : jx z [.inl (2, [.null, .null, .null, .null, .null, .int 0, .int 0, .int 0, .int 0]), .inr (.inl (0, 12, fun _ => 0))] h (jnew h_0 (.inr (.inl (0, 12, fun _ => 0)))) := jx_nw j _
  generalize jnew h_0 (.inr (.inl (0, 12, fun _ => 0))) = h_1 at j ⊢
  obtain ⟨h_2, e9, j9⟩ := jx_pf (i := 0) (ci := 2) (k := 0) (v := .ref (z + 1)) j rfl (by exact Nat.le_of_ble_eq_true rfl) rfl
  refine jok_r e9 ?_
  clear e9 j
  have j : jx z [.inl (2, [.ref (z + 1), .null, .null, .null, .null, .int 0, .int 0, .int 0, .int 0]), .inr (.inl (0, 12, fun _ => 0))] h h_2 := j9
  clear j9
  have sz : h_2.1 = z + 2 := j.1
  refine jok_r (rfl : jnw h_2 _ = some (jnew h_2 _)) ?_
  try rw [sz]
  clear sz
  replace j : jx z [.inl (2, [.ref (z + 1), .null, .null, .null, .null, .int 0, .int 0, .int 0, .int 0]), .inr (.inl (0, 12, fun _ => 0)), .inr (.inl (0, 12, fun _ => 0))] h (jnew h_2 (.inr (.inl (0, 12, fun _ => 0)))) := jx_nw j _
  generalize jnew h_2 (.inr (.inl (0, 12, fun _ => 0))) = h_3 at j ⊢
  obtain ⟨h_4, e9, j9⟩ := jx_pf (i := 0) (ci := 2) (k := 1) (v := .ref (z + 2)) j rfl (by exact Nat.le_of_ble_eq_true rfl) rfl
  refine jok_r e9 ?_
  clear e9 j
  have j : jx z [.inl (2, [.ref (z + 1), .ref (z + 2), .null, .null, .null, .int 0, .int 0, .int 0, .int 0]), .inr (.inl (0, 12, fun _ => 0)), .inr (.inl (0, 12, fun _ => 0))] h h_4 := j9
  clear j9
  have sz : h_4.1 = z + 3 := j.1
  refine jok_r (rfl : jnw h_4 _ = some (jnew h_4 _)) ?_
  try rw [sz]
  clear sz
  replace j : jx z [.inl (2, [.ref (z + 1), .ref (z + 2), .null, .null, .null, .int 0, .int 0, .int 0, .int 0]), .inr (.inl (0, 12, fun _ => 0)), .inr (.inl (0, 12, fun _ => 0)), .inr (.inl (0, 12, fun _ => 0))] h (jnew h_4 (.inr (.inl (0, 12, fun _ => 0)))) := jx_nw j _
  generalize jnew h_4 (.inr (.inl (0, 12, fun _ => 0))) = h_5 at j ⊢
  obtain ⟨h_6, e9, j9⟩ := jx_pf (i := 0) (ci := 2) (k := 2) (v := .ref (z + 3)) j rfl (by exact Nat.le_of_ble_eq_true rfl) rfl
  refine jok_r e9 ?_
  clear e9 j
  have j : jx z [.inl (2, [.ref (z + 1), .ref (z + 2), .ref (z + 3), .null, .null, .int 0, .int 0, .int 0, .int 0]), .inr (.inl (0, 12, fun _ => 0)), .inr (.inl (0, 12, fun _ => 0)), .inr (.inl (0, 12, fun _ => 0))] h h_6 := j9
  clear j9
  have sz : h_6.1 = z + 4 := j.1
  refine jok_r (rfl : jnw h_6 _ = some (jnew h_6 _)) ?_
  try rw [sz]
  clear sz
  replace j : jx z [.inl (2, [.ref (z + 1), .ref (z + 2), .ref (z + 3), .null, .null, .int 0, .int 0, .int 0, .int 0]), .inr (.inl (0, 12, fun _ => 0)), .inr (.inl (0, 12, fun _ => 0)), .inr (.inl (0, 12, fun _ => 0)), .inr (.inl (0, 400, fun _ => 0))] h (jnew h_6 (.inr (.inl (0, 400, fun _ => 0)))) := jx_nw j _
  generalize jnew h_6 (.inr (.inl (0, 400, fun _ => 0))) = h_7 at j ⊢
  obtain ⟨h_8, e9, j9⟩ := jx_pf (i := 0) (ci := 2) (k := 3) (v := .ref (z + 4)) j rfl (by exact Nat.le_of_ble_eq_true rfl) rfl
  refine jok_r e9 ?_
  clear e9 j
  have j : jx z [.inl (2, [.ref (z + 1), .ref (z + 2), .ref (z + 3), .ref (z + 4), .null, .int 0, .int 0, .int 0, .int 0]), .inr (.inl (0, 12, fun _ => 0)), .inr (.inl (0, 12, fun _ => 0)), .inr (.inl (0, 12, fun _ => 0)), .inr (.inl (0, 400, fun _ => 0))] h h_8 := j9
  clear j9
  have sz : h_8.1 = z + 5 := j.1
  refine jok_r (rfl : jnw h_8 _ = some (jnew h_8 _)) ?_
  try rw [sz]
  clear sz
  replace j : jx z [.inl (2, [.ref (z + 1), .ref (z + 2), .ref (z + 3), .ref (z + 4), .null, .int 0, .int 0, .int 0, .int 0]), .inr (.inl (0, 12, fun _ => 0)), .inr (.inl (0, 12, fun _ => 0)), .inr (.inl (0, 12, fun _ => 0)), .inr (.inl (0, 400, fun _ => 0)), .inr (.inl (0, 24, fun _ => 0))] h (jnew h_8 (.inr (.inl (0, 24, fun _ => 0)))) := jx_nw j _
  generalize jnew h_8 (.inr (.inl (0, 24, fun _ => 0))) = h_9 at j ⊢
  obtain ⟨h_10, e9, j9⟩ := jx_pf (i := 0) (ci := 2) (k := 4) (v := .ref (z + 5)) j rfl (by exact Nat.le_of_ble_eq_true rfl) rfl
  refine jok_r e9 ?_
  clear e9 j
  have j : jx z [.inl (2, [.ref (z + 1), .ref (z + 2), .ref (z + 3), .ref (z + 4), .ref (z + 5), .int 0, .int 0, .int 0, .int 0]), .inr (.inl (0, 12, fun _ => 0)), .inr (.inl (0, 12, fun _ => 0)), .inr (.inl (0, 12, fun _ => 0)), .inr (.inl (0, 400, fun _ => 0)), .inr (.inl (0, 24, fun _ => 0))] h h_10 := j9
  clear j9
  subst hz
  exact jok_s j
def eX0_init (z : Nat)  : List jE := [.inl (0, [.ref (z + 1), .int 0, .int 0]), .inr (.inr (.inl (12, fun _ => none)))]
set_option maxHeartbeats 1000000 in
theorem I_X0_init {n : Nat}  {h : jH} : jok (F_X0_init n h.1  (jnew h (.inl (0, [.null, .int 0, .int 0])))) (fun q => jx h.1 (eX0_init h.1 ) h q) := by
  unfold F_X0_init
  have j : jx h.1 [.inl (0, [.null, .int 0, .int 0])] h (jnew h (.inl (0, [.null, .int 0, .int 0]))) := jx_one
  generalize jnew h (.inl (0, [.null, .int 0, .int 0])) = h_0 at j ⊢
  obtain ⟨z, hz⟩ : ∃ z, z = h.1 := ⟨_, rfl⟩
  rw [← hz] at j ⊢
  have sz : h_0.1 = z + 1 := j.1
  refine jok_r (rfl : jnw h_0 _ = some (jnew h_0 _)) ?_
  try rw [sz]
  clear sz
  replace j : jx z [.inl (0, [.null, .int 0, .int 0]), .inr (.inr (.inl (12, fun _ => none)))] h (jnew h_0 (.inr (.inr (.inl (12, fun _ => none))))) := jx_nw j _
  generalize jnew h_0 (.inr (.inr (.inl (12, fun _ => none)))) = h_1 at j ⊢
  obtain ⟨h_2, e9, j9⟩ := jx_pf (i := 0) (ci := 0) (k := 0) (v := .ref (z + 1)) j rfl (by exact Nat.le_of_ble_eq_true rfl) rfl
  refine jok_r e9 ?_
  clear e9 j
  have j : jx z [.inl (0, [.ref (z + 1), .int 0, .int 0]), .inr (.inr (.inl (12, fun _ => none)))] h h_2 := j9
  clear j9
  subst hz
  exact jok_s j
def eX10_init (z : Nat)  : List jE := [.inl (8, [.ref (z + 1), .ref (z + 2), .ref (z + 3), .ref (z + 4), .int 0, .int 0, .int 0]), .inr (.inl (1, 400, fun _ => 0)), .inr (.inl (0, 400, fun _ => 0)), .inr (.inl (0, 400, fun _ => 0)), .inr (.inl (0, 400, fun _ => 0))]
set_option maxHeartbeats 1000000 in
theorem I_X10_init {n : Nat}  {h : jH} : jok (F_X10_init n h.1  (jnew h (.inl (8, [.null, .null, .null, .null, .int 0, .int 0, .int 0])))) (fun q => jx h.1 (eX10_init h.1 ) h q) := by
  unfold F_X10_init
  have j : jx h.1 [.inl (8, [.null, .null, .null, .null, .int 0, .int 0, .int 0])] h (jnew h (.inl (8, [.null, .null, .null, .null, .int 0, .int 0, .int 0]))) := jx_one
  generalize jnew h (.inl (8, [.null, .null, .null, .null, .int 0, .int 0, .int 0])) = h_0 at j ⊢
  obtain ⟨z, hz⟩ : ∃ z, z = h.1 := ⟨_, rfl⟩
  rw [← hz] at j ⊢
  have sz : h_0.1 = z + 1 := j.1
  refine jok_r (rfl : jnw h_0 _ = some (jnew h_0 _)) ?_
  try rw [sz]
  clear sz
  replace j : jx z [.inl (8, [.null, .null, .null, .null, .int 0, .int 0, .int 0]), .inr (.inl (1, 400, fun _ => 0))] h (jnew h_0 (.inr (.inl (1, 400, fun _ => 0)))) := jx_nw j _
  generalize jnew h_0 (.inr (.inl (1, 400, fun _ => 0))) = h_1 at j ⊢
  obtain ⟨h_2, e9, j9⟩ := jx_pf (i := 0) (ci := 8) (k := 0) (v := .ref (z + 1)) j rfl (by exact Nat.le_of_ble_eq_true rfl) rfl
  refine jok_r e9 ?_
  clear e9 j
  have j : jx z [.inl (8, [.ref (z + 1), .null, .null, .null, .int 0, .int 0, .int 0]), .inr (.inl (1, 400, fun _ => 0))] h h_2 := j9
  clear j9
  have sz : h_2.1 = z + 2 := j.1
  refine jok_r (rfl : jnw h_2 _ = some (jnew h_2 _)) ?_
  try rw [sz]
  clear sz
  replace j : jx z [.inl (8, [.ref (z + 1), .null, .null, .null, .int 0, .int 0, .int 0]), .inr (.inl (1, 400, fun _ => 0)), .inr (.inl (0, 400, fun _ => 0))] h (jnew h_2 (.inr (.inl (0, 400, fun _ => 0)))) := jx_nw j _
  generalize jnew h_2 (.inr (.inl (0, 400, fun _ => 0))) = h_3 at j ⊢
  obtain ⟨h_4, e9, j9⟩ := jx_pf (i := 0) (ci := 8) (k := 1) (v := .ref (z + 2)) j rfl (by exact Nat.le_of_ble_eq_true rfl) rfl
  refine jok_r e9 ?_
  clear e9 j
  have j : jx z [.inl (8, [.ref (z + 1), .ref (z + 2), .null, .null, .int 0, .int 0, .int 0]), .inr (.inl (1, 400, fun _ => 0)), .inr (.inl (0, 400, fun _ => 0))] h h_4 := j9
  clear j9
  have sz : h_4.1 = z + 3 := j.1
  refine jok_r (rfl : jnw h_4 _ = some (jnew h_4 _)) ?_
  try rw [sz]
  clear sz
  replace j : jx z [.inl (8, [.ref (z + 1), .ref (z + 2), .null, .null, .int 0, .int 0, .int 0]), .inr (.inl (1, 400, fun _ => 0)), .inr (.inl (0, 400, fun _ => 0)), .inr (.inl (0, 400, fun _ => 0))] h (jnew h_4 (.inr (.inl (0, 400, fun _ => 0)))) := jx_nw j _
  generalize jnew h_4 (.inr (.inl (0, 400, fun _ => 0))) = h_5 at j ⊢
  obtain ⟨h_6, e9, j9⟩ := jx_pf (i := 0) (ci := 8) (k := 2) (v := .ref (z + 3)) j rfl (by exact Nat.le_of_ble_eq_true rfl) rfl
  refine jok_r e9 ?_
  clear e9 j
  have j : jx z [.inl (8, [.ref (z + 1), .ref (z + 2), .ref (z + 3), .null, .int 0, .int 0, .int 0]), .inr (.inl (1, 400, fun _ => 0)), .inr (.inl (0, 400, fun _ => 0)), .inr (.inl (0, 400, fun _ => 0))] h h_6 := j9
  clear j9
  have sz : h_6.1 = z + 4 := j.1
  refine jok_r (rfl : jnw h_6 _ = some (jnew h_6 _)) ?_
  try rw [sz]
  clear sz
  replace j : jx z [.inl (8, [.ref (z + 1), .ref (z + 2), .ref (z + 3), .null, .int 0, .int 0, .int 0]), .inr (.inl (1, 400, fun _ => 0)), .inr (.inl (0, 400, fun _ => 0)), .inr (.inl (0, 400, fun _ => 0)), .inr (.inl (0, 400, fun _ => 0))] h (jnew h_6 (.inr (.inl (0, 400, fun _ => 0)))) := jx_nw j _
  generalize jnew h_6 (.inr (.inl (0, 400, fun _ => 0))) = h_7 at j ⊢
  obtain ⟨h_8, e9, j9⟩ := jx_pf (i := 0) (ci := 8) (k := 3) (v := .ref (z + 4)) j rfl (by exact Nat.le_of_ble_eq_true rfl) rfl
  refine jok_r e9 ?_
  clear e9 j
  have j : jx z [.inl (8, [.ref (z + 1), .ref (z + 2), .ref (z + 3), .ref (z + 4), .int 0, .int 0, .int 0]), .inr (.inl (1, 400, fun _ => 0)), .inr (.inl (0, 400, fun _ => 0)), .inr (.inl (0, 400, fun _ => 0)), .inr (.inl (0, 400, fun _ => 0))] h h_8 := j9
  clear j9
  subst hz
  exact jok_s j
def eX9_init (z : Nat) (a1 : Nat) (a2 : Nat) : List jE := [.inl (7, [.ref a1, .int 14, .ref a2])]
set_option maxHeartbeats 1000000 in
theorem I_X9_init {n : Nat} {a1 : Nat} {a2 : Nat} {h : jH} : jok (F_X9_init n h.1 a1 a2 (jnew h (.inl (7, [.null, .int 0, .null])))) (fun q => jx h.1 (eX9_init h.1 a1 a2) h q) := by
  unfold F_X9_init
  unfold F_X4_init_R
  simp only [Option.bind_assoc, Option.bind_some]
  have j : jx h.1 [.inl (7, [.null, .int 0, .null])] h (jnew h (.inl (7, [.null, .int 0, .null]))) := jx_one
  generalize jnew h (.inl (7, [.null, .int 0, .null])) = h_0 at j ⊢
  obtain ⟨z, hz⟩ : ∃ z, z = h.1 := ⟨_, rfl⟩
  rw [← hz] at j ⊢
  obtain ⟨h_1, e9, j9⟩ := jx_pf (i := 0) (ci := 7) (k := 0) (v := .ref a1) j rfl (by exact Nat.le_of_ble_eq_true rfl) rfl
  refine jok_r e9 ?_
  clear e9 j
  have j : jx z [.inl (7, [.ref a1, .int 0, .null])] h h_1 := j9
  clear j9
  obtain ⟨h_2, e9, j9⟩ := jx_pf (i := 0) (ci := 7) (k := 1) (v := .int 14) j rfl (by exact Nat.le_of_ble_eq_true rfl) rfl
  refine jok_r e9 ?_
  clear e9 j
  have j : jx z [.inl (7, [.ref a1, .int 14, .null])] h h_2 := j9
  clear j9
  obtain ⟨h_3, e9, j9⟩ := jx_pf (i := 0) (ci := 7) (k := 2) (v := .ref a2) j rfl (by exact Nat.le_of_ble_eq_true rfl) rfl
  refine jok_r e9 ?_
  clear e9 j
  have j : jx z [.inl (7, [.ref a1, .int 14, .ref a2])] h h_3 := j9
  clear j9
  subst hz
  exact jok_s j
def eX3_init (z : Nat) (a1 : Nat) (a2 : Nat) : List jE := [.inl (3, [.ref a1, .int 12, .ref a2])]
set_option maxHeartbeats 1000000 in
theorem I_X3_init {n : Nat} {a1 : Nat} {a2 : Nat} {h : jH} : jok (F_X3_init n h.1 a1 a2 (jnew h (.inl (3, [.null, .int 0, .null])))) (fun q => jx h.1 (eX3_init h.1 a1 a2) h q) := by
  unfold F_X3_init
  unfold F_X4_init_L
  simp only [Option.bind_assoc, Option.bind_some]
  have j : jx h.1 [.inl (3, [.null, .int 0, .null])] h (jnew h (.inl (3, [.null, .int 0, .null]))) := jx_one
  generalize jnew h (.inl (3, [.null, .int 0, .null])) = h_0 at j ⊢
  obtain ⟨z, hz⟩ : ∃ z, z = h.1 := ⟨_, rfl⟩
  rw [← hz] at j ⊢
  obtain ⟨h_1, e9, j9⟩ := jx_pf (i := 0) (ci := 3) (k := 0) (v := .ref a1) j rfl (by exact Nat.le_of_ble_eq_true rfl) rfl
  refine jok_r e9 ?_
  clear e9 j
  have j : jx z [.inl (3, [.ref a1, .int 0, .null])] h h_1 := j9
  clear j9
  obtain ⟨h_2, e9, j9⟩ := jx_pf (i := 0) (ci := 3) (k := 1) (v := .int 12) j rfl (by exact Nat.le_of_ble_eq_true rfl) rfl
  refine jok_r e9 ?_
  clear e9 j
  have j : jx z [.inl (3, [.ref a1, .int 12, .null])] h h_2 := j9
  clear j9
  obtain ⟨h_3, e9, j9⟩ := jx_pf (i := 0) (ci := 3) (k := 2) (v := .ref a2) j rfl (by exact Nat.le_of_ble_eq_true rfl) rfl
  refine jok_r e9 ?_
  clear e9 j
  have j : jx z [.inl (3, [.ref a1, .int 12, .ref a2])] h h_3 := j9
  clear j9
  subst hz
  exact jok_s j
def eX1_init (z : Nat) (a1 : Nat) (a2 : Nat) : List jE := [.inl (1, [.ref a1, .ref a2])]
set_option maxHeartbeats 1000000 in
theorem I_X1_init {n : Nat} {a1 : Nat} {a2 : Nat} {h : jH} : jok (F_X1_init n h.1 a1 a2 (jnew h (.inl (1, [.null, .null])))) (fun q => jx h.1 (eX1_init h.1 a1 a2) h q) := by
  unfold F_X1_init
  have j : jx h.1 [.inl (1, [.null, .null])] h (jnew h (.inl (1, [.null, .null]))) := jx_one
  generalize jnew h (.inl (1, [.null, .null])) = h_0 at j ⊢
  obtain ⟨z, hz⟩ : ∃ z, z = h.1 := ⟨_, rfl⟩
  rw [← hz] at j ⊢
  obtain ⟨h_1, e9, j9⟩ := jx_pf (i := 0) (ci := 1) (k := 0) (v := .ref a1) j rfl (by exact Nat.le_of_ble_eq_true rfl) rfl
  refine jok_r e9 ?_
  clear e9 j
  have j : jx z [.inl (1, [.ref a1, .null])] h h_1 := j9
  clear j9
  obtain ⟨h_2, e9, j9⟩ := jx_pf (i := 0) (ci := 1) (k := 1) (v := .ref a2) j rfl (by exact Nat.le_of_ble_eq_true rfl) rfl
  refine jok_r e9 ?_
  clear e9 j
  have j : jx z [.inl (1, [.ref a1, .ref a2])] h h_2 := j9
  clear j9
  subst hz
  exact jok_s j
def eX7_init (z : Nat) (a1 : Nat) (a2 : Nat) : List jE := [.inl (5, [.ref a1, .ref a2, .ref (z + 1), .ref (z + 2), .int 0, .int 0, .int 0]), .inr (.inl (0, 128, fun _ => 0)), .inr (.inl (0, 32, fun _ => 0))]
set_option maxHeartbeats 1000000 in
theorem I_X7_init {n : Nat} {a1 : Nat} {a2 : Nat} {h : jH} : jok (F_X7_init n h.1 a1 a2 (jnew h (.inl (5, [.null, .null, .null, .null, .int 0, .int 0, .int 0])))) (fun q => jx h.1 (eX7_init h.1 a1 a2) h q) := by
  unfold F_X7_init
  have j : jx h.1 [.inl (5, [.null, .null, .null, .null, .int 0, .int 0, .int 0])] h (jnew h (.inl (5, [.null, .null, .null, .null, .int 0, .int 0, .int 0]))) := jx_one
  generalize jnew h (.inl (5, [.null, .null, .null, .null, .int 0, .int 0, .int 0])) = h_0 at j ⊢
  obtain ⟨z, hz⟩ : ∃ z, z = h.1 := ⟨_, rfl⟩
  rw [← hz] at j ⊢
  have sz : h_0.1 = z + 1 := j.1
  refine jok_r (rfl : jnw h_0 _ = some (jnew h_0 _)) ?_
  try rw [sz]
  clear sz
  replace j : jx z [.inl (5, [.null, .null, .null, .null, .int 0, .int 0, .int 0]), .inr (.inl (0, 128, fun _ => 0))] h (jnew h_0 (.inr (.inl (0, 128, fun _ => 0)))) := jx_nw j _
  generalize jnew h_0 (.inr (.inl (0, 128, fun _ => 0))) = h_1 at j ⊢
  obtain ⟨h_2, e9, j9⟩ := jx_pf (i := 0) (ci := 5) (k := 2) (v := .ref (z + 1)) j rfl (by exact Nat.le_of_ble_eq_true rfl) rfl
  refine jok_r e9 ?_
  clear e9 j
  have j : jx z [.inl (5, [.null, .null, .ref (z + 1), .null, .int 0, .int 0, .int 0]), .inr (.inl (0, 128, fun _ => 0))] h h_2 := j9
  clear j9
  have sz : h_2.1 = z + 2 := j.1
  refine jok_r (rfl : jnw h_2 _ = some (jnew h_2 _)) ?_
  try rw [sz]
  clear sz
  replace j : jx z [.inl (5, [.null, .null, .ref (z + 1), .null, .int 0, .int 0, .int 0]), .inr (.inl (0, 128, fun _ => 0)), .inr (.inl (0, 32, fun _ => 0))] h (jnew h_2 (.inr (.inl (0, 32, fun _ => 0)))) := jx_nw j _
  generalize jnew h_2 (.inr (.inl (0, 32, fun _ => 0))) = h_3 at j ⊢
  obtain ⟨h_4, e9, j9⟩ := jx_pf (i := 0) (ci := 5) (k := 3) (v := .ref (z + 2)) j rfl (by exact Nat.le_of_ble_eq_true rfl) rfl
  refine jok_r e9 ?_
  clear e9 j
  have j : jx z [.inl (5, [.null, .null, .ref (z + 1), .ref (z + 2), .int 0, .int 0, .int 0]), .inr (.inl (0, 128, fun _ => 0)), .inr (.inl (0, 32, fun _ => 0))] h h_4 := j9
  clear j9
  obtain ⟨h_5, e9, j9⟩ := jx_pf (i := 0) (ci := 5) (k := 0) (v := .ref a1) j rfl (by exact Nat.le_of_ble_eq_true rfl) rfl
  refine jok_r e9 ?_
  clear e9 j
  have j : jx z [.inl (5, [.ref a1, .null, .ref (z + 1), .ref (z + 2), .int 0, .int 0, .int 0]), .inr (.inl (0, 128, fun _ => 0)), .inr (.inl (0, 32, fun _ => 0))] h h_5 := j9
  clear j9
  obtain ⟨h_6, e9, j9⟩ := jx_pf (i := 0) (ci := 5) (k := 1) (v := .ref a2) j rfl (by exact Nat.le_of_ble_eq_true rfl) rfl
  refine jok_r e9 ?_
  clear e9 j
  have j : jx z [.inl (5, [.ref a1, .ref a2, .ref (z + 1), .ref (z + 2), .int 0, .int 0, .int 0]), .inr (.inl (0, 128, fun _ => 0)), .inr (.inl (0, 32, fun _ => 0))] h h_6 := j9
  clear j9
  subst hz
  exact jok_s j
def eX11_init (z : Nat) : List jE := .inl (9, [.ref (z + 1), .ref (z + 6), .ref (z + 13), .ref (z + 19), .ref (z + 21), .ref (z + 28), .ref (z + 34), .ref (z + 35), .ref (z + 36), .ref (z + 37), .null, .null, .int (-1)]) :: ((((((((((eX10_init (z + 1)) ++ eX8_init (z + 6) ) ++ eX2_init (z + 13) ) ++ eX0_init (z + 19) ) ++ eX8_init (z + 21) ) ++ eX2_init (z + 28) ) ++ eX9_init (z + 34) (z + 1) (z + 21)) ++ eX3_init (z + 35) (z + 1) (z + 28)) ++ eX1_init (z + 36) (z + 13) (z + 21)) ++ eX7_init (z + 37) (z + 1) (z + 21))
set_option maxHeartbeats 1000000 in
theorem I_X11_init {n : Nat} {h : jH} : jok (F_X11_init n h.1 (jnew h (.inl (9, [.null, .null, .null, .null, .null, .null, .null, .null, .null, .null, .null, .null, .int 0])))) (fun q => jx h.1 (eX11_init h.1) h q) := by
  unfold F_X11_init
  have j : jx h.1 (.inl (9, [.null, .null, .null, .null, .null, .null, .null, .null, .null, .null, .null, .null, .int 0]) :: []) h (jnew h (.inl (9, [.null, .null, .null, .null, .null, .null, .null, .null, .null, .null, .null, .null, .int 0]))) := jx_one
  generalize jnew h (.inl (9, [.null, .null, .null, .null, .null, .null, .null, .null, .null, .null, .null, .null, .int 0])) = h_0 at j ⊢
  obtain ⟨z, hz⟩ : ∃ z, z = h.1 := ⟨_, rfl⟩
  rw [← hz] at j ⊢
  have sz : h_0.1 = z + 1 := j.1
  refine jok_r (rfl : jnw h_0 _ = some (jnew h_0 _)) ?_
  refine jok_b (I_X10_init (h := h_0)) (fun h_1 j9 => ?_)
  rw [sz] at j9
  try rw [sz]
  clear sz
  have j : jx z (.inl (9, [.null, .null, .null, .null, .null, .null, .null, .null, .null, .null, .null, .null, .int 0]) :: (eX10_init (z + 1))) h h_1 := jx_cat j j9
  clear j9
  obtain ⟨h_2, e9, j9⟩ := jx_pf (i := 0) (ci := 9) (k := 0) (v := .ref (z + 1)) j rfl (by exact Nat.le_of_ble_eq_true rfl) rfl
  refine jok_r e9 ?_
  clear e9 j
  have j : jx z (.inl (9, [.ref (z + 1), .null, .null, .null, .null, .null, .null, .null, .null, .null, .null, .null, .int 0]) :: (eX10_init (z + 1))) h h_2 := j9
  clear j9
  have sz : h_2.1 = z + 6 := j.1
  refine jok_r (rfl : jnw h_2 _ = some (jnew h_2 _)) ?_
  refine jok_b (I_X8_init (h := h_2)) (fun h_3 j9 => ?_)
  rw [sz] at j9
  try rw [sz]
  clear sz
  have j : jx z (.inl (9, [.ref (z + 1), .null, .null, .null, .null, .null, .null, .null, .null, .null, .null, .null, .int 0]) :: ((eX10_init (z + 1)) ++ eX8_init (z + 6) )) h h_3 := jx_cat j j9
  clear j9
  obtain ⟨h_4, e9, j9⟩ := jx_pf (i := 0) (ci := 9) (k := 1) (v := .ref (z + 6)) j rfl (by exact Nat.le_of_ble_eq_true rfl) rfl
  refine jok_r e9 ?_
  clear e9 j
  have j : jx z (.inl (9, [.ref (z + 1), .ref (z + 6), .null, .null, .null, .null, .null, .null, .null, .null, .null, .null, .int 0]) :: ((eX10_init (z + 1)) ++ eX8_init (z + 6) )) h h_4 := j9
  clear j9
  have sz : h_4.1 = z + 13 := j.1
  refine jok_r (rfl : jnw h_4 _ = some (jnew h_4 _)) ?_
  refine jok_b (I_X2_init (h := h_4)) (fun h_5 j9 => ?_)
  rw [sz] at j9
  try rw [sz]
  clear sz
  have j : jx z (.inl (9, [.ref (z + 1), .ref (z + 6), .null, .null, .null, .null, .null, .null, .null, .null, .null, .null, .int 0]) :: (((eX10_init (z + 1)) ++ eX8_init (z + 6) ) ++ eX2_init (z + 13) )) h h_5 := jx_cat j j9
  clear j9
  obtain ⟨h_6, e9, j9⟩ := jx_pf (i := 0) (ci := 9) (k := 2) (v := .ref (z + 13)) j rfl (by exact Nat.le_of_ble_eq_true rfl) rfl
  refine jok_r e9 ?_
  clear e9 j
  have j : jx z (.inl (9, [.ref (z + 1), .ref (z + 6), .ref (z + 13), .null, .null, .null, .null, .null, .null, .null, .null, .null, .int 0]) :: (((eX10_init (z + 1)) ++ eX8_init (z + 6) ) ++ eX2_init (z + 13) )) h h_6 := j9
  clear j9
  have sz : h_6.1 = z + 19 := j.1
  refine jok_r (rfl : jnw h_6 _ = some (jnew h_6 _)) ?_
  refine jok_b (I_X0_init (h := h_6)) (fun h_7 j9 => ?_)
  rw [sz] at j9
  try rw [sz]
  clear sz
  have j : jx z (.inl (9, [.ref (z + 1), .ref (z + 6), .ref (z + 13), .null, .null, .null, .null, .null, .null, .null, .null, .null, .int 0]) :: ((((eX10_init (z + 1)) ++ eX8_init (z + 6) ) ++ eX2_init (z + 13) ) ++ eX0_init (z + 19) )) h h_7 := jx_cat j j9
  clear j9
  obtain ⟨h_8, e9, j9⟩ := jx_pf (i := 0) (ci := 9) (k := 3) (v := .ref (z + 19)) j rfl (by exact Nat.le_of_ble_eq_true rfl) rfl
  refine jok_r e9 ?_
  clear e9 j
  have j : jx z (.inl (9, [.ref (z + 1), .ref (z + 6), .ref (z + 13), .ref (z + 19), .null, .null, .null, .null, .null, .null, .null, .null, .int 0]) :: ((((eX10_init (z + 1)) ++ eX8_init (z + 6) ) ++ eX2_init (z + 13) ) ++ eX0_init (z + 19) )) h h_8 := j9
  clear j9
  have sz : h_8.1 = z + 21 := j.1
  refine jok_r (rfl : jnw h_8 _ = some (jnew h_8 _)) ?_
  refine jok_b (I_X8_init (h := h_8)) (fun h_9 j9 => ?_)
  rw [sz] at j9
  try rw [sz]
  clear sz
  have j : jx z (.inl (9, [.ref (z + 1), .ref (z + 6), .ref (z + 13), .ref (z + 19), .null, .null, .null, .null, .null, .null, .null, .null, .int 0]) :: (((((eX10_init (z + 1)) ++ eX8_init (z + 6) ) ++ eX2_init (z + 13) ) ++ eX0_init (z + 19) ) ++ eX8_init (z + 21) )) h h_9 := jx_cat j j9
  clear j9
  obtain ⟨h_10, e9, j9⟩ := jx_pf (i := 0) (ci := 9) (k := 4) (v := .ref (z + 21)) j rfl (by exact Nat.le_of_ble_eq_true rfl) rfl
  refine jok_r e9 ?_
  clear e9 j
  have j : jx z (.inl (9, [.ref (z + 1), .ref (z + 6), .ref (z + 13), .ref (z + 19), .ref (z + 21), .null, .null, .null, .null, .null, .null, .null, .int 0]) :: (((((eX10_init (z + 1)) ++ eX8_init (z + 6) ) ++ eX2_init (z + 13) ) ++ eX0_init (z + 19) ) ++ eX8_init (z + 21) )) h h_10 := j9
  clear j9
  have sz : h_10.1 = z + 28 := j.1
  refine jok_r (rfl : jnw h_10 _ = some (jnew h_10 _)) ?_
  refine jok_b (I_X2_init (h := h_10)) (fun h_11 j9 => ?_)
  rw [sz] at j9
  try rw [sz]
  clear sz
  have j : jx z (.inl (9, [.ref (z + 1), .ref (z + 6), .ref (z + 13), .ref (z + 19), .ref (z + 21), .null, .null, .null, .null, .null, .null, .null, .int 0]) :: ((((((eX10_init (z + 1)) ++ eX8_init (z + 6) ) ++ eX2_init (z + 13) ) ++ eX0_init (z + 19) ) ++ eX8_init (z + 21) ) ++ eX2_init (z + 28) )) h h_11 := jx_cat j j9
  clear j9
  obtain ⟨h_12, e9, j9⟩ := jx_pf (i := 0) (ci := 9) (k := 5) (v := .ref (z + 28)) j rfl (by exact Nat.le_of_ble_eq_true rfl) rfl
  refine jok_r e9 ?_
  clear e9 j
  have j : jx z (.inl (9, [.ref (z + 1), .ref (z + 6), .ref (z + 13), .ref (z + 19), .ref (z + 21), .ref (z + 28), .null, .null, .null, .null, .null, .null, .int 0]) :: ((((((eX10_init (z + 1)) ++ eX8_init (z + 6) ) ++ eX2_init (z + 13) ) ++ eX0_init (z + 19) ) ++ eX8_init (z + 21) ) ++ eX2_init (z + 28) )) h h_12 := j9
  clear j9
  have sz : h_12.1 = z + 34 := j.1
  refine jok_r (rfl : jnw h_12 _ = some (jnew h_12 _)) ?_
  have j9 : jx z (.inl (9, [.ref (z + 1), .ref (z + 6), .ref (z + 13), .ref (z + 19), .ref (z + 21), .ref (z + 28), .null, .null, .null, .null, .null, .null, .int 0]) :: (((((((eX10_init (z + 1)) ++ eX8_init (z + 6) ) ++ eX2_init (z + 13) ) ++ eX0_init (z + 19) ) ++ eX8_init (z + 21) ) ++ eX2_init (z + 28) ) ++ [.inl (7, [.null, .int 0, .null])])) h (jnew h_12 (.inl (7, [.null, .int 0, .null]))) := jx_nw j _
  refine jok_r (jx_gR (i := 0) (ci := 9) (k := 0) (b := (z + 1)) j9 rfl rfl rfl) ?_
  refine jok_r (jx_gR (i := 0) (ci := 9) (k := 4) (b := (z + 21)) j9 rfl rfl rfl) ?_
  refine jok_b (I_X9_init (h := h_12)) (fun h_13 j9 => ?_)
  rw [sz] at j9
  try rw [sz]
  clear sz
  have j : jx z (.inl (9, [.ref (z + 1), .ref (z + 6), .ref (z + 13), .ref (z + 19), .ref (z + 21), .ref (z + 28), .null, .null, .null, .null, .null, .null, .int 0]) :: (((((((eX10_init (z + 1)) ++ eX8_init (z + 6) ) ++ eX2_init (z + 13) ) ++ eX0_init (z + 19) ) ++ eX8_init (z + 21) ) ++ eX2_init (z + 28) ) ++ eX9_init (z + 34) (z + 1) (z + 21))) h h_13 := jx_cat j j9
  clear j9
  obtain ⟨h_14, e9, j9⟩ := jx_pf (i := 0) (ci := 9) (k := 6) (v := .ref (z + 34)) j rfl (by exact Nat.le_of_ble_eq_true rfl) rfl
  refine jok_r e9 ?_
  clear e9 j
  have j : jx z (.inl (9, [.ref (z + 1), .ref (z + 6), .ref (z + 13), .ref (z + 19), .ref (z + 21), .ref (z + 28), .ref (z + 34), .null, .null, .null, .null, .null, .int 0]) :: (((((((eX10_init (z + 1)) ++ eX8_init (z + 6) ) ++ eX2_init (z + 13) ) ++ eX0_init (z + 19) ) ++ eX8_init (z + 21) ) ++ eX2_init (z + 28) ) ++ eX9_init (z + 34) (z + 1) (z + 21))) h h_14 := j9
  clear j9
  have sz : h_14.1 = z + 35 := j.1
  refine jok_r (rfl : jnw h_14 _ = some (jnew h_14 _)) ?_
  have j9 : jx z (.inl (9, [.ref (z + 1), .ref (z + 6), .ref (z + 13), .ref (z + 19), .ref (z + 21), .ref (z + 28), .ref (z + 34), .null, .null, .null, .null, .null, .int 0]) :: ((((((((eX10_init (z + 1)) ++ eX8_init (z + 6) ) ++ eX2_init (z + 13) ) ++ eX0_init (z + 19) ) ++ eX8_init (z + 21) ) ++ eX2_init (z + 28) ) ++ eX9_init (z + 34) (z + 1) (z + 21)) ++ [.inl (3, [.null, .int 0, .null])])) h (jnew h_14 (.inl (3, [.null, .int 0, .null]))) := jx_nw j _
  refine jok_r (jx_gR (i := 0) (ci := 9) (k := 0) (b := (z + 1)) j9 rfl rfl rfl) ?_
  refine jok_r (jx_gR (i := 0) (ci := 9) (k := 5) (b := (z + 28)) j9 rfl rfl rfl) ?_
  refine jok_b (I_X3_init (h := h_14)) (fun h_15 j9 => ?_)
  rw [sz] at j9
  try rw [sz]
  clear sz
  have j : jx z (.inl (9, [.ref (z + 1), .ref (z + 6), .ref (z + 13), .ref (z + 19), .ref (z + 21), .ref (z + 28), .ref (z + 34), .null, .null, .null, .null, .null, .int 0]) :: ((((((((eX10_init (z + 1)) ++ eX8_init (z + 6) ) ++ eX2_init (z + 13) ) ++ eX0_init (z + 19) ) ++ eX8_init (z + 21) ) ++ eX2_init (z + 28) ) ++ eX9_init (z + 34) (z + 1) (z + 21)) ++ eX3_init (z + 35) (z + 1) (z + 28))) h h_15 := jx_cat j j9
  clear j9
  obtain ⟨h_16, e9, j9⟩ := jx_pf (i := 0) (ci := 9) (k := 7) (v := .ref (z + 35)) j rfl (by exact Nat.le_of_ble_eq_true rfl) rfl
  refine jok_r e9 ?_
  clear e9 j
  have j : jx z (.inl (9, [.ref (z + 1), .ref (z + 6), .ref (z + 13), .ref (z + 19), .ref (z + 21), .ref (z + 28), .ref (z + 34), .ref (z + 35), .null, .null, .null, .null, .int 0]) :: ((((((((eX10_init (z + 1)) ++ eX8_init (z + 6) ) ++ eX2_init (z + 13) ) ++ eX0_init (z + 19) ) ++ eX8_init (z + 21) ) ++ eX2_init (z + 28) ) ++ eX9_init (z + 34) (z + 1) (z + 21)) ++ eX3_init (z + 35) (z + 1) (z + 28))) h h_16 := j9
  clear j9
  have sz : h_16.1 = z + 36 := j.1
  refine jok_r (rfl : jnw h_16 _ = some (jnew h_16 _)) ?_
  have j9 : jx z (.inl (9, [.ref (z + 1), .ref (z + 6), .ref (z + 13), .ref (z + 19), .ref (z + 21), .ref (z + 28), .ref (z + 34), .ref (z + 35), .null, .null, .null, .null, .int 0]) :: (((((((((eX10_init (z + 1)) ++ eX8_init (z + 6) ) ++ eX2_init (z + 13) ) ++ eX0_init (z + 19) ) ++ eX8_init (z + 21) ) ++ eX2_init (z + 28) ) ++ eX9_init (z + 34) (z + 1) (z + 21)) ++ eX3_init (z + 35) (z + 1) (z + 28)) ++ [.inl (1, [.null, .null])])) h (jnew h_16 (.inl (1, [.null, .null]))) := jx_nw j _
  refine jok_r (jx_gR (i := 0) (ci := 9) (k := 2) (b := (z + 13)) j9 rfl rfl rfl) ?_
  refine jok_r (jx_gR (i := 0) (ci := 9) (k := 4) (b := (z + 21)) j9 rfl rfl rfl) ?_
  refine jok_b (I_X1_init (h := h_16)) (fun h_17 j9 => ?_)
  rw [sz] at j9
  try rw [sz]
  clear sz
  have j : jx z (.inl (9, [.ref (z + 1), .ref (z + 6), .ref (z + 13), .ref (z + 19), .ref (z + 21), .ref (z + 28), .ref (z + 34), .ref (z + 35), .null, .null, .null, .null, .int 0]) :: (((((((((eX10_init (z + 1)) ++ eX8_init (z + 6) ) ++ eX2_init (z + 13) ) ++ eX0_init (z + 19) ) ++ eX8_init (z + 21) ) ++ eX2_init (z + 28) ) ++ eX9_init (z + 34) (z + 1) (z + 21)) ++ eX3_init (z + 35) (z + 1) (z + 28)) ++ eX1_init (z + 36) (z + 13) (z + 21))) h h_17 := jx_cat j j9
  clear j9
  obtain ⟨h_18, e9, j9⟩ := jx_pf (i := 0) (ci := 9) (k := 8) (v := .ref (z + 36)) j rfl (by exact Nat.le_of_ble_eq_true rfl) rfl
  refine jok_r e9 ?_
  clear e9 j
  have j : jx z (.inl (9, [.ref (z + 1), .ref (z + 6), .ref (z + 13), .ref (z + 19), .ref (z + 21), .ref (z + 28), .ref (z + 34), .ref (z + 35), .ref (z + 36), .null, .null, .null, .int 0]) :: (((((((((eX10_init (z + 1)) ++ eX8_init (z + 6) ) ++ eX2_init (z + 13) ) ++ eX0_init (z + 19) ) ++ eX8_init (z + 21) ) ++ eX2_init (z + 28) ) ++ eX9_init (z + 34) (z + 1) (z + 21)) ++ eX3_init (z + 35) (z + 1) (z + 28)) ++ eX1_init (z + 36) (z + 13) (z + 21))) h h_18 := j9
  clear j9
  have sz : h_18.1 = z + 37 := j.1
  refine jok_r (rfl : jnw h_18 _ = some (jnew h_18 _)) ?_
  have j9 : jx z (.inl (9, [.ref (z + 1), .ref (z + 6), .ref (z + 13), .ref (z + 19), .ref (z + 21), .ref (z + 28), .ref (z + 34), .ref (z + 35), .ref (z + 36), .null, .null, .null, .int 0]) :: ((((((((((eX10_init (z + 1)) ++ eX8_init (z + 6) ) ++ eX2_init (z + 13) ) ++ eX0_init (z + 19) ) ++ eX8_init (z + 21) ) ++ eX2_init (z + 28) ) ++ eX9_init (z + 34) (z + 1) (z + 21)) ++ eX3_init (z + 35) (z + 1) (z + 28)) ++ eX1_init (z + 36) (z + 13) (z + 21)) ++ [.inl (5, [.null, .null, .null, .null, .int 0, .int 0, .int 0])])) h (jnew h_18 (.inl (5, [.null, .null, .null, .null, .int 0, .int 0, .int 0]))) := jx_nw j _
  refine jok_r (jx_gR (i := 0) (ci := 9) (k := 0) (b := (z + 1)) j9 rfl rfl rfl) ?_
  refine jok_r (jx_gR (i := 0) (ci := 9) (k := 4) (b := (z + 21)) j9 rfl rfl rfl) ?_
  refine jok_b (I_X7_init (h := h_18)) (fun h_19 j9 => ?_)
  rw [sz] at j9
  try rw [sz]
  clear sz
  have j : jx z (.inl (9, [.ref (z + 1), .ref (z + 6), .ref (z + 13), .ref (z + 19), .ref (z + 21), .ref (z + 28), .ref (z + 34), .ref (z + 35), .ref (z + 36), .null, .null, .null, .int 0]) :: ((((((((((eX10_init (z + 1)) ++ eX8_init (z + 6) ) ++ eX2_init (z + 13) ) ++ eX0_init (z + 19) ) ++ eX8_init (z + 21) ) ++ eX2_init (z + 28) ) ++ eX9_init (z + 34) (z + 1) (z + 21)) ++ eX3_init (z + 35) (z + 1) (z + 28)) ++ eX1_init (z + 36) (z + 13) (z + 21)) ++ eX7_init (z + 37) (z + 1) (z + 21))) h h_19 := jx_cat j j9
  clear j9
  obtain ⟨h_20, e9, j9⟩ := jx_pf (i := 0) (ci := 9) (k := 9) (v := .ref (z + 37)) j rfl (by exact Nat.le_of_ble_eq_true rfl) rfl
  refine jok_r e9 ?_
  clear e9 j
  have j : jx z (.inl (9, [.ref (z + 1), .ref (z + 6), .ref (z + 13), .ref (z + 19), .ref (z + 21), .ref (z + 28), .ref (z + 34), .ref (z + 35), .ref (z + 36), .ref (z + 37), .null, .null, .int 0]) :: ((((((((((eX10_init (z + 1)) ++ eX8_init (z + 6) ) ++ eX2_init (z + 13) ) ++ eX0_init (z + 19) ) ++ eX8_init (z + 21) ) ++ eX2_init (z + 28) ) ++ eX9_init (z + 34) (z + 1) (z + 21)) ++ eX3_init (z + 35) (z + 1) (z + 28)) ++ eX1_init (z + 36) (z + 13) (z + 21)) ++ eX7_init (z + 37) (z + 1) (z + 21))) h h_20 := j9
  clear j9
  obtain ⟨h_21, e9, j9⟩ := jx_pf (i := 0) (ci := 9) (k := 12) (v := .int (-1)) j rfl (by exact Nat.le_of_ble_eq_true rfl) rfl
  refine jok_r e9 ?_
  clear e9 j
  have j : jx z (.inl (9, [.ref (z + 1), .ref (z + 6), .ref (z + 13), .ref (z + 19), .ref (z + 21), .ref (z + 28), .ref (z + 34), .ref (z + 35), .ref (z + 36), .ref (z + 37), .null, .null, .int (-1)]) :: ((((((((((eX10_init (z + 1)) ++ eX8_init (z + 6) ) ++ eX2_init (z + 13) ) ++ eX0_init (z + 19) ) ++ eX8_init (z + 21) ) ++ eX2_init (z + 28) ) ++ eX9_init (z + 34) (z + 1) (z + 21)) ++ eX3_init (z + 35) (z + 1) (z + 28)) ++ eX1_init (z + 36) (z + 13) (z + 21)) ++ eX7_init (z + 37) (z + 1) (z + 21))) h h_21 := j9
  clear j9
  subst hz
  exact jok_s j
def eX12_init (z : Nat)  : List jE := [.inl (10, [.int 0, .ref (z + 1), .ref (z + 2), .ref (z + 3), .ref (z + 4), .ref (z + 5), .int 0, .int 0, .ref (z + 6), .int 0, .int 0, .int 0, .int 0, .int 0, .int (-1), .ref (z + 7), .int 0, .ref (z + 8), .int 0, .ref (z + 9), .ref (z + 10), .ref (z + 11)]), .inr (.inl (0, 2133, upd (upd (upd (fun _ => 0) (5 : Int32).toNatClampNeg 16) (6 : Int32).toNatClampNeg 8) (10 : Int32).toNatClampNeg 1)), .inr (.inl (0, 1284, fun _ => 0)), .inr (.inl (0, 1284, fun _ => 0)), .inr (.inl (0, 435, fun _ => 0)), .inr (.inl (0, 5220, fun _ => 0)), .inr (.inl (1, 400, fun _ => 0)), .inr (.inl (0, 5, fun _ => 0)), .inr (.inl (0, 400, fun _ => 0)), .inr (.inl (2, 256, fun _ => 0)), .inr (.inl (0, 32, fun _ => 0)), .inr (.inl (0, 8, fun _ => 0))]
set_option maxHeartbeats 1000000 in
theorem I_X12_init {n : Nat}  {h : jH} : jok (F_X12_init n h.1  (jnew h (.inl (10, [.int 0, .null, .null, .null, .null, .null, .int 0, .int 0, .null, .int 0, .int 0, .int 0, .int 0, .int 0, .int 0, .null, .int 0, .null, .int 0, .null, .null, .null])))) (fun q => jx h.1 (eX12_init h.1 ) h q) := by
  unfold F_X12_init
  have j : jx h.1 [.inl (10, [.int 0, .null, .null, .null, .null, .null, .int 0, .int 0, .null, .int 0, .int 0, .int 0, .int 0, .int 0, .int 0, .null, .int 0, .null, .int 0, .null, .null, .null])] h (jnew h (.inl (10, [.int 0, .null, .null, .null, .null, .null, .int 0, .int 0, .null, .int 0, .int 0, .int 0, .int 0, .int 0, .int 0, .null, .int 0, .null, .int 0, .null, .null, .null]))) := jx_one
  generalize jnew h (.inl (10, [.int 0, .null, .null, .null, .null, .null, .int 0, .int 0, .null, .int 0, .int 0, .int 0, .int 0, .int 0, .int 0, .null, .int 0, .null, .int 0, .null, .null, .null])) = h_0 at j ⊢
  obtain ⟨z, hz⟩ : ∃ z, z = h.1 := ⟨_, rfl⟩
  rw [← hz] at j ⊢
  have sz : h_0.1 = z + 1 := j.1
  refine jok_r (rfl : jnw h_0 _ = some (jnew h_0 _)) ?_
  try rw [sz]
  clear sz
  replace j : jx z [.inl (10, [.int 0, .null, .null, .null, .null, .null, .int 0, .int 0, .null, .int 0, .int 0, .int 0, .int 0, .int 0, .int 0, .null, .int 0, .null, .int 0, .null, .null, .null]), .inr (.inl (0, 2133, fun _ => 0))] h (jnew h_0 (.inr (.inl (0, 2133, fun _ => 0)))) := jx_nw j _
  generalize jnew h_0 (.inr (.inl (0, 2133, fun _ => 0))) = h_1 at j ⊢
  obtain ⟨h_2, e9, j9⟩ := jx_pf (i := 0) (ci := 10) (k := 1) (v := .ref (z + 1)) j rfl (by exact Nat.le_of_ble_eq_true rfl) rfl
  refine jok_r e9 ?_
  clear e9 j
  have j : jx z [.inl (10, [.int 0, .ref (z + 1), .null, .null, .null, .null, .int 0, .int 0, .null, .int 0, .int 0, .int 0, .int 0, .int 0, .int 0, .null, .int 0, .null, .int 0, .null, .null, .null]), .inr (.inl (0, 2133, fun _ => 0))] h h_2 := j9
  clear j9
  have sz : h_2.1 = z + 2 := j.1
  refine jok_r (rfl : jnw h_2 _ = some (jnew h_2 _)) ?_
  try rw [sz]
  clear sz
  replace j : jx z [.inl (10, [.int 0, .ref (z + 1), .null, .null, .null, .null, .int 0, .int 0, .null, .int 0, .int 0, .int 0, .int 0, .int 0, .int 0, .null, .int 0, .null, .int 0, .null, .null, .null]), .inr (.inl (0, 2133, fun _ => 0)), .inr (.inl (0, 1284, fun _ => 0))] h (jnew h_2 (.inr (.inl (0, 1284, fun _ => 0)))) := jx_nw j _
  generalize jnew h_2 (.inr (.inl (0, 1284, fun _ => 0))) = h_3 at j ⊢
  obtain ⟨h_4, e9, j9⟩ := jx_pf (i := 0) (ci := 10) (k := 2) (v := .ref (z + 2)) j rfl (by exact Nat.le_of_ble_eq_true rfl) rfl
  refine jok_r e9 ?_
  clear e9 j
  have j : jx z [.inl (10, [.int 0, .ref (z + 1), .ref (z + 2), .null, .null, .null, .int 0, .int 0, .null, .int 0, .int 0, .int 0, .int 0, .int 0, .int 0, .null, .int 0, .null, .int 0, .null, .null, .null]), .inr (.inl (0, 2133, fun _ => 0)), .inr (.inl (0, 1284, fun _ => 0))] h h_4 := j9
  clear j9
  have sz : h_4.1 = z + 3 := j.1
  refine jok_r (rfl : jnw h_4 _ = some (jnew h_4 _)) ?_
  try rw [sz]
  clear sz
  replace j : jx z [.inl (10, [.int 0, .ref (z + 1), .ref (z + 2), .null, .null, .null, .int 0, .int 0, .null, .int 0, .int 0, .int 0, .int 0, .int 0, .int 0, .null, .int 0, .null, .int 0, .null, .null, .null]), .inr (.inl (0, 2133, fun _ => 0)), .inr (.inl (0, 1284, fun _ => 0)), .inr (.inl (0, 1284, fun _ => 0))] h (jnew h_4 (.inr (.inl (0, 1284, fun _ => 0)))) := jx_nw j _
  generalize jnew h_4 (.inr (.inl (0, 1284, fun _ => 0))) = h_5 at j ⊢
  obtain ⟨h_6, e9, j9⟩ := jx_pf (i := 0) (ci := 10) (k := 3) (v := .ref (z + 3)) j rfl (by exact Nat.le_of_ble_eq_true rfl) rfl
  refine jok_r e9 ?_
  clear e9 j
  have j : jx z [.inl (10, [.int 0, .ref (z + 1), .ref (z + 2), .ref (z + 3), .null, .null, .int 0, .int 0, .null, .int 0, .int 0, .int 0, .int 0, .int 0, .int 0, .null, .int 0, .null, .int 0, .null, .null, .null]), .inr (.inl (0, 2133, fun _ => 0)), .inr (.inl (0, 1284, fun _ => 0)), .inr (.inl (0, 1284, fun _ => 0))] h h_6 := j9
  clear j9
  have sz : h_6.1 = z + 4 := j.1
  refine jok_r (rfl : jnw h_6 _ = some (jnew h_6 _)) ?_
  try rw [sz]
  clear sz
  replace j : jx z [.inl (10, [.int 0, .ref (z + 1), .ref (z + 2), .ref (z + 3), .null, .null, .int 0, .int 0, .null, .int 0, .int 0, .int 0, .int 0, .int 0, .int 0, .null, .int 0, .null, .int 0, .null, .null, .null]), .inr (.inl (0, 2133, fun _ => 0)), .inr (.inl (0, 1284, fun _ => 0)), .inr (.inl (0, 1284, fun _ => 0)), .inr (.inl (0, 435, fun _ => 0))] h (jnew h_6 (.inr (.inl (0, 435, fun _ => 0)))) := jx_nw j _
  generalize jnew h_6 (.inr (.inl (0, 435, fun _ => 0))) = h_7 at j ⊢
  obtain ⟨h_8, e9, j9⟩ := jx_pf (i := 0) (ci := 10) (k := 4) (v := .ref (z + 4)) j rfl (by exact Nat.le_of_ble_eq_true rfl) rfl
  refine jok_r e9 ?_
  clear e9 j
  have j : jx z [.inl (10, [.int 0, .ref (z + 1), .ref (z + 2), .ref (z + 3), .ref (z + 4), .null, .int 0, .int 0, .null, .int 0, .int 0, .int 0, .int 0, .int 0, .int 0, .null, .int 0, .null, .int 0, .null, .null, .null]), .inr (.inl (0, 2133, fun _ => 0)), .inr (.inl (0, 1284, fun _ => 0)), .inr (.inl (0, 1284, fun _ => 0)), .inr (.inl (0, 435, fun _ => 0))] h h_8 := j9
  clear j9
  have sz : h_8.1 = z + 5 := j.1
  refine jok_r (rfl : jnw h_8 _ = some (jnew h_8 _)) ?_
  try rw [sz]
  clear sz
  replace j : jx z [.inl (10, [.int 0, .ref (z + 1), .ref (z + 2), .ref (z + 3), .ref (z + 4), .null, .int 0, .int 0, .null, .int 0, .int 0, .int 0, .int 0, .int 0, .int 0, .null, .int 0, .null, .int 0, .null, .null, .null]), .inr (.inl (0, 2133, fun _ => 0)), .inr (.inl (0, 1284, fun _ => 0)), .inr (.inl (0, 1284, fun _ => 0)), .inr (.inl (0, 435, fun _ => 0)), .inr (.inl (0, 5220, fun _ => 0))] h (jnew h_8 (.inr (.inl (0, 5220, fun _ => 0)))) := jx_nw j _
  generalize jnew h_8 (.inr (.inl (0, 5220, fun _ => 0))) = h_9 at j ⊢
  obtain ⟨h_10, e9, j9⟩ := jx_pf (i := 0) (ci := 10) (k := 5) (v := .ref (z + 5)) j rfl (by exact Nat.le_of_ble_eq_true rfl) rfl
  refine jok_r e9 ?_
  clear e9 j
  have j : jx z [.inl (10, [.int 0, .ref (z + 1), .ref (z + 2), .ref (z + 3), .ref (z + 4), .ref (z + 5), .int 0, .int 0, .null, .int 0, .int 0, .int 0, .int 0, .int 0, .int 0, .null, .int 0, .null, .int 0, .null, .null, .null]), .inr (.inl (0, 2133, fun _ => 0)), .inr (.inl (0, 1284, fun _ => 0)), .inr (.inl (0, 1284, fun _ => 0)), .inr (.inl (0, 435, fun _ => 0)), .inr (.inl (0, 5220, fun _ => 0))] h h_10 := j9
  clear j9
  have sz : h_10.1 = z + 6 := j.1
  refine jok_r (rfl : jnw h_10 _ = some (jnew h_10 _)) ?_
  try rw [sz]
  clear sz
  replace j : jx z [.inl (10, [.int 0, .ref (z + 1), .ref (z + 2), .ref (z + 3), .ref (z + 4), .ref (z + 5), .int 0, .int 0, .null, .int 0, .int 0, .int 0, .int 0, .int 0, .int 0, .null, .int 0, .null, .int 0, .null, .null, .null]), .inr (.inl (0, 2133, fun _ => 0)), .inr (.inl (0, 1284, fun _ => 0)), .inr (.inl (0, 1284, fun _ => 0)), .inr (.inl (0, 435, fun _ => 0)), .inr (.inl (0, 5220, fun _ => 0)), .inr (.inl (1, 400, fun _ => 0))] h (jnew h_10 (.inr (.inl (1, 400, fun _ => 0)))) := jx_nw j _
  generalize jnew h_10 (.inr (.inl (1, 400, fun _ => 0))) = h_11 at j ⊢
  obtain ⟨h_12, e9, j9⟩ := jx_pf (i := 0) (ci := 10) (k := 8) (v := .ref (z + 6)) j rfl (by exact Nat.le_of_ble_eq_true rfl) rfl
  refine jok_r e9 ?_
  clear e9 j
  have j : jx z [.inl (10, [.int 0, .ref (z + 1), .ref (z + 2), .ref (z + 3), .ref (z + 4), .ref (z + 5), .int 0, .int 0, .ref (z + 6), .int 0, .int 0, .int 0, .int 0, .int 0, .int 0, .null, .int 0, .null, .int 0, .null, .null, .null]), .inr (.inl (0, 2133, fun _ => 0)), .inr (.inl (0, 1284, fun _ => 0)), .inr (.inl (0, 1284, fun _ => 0)), .inr (.inl (0, 435, fun _ => 0)), .inr (.inl (0, 5220, fun _ => 0)), .inr (.inl (1, 400, fun _ => 0))] h h_12 := j9
  clear j9
  obtain ⟨h_13, e9, j9⟩ := jx_pf (i := 0) (ci := 10) (k := 14) (v := .int (-1)) j rfl (by exact Nat.le_of_ble_eq_true rfl) rfl
  refine jok_r e9 ?_
  clear e9 j
  have j : jx z [.inl (10, [.int 0, .ref (z + 1), .ref (z + 2), .ref (z + 3), .ref (z + 4), .ref (z + 5), .int 0, .int 0, .ref (z + 6), .int 0, .int 0, .int 0, .int 0, .int 0, .int (-1), .null, .int 0, .null, .int 0, .null, .null, .null]), .inr (.inl (0, 2133, fun _ => 0)), .inr (.inl (0, 1284, fun _ => 0)), .inr (.inl (0, 1284, fun _ => 0)), .inr (.inl (0, 435, fun _ => 0)), .inr (.inl (0, 5220, fun _ => 0)), .inr (.inl (1, 400, fun _ => 0))] h h_13 := j9
  clear j9
  have sz : h_13.1 = z + 7 := j.1
  refine jok_r (rfl : jnw h_13 _ = some (jnew h_13 _)) ?_
  try rw [sz]
  clear sz
  replace j : jx z [.inl (10, [.int 0, .ref (z + 1), .ref (z + 2), .ref (z + 3), .ref (z + 4), .ref (z + 5), .int 0, .int 0, .ref (z + 6), .int 0, .int 0, .int 0, .int 0, .int 0, .int (-1), .null, .int 0, .null, .int 0, .null, .null, .null]), .inr (.inl (0, 2133, fun _ => 0)), .inr (.inl (0, 1284, fun _ => 0)), .inr (.inl (0, 1284, fun _ => 0)), .inr (.inl (0, 435, fun _ => 0)), .inr (.inl (0, 5220, fun _ => 0)), .inr (.inl (1, 400, fun _ => 0)), .inr (.inl (0, 5, fun _ => 0))] h (jnew h_13 (.inr (.inl (0, 5, fun _ => 0)))) := jx_nw j _
  generalize jnew h_13 (.inr (.inl (0, 5, fun _ => 0))) = h_14 at j ⊢
  obtain ⟨h_15, e9, j9⟩ := jx_pf (i := 0) (ci := 10) (k := 15) (v := .ref (z + 7)) j rfl (by exact Nat.le_of_ble_eq_true rfl) rfl
  refine jok_r e9 ?_
  clear e9 j
  have j : jx z [.inl (10, [.int 0, .ref (z + 1), .ref (z + 2), .ref (z + 3), .ref (z + 4), .ref (z + 5), .int 0, .int 0, .ref (z + 6), .int 0, .int 0, .int 0, .int 0, .int 0, .int (-1), .ref (z + 7), .int 0, .null, .int 0, .null, .null, .null]), .inr (.inl (0, 2133, fun _ => 0)), .inr (.inl (0, 1284, fun _ => 0)), .inr (.inl (0, 1284, fun _ => 0)), .inr (.inl (0, 435, fun _ => 0)), .inr (.inl (0, 5220, fun _ => 0)), .inr (.inl (1, 400, fun _ => 0)), .inr (.inl (0, 5, fun _ => 0))] h h_15 := j9
  clear j9
  have sz : h_15.1 = z + 8 := j.1
  refine jok_r (rfl : jnw h_15 _ = some (jnew h_15 _)) ?_
  try rw [sz]
  clear sz
  replace j : jx z [.inl (10, [.int 0, .ref (z + 1), .ref (z + 2), .ref (z + 3), .ref (z + 4), .ref (z + 5), .int 0, .int 0, .ref (z + 6), .int 0, .int 0, .int 0, .int 0, .int 0, .int (-1), .ref (z + 7), .int 0, .null, .int 0, .null, .null, .null]), .inr (.inl (0, 2133, fun _ => 0)), .inr (.inl (0, 1284, fun _ => 0)), .inr (.inl (0, 1284, fun _ => 0)), .inr (.inl (0, 435, fun _ => 0)), .inr (.inl (0, 5220, fun _ => 0)), .inr (.inl (1, 400, fun _ => 0)), .inr (.inl (0, 5, fun _ => 0)), .inr (.inl (0, 400, fun _ => 0))] h (jnew h_15 (.inr (.inl (0, 400, fun _ => 0)))) := jx_nw j _
  generalize jnew h_15 (.inr (.inl (0, 400, fun _ => 0))) = h_16 at j ⊢
  obtain ⟨h_17, e9, j9⟩ := jx_pf (i := 0) (ci := 10) (k := 17) (v := .ref (z + 8)) j rfl (by exact Nat.le_of_ble_eq_true rfl) rfl
  refine jok_r e9 ?_
  clear e9 j
  have j : jx z [.inl (10, [.int 0, .ref (z + 1), .ref (z + 2), .ref (z + 3), .ref (z + 4), .ref (z + 5), .int 0, .int 0, .ref (z + 6), .int 0, .int 0, .int 0, .int 0, .int 0, .int (-1), .ref (z + 7), .int 0, .ref (z + 8), .int 0, .null, .null, .null]), .inr (.inl (0, 2133, fun _ => 0)), .inr (.inl (0, 1284, fun _ => 0)), .inr (.inl (0, 1284, fun _ => 0)), .inr (.inl (0, 435, fun _ => 0)), .inr (.inl (0, 5220, fun _ => 0)), .inr (.inl (1, 400, fun _ => 0)), .inr (.inl (0, 5, fun _ => 0)), .inr (.inl (0, 400, fun _ => 0))] h h_17 := j9
  clear j9
  have sz : h_17.1 = z + 9 := j.1
  refine jok_r (rfl : jnw h_17 _ = some (jnew h_17 _)) ?_
  try rw [sz]
  clear sz
  replace j : jx z [.inl (10, [.int 0, .ref (z + 1), .ref (z + 2), .ref (z + 3), .ref (z + 4), .ref (z + 5), .int 0, .int 0, .ref (z + 6), .int 0, .int 0, .int 0, .int 0, .int 0, .int (-1), .ref (z + 7), .int 0, .ref (z + 8), .int 0, .null, .null, .null]), .inr (.inl (0, 2133, fun _ => 0)), .inr (.inl (0, 1284, fun _ => 0)), .inr (.inl (0, 1284, fun _ => 0)), .inr (.inl (0, 435, fun _ => 0)), .inr (.inl (0, 5220, fun _ => 0)), .inr (.inl (1, 400, fun _ => 0)), .inr (.inl (0, 5, fun _ => 0)), .inr (.inl (0, 400, fun _ => 0)), .inr (.inl (2, 256, fun _ => 0))] h (jnew h_17 (.inr (.inl (2, 256, fun _ => 0)))) := jx_nw j _
  generalize jnew h_17 (.inr (.inl (2, 256, fun _ => 0))) = h_18 at j ⊢
  obtain ⟨h_19, e9, j9⟩ := jx_pf (i := 0) (ci := 10) (k := 19) (v := .ref (z + 9)) j rfl (by exact Nat.le_of_ble_eq_true rfl) rfl
  refine jok_r e9 ?_
  clear e9 j
  have j : jx z [.inl (10, [.int 0, .ref (z + 1), .ref (z + 2), .ref (z + 3), .ref (z + 4), .ref (z + 5), .int 0, .int 0, .ref (z + 6), .int 0, .int 0, .int 0, .int 0, .int 0, .int (-1), .ref (z + 7), .int 0, .ref (z + 8), .int 0, .ref (z + 9), .null, .null]), .inr (.inl (0, 2133, fun _ => 0)), .inr (.inl (0, 1284, fun _ => 0)), .inr (.inl (0, 1284, fun _ => 0)), .inr (.inl (0, 435, fun _ => 0)), .inr (.inl (0, 5220, fun _ => 0)), .inr (.inl (1, 400, fun _ => 0)), .inr (.inl (0, 5, fun _ => 0)), .inr (.inl (0, 400, fun _ => 0)), .inr (.inl (2, 256, fun _ => 0))] h h_19 := j9
  clear j9
  have sz : h_19.1 = z + 10 := j.1
  refine jok_r (rfl : jnw h_19 _ = some (jnew h_19 _)) ?_
  try rw [sz]
  clear sz
  replace j : jx z [.inl (10, [.int 0, .ref (z + 1), .ref (z + 2), .ref (z + 3), .ref (z + 4), .ref (z + 5), .int 0, .int 0, .ref (z + 6), .int 0, .int 0, .int 0, .int 0, .int 0, .int (-1), .ref (z + 7), .int 0, .ref (z + 8), .int 0, .ref (z + 9), .null, .null]), .inr (.inl (0, 2133, fun _ => 0)), .inr (.inl (0, 1284, fun _ => 0)), .inr (.inl (0, 1284, fun _ => 0)), .inr (.inl (0, 435, fun _ => 0)), .inr (.inl (0, 5220, fun _ => 0)), .inr (.inl (1, 400, fun _ => 0)), .inr (.inl (0, 5, fun _ => 0)), .inr (.inl (0, 400, fun _ => 0)), .inr (.inl (2, 256, fun _ => 0)), .inr (.inl (0, 32, fun _ => 0))] h (jnew h_19 (.inr (.inl (0, 32, fun _ => 0)))) := jx_nw j _
  generalize jnew h_19 (.inr (.inl (0, 32, fun _ => 0))) = h_20 at j ⊢
  obtain ⟨h_21, e9, j9⟩ := jx_pf (i := 0) (ci := 10) (k := 20) (v := .ref (z + 10)) j rfl (by exact Nat.le_of_ble_eq_true rfl) rfl
  refine jok_r e9 ?_
  clear e9 j
  have j : jx z [.inl (10, [.int 0, .ref (z + 1), .ref (z + 2), .ref (z + 3), .ref (z + 4), .ref (z + 5), .int 0, .int 0, .ref (z + 6), .int 0, .int 0, .int 0, .int 0, .int 0, .int (-1), .ref (z + 7), .int 0, .ref (z + 8), .int 0, .ref (z + 9), .ref (z + 10), .null]), .inr (.inl (0, 2133, fun _ => 0)), .inr (.inl (0, 1284, fun _ => 0)), .inr (.inl (0, 1284, fun _ => 0)), .inr (.inl (0, 435, fun _ => 0)), .inr (.inl (0, 5220, fun _ => 0)), .inr (.inl (1, 400, fun _ => 0)), .inr (.inl (0, 5, fun _ => 0)), .inr (.inl (0, 400, fun _ => 0)), .inr (.inl (2, 256, fun _ => 0)), .inr (.inl (0, 32, fun _ => 0))] h h_21 := j9
  clear j9
  have sz : h_21.1 = z + 11 := j.1
  refine jok_r (rfl : jnw h_21 _ = some (jnew h_21 _)) ?_
  try rw [sz]
  clear sz
  replace j : jx z [.inl (10, [.int 0, .ref (z + 1), .ref (z + 2), .ref (z + 3), .ref (z + 4), .ref (z + 5), .int 0, .int 0, .ref (z + 6), .int 0, .int 0, .int 0, .int 0, .int 0, .int (-1), .ref (z + 7), .int 0, .ref (z + 8), .int 0, .ref (z + 9), .ref (z + 10), .null]), .inr (.inl (0, 2133, fun _ => 0)), .inr (.inl (0, 1284, fun _ => 0)), .inr (.inl (0, 1284, fun _ => 0)), .inr (.inl (0, 435, fun _ => 0)), .inr (.inl (0, 5220, fun _ => 0)), .inr (.inl (1, 400, fun _ => 0)), .inr (.inl (0, 5, fun _ => 0)), .inr (.inl (0, 400, fun _ => 0)), .inr (.inl (2, 256, fun _ => 0)), .inr (.inl (0, 32, fun _ => 0)), .inr (.inl (0, 8, fun _ => 0))] h (jnew h_21 (.inr (.inl (0, 8, fun _ => 0)))) := jx_nw j _
  generalize jnew h_21 (.inr (.inl (0, 8, fun _ => 0))) = h_22 at j ⊢
  obtain ⟨h_23, e9, j9⟩ := jx_pf (i := 0) (ci := 10) (k := 21) (v := .ref (z + 11)) j rfl (by exact Nat.le_of_ble_eq_true rfl) rfl
  refine jok_r e9 ?_
  clear e9 j
  have j : jx z [.inl (10, [.int 0, .ref (z + 1), .ref (z + 2), .ref (z + 3), .ref (z + 4), .ref (z + 5), .int 0, .int 0, .ref (z + 6), .int 0, .int 0, .int 0, .int 0, .int 0, .int (-1), .ref (z + 7), .int 0, .ref (z + 8), .int 0, .ref (z + 9), .ref (z + 10), .ref (z + 11)]), .inr (.inl (0, 2133, fun _ => 0)), .inr (.inl (0, 1284, fun _ => 0)), .inr (.inl (0, 1284, fun _ => 0)), .inr (.inl (0, 435, fun _ => 0)), .inr (.inl (0, 5220, fun _ => 0)), .inr (.inl (1, 400, fun _ => 0)), .inr (.inl (0, 5, fun _ => 0)), .inr (.inl (0, 400, fun _ => 0)), .inr (.inl (2, 256, fun _ => 0)), .inr (.inl (0, 32, fun _ => 0)), .inr (.inl (0, 8, fun _ => 0))] h h_23 := j9
  clear j9
  refine jok_r (jx_gR (i := 0) (ci := 10) (k := 1) (b := (z + 1)) j rfl rfl rfl) ?_
  obtain ⟨h_24, e9, j9⟩ := jx_as (i := 1) (x := (5 : Int32)) (y := (16 : Int32)) j rfl (by decide) (by decide) rfl
  refine jok_r e9 ?_
  clear e9 j
  have j : jx z [.inl (10, [.int 0, .ref (z + 1), .ref (z + 2), .ref (z + 3), .ref (z + 4), .ref (z + 5), .int 0, .int 0, .ref (z + 6), .int 0, .int 0, .int 0, .int 0, .int 0, .int (-1), .ref (z + 7), .int 0, .ref (z + 8), .int 0, .ref (z + 9), .ref (z + 10), .ref (z + 11)]), .inr (.inl (0, 2133, upd (fun _ => 0) (5 : Int32).toNatClampNeg 16)), .inr (.inl (0, 1284, fun _ => 0)), .inr (.inl (0, 1284, fun _ => 0)), .inr (.inl (0, 435, fun _ => 0)), .inr (.inl (0, 5220, fun _ => 0)), .inr (.inl (1, 400, fun _ => 0)), .inr (.inl (0, 5, fun _ => 0)), .inr (.inl (0, 400, fun _ => 0)), .inr (.inl (2, 256, fun _ => 0)), .inr (.inl (0, 32, fun _ => 0)), .inr (.inl (0, 8, fun _ => 0))] h h_24 := j9
  clear j9
  refine jok_r (jx_gR (i := 0) (ci := 10) (k := 1) (b := (z + 1)) j rfl rfl rfl) ?_
  obtain ⟨h_25, e9, j9⟩ := jx_as (i := 1) (x := (6 : Int32)) (y := (8 : Int32)) j rfl (by decide) (by decide) rfl
  refine jok_r e9 ?_
  clear e9 j
  have j : jx z [.inl (10, [.int 0, .ref (z + 1), .ref (z + 2), .ref (z + 3), .ref (z + 4), .ref (z + 5), .int 0, .int 0, .ref (z + 6), .int 0, .int 0, .int 0, .int 0, .int 0, .int (-1), .ref (z + 7), .int 0, .ref (z + 8), .int 0, .ref (z + 9), .ref (z + 10), .ref (z + 11)]), .inr (.inl (0, 2133, upd (upd (fun _ => 0) (5 : Int32).toNatClampNeg 16) (6 : Int32).toNatClampNeg 8)), .inr (.inl (0, 1284, fun _ => 0)), .inr (.inl (0, 1284, fun _ => 0)), .inr (.inl (0, 435, fun _ => 0)), .inr (.inl (0, 5220, fun _ => 0)), .inr (.inl (1, 400, fun _ => 0)), .inr (.inl (0, 5, fun _ => 0)), .inr (.inl (0, 400, fun _ => 0)), .inr (.inl (2, 256, fun _ => 0)), .inr (.inl (0, 32, fun _ => 0)), .inr (.inl (0, 8, fun _ => 0))] h h_25 := j9
  clear j9
  refine jok_r (jx_gR (i := 0) (ci := 10) (k := 1) (b := (z + 1)) j rfl rfl rfl) ?_
  obtain ⟨h_26, e9, j9⟩ := jx_as (i := 1) (x := (10 : Int32)) (y := (1 : Int32)) j rfl (by decide) (by decide) rfl
  refine jok_r e9 ?_
  clear e9 j
  have j : jx z [.inl (10, [.int 0, .ref (z + 1), .ref (z + 2), .ref (z + 3), .ref (z + 4), .ref (z + 5), .int 0, .int 0, .ref (z + 6), .int 0, .int 0, .int 0, .int 0, .int 0, .int (-1), .ref (z + 7), .int 0, .ref (z + 8), .int 0, .ref (z + 9), .ref (z + 10), .ref (z + 11)]), .inr (.inl (0, 2133, upd (upd (upd (fun _ => 0) (5 : Int32).toNatClampNeg 16) (6 : Int32).toNatClampNeg 8) (10 : Int32).toNatClampNeg 1)), .inr (.inl (0, 1284, fun _ => 0)), .inr (.inl (0, 1284, fun _ => 0)), .inr (.inl (0, 435, fun _ => 0)), .inr (.inl (0, 5220, fun _ => 0)), .inr (.inl (1, 400, fun _ => 0)), .inr (.inl (0, 5, fun _ => 0)), .inr (.inl (0, 400, fun _ => 0)), .inr (.inl (2, 256, fun _ => 0)), .inr (.inl (0, 32, fun _ => 0)), .inr (.inl (0, 8, fun _ => 0))] h h_26 := j9
  clear j9
  subst hz
  exact jok_s j
end
section
/-! the first heap is of its kinds -/
theorem jR3_0 {k : Nat} : jR3 k 0 := ⟨Or.inr ⟨by decide, by decide⟩, Or.inr ⟨by decide, by decide⟩, Or.inr (Or.inr (Or.inr ⟨by decide, by decide⟩))⟩
theorem jR_w0 {g : jGh} {k : Nat} (hlw : ∀ k, g.2.2.2.1 k = 0) : jRw g k (upd (upd (upd (fun _ => 0) (5 : Int32).toNatClampNeg 16) (6 : Int32).toNatClampNeg 8) (10 : Int32).toNatClampNeg 1 k) := by
  have e5 : (5 : Int32).toNatClampNeg = 5 := rfl
  have e6 : (6 : Int32).toNatClampNeg = 6 := rfl
  have e10 : (10 : Int32).toNatClampNeg = 10 := rfl
  rw [e5, e6, e10]
  by_cases q : k = 5 ∨ k = 6 ∨ k = 10
  · rcases q with rfl | rfl | rfl <;> exact ⟨⟨Or.inl (by omega), Or.inl (by omega), Or.inl (by omega)⟩, Or.inl (by omega)⟩
  · have e : upd (upd (upd (fun _ => (0 : Int32)) 5 16) 6 8) 10 1 k = 0 := by
      simp only [upd]
      rw [if_neg (by omega), if_neg (by omega), if_neg (by omega)]
    rw [e]
    exact ⟨jR3_0, Or.inr (hlw k).symm⟩
/-- entries from z on, of the kinds ks -/
def jchk (g : jGh) (Γ : Nat → Option Nat) (Es : List jE) (ks : List Nat) : Prop := ks.length = Es.length ∧ ∀ (i : Nat) (e : jE) (c : Nat), Es[i]? = some e → ks[i]? = some c → okE Γ (jKd g c) (some e)
theorem jchk_app {g : jGh} {Γ : Nat → Option Nat} {Es Fs : List jE} {ks ls : List Nat} (a : jchk g Γ Es ks) (b : jchk g Γ Fs ls) : jchk g Γ (Es ++ Fs) (ks ++ ls) := by
  obtain ⟨a1, a2⟩ := a
  obtain ⟨b1, b2⟩ := b
  refine ⟨by rw [List.length_append, List.length_append, a1, b1], fun i e c he hc => ?_⟩
  by_cases q : i < Es.length
  · rw [List.getElem?_append_left q] at he
    rw [List.getElem?_append_left (by omega)] at hc
    exact a2 i e c he hc
  · rw [List.getElem?_append_right (by omega)] at he
    rw [List.getElem?_append_right (by omega), a1] at hc
    exact b2 _ e c he hc
theorem jchk_cons {g : jGh} {Γ : Nat → Option Nat} {e : jE} {c : Nat} {Fs : List jE} {ls : List Nat} (a : okE Γ (jKd g c) (some e)) (b : jchk g Γ Fs ls) : jchk g Γ (e :: Fs) (c :: ls) := by
  refine ⟨by rw [List.length_cons, List.length_cons, b.1], fun i e2 c2 he hc => ?_⟩
  cases i with
  | zero => cases he; cases hc; exact a
  | succ i => exact b.2 i e2 c2 he hc
/-- the kinds of the addresses: those from z on by the list -/
def jext (Γ : Nat → Option Nat) (z : Nat) (ks : List Nat) : Nat → Option Nat := fun q => if q < z then Γ q else ks[q - z]?
theorem jext_at {Γ : Nat → Option Nat} {z i c : Nat} {ks : List Nat} (h : ks[i]? = some c) : jext Γ z ks (z + i) = some c := by
  unfold jext
  rw [if_neg (by omega), show z + i - z = i by omega]
  exact h
theorem okV_mono {Γ Γ2 : Nat → Option Nat} {F : jF} {v : Value} (hm : ∀ a c, Γ a = some c → Γ2 a = some c) (h : okV Γ F v) : okV Γ2 F v := by
  rcases F with P | c | c
  · exact h
  · obtain ⟨a, e, ha⟩ := h
    exact ⟨a, e, hm a c ha⟩
  · rcases h with h | ⟨a, e, ha⟩
    · exact Or.inl h
    · exact Or.inr ⟨a, e, hm a c ha⟩
theorem okE_mono {Γ Γ2 : Nat → Option Nat} {D : jD} {e : Option jE} (hm : ∀ a c, Γ a = some c → Γ2 a = some c) (h : okE Γ D e) : okE Γ2 D e := by
  rcases D with q | q | q
  · exact h
  · show (if q.2 = 1000 then _ else _)
    have h2 : (if q.2 = 1000 then ∃ f : Nat → Int64, e = some (.inr (.inr (.inr (q.1, f)))) else ∃ f : Nat → Option Nat, e = some (.inr (.inr (.inl (q.1, f)))) ∧ ∀ k a, f k = some a → Γ a = some q.2) := h
    by_cases hq : q.2 = 1000
    · rw [if_pos hq] at h2 ⊢
      exact h2
    · rw [if_neg hq] at h2 ⊢
      obtain ⟨f, e1, e2⟩ := h2
      exact ⟨f, e1, fun k a hk => hm a _ (e2 k a hk)⟩
  · obtain ⟨vs, e1, e2, e3⟩ := h
    refine ⟨vs, e1, e2, fun k F hk => ?_⟩
    obtain ⟨v, f1, f2⟩ := e3 k F hk
    exact ⟨v, f1, okV_mono hm f2⟩
theorem okE_q {Γ : Nat → Option Nat} {n c : Nat} {f : Nat → Option Nat} (hc : c ≠ 1000) (h : ∀ k a, f k = some a → Γ a = some c) : okE Γ (.inr (.inl (n, c))) (some (.inr (.inr (.inl (n, f))))) := by
  show (if c = 1000 then ∃ f9 : Nat → Int64, (some (.inr (.inr (.inl (n, f)))) : Option jE) = some (.inr (.inr (.inr (n, f9)))) else ∃ f9 : Nat → Option Nat, (some (.inr (.inr (.inl (n, f)))) : Option jE) = some (.inr (.inr (.inl (n, f9)))) ∧ ∀ k a, f9 k = some a → Γ a = some c)
  rw [if_neg hc]
  exact ⟨f, rfl, h⟩
/-- a heap that grew by entries of their kinds -/
theorem jx_jW {g : jGh} {Γ : Nat → Option Nat} {z : Nat} {Es : List jE} {ks : List Nat} {h0 h : jH} (j : jx z Es h0 h) (hz : h0.1 = z) (w : jW (jKd g) Γ h0) (hc : jchk g (jext Γ z ks) Es ks) : jW (jKd g) (jext Γ z ks) h ∧ (∀ a c, Γ a = some c → jext Γ z ks a = some c) := by
  obtain ⟨j1, j2, j3⟩ := j
  have hm : ∀ a c, Γ a = some c → jext Γ z ks a = some c := by
    intro a c ha
    have := (w a c ha).1
    unfold jext
    rw [if_pos (by omega)]
    exact ha
  refine ⟨fun a c ha => ?_, hm⟩
  by_cases q : a < z
  · have ha2 : Γ a = some c := by
      unfold jext at ha
      rw [if_pos q] at ha
      exact ha
    refine ⟨by omega, ?_⟩
    rw [j2 a q]
    exact okE_mono hm (w a c ha2).2
  · unfold jext at ha
    rw [if_neg q] at ha
    have hlt : a - z < ks.length := (List.getElem?_eq_some_iff.mp ha).1
    have hlt2 : a - z < Es.length := by rw [← hc.1]; exact hlt
    refine ⟨by omega, ?_⟩
    have e := j3 (a - z) _ (List.getElem?_eq_getElem hlt2)
    rw [show z + (a - z) = a by omega] at e
    rw [e]
    exact hc.2 (a - z) _ c (List.getElem?_eq_getElem hlt2) ha
def kX10_init : List Nat := [10, 9, 6, 6, 6]
theorem chkX10_init {g : jGh} {Γ : Nat → Option Nat} {z : Nat}  (hL : g.1 = 0) (hb : ∀ k, g.2.1 k = 0) (hΓ : ∀ i c, kX10_init[i]? = some c → Γ (z + i) = some c)  : jchk g Γ (eX10_init z ) kX10_init := by
  refine ⟨rfl, fun i e c he hc => ?_⟩
  match i, he, hc with
  | 0, he, hc =>
    cases he; cases hc
    refine ⟨_, rfl, rfl, fun k F hk => ?_⟩
    match k, hk with
    | 0, hk => cases hk; exact ⟨_, rfl, _, rfl, hΓ 1 _ rfl⟩
    | 1, hk => cases hk; exact ⟨_, rfl, _, rfl, hΓ 2 _ rfl⟩
    | 2, hk => cases hk; exact ⟨_, rfl, _, rfl, hΓ 3 _ rfl⟩
    | 3, hk => cases hk; exact ⟨_, rfl, _, rfl, hΓ 4 _ rfl⟩
    | 4, hk => cases hk; exact ⟨_, rfl, _, rfl, ⟨by decide, by decide⟩⟩
    | 5, hk => cases hk; exact ⟨_, rfl, _, rfl, ⟨by decide, by decide⟩⟩
    | 6, hk => cases hk; exact ⟨_, rfl, _, rfl, (show (0 : Int32).toInt = g.1 from by rw [hL]; rfl)⟩
    | k + 7, hk => cases hk
  | 1, he, hc =>
    cases he; cases hc
    exact ⟨_, rfl, fun k hk => (show (0 : Int32) = g.2.1 k from (hb k).symm)⟩
  | 2, he, hc =>
    cases he; cases hc
    exact ⟨_, rfl, fun k hk => trivial⟩
  | 3, he, hc =>
    cases he; cases hc
    exact ⟨_, rfl, fun k hk => trivial⟩
  | 4, he, hc =>
    cases he; cases hc
    exact ⟨_, rfl, fun k hk => trivial⟩
  | i + 5, he, hc => cases he
def kX8_init : List Nat := [3, 0, 0, 0, 0, 2, 1]
theorem chkX8_init {g : jGh} {Γ : Nat → Option Nat} {z : Nat}  (hΓ : ∀ i c, kX8_init[i]? = some c → Γ (z + i) = some c)  : jchk g Γ (eX8_init z ) kX8_init := by
  refine ⟨rfl, fun i e c he hc => ?_⟩
  match i, he, hc with
  | 0, he, hc =>
    cases he; cases hc
    refine ⟨_, rfl, rfl, fun k F hk => ?_⟩
    match k, hk with
    | 0, hk => cases hk; exact ⟨_, rfl, _, rfl, hΓ 1 _ rfl⟩
    | 1, hk => cases hk; exact ⟨_, rfl, _, rfl, hΓ 2 _ rfl⟩
    | 2, hk => cases hk; exact ⟨_, rfl, _, rfl, hΓ 3 _ rfl⟩
    | 3, hk => cases hk; exact ⟨_, rfl, _, rfl, hΓ 4 _ rfl⟩
    | 4, hk => cases hk; exact ⟨_, rfl, _, rfl, hΓ 5 _ rfl⟩
    | 5, hk => cases hk; exact ⟨_, rfl, _, rfl, ⟨by decide, by decide⟩⟩
    | 6, hk => cases hk; exact ⟨_, rfl, _, rfl, trivial⟩
    | 7, hk => cases hk; exact ⟨_, rfl, _, rfl, trivial⟩
    | 8, hk => cases hk; exact ⟨_, rfl, _, rfl, trivial⟩
    | 9, hk => cases hk; exact ⟨_, rfl, _, rfl, trivial⟩
    | 10, hk => cases hk; exact ⟨_, rfl, _, rfl, trivial⟩
    | 11, hk => cases hk; exact ⟨_, rfl, _, rfl, trivial⟩
    | 12, hk => cases hk; exact ⟨_, rfl, _, rfl, trivial⟩
    | 13, hk => cases hk; exact ⟨_, rfl, _, rfl, trivial⟩
    | 14, hk => cases hk; exact ⟨_, rfl, _, rfl, trivial⟩
    | 15, hk => cases hk; exact ⟨_, rfl, _, rfl, trivial⟩
    | 16, hk => cases hk; exact ⟨_, rfl, _, rfl, trivial⟩
    | 17, hk => cases hk; exact ⟨_, rfl, _, rfl, trivial⟩
    | k + 18, hk => cases hk
  | 1, he, hc =>
    cases he; cases hc
    exact ⟨_, rfl, fun k hk => trivial⟩
  | 2, he, hc =>
    cases he; cases hc
    exact ⟨_, rfl, fun k hk => trivial⟩
  | 3, he, hc =>
    cases he; cases hc
    exact ⟨_, rfl, fun k hk => trivial⟩
  | 4, he, hc =>
    cases he; cases hc
    exact ⟨_, rfl, fun k hk => trivial⟩
  | 5, he, hc =>
    cases he; cases hc
    refine ⟨_, rfl, rfl, fun k F hk => ?_⟩
    match k, hk with
    | 0, hk => cases hk; exact ⟨_, rfl, _, rfl, hΓ 6 _ rfl⟩
    | 1, hk => cases hk; exact ⟨_, rfl, _, rfl, ⟨by decide, by decide⟩⟩
    | 2, hk => cases hk; exact ⟨_, rfl, _, rfl, ⟨by decide, by decide⟩⟩
    | k + 3, hk => cases hk
  | 6, he, hc =>
    cases he; cases hc
    exact ⟨_, rfl, fun k hk => trivial⟩
  | i + 7, he, hc => cases he
def kX2_init : List Nat := [8, 4, 4, 5, 6, 7]
theorem chkX2_init {g : jGh} {Γ : Nat → Option Nat} {z : Nat}  (hΓ : ∀ i c, kX2_init[i]? = some c → Γ (z + i) = some c)  : jchk g Γ (eX2_init z ) kX2_init := by
  refine ⟨rfl, fun i e c he hc => ?_⟩
  match i, he, hc with
  | 0, he, hc =>
    cases he; cases hc
    refine ⟨_, rfl, rfl, fun k F hk => ?_⟩
    match k, hk with
    | 0, hk => cases hk; exact ⟨_, rfl, _, rfl, hΓ 1 _ rfl⟩
    | 1, hk => cases hk; exact ⟨_, rfl, _, rfl, hΓ 2 _ rfl⟩
    | 2, hk => cases hk; exact ⟨_, rfl, _, rfl, hΓ 3 _ rfl⟩
    | 3, hk => cases hk; exact ⟨_, rfl, _, rfl, hΓ 4 _ rfl⟩
    | 4, hk => cases hk; exact ⟨_, rfl, _, rfl, hΓ 5 _ rfl⟩
    | 5, hk => cases hk; exact ⟨_, rfl, _, rfl, ⟨by decide, by decide⟩⟩
    | 6, hk => cases hk; exact ⟨_, rfl, _, rfl, ⟨by decide, by decide⟩⟩
    | 7, hk => cases hk; exact ⟨_, rfl, _, rfl, ⟨by decide, by decide⟩⟩
    | 8, hk => cases hk; exact ⟨_, rfl, _, rfl, ⟨by decide, by decide⟩⟩
    | k + 9, hk => cases hk
  | 1, he, hc =>
    cases he; cases hc
    exact ⟨_, rfl, fun k hk => trivial⟩
  | 2, he, hc =>
    cases he; cases hc
    exact ⟨_, rfl, fun k hk => trivial⟩
  | 3, he, hc =>
    cases he; cases hc
    exact ⟨_, rfl, fun k hk => ⟨by decide, by decide⟩⟩
  | 4, he, hc =>
    cases he; cases hc
    exact ⟨_, rfl, fun k hk => trivial⟩
  | 5, he, hc =>
    cases he; cases hc
    exact ⟨_, rfl, fun k hk => trivial⟩
  | i + 6, he, hc => cases he
def kX0_init : List Nat := [12, 11]
theorem chkX0_init {g : jGh} {Γ : Nat → Option Nat} {z : Nat}  (hΓ : ∀ i c, kX0_init[i]? = some c → Γ (z + i) = some c)  : jchk g Γ (eX0_init z ) kX0_init := by
  refine ⟨rfl, fun i e c he hc => ?_⟩
  match i, he, hc with
  | 0, he, hc =>
    cases he; cases hc
    refine ⟨_, rfl, rfl, fun k F hk => ?_⟩
    match k, hk with
    | 0, hk => cases hk; exact ⟨_, rfl, _, rfl, hΓ 1 _ rfl⟩
    | 1, hk => cases hk; exact ⟨_, rfl, _, rfl, ⟨by decide, by decide⟩⟩
    | 2, hk => cases hk; exact ⟨_, rfl, _, rfl, ⟨by decide, by decide⟩⟩
    | k + 3, hk => cases hk
  | 1, he, hc =>
    cases he; cases hc
    exact okE_q (by decide) (fun k a h => by cases h)
  | i + 2, he, hc => cases he
def kX9_init : List Nat := [13]
theorem chkX9_init {g : jGh} {Γ : Nat → Option Nat} {z : Nat} {a1 : Nat} {a2 : Nat} (hΓ : ∀ i c, kX9_init[i]? = some c → Γ (z + i) = some c) (ha1 : Γ a1 = some 10) (ha2 : Γ a2 = some 3) : jchk g Γ (eX9_init z a1 a2) kX9_init := by
  refine ⟨rfl, fun i e c he hc => ?_⟩
  match i, he, hc with
  | 0, he, hc =>
    cases he; cases hc
    refine ⟨_, rfl, rfl, fun k F hk => ?_⟩
    match k, hk with
    | 0, hk => cases hk; exact ⟨_, rfl, _, rfl, ha1⟩
    | 1, hk => cases hk; exact ⟨_, rfl, _, rfl, ⟨by decide, by decide⟩⟩
    | 2, hk => cases hk; exact ⟨_, rfl, _, rfl, ha2⟩
    | k + 3, hk => cases hk
  | i + 1, he, hc => cases he
def kX3_init : List Nat := [14]
theorem chkX3_init {g : jGh} {Γ : Nat → Option Nat} {z : Nat} {a1 : Nat} {a2 : Nat} (hΓ : ∀ i c, kX3_init[i]? = some c → Γ (z + i) = some c) (ha1 : Γ a1 = some 10) (ha2 : Γ a2 = some 8) : jchk g Γ (eX3_init z a1 a2) kX3_init := by
  refine ⟨rfl, fun i e c he hc => ?_⟩
  match i, he, hc with
  | 0, he, hc =>
    cases he; cases hc
    refine ⟨_, rfl, rfl, fun k F hk => ?_⟩
    match k, hk with
    | 0, hk => cases hk; exact ⟨_, rfl, _, rfl, ha1⟩
    | 1, hk => cases hk; exact ⟨_, rfl, _, rfl, ⟨by decide, by decide⟩⟩
    | 2, hk => cases hk; exact ⟨_, rfl, _, rfl, ha2⟩
    | k + 3, hk => cases hk
  | i + 1, he, hc => cases he
def kX1_init : List Nat := [15]
theorem chkX1_init {g : jGh} {Γ : Nat → Option Nat} {z : Nat} {a1 : Nat} {a2 : Nat} (hΓ : ∀ i c, kX1_init[i]? = some c → Γ (z + i) = some c) (ha1 : Γ a1 = some 8) (ha2 : Γ a2 = some 3) : jchk g Γ (eX1_init z a1 a2) kX1_init := by
  refine ⟨rfl, fun i e c he hc => ?_⟩
  match i, he, hc with
  | 0, he, hc =>
    cases he; cases hc
    refine ⟨_, rfl, rfl, fun k F hk => ?_⟩
    match k, hk with
    | 0, hk => cases hk; exact ⟨_, rfl, _, rfl, ha1⟩
    | 1, hk => cases hk; exact ⟨_, rfl, _, rfl, ha2⟩
    | k + 2, hk => cases hk
  | i + 1, he, hc => cases he
def kX7_init : List Nat := [18, 16, 17]
theorem chkX7_init {g : jGh} {Γ : Nat → Option Nat} {z : Nat} {a1 : Nat} {a2 : Nat} (hΓ : ∀ i c, kX7_init[i]? = some c → Γ (z + i) = some c) (ha1 : Γ a1 = some 10) (ha2 : Γ a2 = some 3) : jchk g Γ (eX7_init z a1 a2) kX7_init := by
  refine ⟨rfl, fun i e c he hc => ?_⟩
  match i, he, hc with
  | 0, he, hc =>
    cases he; cases hc
    refine ⟨_, rfl, rfl, fun k F hk => ?_⟩
    match k, hk with
    | 0, hk => cases hk; exact ⟨_, rfl, _, rfl, ha1⟩
    | 1, hk => cases hk; exact ⟨_, rfl, _, rfl, ha2⟩
    | 2, hk => cases hk; exact ⟨_, rfl, _, rfl, hΓ 1 _ rfl⟩
    | 3, hk => cases hk; exact ⟨_, rfl, _, rfl, hΓ 2 _ rfl⟩
    | 4, hk => cases hk; exact ⟨_, rfl, _, rfl, ⟨by decide, by decide⟩⟩
    | 5, hk => cases hk; exact ⟨_, rfl, _, rfl, trivial⟩
    | 6, hk => cases hk; exact ⟨_, rfl, _, rfl, trivial⟩
    | k + 7, hk => cases hk
  | 1, he, hc =>
    cases he; cases hc
    exact ⟨_, rfl, fun k hk => trivial⟩
  | 2, he, hc =>
    cases he; cases hc
    exact ⟨_, rfl, fun k hk => trivial⟩
  | i + 3, he, hc => cases he
def kX12_init : List Nat := [20, 21, 22, 23, 24, 25, 26, 27, 28, 29, 30, 31]
theorem chkX12_init {g : jGh} {Γ : Nat → Option Nat} {z : Nat}  (hL2 : g.2.2.1 = 0) (hlw : ∀ k, g.2.2.2.1 k = 0) (h4 : ∀ k, g.2.2.2.2.1 k = 0) (h5 : ∀ k, g.2.2.2.2.2.1 k = 0) (h6 : g.2.2.2.2.2.2.2.2 = 0) (hΓ : ∀ i c, kX12_init[i]? = some c → Γ (z + i) = some c)  : jchk g Γ (eX12_init z ) kX12_init := by
  refine ⟨rfl, fun i e c he hc => ?_⟩
  match i, he, hc with
  | 0, he, hc =>
    cases he; cases hc
    refine ⟨_, rfl, rfl, fun k F hk => ?_⟩
    match k, hk with
    | 0, hk => cases hk; exact ⟨_, rfl, _, rfl, trivial⟩
    | 1, hk => cases hk; exact ⟨_, rfl, _, rfl, hΓ 1 _ rfl⟩
    | 2, hk => cases hk; exact ⟨_, rfl, _, rfl, hΓ 2 _ rfl⟩
    | 3, hk => cases hk; exact ⟨_, rfl, _, rfl, hΓ 3 _ rfl⟩
    | 4, hk => cases hk; exact ⟨_, rfl, _, rfl, hΓ 4 _ rfl⟩
    | 5, hk => cases hk; exact ⟨_, rfl, _, rfl, hΓ 5 _ rfl⟩
    | 6, hk => cases hk; exact ⟨_, rfl, _, rfl, ⟨h6.symm, Or.inl rfl⟩⟩
    | 7, hk => cases hk; exact ⟨_, rfl, _, rfl, ⟨by decide, by decide⟩⟩
    | 8, hk => cases hk; exact ⟨_, rfl, _, rfl, hΓ 6 _ rfl⟩
    | 9, hk => cases hk; exact ⟨_, rfl, _, rfl, (show (0 : Int32).toInt = g.2.2.1 from by rw [hL2]; rfl)⟩
    | 10, hk => cases hk; exact ⟨_, rfl, _, rfl, ⟨by decide, by decide⟩⟩
    | 11, hk => cases hk; exact ⟨_, rfl, _, rfl, ⟨by decide, by decide⟩⟩
    | 12, hk => cases hk; exact ⟨_, rfl, _, rfl, ⟨by decide, by decide⟩⟩
    | 13, hk => cases hk; exact ⟨_, rfl, _, rfl, trivial⟩
    | 14, hk => cases hk; exact ⟨_, rfl, _, rfl, trivial⟩
    | 15, hk => cases hk; exact ⟨_, rfl, _, rfl, hΓ 7 _ rfl⟩
    | 16, hk => cases hk; exact ⟨_, rfl, _, rfl, ⟨by decide, by decide⟩⟩
    | 17, hk => cases hk; exact ⟨_, rfl, _, rfl, hΓ 8 _ rfl⟩
    | 18, hk => cases hk; exact ⟨_, rfl, _, rfl, trivial⟩
    | 19, hk => cases hk; exact ⟨_, rfl, _, rfl, hΓ 9 _ rfl⟩
    | 20, hk => cases hk; exact ⟨_, rfl, _, rfl, hΓ 10 _ rfl⟩
    | 21, hk => cases hk; exact ⟨_, rfl, _, rfl, hΓ 11 _ rfl⟩
    | k + 22, hk => cases hk
  | 1, he, hc =>
    cases he; cases hc
    exact ⟨_, rfl, fun k hk => jR_w0 hlw⟩
  | 2, he, hc =>
    cases he; cases hc
    exact ⟨_, rfl, fun k hk => ⟨jR3_0, Or.inr (h5 k).symm⟩⟩
  | 3, he, hc =>
    cases he; cases hc
    exact ⟨_, rfl, fun k hk => ⟨jR3_0, Or.inr (h4 k).symm⟩⟩
  | 4, he, hc =>
    cases he; cases hc
    exact ⟨_, rfl, fun k hk => jR3_0⟩
  | 5, he, hc =>
    cases he; cases hc
    exact ⟨_, rfl, fun k hk => jR3_0⟩
  | 6, he, hc =>
    cases he; cases hc
    exact ⟨_, rfl, fun k hk => ⟨by decide, by decide⟩⟩
  | 7, he, hc =>
    cases he; cases hc
    exact ⟨_, rfl, fun k hk => trivial⟩
  | 8, he, hc =>
    cases he; cases hc
    exact ⟨_, rfl, fun k hk => trivial⟩
  | 9, he, hc =>
    cases he; cases hc
    exact ⟨_, rfl, fun k hk => trivial⟩
  | 10, he, hc =>
    cases he; cases hc
    exact ⟨_, rfl, fun k hk => trivial⟩
  | 11, he, hc =>
    cases he; cases hc
    exact ⟨_, rfl, fun k hk => trivial⟩
  | i + 12, he, hc => cases he
/-! the first heap -/
def kX11_init : List Nat := 19 :: ((((((((((kX10_init) ++ kX8_init) ++ kX2_init) ++ kX0_init) ++ kX8_init) ++ kX2_init) ++ kX9_init) ++ kX3_init) ++ kX1_init) ++ kX7_init)
theorem jbeg_sub {Γ : Nat → Option Nat} {z b : Nat} {ks ls : List Nat} (hΓ : ∀ i c, ks[i]? = some c → Γ (z + i) = some c) (hs : ∀ i c, ls[i]? = some c → ks[b + i]? = some c) : ∀ i c, ls[i]? = some c → Γ (z + b + i) = some c := fun i c h => by
  rw [Nat.add_assoc]
  exact hΓ (b + i) c (hs i c h)
theorem jsubl {ks ls : List Nat} {b : Nat} (h : (ks.drop b).take ls.length = ls) : ∀ i c, ls[i]? = some c → ks[b + i]? = some c := fun i c hi => by
  have hlt : i < ls.length := (List.getElem?_eq_some_iff.mp hi).1
  rw [← h, List.getElem?_take_of_lt hlt, List.getElem?_drop] at hi
  exact hi
theorem chkX11_init {g : jGh} {Γ : Nat → Option Nat} {z : Nat} (hL : g.1 = 0) (hb : ∀ k, g.2.1 k = 0) (hu0 : g.2.2.2.2.2.2.1 = 0) (hv0 : g.2.2.2.2.2.2.2.1 = 0) (hΓ : ∀ i c, kX11_init[i]? = some c → Γ (z + i) = some c) : jchk g Γ (eX11_init z) kX11_init := by
  have s1 := jbeg_sub (b := 1) hΓ (jsubl (ls := kX10_init) (by decide))
  have s6 := jbeg_sub (b := 6) hΓ (jsubl (ls := kX8_init) (by decide))
  have s13 := jbeg_sub (b := 13) hΓ (jsubl (ls := kX2_init) (by decide))
  have s19 := jbeg_sub (b := 19) hΓ (jsubl (ls := kX0_init) (by decide))
  have s21 := jbeg_sub (b := 21) hΓ (jsubl (ls := kX8_init) (by decide))
  have s28 := jbeg_sub (b := 28) hΓ (jsubl (ls := kX2_init) (by decide))
  have s34 := jbeg_sub (b := 34) hΓ (jsubl (ls := kX9_init) (by decide))
  have s35 := jbeg_sub (b := 35) hΓ (jsubl (ls := kX3_init) (by decide))
  have s36 := jbeg_sub (b := 36) hΓ (jsubl (ls := kX1_init) (by decide))
  have s37 := jbeg_sub (b := 37) hΓ (jsubl (ls := kX7_init) (by decide))
  have a1 : Γ (z + 1) = some 10 := s1 0 _ rfl
  have a13 : Γ (z + 13) = some 8 := s13 0 _ rfl
  have a21 : Γ (z + 21) = some 3 := s21 0 _ rfl
  have a28 : Γ (z + 28) = some 8 := s28 0 _ rfl
  refine jchk_cons ?_ (jchk_app (jchk_app (jchk_app (jchk_app (jchk_app (jchk_app (jchk_app (jchk_app (jchk_app (chkX10_init hL hb s1) (chkX8_init s6)) (chkX2_init s13)) (chkX0_init s19)) (chkX8_init s21)) (chkX2_init s28)) (chkX9_init s34 a1 a21)) (chkX3_init s35 a1 a28)) (chkX1_init s36 a13 a21)) (chkX7_init s37 a1 a21))
  refine ⟨_, rfl, rfl, fun k F hk => ?_⟩
  match k, hk with
  | 0, hk => cases hk; exact ⟨_, rfl, _, rfl, a1⟩
  | 1, hk => cases hk; exact ⟨_, rfl, _, rfl, hΓ 6 _ rfl⟩
  | 2, hk => cases hk; exact ⟨_, rfl, _, rfl, a13⟩
  | 3, hk => cases hk; exact ⟨_, rfl, _, rfl, hΓ 19 _ rfl⟩
  | 4, hk => cases hk; exact ⟨_, rfl, _, rfl, a21⟩
  | 5, hk => cases hk; exact ⟨_, rfl, _, rfl, a28⟩
  | 6, hk => cases hk; exact ⟨_, rfl, _, rfl, hΓ 34 _ rfl⟩
  | 7, hk => cases hk; exact ⟨_, rfl, _, rfl, hΓ 35 _ rfl⟩
  | 8, hk => cases hk; exact ⟨_, rfl, _, rfl, hΓ 36 _ rfl⟩
  | 9, hk => cases hk; exact ⟨_, rfl, _, rfl, hΓ 37 _ rfl⟩
  | 10, hk => cases hk; exact ⟨_, rfl, by rw [if_pos hu0]; exact Or.inl rfl⟩
  | 11, hk => cases hk; exact ⟨_, rfl, by rw [if_pos hv0]; exact Or.inl rfl⟩
  | 12, hk => cases hk; exact ⟨_, rfl, _, rfl, trivial⟩
  | k + 13, hk => cases hk
theorem okE_l {Γ : Nat → Option Nat} {n : Nat} {f : Nat → Int64} : okE Γ (.inr (.inl (n, 1000))) (some (.inr (.inr (.inr (n, f))))) := by
  show (if (1000 : Nat) = 1000 then ∃ f9 : Nat → Int64, (some (.inr (.inr (.inr (n, f)))) : Option jE) = some (.inr (.inr (.inr (n, f9)))) else ∃ f9 : Nat → Option Nat, (some (.inr (.inr (.inr (n, f)))) : Option jE) = some (.inr (.inr (.inl (n, f9)))) ∧ ∀ k a, f9 k = some a → Γ a = some 1000)
  rw [if_pos rfl]
  exact ⟨f, rfl⟩
/-- an image is kept by both sides, or by neither -/
def jIm (g : jGh) : Prop := (g.2.2.2.2.2.2.1 = 0 ↔ g.2.2.2.2.2.2.2.2 = 0) ∧ (g.2.2.2.2.2.2.2.1 = 0 ↔ g.2.2.2.2.2.2.2.2 = 0)
/-- the invariant of the law's loop: both sides' heaps of their kinds, both tapes of one length -/
def jInv (x m out : Nat) (h : jH) : Prop := ∃ (g : jGh) (Γ : Nat → Option Nat), jgok g ∧ jW (jKd g) Γ h ∧ Γ x = some 19 ∧ Γ m = some 20 ∧ Γ out = some 40 ∧ (∀ a b c : Nat, 9 ≤ c → Γ a = some c → Γ b = some c → a = b) ∧ (∀ b, Γ b ≠ some 41) ∧ g.1 = g.2.2.1 ∧ jIm g
def jg0 : jGh := (0, fun _ => 0, 0, fun _ => 0, fun _ => 0, fun _ => 0, 0, 0, 0)
theorem jlaw0 : jlawOK (fun _ => 0) := by
  refine ⟨by show (0 : Int) ≤ (0 : Int32).toInt; decide, by show (0 : Int32).toInt ≤ 12; decide, fun i hi => ?_⟩
  have hi : (i : Int) < (0 : Int32).toInt := hi
  have e : (0 : Int32).toInt = 0 := rfl
  omega
theorem jg0_ok : jgok jg0 := ⟨⟨by decide, by decide⟩, by decide, by decide, jlaw0⟩
def jks : List Nat := kX11_init ++ (kX12_init ++ [40])
theorem juniq : ∀ i j c : Nat, 9 ≤ c → jks[i]? = some c → jks[j]? = some c → i = j := by
  have h : ∀ i, i < jks.length → ∀ j, j < jks.length → 9 ≤ jks.getD i 0 → jks.getD i 0 = jks.getD j 0 → i = j := by decide +kernel
  intro i j c hc hi hj
  have h1 := (List.getElem?_eq_some_iff.mp hi).1
  have h2 := (List.getElem?_eq_some_iff.mp hj).1
  have e1 : jks.getD i 0 = c := by rw [List.getD_eq_getElem?_getD, hi]; rfl
  have e2 : jks.getD j 0 = c := by rw [List.getD_eq_getElem?_getD, hj]; rfl
  exact h i h1 j h2 (by rw [e1]; exact hc) (by rw [e1, e2])
theorem jbegin_ok {n z : Nat} : jBegin n (z, fun _ => none) jInv := by
  obtain ⟨h1, e1, j1⟩ := I_X11_init (n := n) (h := (z, fun _ => none))
  obtain ⟨h2, e2, j2⟩ := I_X12_init (n := n) (h := h1)
  refine ⟨h1, e1, h2, e2, jg0, jext (fun _ => none) z jks, jg0_ok, ?_, ?_, ?_, ?_, ?_, ?_, rfl, Iff.rfl, Iff.rfl⟩
  · have hz : h1.1 = z + (eX11_init z).length := j1.1
    have j2' : jx (z + (eX11_init z).length) (eX12_init (z + 40)) h1 h2 := by
      have j3 := j2
      rw [hz] at j3
      exact j3
    have j4 := jx_nw (jx_cat j1 j2') (.inr (.inr (.inr (1, fun _ => 0))))
    rw [List.append_assoc] at j4
    refine (jx_jW (ks := jks) j4 rfl (fun a c h => by cases h) ?_).1
    have hΓ : ∀ i c, jks[i]? = some c → jext (fun _ => none) z jks (z + i) = some c := fun i c h => jext_at h
    refine jchk_app (chkX11_init rfl (fun _ => rfl) rfl rfl (fun i c h => hΓ i c (by unfold jks; rw [List.getElem?_append_left (List.getElem?_eq_some_iff.mp h).1]; exact h))) (jchk_app (chkX12_init rfl (fun _ => rfl) (fun _ => rfl) (fun _ => rfl) rfl (jbeg_sub (b := 40) hΓ (jsubl (by decide)))) ?_)
    refine jchk_cons ?_ ⟨rfl, fun i e c he _ => by cases he⟩
    exact okE_l
  · exact jext_at (i := 0) rfl
  · have hz : h1.1 = z + 40 := j1.1
    rw [hz]
    exact jext_at (i := 40) rfl
  · have hz : h1.1 = z + 40 := j1.1
    have hz2 : h2.1 = z + 52 := by rw [j2.1, hz]; rfl
    rw [hz2]
    exact jext_at (i := 52) rfl
  · intro a b c hc ha hb
    unfold jext at ha hb
    by_cases qa : a < z
    · rw [if_pos qa] at ha; cases ha
    · by_cases qb : b < z
      · rw [if_pos qb] at hb; cases hb
      · rw [if_neg qa] at ha
        rw [if_neg qb] at hb
        have := juniq _ _ c hc ha hb
        omega
  · intro b q
    unfold jext at q
    by_cases qb : b < z
    · rw [if_pos qb] at q; cases q
    · rw [if_neg qb] at q
      have h9 : ∀ i, i < jks.length → jks.getD i 0 ≠ 41 := by decide +kernel
      have h1 := (List.getElem?_eq_some_iff.mp q).1
      exact h9 _ h1 (by rw [List.getD_eq_getElem?_getD, q]; rfl)
end
section
theorem jKd_B {g : jGh} {B : Nat → Int32} {c : Nat} (hc : c ≠ 9) : jKd (g.1, B, g.2.2) c = jKd g c := by
  unfold jKd
  split <;> first | rfl | exact absurd rfl hc
theorem t_pB {g : jGh} {Γ : Nat → Option Nat} {h : jH} {a : Nat} {i x : Int32} (w : jW (jKd g) Γ h) (hu : ∀ a b, Γ a = some 9 → Γ b = some 9 → a = b) (ha : Γ a = some 9) (h0 : 0 ≤ i.toInt) (h1 : i.toInt < 400) : jok (jas 1 h a i x) (fun h1 => ∃ B : Nat → Int32, jW (jKd (g.1, B, g.2.2)) Γ h1 ∧ jfa h h1) := by
  obtain ⟨f, e1, e2⟩ := t_arr w ha rfl
  refine ⟨jup h a (.inr (.inl (1, 400, upd f i.toNatClampNeg (jnar 1 x)))), ?_, upd f i.toNatClampNeg (jnar 1 x), ?_, jfa_up e1⟩
  · unfold jas
    rw [e1]
    dsimp only
    rw [if_pos ⟨rfl, jnoob h0 h1, fun q => by cases q⟩]
  · intro b c hb
    refine ⟨(w b c hb).1, ?_⟩
    show okE Γ (jKd (g.1, upd f i.toNatClampNeg (jnar 1 x), g.2.2) c) (if b = a then some _ else h.2 b)
    by_cases hq : b = a
    · subst hq
      cases ha.symm.trans hb
      rw [if_pos rfl]
      exact ⟨_, rfl, fun k _ => rfl⟩
    · rw [if_neg hq]
      have hc : c ≠ 9 := fun q => hq (hu b a (by rw [hb, q]) ha)
      rw [jKd_B hc]
      exact (w b c hb).2
theorem S_X10_put_3 {Γ : Nat → Option Nat} {n : Nat} (hu : ∀ a b c, 9 ≤ c → Γ a = some c → Γ b = some c → a = b) : ∀ (j k : Nat) {g : jGh} {a0 : Nat} {x1 x2 : Int32} {h : jH}, jW (jKd g) Γ h → Γ a0 = some 10 → j < k → j < 6 → x2.toInt = 8 * (j : Int) - 8 → 0 ≤ g.1 → g.1 + j ≤ 400 → jok (F_X10_put_3 n k a0 x1 x2 h) (fun h1 => ∃ B : Nat → Int32, jW (jKd (g.1 + j, B, g.2.2)) Γ h1)
  | 0, k + 1, g, a0, x1, x2, h, w, ta, _, _, hx, h0, h4 => by
    show jok (F_X10_put_3_b n (F_X10_put_3 n k) a0 x1 x2 h) _
    unfold F_X10_put_3_b
    have e : x2 < 0 := Int32.lt_iff_toInt_lt.mpr (by rw [hx]; show (8 * ((0 : Nat) : Int) - 8 : Int) < 0; decide)
    rw [if_pos e]
    refine jok_s ⟨g.2.1, ?_⟩
    have e2 : g.1 + ((0 : Nat) : Int) = g.1 := Int.add_zero _
    rw [e2]
    exact w
  | j + 1, k + 1, g, a0, x1, x2, h, w, ta, hk, hj, hx, h0, h4 => by
    show jok (F_X10_put_3_b n (F_X10_put_3 n k) a0 x1 x2 h) _
    unfold F_X10_put_3_b
    have ez : (0 : Int32).toInt = 0 := rfl
    have e4 : (400 : Int32).toInt = 400 := rfl
    have e8 : (-8 : Int32).toInt = -8 := rfl
    have e1 : (1 : Int32).toInt = 1 := rfl
    refine jok_lt (fun c => absurd c (by rw [hx, ez]; omega)) (fun _ => ?_)
    refine jok_b (t_gI w ta rfl rfl) (fun v8 l8 => ?_)
    have l8 : v8.toInt = g.1 := l8
    refine jok_le (fun c => absurd c (by rw [l8, e4]; omega)) (fun _ => ?_)
    refine jok_b (t_gR w ta rfl rfl) (fun p18 t18 => ?_)
    refine jok_b (t_gI w ta rfl rfl) (fun v22 l22 => ?_)
    have l22 : v22.toInt = g.1 := l22
    refine jok_b (t_pB w (fun a b => hu a b 9 (by decide)) t18 (by omega) (by omega)) (fun h29 w29 => ?_)
    obtain ⟨B, w29, -⟩ := w29
    refine jok_b (t_gI w29 ta rfl rfl) (fun v32 l32 => ?_)
    have l32 : v32.toInt = g.1 := l32
    refine jok_b (t_pL w29 (fun a b => hu a b 10 (by decide)) ta) (fun h37 w37 => ?_)
    have e5 : (v32 + (1 : Int32)).toInt = g.1 + 1 := by rw [jadd (by omega) (by omega), l32, e1]
    have w37 := w37.1
    rw [e5] at w37
    have e6 : (x2 + (-8 : Int32)).toInt = 8 * (j : Int) - 8 := by rw [jadd (by omega) (by omega), hx, e8]; omega
    refine jok_w (S_X10_put_3 hu j k w37 ta (by omega) (by omega) e6 (by show 0 ≤ g.1 + 1; omega) (by show g.1 + 1 + (j : Int) ≤ 400; omega)) (fun h1 q => ?_)
    obtain ⟨B2, q⟩ := q
    have q : jW (jKd (g.1 + 1 + (j : Int), B2, g.2.2)) Γ h1 := q
    refine ⟨B2, ?_⟩
    have e7 : g.1 + 1 + (j : Int) = g.1 + ((j + 1 : Nat) : Int) := by omega
    rw [e7] at q
    exact q
theorem S_X10_put {g : jGh} {Γ : Nat → Option Nat} {n a0 : Nat} {x1 : Int32} {h : jH} (hn : 6000 ≤ n) (w : jW (jKd g) Γ h) (ta0 : Γ a0 = some 10) (hu : ∀ a b c, 9 ≤ c → Γ a = some c → Γ b = some c → a = b) (h0 : 0 ≤ g.1) (h4 : g.1 ≤ 396) : jok (F_X10_put n a0 x1 h) (fun h1 => ∃ B : Nat → Int32, jW (jKd (g.1 + 4, B, g.2.2)) Γ h1) := by
  unfold F_X10_put
  exact S_X10_put_3 hu 4 n w ta0 (by omega) (by omega) rfl h0 (by omega)
theorem S_X11_feed {g : jGh} {Γ : Nat → Option Nat} {n a0 : Nat} {x1 x2 x3 x4 x5 : Int32} {h : jH} (hn : 6000 ≤ n) (hg : jgok g) (w : jW (jKd g) Γ h) (ta0 : Γ a0 = some 19) (hu : ∀ a b c, 9 ≤ c → Γ a = some c → Γ b = some c → a = b) : jok (F_X11_feed n a0 x1 x2 x3 x4 x5 h) (fun q => (∃ B : Nat → Int32, jW (jKd (if 380 < g.1 then g.1 else g.1 + 20, B, g.2.2)) Γ q.2) ∧ q.1.toInt = (if 380 < g.1 then -1 else g.1 + 20)) := by
  obtain ⟨⟨g0, g4⟩, -⟩ := id hg
  have ez : (0 : Int32).toInt = 0 := rfl
  unfold F_X11_feed
  refine jok_b (t_gR w ta0 rfl rfl) (fun p1 t1 => ?_)
  rw [t_cv w t1 rfl]
  refine jok_b (S_X10_hasRoom hn hg w t1) (fun v4 l4 => ?_)
  refine jok_eq (fun c _ => ?_) (fun c => ?_)
  · rw [ez] at c
    refine jok_s ⟨⟨g.2.1, ?_⟩, ?_⟩
    · rw [if_pos (by omega)]
      exact w
    · rw [if_pos (by omega)]
      rfl
  · rw [ez] at c
    have k4 : g.1 ≤ 380 := by omega
    rw [if_neg (show ¬ 380 < g.1 by omega), if_neg (show ¬ 380 < g.1 by omega)]
    refine jok_b (t_gR w ta0 rfl rfl) (fun p13 t13 => ?_)
    rw [t_cv w t13 rfl]
    refine jok_b (S_X10_put hn w t13 hu g0 (by omega)) (fun h17 w17 => ?_)
    obtain ⟨B1, w17⟩ := w17
    refine jok_b (t_gR w17 ta0 rfl rfl) (fun p21 t21 => ?_)
    rw [t_cv w17 t21 rfl]
    refine jok_b (S_X10_put hn w17 t21 hu (by show 0 ≤ g.1 + 4; omega) (by show g.1 + 4 ≤ 396; omega)) (fun h25 w25 => ?_)
    obtain ⟨B2, w25⟩ := w25
    refine jok_b (t_gR w25 ta0 rfl rfl) (fun p29 t29 => ?_)
    rw [t_cv w25 t29 rfl]
    refine jok_b (S_X10_put hn w25 t29 hu (by show 0 ≤ g.1 + 4 + 4; omega) (by show g.1 + 4 + 4 ≤ 396; omega)) (fun h33 w33 => ?_)
    obtain ⟨B3, w33⟩ := w33
    refine jok_b (t_gR w33 ta0 rfl rfl) (fun p37 t37 => ?_)
    rw [t_cv w33 t37 rfl]
    refine jok_b (S_X10_put hn w33 t37 hu (by show 0 ≤ g.1 + 4 + 4 + 4; omega) (by show g.1 + 4 + 4 + 4 ≤ 396; omega)) (fun h42 w42 => ?_)
    obtain ⟨B4, w42⟩ := w42
    refine jok_b (t_gR w42 ta0 rfl rfl) (fun p46 t46 => ?_)
    rw [t_cv w42 t46 rfl]
    refine jok_b (S_X10_put hn w42 t46 hu (by show 0 ≤ g.1 + 4 + 4 + 4 + 4; omega) (by show g.1 + 4 + 4 + 4 + 4 ≤ 396; omega)) (fun h51 w51 => ?_)
    obtain ⟨B5, w51⟩ := w51
    refine jok_b (t_gR w51 ta0 rfl rfl) (fun p55 t55 => ?_)
    refine jok_b (t_gI w51 t55 rfl rfl) (fun v58 l58 => ?_)
    have l58 : v58.toInt = g.1 + 4 + 4 + 4 + 4 + 4 := l58
    refine jok_s ⟨⟨B5, ?_⟩, (show v58.toInt = g.1 + 20 by omega)⟩
    have e : g.1 + 4 + 4 + 4 + 4 + 4 = g.1 + 20 := by omega
    have w51 : jW (jKd (g.1 + 4 + 4 + 4 + 4 + 4, B5, g.2.2)) Γ h51 := w51
    rw [e] at w51
    exact w51
theorem S_X11_end {g : jGh} {Γ : Nat → Option Nat} {n a0 : Nat} {x1 : Int32} {h : jH} (w : jW (jKd g) Γ h) (ta0 : Γ a0 = some 19) (hu : ∀ a b c, 9 ≤ c → Γ a = some c → Γ b = some c → a = b) : jok (F_X11_end n a0 x1 h) (fun q => jW (jKd (if 0 ≤ x1.toInt ∧ x1.toInt ≤ g.1 then x1.toInt else g.1, g.2)) Γ q.2 ∧ q.1 = (if 0 ≤ x1.toInt ∧ x1.toInt ≤ g.1 then 1 else 0)) := by
  have ez : (0 : Int32).toInt = 0 := rfl
  unfold F_X11_end
  refine jok_lt (fun c => ?_) (fun c => ?_)
  · rw [if_neg (by omega), if_neg (by omega)]
    exact jok_s ⟨w, rfl⟩
  refine jok_b (t_gR w ta0 rfl rfl) (fun p6 t6 => ?_)
  refine jok_b (t_gI w t6 rfl rfl) (fun v9 l9 => ?_)
  have l9 : v9.toInt = g.1 := l9
  refine jok_le (fun d => ?_) (fun d => ?_)
  · rw [if_pos (by omega), if_pos (by omega)]
    refine jok_b (t_gR w ta0 rfl rfl) (fun p18 t18 => ?_)
    refine jok_b (t_pL w (fun a b => hu a b 10 (by decide)) t18) (fun h22 w22 => ?_)
    exact jok_s ⟨w22.1, rfl⟩
  · rw [if_neg (by omega), if_neg (by omega)]
    exact jok_s ⟨w, rfl⟩
end
section
/-- fields of classes other than 4 and 6 are left alone -/
def jf0 (h h1 : jH) : Prop := ∀ c b k : Nat, c ≠ 4 → c ≠ 6 → jgf c h1 b k = jgf c h b k
theorem jf0_rfl {h : jH} : jf0 h h := fun _ _ _ _ _ => rfl
theorem jf0_tr {h h1 h2 : jH} (a : jf0 h h1) (b : jf0 h1 h2) : jf0 h h2 := fun c x k h4 h6 => (b c x k h4 h6).trans (a c x k h4 h6)
theorem f0_pf {h h1 : jH} {a k c : Nat} {v : Value} (hc : c = 4 ∨ c = 6) (e : jpf c h a k v = some h1) : jf0 h h1 := by
  obtain ⟨fs, e1, -, rfl⟩ := jpf_o e
  intro c2 b k2 h4 h6
  have hn : c ≠ c2 := by omega
  unfold jgf
  show (match (if b = a then some _ else h.2 b) with | some (.inl o) => if o.1 = c2 then o.2[k2]? else none | _ => none) = _
  by_cases hb : b = a
  · subst hb
    rw [if_pos rfl, e1]
    dsimp only
    rw [if_neg hn, if_neg hn]
  · rw [if_neg hb]
    rfl
theorem f0_as {t a : Nat} {i x : Int32} {h h1 : jH} (e : jas t h a i x = some h1) : jf0 h h1 := by
  obtain ⟨n, f, e1, -, -, rfl⟩ := jas_o e
  exact fun c b k _ _ => jfa_up e1 c b k
theorem f0_cp {a0 a : Nat} {sp dp n : Int32} {h h1 : jH} (e : jcp h a0 sp a dp n = some h1) : jf0 h h1 := by
  obtain ⟨n0, f, n1, g, e0, e1, -, -, -, -, -, rfl⟩ := jcp_o e
  exact fun c b k _ _ => jfa_up e1 c b k
theorem F0_X8_hangAs {n : Nat} {a0 : Nat} {a1 : Nat} {h : jH} {q : jH} (hf : F_X8_hangAs n a0 a1 h = some q) : jf0 h q := by
  unfold F_X8_hangAs at hf
  obtain ⟨p1, e1, hf⟩ := jbind hf
  obtain ⟨p6, e2, hf⟩ := jbind hf
  obtain ⟨h12, e3, hf⟩ := jbind hf
  obtain ⟨v17, e4, hf⟩ := jbind hf
  obtain ⟨h20, e5, hf⟩ := jbind hf
  obtain ⟨v25, e6, hf⟩ := jbind hf
  obtain ⟨h28, e7, hf⟩ := jbind hf
  cases hf
  have z9 := (jf0_tr (jf0_tr (f0_cp e3) (f0_pf (by decide) e5)) (f0_pf (by decide) e7))
  exact z9
theorem F0_X5_copyFrom {n : Nat} {a0 : Nat} {a1 : Nat} {h : jH} {q : jH} (hf : F_X5_copyFrom n a0 a1 h = some q) : jf0 h q := by
  unfold F_X5_copyFrom at hf
  obtain ⟨p1, e1, hf⟩ := jbind hf
  obtain ⟨p6, e2, hf⟩ := jbind hf
  obtain ⟨h12, e3, hf⟩ := jbind hf
  obtain ⟨v17, e4, hf⟩ := jbind hf
  obtain ⟨h20, e5, hf⟩ := jbind hf
  obtain ⟨v25, e6, hf⟩ := jbind hf
  obtain ⟨h28, e7, hf⟩ := jbind hf
  cases hf
  have z9 := (jf0_tr (jf0_tr (f0_cp e3) (f0_pf (by decide) e5)) (f0_pf (by decide) e7))
  exact z9
theorem F0_X8_copyFrom {n : Nat} {a0 : Nat} {a1 : Nat} {h : jH} {q : jH} (hf : F_X8_copyFrom n a0 a1 h = some q) : jf0 h q := by
  unfold F_X8_copyFrom at hf
  obtain ⟨p1, e1, hf⟩ := jbind hf
  obtain ⟨p6, e2, hf⟩ := jbind hf
  obtain ⟨h12, e3, hf⟩ := jbind hf
  obtain ⟨p16, e4, hf⟩ := jbind hf
  obtain ⟨p21, e5, hf⟩ := jbind hf
  obtain ⟨h27, e6, hf⟩ := jbind hf
  obtain ⟨p31, e7, hf⟩ := jbind hf
  obtain ⟨p36, e8, hf⟩ := jbind hf
  obtain ⟨h42, e9, hf⟩ := jbind hf
  obtain ⟨p46, e10, hf⟩ := jbind hf
  obtain ⟨p50, e11, hf⟩ := jbind hf
  obtain ⟨h53, e12, hf⟩ := jbind hf
  obtain ⟨-, e12⟩ := jcv_o e12
  obtain ⟨v58, e13, hf⟩ := jbind hf
  obtain ⟨h61, e14, hf⟩ := jbind hf
  obtain ⟨v66, e15, hf⟩ := jbind hf
  obtain ⟨h69, e16, hf⟩ := jbind hf
  obtain ⟨v74, e17, hf⟩ := jbind hf
  obtain ⟨h77, e18, hf⟩ := jbind hf
  obtain ⟨v82, e19, hf⟩ := jbind hf
  obtain ⟨h85, e20, hf⟩ := jbind hf
  obtain ⟨v90, e21, hf⟩ := jbind hf
  obtain ⟨h93, e22, hf⟩ := jbind hf
  obtain ⟨v98, e23, hf⟩ := jbind hf
  obtain ⟨h101, e24, hf⟩ := jbind hf
  obtain ⟨v106, e25, hf⟩ := jbind hf
  obtain ⟨h109, e26, hf⟩ := jbind hf
  obtain ⟨v114, e27, hf⟩ := jbind hf
  obtain ⟨h117, e28, hf⟩ := jbind hf
  obtain ⟨v122, e29, hf⟩ := jbind hf
  obtain ⟨h125, e30, hf⟩ := jbind hf
  obtain ⟨v130, e31, hf⟩ := jbind hf
  obtain ⟨h133, e32, hf⟩ := jbind hf
  obtain ⟨v138, e33, hf⟩ := jbind hf
  obtain ⟨h141, e34, hf⟩ := jbind hf
  obtain ⟨h146, e35, hf⟩ := jbind hf
  obtain ⟨-, e35⟩ := jcv_o e35
  cases hf
  have z9 := (jf0_tr (jf0_tr (jf0_tr (jf0_tr (jf0_tr (jf0_tr (jf0_tr (jf0_tr (jf0_tr (jf0_tr (jf0_tr (jf0_tr (jf0_tr (jf0_tr (jf0_tr (f0_cp e3) (f0_cp e6)) (f0_cp e9)) (F0_X5_copyFrom e12)) (f0_pf (by decide) e14)) (f0_pf (by decide) e16)) (f0_pf (by decide) e18)) (f0_pf (by decide) e20)) (f0_pf (by decide) e22)) (f0_pf (by decide) e24)) (f0_pf (by decide) e26)) (f0_pf (by decide) e28)) (f0_pf (by decide) e30)) (f0_pf (by decide) e32)) (f0_pf (by decide) e34)) (F0_X8_hangAs e35))
  exact z9
theorem t_rod {g : jGh} {Γ : Nat → Option Nat} {n : Nat} {h : jH} (w : jW (jKd g) Γ h) : jok (F_X8_init n h.1 (jnew h (.inl (6, [.null, .null, .null, .null, .null, .int 0, .int 0, .int 0, .int 0, .int 0, .int 0, .int 0, .int 0, .int 0, .int 0, .int 0, .int 0, .int 0])))) (fun h2 => ∃ G2, jle Γ G2 ∧ jW (jKd g) G2 h2 ∧ G2 h.1 = some 3 ∧ ∀ b, b < h.1 → h2.2 b = h.2 b) := by
  refine jok_w (I_X8_init (n := n) (h := h)) (fun h2 j => ?_)
  obtain ⟨w2, hm⟩ := jx_jW (ks := kX8_init) j rfl w (chkX8_init (fun i c q => jext_at q))
  refine ⟨_, ⟨hm, fun a c hc ha => ?_⟩, w2, jext_at (i := 0) rfl, j.2.1⟩
  unfold jext at ha
  by_cases q : a < h.1
  · rw [if_pos q] at ha; exact ha
  · rw [if_neg q] at ha
    have hl : ∀ c ∈ kX8_init, c < 9 := by decide
    have := hl c (List.mem_of_getElem? ha)
    omega
theorem t_law {g : jGh} {Γ : Nat → Option Nat} {n : Nat} {h : jH} (w : jW (jKd g) Γ h) : jok (F_X2_init n h.1 (jnew h (.inl (2, [.null, .null, .null, .null, .null, .int 0, .int 0, .int 0, .int 0])))) (fun h2 => ∃ G2, jle Γ G2 ∧ jW (jKd g) G2 h2 ∧ G2 h.1 = some 8 ∧ ∀ b, b < h.1 → h2.2 b = h.2 b) := by
  refine jok_w (I_X2_init (n := n) (h := h)) (fun h2 j => ?_)
  obtain ⟨w2, hm⟩ := jx_jW (ks := kX2_init) j rfl w (chkX2_init (fun i c q => jext_at q))
  refine ⟨_, ⟨hm, fun a c hc ha => ?_⟩, w2, jext_at (i := 0) rfl, j.2.1⟩
  unfold jext at ha
  by_cases q : a < h.1
  · rw [if_pos q] at ha; exact ha
  · rw [if_neg q] at ha
    have hl : ∀ c ∈ kX2_init, c < 9 := by decide
    have := hl c (List.mem_of_getElem? ha)
    omega
theorem fR {h h1 : jH} {ci b k : Nat} {v : Nat} (e : jgf ci h1 b k = jgf ci h b k) (q : jgR ci h b k = some v) : jgR ci h1 b k = some v := by
  unfold jgR at q ⊢
  rw [e]
  exact q
theorem fQ {h h1 : jH} {ci b k : Nat} {v : Option Nat} (e : jgf ci h1 b k = jgf ci h b k) (q : jgQ ci h b k = some v) : jgQ ci h1 b k = some v := by
  unfold jgQ at q ⊢
  rw [e]
  exact q
theorem S_X0_remember_63 {g : jGh} {Γ : Nat → Option Nat} {n a0 : Nat} {s1 : Int32} {h : jH} (w : jW (jKd g) Γ h) (ta0 : Γ a0 = some 12) (l0 : 0 ≤ s1.toInt) (l1 : s1.toInt ≤ 11) : jok (F_X0_remember_63 n a0 a0 s1 h) (fun q => jW (jKd g) Γ q) := by
  have e1 : (1 : Int32).toInt = 1 := rfl
  have e12 : (12 : Int32).toInt = 12 := rfl
  unfold F_X0_remember_63
  refine jok_b (t_pI w ta0 rfl rfl ⟨l0, l1⟩) (fun h63 w63 => ?_)
  obtain ⟨w63, -, -⟩ := w63
  refine jok_b (t_gI w63 ta0 rfl rfl) (fun v70 l70 => ?_)
  have l70 : 0 ≤ v70.toInt ∧ v70.toInt ≤ 12 := l70
  have ea : (v70 + (1 : Int32)).toInt = v70.toInt + 1 := by rw [jadd (by omega) (by omega), e1]
  refine jok_b (t_pI w63 ta0 rfl rfl (jif_lt (fun _ => by omega) (fun _ => by omega))) (fun h78 w78 => ?_)
  exact jok_s w78.1
theorem S_X0_remember_28 {g : jGh} {Γ : Nat → Option Nat} {n a0 a1 p b : Nat} {v : Int32} {h : jH} (hn : 6000 ≤ n) (hg : jgok g) (w : jW (jKd g) Γ h) (ta0 : Γ a0 = some 12) (ta1 : Γ a1 = some 3) (hp : jgR 0 h a0 0 = some p) (hv : jgI 0 h a0 1 = some v) (hb : jalq h p v = some (some b)) (tb : Γ b = some 3) : jok (F_X0_remember_28 n a0 a1 h) (fun q => jW (jKd g) Γ q) := by
  have e1 : (1 : Int32).toInt = 1 := rfl
  have e12 : (12 : Int32).toInt = 12 := rfl
  unfold F_X0_remember_28
  refine jok_r hp (jok_r hv (jok_r hb ?_))
  dsimp only
  rw [t_cv w tb rfl]
  refine jok_b (S_X8_copyFrom hn hg w tb ta1) (fun h38 w38 => ?_)
  obtain ⟨v43, e43, l43⟩ := t_gI (k := 1) w38 ta0 rfl rfl
  have l43 : 0 ≤ v43.toInt ∧ v43.toInt ≤ 11 := l43
  have ea : (v43 + (1 : Int32)).toInt = v43.toInt + 1 := by rw [jadd (by omega) (by omega), e1]
  refine jok_r e43 ?_
  refine jok_le (fun _ => S_X0_remember_63 w38 ta0 (by decide) (by decide)) (fun d => ?_)
  exact jok_r e43 (S_X0_remember_63 w38 ta0 (by omega) (by omega))
theorem S_X0_remember {g : jGh} {Γ : Nat → Option Nat} {n a0 a1 : Nat} {h : jH} (hn : 6000 ≤ n) (hg : jgok g) (w : jW (jKd g) Γ h) (ta0 : Γ a0 = some 12) (ta1 : Γ a1 = some 3) : jok (F_X0_remember n a0 a1 h) (fun q => ∃ G2, jle Γ G2 ∧ jW (jKd g) G2 q) := by
  unfold F_X0_remember
  obtain ⟨p1, e1, t1⟩ := t_gR (k := 0) w ta0 rfl rfl
  obtain ⟨v5, e5, l5⟩ := t_gI (k := 1) w ta0 rfl rfl
  have l5 : 0 ≤ v5.toInt ∧ v5.toInt ≤ 11 := l5
  obtain ⟨o8, e8, t8⟩ := t_alq w t1 rfl (by decide) l5.1 (by omega)
  refine jok_r e1 (jok_r e5 (jok_r e8 ?_))
  cases o8 with
  | some p9 => exact jok_w (S_X0_remember_28 hn hg w ta0 ta1 e1 e5 e8 (t8 p9 rfl)) (fun q wq => ⟨Γ, jle_rfl, wq⟩)
  | none =>
    dsimp only
    refine jok_r e1 (jok_r e5 ?_)
    refine jok_r (show jnw h _ = some _ from rfl) ?_
    refine jok_b (t_rod w) (fun h24 w24 => ?_)
    obtain ⟨G2, hle, w24, tz, hs⟩ := w24
    have ta2 := hle.1 a0 12 ta0
    have t12 := hle.1 p1 11 t1
    have eo : ∀ k2 : Nat, jgf 0 h24 a0 k2 = jgf 0 h a0 k2 := fun k2 => by
      unfold jgf
      rw [hs a0 (w a0 12 ta0).1]
    refine jok_b (t_asq w24 t12 rfl (by decide) tz rfl l5.1 (by omega)) (fun h27 w27 => ?_)
    obtain ⟨w27, f27, b27⟩ := w27
    exact jok_w (S_X0_remember_28 hn hg w27 ta2 (hle.1 a1 3 ta1) (fR ((f27 0 a0 0).trans (eo 0)) e1) (fI ((f27 0 a0 1).trans (eo 1)) e5) b27 tz) (fun q wq => ⟨G2, hle, wq⟩)
theorem S_X0_takeBack_18 {g : jGh} {Γ : Nat → Option Nat} {n a0 a1 : Nat} {s0 : Int32} {h : jH} (hn : 6000 ≤ n) (hg : jgok g) (w : jW (jKd g) Γ h) (ta0 : Γ a0 = some 12) (ta1 : Γ a1 = some 3) (l0 : 0 ≤ s0.toInt) (l1 : s0.toInt ≤ 11) : jok (F_X0_takeBack_18 n a0 a1 s0 h) (fun q => jW (jKd g) Γ q.2 ∧ (q.1 = 0 ∨ q.1 = 1)) := by
  have ez : (0 : Int32).toInt = 0 := rfl
  have e1 : (1 : Int32).toInt = 1 := rfl
  unfold F_X0_takeBack_18
  obtain ⟨v20, e20, l20⟩ := t_gI (k := 2) w ta0 rfl rfl
  refine jok_r e20 (jok_eq (fun _ _ => jok_s ⟨w, Or.inl rfl⟩) (fun n20 => ?_))
  obtain ⟨p27, e27, t27⟩ := t_gR (k := 0) w ta0 rfl rfl
  obtain ⟨o31, e31, t31⟩ := t_alq w t27 rfl (by decide) l0 (by omega)
  refine jok_r e27 (jok_r e31 ?_)
  cases o31 with
  | none => exact jok_s ⟨w, Or.inl rfl⟩
  | some p32 =>
    dsimp only
    refine jok_r e27 (jok_r e31 ?_)
    dsimp only
    rw [t_cv w ta1 rfl]
    refine jok_b2 (S_X8_copyFrom hn hg w ta1 (t31 p32 rfl)) (fun h44 e44 w44 => ?_)
    have f44 := F0_X8_copyFrom e44
    refine jok_b (t_pI w44 ta0 rfl rfl ⟨l0, l1⟩) (fun h49 w49 => ?_)
    obtain ⟨w49, -, f49⟩ := w49
    have q54 := fI (f49 0 a0 2 (Or.inr (by decide))) (fI (f44 0 a0 2 (by decide) (by decide)) e20)
    refine jok_r q54 ?_
    have l20 : 0 ≤ v20.toInt ∧ v20.toInt ≤ 12 := l20
    rw [ez] at n20
    have es : (v20 - (1 : Int32)).toInt = v20.toInt - 1 := by rw [jsub (by omega) (by omega), e1]
    refine jok_b (t_pI w49 ta0 rfl rfl (by constructor <;> omega)) (fun h59 w59 => ?_)
    exact jok_s ⟨w59.1, Or.inr rfl⟩
theorem S_X0_takeBack {g : jGh} {Γ : Nat → Option Nat} {n a0 a1 : Nat} {h : jH} (hn : 6000 ≤ n) (hg : jgok g) (w : jW (jKd g) Γ h) (ta0 : Γ a0 = some 12) (ta1 : Γ a1 = some 3) : jok (F_X0_takeBack n a0 a1 h) (fun q => jW (jKd g) Γ q.2 ∧ (q.1 = 0 ∨ q.1 = 1)) := by
  have ez : (0 : Int32).toInt = 0 := rfl
  have eo : (1 : Int32).toInt = 1 := rfl
  unfold F_X0_takeBack
  obtain ⟨v1, e1, l1⟩ := t_gI (k := 1) w ta0 rfl rfl
  have l1 : 0 ≤ v1.toInt ∧ v1.toInt ≤ 11 := l1
  refine jok_r e1 (jok_le (fun _ => S_X0_takeBack_18 hn hg w ta0 ta1 (by decide) (by decide)) (fun d => ?_))
  refine jok_r e1 ?_
  rw [ez] at d
  have es : (v1 - (1 : Int32)).toInt = v1.toInt - 1 := by rw [jsub (by omega) (by omega), eo]
  exact S_X0_takeBack_18 hn hg w ta0 ta1 (by omega) (by omega)
theorem S_X11_undo {g : jGh} {Γ : Nat → Option Nat} {n a0 : Nat} {h : jH} (hn : 6000 ≤ n) (hg : jgok g) (w : jW (jKd g) Γ h) (ta0 : Γ a0 = some 19) : jok (F_X11_undo n a0 h) (fun q => jW (jKd g) Γ q.2) := by
  unfold F_X11_undo
  refine jok_b (t_gR w ta0 rfl rfl) (fun p1 t1 => ?_)
  refine jok_b (t_gR w ta0 rfl rfl) (fun p5 t5 => ?_)
  rw [t_cv w t1 rfl]
  refine jok_b (S_X0_takeBack hn hg w t1 t5) (fun q8 w8 => ?_)
  rw [if_pos w8.2]
  exact jok_s w8.1
/-! the image of the class: two fields that are null, or not, by the ghosts -/
abbrev jghF (g : jGh) (u v : Int32) : jGh := (g.1, g.2.1, g.2.2.1, g.2.2.2.1, g.2.2.2.2.1, g.2.2.2.2.2.1, u, v, g.2.2.2.2.2.2.2.2)
theorem jKd_F {g : jGh} {u v : Int32} {c : Nat} (hc : c ≠ 19) : jKd (jghF g u v) c = jKd g c := by
  unfold jKd
  split <;> first | rfl | exact absurd rfl hc
theorem t_k10 {g : jGh} {Γ : Nat → Option Nat} {h : jH} {a : Nat} (w : jW (jKd g) Γ h) (ha : Γ a = some 19) (h41 : ∀ b, Γ b ≠ some 41) : (g.2.2.2.2.2.2.1 = 0 ∧ jgQ 9 h a 10 = some none) ∨ (g.2.2.2.2.2.2.1 ≠ 0 ∧ ∃ b, jgQ 9 h a 10 = some (some b) ∧ Γ b = some 3) := by
  obtain ⟨v, e, hv⟩ := t_gf (k := 10) w ha rfl rfl
  by_cases q : g.2.2.2.2.2.2.1 = 0
  · left
    rw [if_pos q] at hv
    rcases hv with rfl | ⟨b, rfl, hb⟩
    · exact ⟨q, by unfold jgQ; rw [e]⟩
    · exact absurd hb (h41 b)
  · right
    rw [if_neg q] at hv
    obtain ⟨b, rfl, hb⟩ := hv
    exact ⟨q, b, by unfold jgQ; rw [e], hb⟩
theorem t_k11 {g : jGh} {Γ : Nat → Option Nat} {h : jH} {a : Nat} (w : jW (jKd g) Γ h) (ha : Γ a = some 19) (h41 : ∀ b, Γ b ≠ some 41) : (g.2.2.2.2.2.2.2.1 = 0 ∧ jgQ 9 h a 11 = some none) ∨ (g.2.2.2.2.2.2.2.1 ≠ 0 ∧ ∃ b, jgQ 9 h a 11 = some (some b) ∧ Γ b = some 8) := by
  obtain ⟨v, e, hv⟩ := t_gf (k := 11) w ha rfl rfl
  by_cases q : g.2.2.2.2.2.2.2.1 = 0
  · left
    rw [if_pos q] at hv
    rcases hv with rfl | ⟨b, rfl, hb⟩
    · exact ⟨q, by unfold jgQ; rw [e]⟩
    · exact absurd hb (h41 b)
  · right
    rw [if_neg q] at hv
    obtain ⟨b, rfl, hb⟩ := hv
    exact ⟨q, b, by unfold jgQ; rw [e], hb⟩
theorem t_p10 {g : jGh} {Γ : Nat → Option Nat} {h : jH} {a b : Nat} (w : jW (jKd g) Γ h) (hu : ∀ a b c, 9 ≤ c → Γ a = some c → Γ b = some c → a = b) (ha : Γ a = some 19) (hb : Γ b = some 3) : jok (jpf 9 h a 10 (.ref b)) (fun h1 => jW (jKd (jghF g 1 g.2.2.2.2.2.2.2.1)) Γ h1 ∧ jgf 9 h1 a 10 = some (.ref b) ∧ jfr h h1 a 10) := by
  obtain ⟨vs, e1, e2, e3⟩ := t_obj w ha rfl
  have hlt : 10 < vs.length := by rw [e2]; exact Nat.le_of_ble_eq_true rfl
  refine ⟨jup h a (.inl (9, vs.set 10 (.ref b))), ?_, ?_, ?_, jfr_up e1⟩
  · unfold jpf
    rw [e1]
    dsimp only
    rw [if_pos ⟨rfl, hlt⟩]
  · intro b9 c hb9
    refine ⟨(w b9 c hb9).1, ?_⟩
    show okE Γ (jKd (jghF g 1 g.2.2.2.2.2.2.2.1) c) (if b9 = a then some _ else h.2 b9)
    by_cases hq : b9 = a
    · subst hq
      cases ha.symm.trans hb9
      rw [if_pos rfl]
      refine ⟨_, rfl, by rw [List.length_set]; exact e2, fun j F9 hj => ?_⟩
      by_cases hq : j = 10
      · subst hq
        cases hj
        exact ⟨.ref b, by rw [List.getElem?_set_self hlt], by rw [if_neg (show ¬ (1 : Int32) = 0 by decide)]; exact ⟨b, rfl, hb⟩⟩
      · have hj2 : (match jKd g 19 with | .inr (.inr q) => q.2 | _ => [])[j]? = some F9 := by
          match j, hq, hj with
          | 0, _, hj => exact hj
          | 1, _, hj => exact hj
          | 2, _, hj => exact hj
          | 3, _, hj => exact hj
          | 4, _, hj => exact hj
          | 5, _, hj => exact hj
          | 6, _, hj => exact hj
          | 7, _, hj => exact hj
          | 8, _, hj => exact hj
          | 9, _, hj => exact hj
          | 11, _, hj => exact hj
          | 12, _, hj => exact hj
          | j + 13, _, hj => cases hj
        obtain ⟨v9, f1, f2⟩ := e3 j F9 hj2
        exact ⟨v9, by rw [List.getElem?_set_ne (Ne.symm hq)]; exact f1, f2⟩
    · rw [if_neg hq]
      have hc : c ≠ 19 := fun q => hq (hu b9 a 19 (by decide) (by rw [hb9, q]) ha)
      rw [jKd_F hc]
      exact (w b9 c hb9).2
  · unfold jgf
    show (match (if a = a then some _ else h.2 a) with | some (.inl o) => if o.1 = 9 then o.2[10]? else none | _ => none) = _
    rw [if_pos rfl]
    dsimp only
    rw [if_pos rfl, List.getElem?_set_self hlt]
theorem t_p11 {g : jGh} {Γ : Nat → Option Nat} {h : jH} {a b : Nat} (w : jW (jKd g) Γ h) (hu : ∀ a b c, 9 ≤ c → Γ a = some c → Γ b = some c → a = b) (ha : Γ a = some 19) (hb : Γ b = some 8) : jok (jpf 9 h a 11 (.ref b)) (fun h1 => jW (jKd (jghF g g.2.2.2.2.2.2.1 1)) Γ h1 ∧ jgf 9 h1 a 11 = some (.ref b) ∧ jfr h h1 a 11) := by
  obtain ⟨vs, e1, e2, e3⟩ := t_obj w ha rfl
  have hlt : 11 < vs.length := by rw [e2]; exact Nat.le_of_ble_eq_true rfl
  refine ⟨jup h a (.inl (9, vs.set 11 (.ref b))), ?_, ?_, ?_, jfr_up e1⟩
  · unfold jpf
    rw [e1]
    dsimp only
    rw [if_pos ⟨rfl, hlt⟩]
  · intro b9 c hb9
    refine ⟨(w b9 c hb9).1, ?_⟩
    show okE Γ (jKd (jghF g g.2.2.2.2.2.2.1 1) c) (if b9 = a then some _ else h.2 b9)
    by_cases hq : b9 = a
    · subst hq
      cases ha.symm.trans hb9
      rw [if_pos rfl]
      refine ⟨_, rfl, by rw [List.length_set]; exact e2, fun j F9 hj => ?_⟩
      by_cases hq : j = 11
      · subst hq
        cases hj
        exact ⟨.ref b, by rw [List.getElem?_set_self hlt], by rw [if_neg (show ¬ (1 : Int32) = 0 by decide)]; exact ⟨b, rfl, hb⟩⟩
      · have hj2 : (match jKd g 19 with | .inr (.inr q) => q.2 | _ => [])[j]? = some F9 := by
          match j, hq, hj with
          | 0, _, hj => exact hj
          | 1, _, hj => exact hj
          | 2, _, hj => exact hj
          | 3, _, hj => exact hj
          | 4, _, hj => exact hj
          | 5, _, hj => exact hj
          | 6, _, hj => exact hj
          | 7, _, hj => exact hj
          | 8, _, hj => exact hj
          | 9, _, hj => exact hj
          | 10, _, hj => exact hj
          | 12, _, hj => exact hj
          | j + 13, _, hj => cases hj
        obtain ⟨v9, f1, f2⟩ := e3 j F9 hj2
        exact ⟨v9, by rw [List.getElem?_set_ne (Ne.symm hq)]; exact f1, f2⟩
    · rw [if_neg hq]
      have hc : c ≠ 19 := fun q => hq (hu b9 a 19 (by decide) (by rw [hb9, q]) ha)
      rw [jKd_F hc]
      exact (w b9 c hb9).2
  · unfold jgf
    show (match (if a = a then some _ else h.2 a) with | some (.inl o) => if o.1 = 9 then o.2[11]? else none | _ => none) = _
    rw [if_pos rfl]
    dsimp only
    rw [if_pos rfl, List.getElem?_set_self hlt]
theorem S_X11_image_36 {g : jGh} {Γ : Nat → Option Nat} {n a0 p q : Nat} {h : jH} (hn : 6000 ≤ n) (hg : jgok g) (w : jW (jKd g) Γ h) (ta0 : Γ a0 = some 19) (e10 : jgQ 9 h a0 10 = some (some p)) (tp : Γ p = some 3) (e11 : jgQ 9 h a0 11 = some (some q)) (tq : Γ q = some 8) : jok (F_X11_image_36 n a0 h) (fun q => jW (jKd g) Γ q) := by
  unfold F_X11_image_36
  refine jok_r e10 ?_
  refine jok_b (t_gR w ta0 rfl rfl) (fun p41 t41 => ?_)
  dsimp only
  rw [t_cv w tp rfl]
  refine jok_b2 (S_X8_copyFrom hn hg w tp t41) (fun h44 e44 w44 => ?_)
  have f44 := F0_X8_copyFrom e44
  refine jok_r (fQ (f44 9 a0 11 (by decide) (by decide)) e11) ?_
  refine jok_b (t_gR w44 ta0 rfl rfl) (fun p52 t52 => ?_)
  dsimp only
  rw [t_cv w44 tq rfl]
  refine jok_b (S_X2_copyFrom hn hg w44 tq t52) (fun h55 w55 => ?_)
  exact jok_s w55
theorem S_X11_image_18 {g : jGh} {Γ : Nat → Option Nat} {n a0 p : Nat} {h : jH} (hn : 6000 ≤ n) (hg : jgok g) (w : jW (jKd g) Γ h) (ta0 : Γ a0 = some 19) (hu : ∀ a b c, 9 ≤ c → Γ a = some c → Γ b = some c → a = b) (h41 : ∀ b, Γ b ≠ some 41) (e10 : jgQ 9 h a0 10 = some (some p)) (tp : Γ p = some 3) : jok (F_X11_image_18 n a0 h) (fun q => ∃ (G2 : Nat → Option Nat) (v : Int32), jle Γ G2 ∧ v ≠ 0 ∧ jW (jKd (jghF g g.2.2.2.2.2.2.1 v)) G2 q) := by
  unfold F_X11_image_18
  rcases t_k11 w ta0 h41 with ⟨-, eo⟩ | ⟨z9, p22, eo, to⟩
  · refine jok_r eo ?_
    dsimp only
    refine jok_r (show jnw h _ = some _ from rfl) ?_
    refine jok_b (t_law w) (fun h30 w30 => ?_)
    obtain ⟨G2, hle, w30, tz, hs⟩ := w30
    have ta2 := hle.1 a0 19 ta0
    have hu2 : ∀ a b c, 9 ≤ c → G2 a = some c → G2 b = some c → a = b := fun a b c k p q => hu a b c k (hle.2 a c k p) (hle.2 b c k q)
    have eo2 : ∀ k2 : Nat, jgf 9 h30 a0 k2 = jgf 9 h a0 k2 := fun k2 => by
      unfold jgf
      rw [hs a0 (w a0 19 ta0).1]
    refine jok_b (t_p11 w30 hu2 ta2 tz) (fun h33 w33 => ?_)
    obtain ⟨w33, q33, f33⟩ := w33
    have e11 : jgQ 9 h33 a0 11 = some (some h.1) := by unfold jgQ; rw [q33]
    have e10b := fQ ((f33 9 a0 10 (Or.inr (by decide))).trans (eo2 10)) e10
    exact jok_w (S_X11_image_36 hn (show jgok (jghF g g.2.2.2.2.2.2.1 1) from hg) w33 ta2 e10b (hle.1 _ _ tp) e11 tz) (fun q wq => ⟨G2, 1, hle, by decide, wq⟩)
  · refine jok_r eo ?_
    dsimp only
    exact jok_w (S_X11_image_36 hn hg w ta0 e10 tp eo to) (fun q wq => ⟨Γ, g.2.2.2.2.2.2.2.1, jle_rfl, z9, wq⟩)
theorem S_X11_image {g : jGh} {Γ : Nat → Option Nat} {n a0 : Nat} {h : jH} (hn : 6000 ≤ n) (hg : jgok g) (w : jW (jKd g) Γ h) (ta0 : Γ a0 = some 19) (hu : ∀ a b c, 9 ≤ c → Γ a = some c → Γ b = some c → a = b) (h41 : ∀ b, Γ b ≠ some 41) : jok (F_X11_image n a0 h) (fun q => ∃ (G2 : Nat → Option Nat) (u v : Int32), jle Γ G2 ∧ u ≠ 0 ∧ v ≠ 0 ∧ jW (jKd (jghF g u v)) G2 q) := by
  unfold F_X11_image
  rcases t_k10 w ta0 h41 with ⟨-, eo⟩ | ⟨z9, p4, eo, to⟩
  · refine jok_r eo ?_
    dsimp only
    refine jok_r (show jnw h _ = some _ from rfl) ?_
    refine jok_b (t_rod w) (fun h12 w12 => ?_)
    obtain ⟨G2, hle, w12, tz, hs⟩ := w12
    have ta2 := hle.1 a0 19 ta0
    have hu2 : ∀ a b c, 9 ≤ c → G2 a = some c → G2 b = some c → a = b := fun a b c k p q => hu a b c k (hle.2 a c k p) (hle.2 b c k q)
    have h412 : ∀ b, G2 b ≠ some 41 := fun b q => h41 b (hle.2 b 41 (by decide) q)
    refine jok_b (t_p10 w12 hu2 ta2 tz) (fun h15 w15 => ?_)
    obtain ⟨w15, q15, f15⟩ := w15
    have e10 : jgQ 9 h15 a0 10 = some (some h.1) := by unfold jgQ; rw [q15]
    refine jok_w (S_X11_image_18 hn (show jgok (jghF g 1 g.2.2.2.2.2.2.2.1) from hg) w15 ta2 hu2 h412 e10 tz) (fun q wq => ?_)
    obtain ⟨G3, v, hle3, hv, wq⟩ := wq
    exact ⟨G3, 1, v, jle_tr hle hle3, by decide, hv, wq⟩
  · refine jok_r eo ?_
    dsimp only
    refine jok_w (S_X11_image_18 hn hg w ta0 hu h41 eo to) (fun q wq => ?_)
    obtain ⟨G3, v, hle3, hv, wq⟩ := wq
    exact ⟨G3, _, v, hle3, z9, hv, wq⟩
theorem S_X11_back {g : jGh} {Γ : Nat → Option Nat} {n a0 : Nat} {h : jH} (hn : 6000 ≤ n) (hg : jgok g) (w : jW (jKd g) Γ h) (ta0 : Γ a0 = some 19) (h41 : ∀ b, Γ b ≠ some 41) : jok (F_X11_back n a0 h) (fun q => jW (jKd g) Γ q.2 ∧ q.1 = (if g.2.2.2.2.2.2.1 = 0 ∨ g.2.2.2.2.2.2.2.1 = 0 then 0 else 1)) := by
  unfold F_X11_back
  rcases t_k10 w ta0 h41 with ⟨z1, e1⟩ | ⟨z1, p4, e1, t4⟩
  · refine jok_r e1 ?_
    exact jok_s ⟨w, by rw [if_pos (Or.inl z1)]⟩
  refine jok_r e1 ?_
  dsimp only
  rcases t_k11 w ta0 h41 with ⟨z8, e8⟩ | ⟨z8, p11, e8, t11⟩
  · refine jok_r e8 ?_
    exact jok_s ⟨w, by rw [if_pos (Or.inr z8)]⟩
  refine jok_r e8 ?_
  dsimp only
  refine jok_b (t_gR w ta0 rfl rfl) (fun p17 t17 => ?_)
  refine jok_r e1 ?_
  dsimp only
  rw [t_cv w t17 rfl]
  refine jok_b2 (S_X8_copyFrom hn hg w t17 t4) (fun h24 e24 w24 => ?_)
  have f24 := F0_X8_copyFrom e24
  refine jok_b (t_gR w24 ta0 rfl rfl) (fun p28 t28 => ?_)
  refine jok_r (fQ (f24 9 a0 11 (by decide) (by decide)) e8) ?_
  dsimp only
  rw [t_cv w24 t28 rfl]
  refine jok_b (S_X2_copyFrom hn hg w24 t28 t11) (fun h35 w35 => ?_)
  refine jok_b (t_gR w35 ta0 rfl rfl) (fun p39 t39 => ?_)
  rw [t_cv w35 t39 rfl]
  refine jok_b (S_X0_forget hn hg w35 t39) (fun h42 w42 => ?_)
  exact jok_s ⟨w42, by rw [if_neg (fun q => q.elim z1 z8)]⟩
end
section
set_option maxHeartbeats 1000000 in
theorem S_X11_pull {g : jGh} {Γ : Nat → Option Nat} {n : Nat} {a0 : Nat} {x1 : Int32} {x2 : Int32} {x3 : Int32} {h : jH} (hn : 6000 ≤ n) (hg : jgok g) (w : jW (jKd g) Γ h) (ta0 : Γ a0 = some 19) : jok (F_X11_pull n a0 x1 x2 x3 h) (fun q => ∃ Γ2, jle Γ Γ2 ∧ jW (jKd g) Γ2 q.2 ∧ jXok [2, 0] (fun v => True) q.1) := by
  unfold F_X11_pull
  try rw [t_cv w ta0 rfl]
  refine jok_b (S_X11_requireRing hn hg w ta0) (fun q2_1 wq2_1 => ?_)
  obtain ⟨wq2_1, pq2_1⟩ := wq2_1
  refine jok_t pq2_1 (fun k9 q9 => ⟨Γ, jle_rfl, ⟨wq2_1, jX_r (jsub9 q9 (by decide))⟩⟩) (fun r2_2 pr2_2 => ?_)
  have pr2_2_9 := pr2_2
  try dsimp only at pr2_2_9
  try rw [t_cv wq2_1 ta0 rfl]
  refine jok_b (S_X11_requireNumber hn hg wq2_1 ta0) (fun q10_3 wq10_3 => ?_)
  obtain ⟨wq10_3, pq10_3⟩ := wq10_3
  refine jok_t pq10_3 (fun k9 q9 => ⟨Γ, jle_rfl, ⟨wq10_3, jX_r (jsub9 q9 (by decide))⟩⟩) (fun r10_4 pr10_4 => ?_)
  have f5 : ((1 : Int32)).toInt = 1 := rfl
  have f6 : ((31 : Int32)).toInt = 31 := rfl
  have pr10_4_9 := pr10_4
  try dsimp only at pr10_4_9
  refine jok_b (t_gR wq10_3 ta0 rfl rfl) (fun p14_7 tp14_7 => ?_)
  refine jok_b (t_gR wq10_3 ta0 rfl rfl) (fun p18_8 tp18_8 => ?_)
  try rw [t_cv wq10_3 tp14_7 rfl]
  refine jok_b (S_X0_remember hn hg wq10_3 tp14_7 tp18_8) (fun h21_9 wh21_9 => ?_)
  obtain ⟨Γ10, leh21_9, wh21_9⟩ := wh21_9
  replace ta0 := leh21_9.1 _ _ ta0
  replace tp14_7 := leh21_9.1 _ _ tp14_7
  replace tp18_8 := leh21_9.1 _ _ tp18_8
  refine jok_b (t_gR wh21_9 ta0 rfl rfl) (fun p25_11 tp25_11 => ?_)
  try rw [t_cv wh21_9 tp25_11 rfl]
  refine jok_b (S_X8_move hn hg wh21_9 tp25_11 (by omega) (by omega) (by omega) (by omega)) (fun q31_12 wq31_12 => ?_)
  obtain ⟨wq31_12, pq31_12⟩ := wq31_12
  obtain ⟨lq31_12, uq31_12⟩ := pq31_12
  refine jok_b (t_gR wq31_12 ta0 rfl rfl) (fun p37_13 tp37_13 => ?_)
  refine jok_b (t_gR wq31_12 tp37_13 rfl rfl) (fun p40_14 tp40_14 => ?_)
  refine jok_b (t_gR wq31_12 ta0 rfl rfl) (fun p44_15 tp44_15 => ?_)
  try rw [t_cv wq31_12 tp40_14 rfl]
  refine jok_b (S_X5_add hn hg wq31_12 tp40_14 tp44_15 (by omega) (by omega)) (fun h51_16 wh51_16 => ?_)
  exact jok_s ⟨Γ10, leh21_9, ⟨wh51_16, jX_l trivial⟩⟩
set_option maxHeartbeats 1000000 in
theorem S_X11_free {g : jGh} {Γ : Nat → Option Nat} {n : Nat} {a0 : Nat} {x1 : Int32} {h : jH} (hn : 6000 ≤ n) (hg : jgok g) (w : jW (jKd g) Γ h) (ta0 : Γ a0 = some 19) : jok (F_X11_free n a0 x1 h) (fun q => ∃ Γ2, jle Γ Γ2 ∧ jW (jKd g) Γ2 q.2 ∧ jXok [2, 1] (fun v => True) q.1) := by
  unfold F_X11_free
  try rw [t_cv w ta0 rfl]
  refine jok_b (S_X11_requireRing hn hg w ta0) (fun q2_1 wq2_1 => ?_)
  obtain ⟨wq2_1, pq2_1⟩ := wq2_1
  refine jok_t pq2_1 (fun k9 q9 => ⟨Γ, jle_rfl, ⟨wq2_1, jX_r (jsub9 q9 (by decide))⟩⟩) (fun r2_2 pr2_2 => ?_)
  have pr2_2_9 := pr2_2
  try dsimp only at pr2_2_9
  refine jok_b (t_gR wq2_1 ta0 rfl rfl) (fun p6_3 tp6_3 => ?_)
  refine jok_b2 (t_gI wq2_1 tp6_3 rfl rfl) (fun v9_4 ev9_4 pv9_4 => ?_)
  refine jok_b (S_X11_bit hn hg wq2_1) (fun v13_5 pv13_5 => ?_)
  obtain ⟨lv13_5, uv13_5⟩ := pv13_5
  have f6 : ((0 : Int32)).toInt = 0 := rfl
  refine jok_eq (fun c7 d7 => ?_) (fun c7 => ?_)
  · exact jok_s ⟨Γ, jle_rfl, ⟨wq2_1, jX_r (by decide)⟩⟩
  · refine jok_b (t_gR wq2_1 ta0 rfl rfl) (fun p30_8 tp30_8 => ?_)
    refine jok_b (t_gR wq2_1 ta0 rfl rfl) (fun p34_9 tp34_9 => ?_)
    try rw [t_cv wq2_1 tp30_8 rfl]
    refine jok_b (S_X0_remember hn hg wq2_1 tp30_8 tp34_9) (fun h37_10 wh37_10 => ?_)
    obtain ⟨Γ11, leh37_10, wh37_10⟩ := wh37_10
    replace ta0 := leh37_10.1 _ _ ta0
    replace tp6_3 := leh37_10.1 _ _ tp6_3
    replace tp30_8 := leh37_10.1 _ _ tp30_8
    replace tp34_9 := leh37_10.1 _ _ tp34_9
    refine jok_b (t_gR wh37_10 ta0 rfl rfl) (fun p41_12 tp41_12 => ?_)
    refine jok_b (t_gR wh37_10 ta0 rfl rfl) (fun p45_13 tp45_13 => ?_)
    refine jok_b2 (t_gI wh37_10 tp45_13 rfl rfl) (fun v48_14 ev48_14 pv48_14 => ?_)
    refine jok_b (S_X11_withBit hn hg wh37_10) (fun v53_15 pv53_15 => ?_)
    refine jok_b (t_pI wh37_10 tp41_12 rfl rfl trivial) (fun h56_16 wh56_16 => ?_)
    obtain ⟨wh56_16, jh56_16, rh56_16⟩ := wh56_16
    refine jok_b (t_gR wh56_16 ta0 rfl rfl) (fun p60_17 tp60_17 => ?_)
    try rw [t_cv wh56_16 tp60_17 rfl]
    refine jok_b (S_X8_gap hn hg wh56_16 tp60_17) (fun v65_18 pv65_18 => ?_)
    exact jok_s ⟨Γ11, leh37_10, ⟨wh56_16, jX_l trivial⟩⟩
set_option maxHeartbeats 1000000 in
theorem S_X11_snag {g : jGh} {Γ : Nat → Option Nat} {n : Nat} {a0 : Nat} {x1 : Int32} {h : jH} (hn : 6000 ≤ n) (hg : jgok g) (w : jW (jKd g) Γ h) (ta0 : Γ a0 = some 19) : jok (F_X11_snag n a0 x1 h) (fun q => ∃ Γ2, jle Γ Γ2 ∧ jW (jKd g) Γ2 q.2 ∧ jXok [2, 1] (fun v => True) q.1) := by
  unfold F_X11_snag
  try rw [t_cv w ta0 rfl]
  refine jok_b (S_X11_requireRing hn hg w ta0) (fun q2_1 wq2_1 => ?_)
  obtain ⟨wq2_1, pq2_1⟩ := wq2_1
  refine jok_t pq2_1 (fun k9 q9 => ⟨Γ, jle_rfl, ⟨wq2_1, jX_r (jsub9 q9 (by decide))⟩⟩) (fun r2_2 pr2_2 => ?_)
  have pr2_2_9 := pr2_2
  try dsimp only at pr2_2_9
  refine jok_b (t_gR wq2_1 ta0 rfl rfl) (fun p7_3 tp7_3 => ?_)
  refine jok_b2 (t_gI wq2_1 tp7_3 rfl rfl) (fun v10_4 ev10_4 pv10_4 => ?_)
  obtain ⟨lv10_4, uv10_4⟩ := pv10_4
  have f5 : ((1 : Int32)).toInt = 1 := rfl
  have f6 : ((v10_4 - (1 : Int32))).toInt = (v10_4).toInt - ((1 : Int32)).toInt := jsub (by omega) (by omega)
  refine jok_eq (fun c7 d7 => ?_) (fun c7 => ?_)
  · exact jok_s ⟨Γ, jle_rfl, ⟨wq2_1, jX_r (by decide)⟩⟩
  · refine jok_b (t_gR wq2_1 ta0 rfl rfl) (fun p19_8 tp19_8 => ?_)
    refine jok_b2 (t_gI wq2_1 tp19_8 rfl rfl) (fun v22_9 ev22_9 pv22_9 => ?_)
    refine jok_b (S_X11_bit hn hg wq2_1) (fun v26_10 pv26_10 => ?_)
    obtain ⟨lv26_10, uv26_10⟩ := pv26_10
    refine jok_eq (fun c11 d11 => ?_) (fun c11 => ?_)
    · exact jok_s ⟨Γ, jle_rfl, ⟨wq2_1, jX_r (by decide)⟩⟩
    · refine jok_b (t_gR wq2_1 ta0 rfl rfl) (fun p44_12 tp44_12 => ?_)
      refine jok_b (t_gR wq2_1 ta0 rfl rfl) (fun p48_13 tp48_13 => ?_)
      try rw [t_cv wq2_1 tp44_12 rfl]
      refine jok_b (S_X0_remember hn hg wq2_1 tp44_12 tp48_13) (fun h51_14 wh51_14 => ?_)
      obtain ⟨Γ15, leh51_14, wh51_14⟩ := wh51_14
      replace ta0 := leh51_14.1 _ _ ta0
      replace tp7_3 := leh51_14.1 _ _ tp7_3
      replace tp19_8 := leh51_14.1 _ _ tp19_8
      replace tp44_12 := leh51_14.1 _ _ tp44_12
      replace tp48_13 := leh51_14.1 _ _ tp48_13
      refine jok_b (t_gR wh51_14 ta0 rfl rfl) (fun p55_16 tp55_16 => ?_)
      refine jok_b (t_gR wh51_14 ta0 rfl rfl) (fun p59_17 tp59_17 => ?_)
      refine jok_b2 (t_gI wh51_14 tp59_17 rfl rfl) (fun v62_18 ev62_18 pv62_18 => ?_)
      refine jok_b (S_X11_withBit hn hg wh51_14) (fun v67_19 pv67_19 => ?_)
      refine jok_b (t_pI wh51_14 tp55_16 rfl rfl trivial) (fun h70_20 wh70_20 => ?_)
      obtain ⟨wh70_20, jh70_20, rh70_20⟩ := wh70_20
      refine jok_b (t_gR wh70_20 ta0 rfl rfl) (fun p74_21 tp74_21 => ?_)
      try rw [t_cv wh70_20 tp74_21 rfl]
      refine jok_b (S_X8_gap hn hg wh70_20 tp74_21) (fun v79_22 pv79_22 => ?_)
      exact jok_s ⟨Γ15, leh51_14, ⟨wh70_20, jX_l trivial⟩⟩
set_option maxHeartbeats 1000000 in
theorem S_X11_hook {g : jGh} {Γ : Nat → Option Nat} {n : Nat} {a0 : Nat} {x1 : Int32} {x2 : Int32} {h : jH} (hn : 6000 ≤ n) (hg : jgok g) (w : jW (jKd g) Γ h) (ta0 : Γ a0 = some 19) : jok (F_X11_hook n a0 x1 x2 h) (fun q => ∃ Γ2, jle Γ Γ2 ∧ jW (jKd g) Γ2 q.2 ∧ jXok [2] (fun v => 0 ≤ v.toInt ∧ v.toInt ≤ 1) q.1) := by
  unfold F_X11_hook
  try rw [t_cv w ta0 rfl]
  refine jok_b (S_X11_requireRing hn hg w ta0) (fun q2_1 wq2_1 => ?_)
  obtain ⟨wq2_1, pq2_1⟩ := wq2_1
  refine jok_t pq2_1 (fun k9 q9 => ⟨Γ, jle_rfl, ⟨wq2_1, jX_r (jsub9 q9 (by decide))⟩⟩) (fun r2_2 pr2_2 => ?_)
  have pr2_2_9 := pr2_2
  try dsimp only at pr2_2_9
  refine jok_b (t_gR wq2_1 ta0 rfl rfl) (fun p6_3 tp6_3 => ?_)
  refine jok_b (t_gR wq2_1 ta0 rfl rfl) (fun p10_4 tp10_4 => ?_)
  try rw [t_cv wq2_1 tp6_3 rfl]
  refine jok_b (S_X0_remember hn hg wq2_1 tp6_3 tp10_4) (fun h13_5 wh13_5 => ?_)
  obtain ⟨Γ6, leh13_5, wh13_5⟩ := wh13_5
  replace ta0 := leh13_5.1 _ _ ta0
  replace tp6_3 := leh13_5.1 _ _ tp6_3
  replace tp10_4 := leh13_5.1 _ _ tp10_4
  refine jok_b (t_gR wh13_5 ta0 rfl rfl) (fun p17_7 tp17_7 => ?_)
  refine jok_b2 (t_gI wh13_5 tp17_7 rfl rfl) (fun v20_8 ev20_8 pv20_8 => ?_)
  refine jok_b (t_gR wh13_5 ta0 rfl rfl) (fun p25_9 tp25_9 => ?_)
  refine jok_b (S_X11_withBit hn hg wh13_5) (fun v31_10 pv31_10 => ?_)
  refine jok_b (t_pI wh13_5 tp25_9 rfl rfl trivial) (fun h34_11 wh34_11 => ?_)
  obtain ⟨wh34_11, jh34_11, rh34_11⟩ := wh34_11
  refine jok_b (t_gR wh34_11 ta0 rfl rfl) (fun p38_12 tp38_12 => ?_)
  refine jok_b2 (t_gI wh34_11 tp38_12 rfl rfl) (fun v41_13 ev41_13 pv41_13 => ?_)
  refine jok_eq (fun c14 d14 => ?_) (fun c14 => ?_)
  · have f15 : ((0 : Int32)).toInt = 0 := rfl
    exact jok_s ⟨Γ6, leh13_5, ⟨wh34_11, jX_l (show jI 0 1 (0 : Int32) from ⟨by omega, by omega⟩)⟩⟩
  · have f16 : ((1 : Int32)).toInt = 1 := rfl
    exact jok_s ⟨Γ6, leh13_5, ⟨wh34_11, jX_l (show jI 0 1 (1 : Int32) from ⟨by omega, by omega⟩)⟩⟩
set_option maxHeartbeats 1000000 in
theorem S_X11_sew {g : jGh} {Γ : Nat → Option Nat} {n : Nat} {a0 : Nat} {x1 : Int32} {x2 : Int32} {h : jH} (hn : 6000 ≤ n) (hg : jgok g) (w : jW (jKd g) Γ h) (ta0 : Γ a0 = some 19) : jok (F_X11_sew n a0 x1 x2 h) (fun q => ∃ Γ2, jle Γ Γ2 ∧ jW (jKd g) Γ2 q.2 ∧ jXok [2, 0, 1] (fun v => True) q.1) := by
  unfold F_X11_sew
  try rw [t_cv w ta0 rfl]
  refine jok_b (S_X11_requirePlace hn hg w ta0) (fun q2_1 wq2_1 => ?_)
  obtain ⟨wq2_1, pq2_1⟩ := wq2_1
  refine jok_t pq2_1 (fun k9 q9 => ⟨Γ, jle_rfl, ⟨wq2_1, jX_r (jsub9 q9 (by decide))⟩⟩) (fun r2_2 pr2_2 => ?_)
  try rw [t_cv wq2_1 ta0 rfl]
  refine jok_b (S_X11_requireNumber hn hg wq2_1 ta0) (fun q10_3 wq10_3 => ?_)
  obtain ⟨wq10_3, pq10_3⟩ := wq10_3
  refine jok_t pq10_3 (fun k9 q9 => ⟨Γ, jle_rfl, ⟨wq10_3, jX_r (jsub9 q9 (by decide))⟩⟩) (fun r10_4 pr10_4 => ?_)
  have f5 : ((1 : Int32)).toInt = 1 := rfl
  have f6 : ((9 : Int32)).toInt = 9 := rfl
  have pr10_4_9 := pr10_4
  try dsimp only at pr10_4_9
  refine jok_b (t_gR wq10_3 ta0 rfl rfl) (fun p14_7 tp14_7 => ?_)
  refine jok_b2 (t_gI wq10_3 tp14_7 rfl rfl) (fun v17_8 ev17_8 pv17_8 => ?_)
  obtain ⟨lv17_8, uv17_8⟩ := pv17_8
  have f9 : ((8 : Int32)).toInt = 8 := rfl
  refine jok_le (fun c10 => ?_) (fun c10 => ?_)
  · exact jok_s ⟨Γ, jle_rfl, ⟨wq10_3, jX_r (by decide)⟩⟩
  · refine jok_b (t_gR wq10_3 ta0 rfl rfl) (fun p27_11 tp27_11 => ?_)
    try rw [t_cv wq10_3 tp27_11 rfl]
    refine jok_b (S_X8_nearestNew hn hg wq10_3 tp27_11) (fun v30_12 pv30_12 => ?_)
    refine jok_lt (fun c13 => ?_) (fun c13 => ?_)
    · exact jok_s ⟨Γ, jle_rfl, ⟨wq10_3, jX_r (by decide)⟩⟩
    · refine jok_b (t_gR wq10_3 ta0 rfl rfl) (fun p38_14 tp38_14 => ?_)
      try rw [t_cv wq10_3 tp38_14 rfl]
      refine jok_b (S_X8_farthestNew hn hg wq10_3 tp38_14) (fun v41_15 pv41_15 => ?_)
      refine jok_le (fun c16 => ?_) (fun c16 => ?_)
      · refine jok_b (t_gR wq10_3 ta0 rfl rfl) (fun p58_17 tp58_17 => ?_)
        refine jok_b (t_gR wq10_3 ta0 rfl rfl) (fun p62_18 tp62_18 => ?_)
        try rw [t_cv wq10_3 tp58_17 rfl]
        refine jok_b (S_X0_remember hn hg wq10_3 tp58_17 tp62_18) (fun h65_19 wh65_19 => ?_)
        obtain ⟨Γ20, leh65_19, wh65_19⟩ := wh65_19
        replace ta0 := leh65_19.1 _ _ ta0
        replace tp14_7 := leh65_19.1 _ _ tp14_7
        replace tp27_11 := leh65_19.1 _ _ tp27_11
        replace tp38_14 := leh65_19.1 _ _ tp38_14
        replace tp58_17 := leh65_19.1 _ _ tp58_17
        replace tp62_18 := leh65_19.1 _ _ tp62_18
        refine jok_b (t_gR wh65_19 ta0 rfl rfl) (fun p69_21 tp69_21 => ?_)
        try rw [t_cv wh65_19 tp69_21 rfl]
        refine jok_b (S_X8_add hn hg wh65_19 tp69_21) (fun h74_22 wh74_22 => ?_)
        refine jok_b (t_gR wh74_22 ta0 rfl rfl) (fun p78_23 tp78_23 => ?_)
        refine jok_b2 (t_gI wh74_22 tp78_23 rfl rfl) (fun v81_24 ev81_24 pv81_24 => ?_)
        obtain ⟨lv81_24, uv81_24⟩ := pv81_24
        exact jok_s ⟨Γ20, leh65_19, ⟨wh74_22, jX_l trivial⟩⟩
      · exact jok_s ⟨Γ, jle_rfl, ⟨wq10_3, jX_r (by decide)⟩⟩
set_option maxHeartbeats 1000000 in
theorem S_X11_let {g : jGh} {Γ : Nat → Option Nat} {n : Nat} {a0 : Nat} {x1 : Int32} {x2 : Int32} {h : jH} (hn : 6000 ≤ n) (hg : jgok g) (w : jW (jKd g) Γ h) (ta0 : Γ a0 = some 19) : jok (F_X11_let n a0 x1 x2 h) (fun q => ∃ Γ2, jle Γ Γ2 ∧ jW (jKd g) Γ2 q.2 ∧ jXok [2, 0] (fun v => True) q.1) := by
  unfold F_X11_let
  try rw [t_cv w ta0 rfl]
  refine jok_b (S_X11_requireRing hn hg w ta0) (fun q2_1 wq2_1 => ?_)
  obtain ⟨wq2_1, pq2_1⟩ := wq2_1
  refine jok_t pq2_1 (fun k9 q9 => ⟨Γ, jle_rfl, ⟨wq2_1, jX_r (jsub9 q9 (by decide))⟩⟩) (fun r2_2 pr2_2 => ?_)
  have pr2_2_9 := pr2_2
  try dsimp only at pr2_2_9
  try rw [t_cv wq2_1 ta0 rfl]
  refine jok_b (S_X11_requireNumber hn hg wq2_1 ta0) (fun q10_3 wq10_3 => ?_)
  obtain ⟨wq10_3, pq10_3⟩ := wq10_3
  refine jok_t pq10_3 (fun k9 q9 => ⟨Γ, jle_rfl, ⟨wq10_3, jX_r (jsub9 q9 (by decide))⟩⟩) (fun r10_4 pr10_4 => ?_)
  have f5 : ((0 : Int32)).toInt = 0 := rfl
  have f6 : ((9 : Int32)).toInt = 9 := rfl
  have pr10_4_9 := pr10_4
  try dsimp only at pr10_4_9
  refine jok_b (t_gR wq10_3 ta0 rfl rfl) (fun p14_7 tp14_7 => ?_)
  refine jok_b (t_gR wq10_3 ta0 rfl rfl) (fun p18_8 tp18_8 => ?_)
  try rw [t_cv wq10_3 tp14_7 rfl]
  refine jok_b (S_X0_remember hn hg wq10_3 tp14_7 tp18_8) (fun h21_9 wh21_9 => ?_)
  obtain ⟨Γ10, leh21_9, wh21_9⟩ := wh21_9
  replace ta0 := leh21_9.1 _ _ ta0
  replace tp14_7 := leh21_9.1 _ _ tp14_7
  replace tp18_8 := leh21_9.1 _ _ tp18_8
  refine jok_b (t_gR wh21_9 ta0 rfl rfl) (fun p25_11 tp25_11 => ?_)
  refine jok_b (t_gR wh21_9 tp25_11 rfl rfl) (fun p28_12 tp28_12 => ?_)
  refine jok_b (t_al wh21_9 tp28_12 rfl (by omega) (by omega)) (fun v32_13 pv32_13 => ?_)
  refine jok_b (t_gR wh21_9 ta0 rfl rfl) (fun p35_14 tp35_14 => ?_)
  refine jok_b (t_gR wh21_9 tp35_14 rfl rfl) (fun p38_15 tp38_15 => ?_)
  refine jok_b (t_as wh21_9 tp38_15 rfl (by omega) (by omega) trivial (fun q => by cases q)) (fun h43_16 wh43_16 => ?_)
  obtain ⟨wh43_16, rh43_16⟩ := wh43_16
  exact jok_s ⟨Γ10, leh21_9, ⟨wh43_16, jX_l trivial⟩⟩
set_option maxHeartbeats 1000000 in
theorem S_X11_chair {g : jGh} {Γ : Nat → Option Nat} {n : Nat} {a0 : Nat} {x1 : Int32} {x2 : Int32} {h : jH} (hn : 6000 ≤ n) (hg : jgok g) (w : jW (jKd g) Γ h) (ta0 : Γ a0 = some 19) : jok (F_X11_chair n a0 x1 x2 h) (fun q => ∃ Γ2, jle Γ Γ2 ∧ jW (jKd g) Γ2 q.2 ∧ jXok [2] (fun v => 0 ≤ v.toInt ∧ v.toInt ≤ 1) q.1) := by
  unfold F_X11_chair
  try rw [t_cv w ta0 rfl]
  refine jok_b (S_X11_requirePlace hn hg w ta0) (fun q2_1 wq2_1 => ?_)
  obtain ⟨wq2_1, pq2_1⟩ := wq2_1
  refine jok_t pq2_1 (fun k9 q9 => ⟨Γ, jle_rfl, ⟨wq2_1, jX_r (jsub9 q9 (by decide))⟩⟩) (fun r2_2 pr2_2 => ?_)
  refine jok_b (t_gR wq2_1 ta0 rfl rfl) (fun p6_3 tp6_3 => ?_)
  refine jok_b (t_gR wq2_1 ta0 rfl rfl) (fun p10_4 tp10_4 => ?_)
  try rw [t_cv wq2_1 tp6_3 rfl]
  refine jok_b (S_X0_remember hn hg wq2_1 tp6_3 tp10_4) (fun h13_5 wh13_5 => ?_)
  obtain ⟨Γ6, leh13_5, wh13_5⟩ := wh13_5
  replace ta0 := leh13_5.1 _ _ ta0
  replace tp6_3 := leh13_5.1 _ _ tp6_3
  replace tp10_4 := leh13_5.1 _ _ tp10_4
  refine jok_b (t_gR wh13_5 ta0 rfl rfl) (fun p17_7 tp17_7 => ?_)
  refine jok_b2 (t_gI wh13_5 tp17_7 rfl rfl) (fun v20_8 ev20_8 pv20_8 => ?_)
  refine jok_b (t_gR wh13_5 ta0 rfl rfl) (fun p25_9 tp25_9 => ?_)
  refine jok_b (S_X11_withBit hn hg wh13_5) (fun v31_10 pv31_10 => ?_)
  refine jok_b (t_pI wh13_5 tp25_9 rfl rfl trivial) (fun h34_11 wh34_11 => ?_)
  obtain ⟨wh34_11, jh34_11, rh34_11⟩ := wh34_11
  refine jok_b (t_gR wh34_11 ta0 rfl rfl) (fun p38_12 tp38_12 => ?_)
  refine jok_b2 (t_gI wh34_11 tp38_12 rfl rfl) (fun v41_13 ev41_13 pv41_13 => ?_)
  refine jok_eq (fun c14 d14 => ?_) (fun c14 => ?_)
  · have f15 : ((0 : Int32)).toInt = 0 := rfl
    exact jok_s ⟨Γ6, leh13_5, ⟨wh34_11, jX_l (show jI 0 1 (0 : Int32) from ⟨by omega, by omega⟩)⟩⟩
  · have f16 : ((1 : Int32)).toInt = 1 := rfl
    exact jok_s ⟨Γ6, leh13_5, ⟨wh34_11, jX_l (show jI 0 1 (1 : Int32) from ⟨by omega, by omega⟩)⟩⟩
set_option maxHeartbeats 1000000 in
theorem S_X11_hours {g : jGh} {Γ : Nat → Option Nat} {n : Nat} {a0 : Nat} {x1 : Int32} {h : jH} (hn : 6000 ≤ n) (hg : jgok g) (w : jW (jKd g) Γ h) (ta0 : Γ a0 = some 19) : jok (F_X11_hours n a0 x1 h) (fun q => ∃ Γ2, jle Γ Γ2 ∧ jW (jKd g) Γ2 q.2 ∧ jXok [0] (fun v => True) q.1) := by
  unfold F_X11_hours
  try rw [t_cv w ta0 rfl]
  refine jok_b (S_X11_requireNumber hn hg w ta0) (fun q5_1 wq5_1 => ?_)
  obtain ⟨wq5_1, pq5_1⟩ := wq5_1
  refine jok_t pq5_1 (fun k9 q9 => ⟨Γ, jle_rfl, ⟨wq5_1, jX_r (jsub9 q9 (by decide))⟩⟩) (fun r5_2 pr5_2 => ?_)
  have f3 : ((1 : Int32)).toInt = 1 := rfl
  have f4 : ((80 : Int32)).toInt = 80 := rfl
  have pr5_2_9 := pr5_2
  try dsimp only at pr5_2_9
  refine jok_b (t_gR wq5_1 ta0 rfl rfl) (fun p9_5 tp9_5 => ?_)
  refine jok_b (t_gR wq5_1 ta0 rfl rfl) (fun p13_6 tp13_6 => ?_)
  try rw [t_cv wq5_1 tp9_5 rfl]
  refine jok_b (S_X0_remember hn hg wq5_1 tp9_5 tp13_6) (fun h16_7 wh16_7 => ?_)
  obtain ⟨Γ8, leh16_7, wh16_7⟩ := wh16_7
  replace ta0 := leh16_7.1 _ _ ta0
  replace tp9_5 := leh16_7.1 _ _ tp9_5
  replace tp13_6 := leh16_7.1 _ _ tp13_6
  refine jok_b (t_gR wh16_7 ta0 rfl rfl) (fun p20_9 tp20_9 => ?_)
  refine jok_b (t_gR wh16_7 ta0 rfl rfl) (fun p24_10 tp24_10 => ?_)
  try rw [t_cv wh16_7 tp20_9 rfl]
  refine jok_b (S_X1_run hn hg wh16_7 tp20_9 tp24_10 (by omega) (by omega)) (fun q28_11 wq28_11 => ?_)
  obtain ⟨wq28_11, pq28_11⟩ := wq28_11
  exact jok_s ⟨Γ8, leh16_7, ⟨wq28_11, jX_l trivial⟩⟩
end
