section
set_option maxHeartbeats 1000000 in
theorem S_X11_span_13 {g : jGh} {Γ : Nat → Option Nat} {n : Nat} (hn : 6000 ≤ n) (hg : jgok g)  (k : Nat) : ∀ {a0 : Nat} {x1 : Int32} {x2 : Int32} {x3 : Int32} {x4 : Int32} {h : jH}, jW (jKd g) Γ h → (Γ a0 = some 19) → (0 ≤ x1.toInt) → (x1.toInt ≤ 80) → (0 ≤ x4.toInt) → (x4.toInt ≤ 7) → (7 : Int) - x4.toInt < (k : Int) → jok (F_X11_span_13 n k a0 x1 x2 x3 x4 h) (fun q => jW (jKd g) Γ q.2 ∧ jXok [0] (fun v => True) q.1) := by
  induction k with
  | zero =>
    intro a0 x1 x2 x3 x4 h w ta0 lx1 ux1 lx4 ux4 mk
    omega
  | succ k ih =>
    intro a0 x1 x2 x3 x4 h w ta0 lx1 ux1 lx4 ux4 mk
    show jok (F_X11_span_13_b n (F_X11_span_13 n k) a0 x1 x2 x3 x4 h) _
    unfold F_X11_span_13_b
    have f1 : ((6 : Int32)).toInt = 6 := rfl
    refine jok_lt (fun c2 => ?_) (fun c2 => ?_)
    · exact jok_s ⟨w, jX_l trivial⟩
    · refine jok_b (t_gR w ta0 rfl rfl) (fun p21_3 tp21_3 => ?_)
      refine jok_b (t_gR w ta0 rfl rfl) (fun p25_4 tp25_4 => ?_)
      try rw [t_cv w tp21_3 rfl]
      refine jok_b (S_X1_tryHours hn hg w tp21_3 tp25_4 (by omega) (by omega)) (fun h31_5 wh31_5 => ?_)
      refine jok_b (t_gR wh31_5 ta0 rfl rfl) (fun p35_6 tp35_6 => ?_)
      refine jok_b2 (t_gI wh31_5 tp35_6 rfl rfl) (fun v38_7 ev38_7 pv38_7 => ?_)
      refine jok_b (S_J6_bitCount_0f7a4 hn hg wh31_5) (fun v41_8 pv41_8 => ?_)
      refine jok_b (t_gR wh31_5 ta0 rfl rfl) (fun p45_9 tp45_9 => ?_)
      try rw [t_cv wh31_5 tp45_9 rfl]
      refine jok_b (S_X8_unhooked hn hg wh31_5 tp45_9) (fun v48_10 pv48_10 => ?_)
      refine jok_b (S_J6_bitCount_0f7a4 hn hg wh31_5) (fun v51_11 pv51_11 => ?_)
      have f12 : ((-1 : Int32)).toInt = -1 := rfl
      refine jok_eq (fun c13 d13 => ?_) (fun c13 => ?_)
      · have f14 : ((1 : Int32)).toInt = 1 := rfl
        have f15 : ((x4 + (1 : Int32))).toInt = (x4).toInt + ((1 : Int32)).toInt := jadd (by omega) (by omega)
        exact ih wh31_5 ta0 (by omega) (by omega) (by omega) (by omega) (by omega)
      · have f16 : ((0 : Int32)).toInt = 0 := rfl
        refine jok_eq (fun c17 d17 => ?_) (fun c17 => ?_)
        · refine jok_le (fun c18 => ?_) (fun c18 => ?_)
          · have f19 : ((1 : Int32)).toInt = 1 := rfl
            have f20 : ((x4 + (1 : Int32))).toInt = (x4).toInt + ((1 : Int32)).toInt := jadd (by omega) (by omega)
            exact ih wh31_5 ta0 (by omega) (by omega) (by omega) (by omega) (by omega)
          · have f21 : ((1 : Int32)).toInt = 1 := rfl
            have f22 : ((x4 + (1 : Int32))).toInt = (x4).toInt + ((1 : Int32)).toInt := jadd (by omega) (by omega)
            exact ih wh31_5 ta0 (by omega) (by omega) (by omega) (by omega) (by omega)
        · refine jok_le (fun c23 => ?_) (fun c23 => ?_)
          · have f24 : ((1 : Int32)).toInt = 1 := rfl
            have f25 : ((x4 + (1 : Int32))).toInt = (x4).toInt + ((1 : Int32)).toInt := jadd (by omega) (by omega)
            exact ih wh31_5 ta0 (by omega) (by omega) (by omega) (by omega) (by omega)
          · have f26 : ((1 : Int32)).toInt = 1 := rfl
            have f27 : ((x4 + (1 : Int32))).toInt = (x4).toInt + ((1 : Int32)).toInt := jadd (by omega) (by omega)
            exact ih wh31_5 ta0 (by omega) (by omega) (by omega) (by omega) (by omega)
set_option maxHeartbeats 1000000 in
theorem S_X11_span {g : jGh} {Γ : Nat → Option Nat} {n : Nat} {a0 : Nat} {x1 : Int32} {x2 : Int32} {h : jH} (hn : 6000 ≤ n) (hg : jgok g) (w : jW (jKd g) Γ h) (ta0 : Γ a0 = some 19) : jok (F_X11_span n a0 x1 x2 h) (fun q => jW (jKd g) Γ q.2 ∧ jXok [0] (fun v => True) q.1) := by
  unfold F_X11_span
  try rw [t_cv w ta0 rfl]
  refine jok_b (S_X11_requireNumber hn hg w ta0) (fun q5_1 wq5_1 => ?_)
  obtain ⟨wq5_1, pq5_1⟩ := wq5_1
  refine jok_t pq5_1 (fun k9 q9 => ⟨wq5_1, jX_r (jsub9 q9 (by decide))⟩) (fun r5_2 pr5_2 => ?_)
  have f3 : ((0 : Int32)).toInt = 0 := rfl
  have f4 : ((80 : Int32)).toInt = 80 := rfl
  have pr5_2_9 := pr5_2
  try dsimp only at pr5_2_9
  have f5 : ((1 : Int32)).toInt = 1 := rfl
  exact S_X11_span_13 hn hg  n wq5_1 ta0 (by omega) (by omega) (by omega) (by omega) (by omega)
set_option maxHeartbeats 1000000 in
theorem S_X11_led {g : jGh} {Γ : Nat → Option Nat} {n : Nat} {a0 : Nat} {x1 : Int32} {x2 : Int32} {h : jH} (hn : 6000 ≤ n) (hg : jgok g) (w : jW (jKd g) Γ h) (ta0 : Γ a0 = some 19) : jok (F_X11_led n a0 x1 x2 h) (fun q => jW (jKd g) Γ q.2 ∧ jXok [2] (fun v => True) q.1) := by
  unfold F_X11_led
  try rw [t_cv w ta0 rfl]
  refine jok_b (S_X11_requireRing hn hg w ta0) (fun q2_1 wq2_1 => ?_)
  obtain ⟨wq2_1, pq2_1⟩ := wq2_1
  refine jok_t pq2_1 (fun k9 q9 => ⟨wq2_1, jX_r (jsub9 q9 (by decide))⟩) (fun r2_2 pr2_2 => ?_)
  have pr2_2_9 := pr2_2
  try dsimp only at pr2_2_9
  have f3 : ((0 : Int32)).toInt = 0 := rfl
  refine jok_eq (fun c4 d4 => ?_) (fun c4 => ?_)
  · refine jok_b (t_gR wq2_1 ta0 rfl rfl) (fun p24_5 tp24_5 => ?_)
    refine jok_b (t_gR wq2_1 tp24_5 rfl rfl) (fun p27_6 tp27_6 => ?_)
    try rw [t_cv wq2_1 tp27_6 rfl]
    refine jok_b (S_X5_rowsOf hn hg wq2_1 tp27_6) (fun v31_7 pv31_7 => ?_)
    exact jok_s ⟨wq2_1, jX_l trivial⟩
  · refine jok_b (t_gR wq2_1 ta0 rfl rfl) (fun p10_8 tp10_8 => ?_)
    refine jok_b (t_gR wq2_1 tp10_8 rfl rfl) (fun p13_9 tp13_9 => ?_)
    try rw [t_cv wq2_1 tp13_9 rfl]
    refine jok_b (S_X5_latestPlace hn hg wq2_1 tp13_9) (fun v17_10 pv17_10 => ?_)
    exact jok_s ⟨wq2_1, jX_l trivial⟩
set_option maxHeartbeats 1000000 in
theorem S_X11_log {g : jGh} {Γ : Nat → Option Nat} {n : Nat} {a0 : Nat} {x1 : Int32} {x2 : Int32} {h : jH} (hn : 6000 ≤ n) (hg : jgok g) (w : jW (jKd g) Γ h) (ta0 : Γ a0 = some 19) : jok (F_X11_log n a0 x1 x2 h) (fun q => jW (jKd g) Γ q.2 ∧ jXok [4] (fun v => True) q.1) := by
  unfold F_X11_log
  have f1 : ((0 : Int32)).toInt = 0 := rfl
  refine jok_lt (fun c2 => ?_) (fun c2 => ?_)
  · exact jok_s ⟨w, jX_r (by decide)⟩
  · have f3 : ((6 : Int32)).toInt = 6 := rfl
    refine jok_lt (fun c4 => ?_) (fun c4 => ?_)
    · refine jok_b (t_gR w ta0 rfl rfl) (fun p22_5 tp22_5 => ?_)
      refine jok_b (t_gR w tp22_5 rfl rfl) (fun p25_6 tp25_6 => ?_)
      try rw [t_cv w tp25_6 rfl]
      refine jok_b (S_X5_read hn hg w tp25_6) (fun v30_7 pv30_7 => ?_)
      exact jok_s ⟨w, jX_l trivial⟩
    · exact jok_s ⟨w, jX_r (by decide)⟩
set_option maxHeartbeats 1000000 in
theorem S_X0_forget {g : jGh} {Γ : Nat → Option Nat} {n : Nat} {a0 : Nat} {h : jH} (hn : 6000 ≤ n) (hg : jgok g) (w : jW (jKd g) Γ h) (ta0 : Γ a0 = some 12) : jok (F_X0_forget n a0 h) (fun q => jW (jKd g) Γ q) := by
  unfold F_X0_forget
  have f2 : ((0 : Int32)).toInt = 0 := rfl
  refine jok_b (t_pI w ta0 rfl rfl (show jI 0 12 (0 : Int32) from ⟨by omega, by omega⟩)) (fun h2_1 wh2_1 => ?_)
  obtain ⟨wh2_1, jh2_1, rh2_1⟩ := wh2_1
  exact jok_s wh2_1
set_option maxHeartbeats 1000000 in
theorem S_X11_pole {g : jGh} {Γ : Nat → Option Nat} {n : Nat} {a0 : Nat} {h : jH} (hn : 6000 ≤ n) (hg : jgok g) (w : jW (jKd g) Γ h) (ta0 : Γ a0 = some 19) (hu : ∀ a b, Γ a = some 10 → Γ b = some 10 → a = b) : jok (F_X11_pole n a0 h) (fun q => jW (jKd ((0 : Int32).toInt, g.2)) Γ q.2 ∧ jXok [0, 3] (fun v => True) q.1) := by
  unfold F_X11_pole
  refine jok_b (t_gR w ta0 rfl rfl) (fun p1_1 tp1_1 => ?_)
  refine jok_b (t_gR w ta0 rfl rfl) (fun p5_2 tp5_2 => ?_)
  try rw [t_cv w tp1_1 rfl]
  refine jok_b (S_X8_copyFrom hn hg w tp1_1 tp5_2) (fun h8_3 wh8_3 => ?_)
  refine jok_b (t_gR wh8_3 ta0 rfl rfl) (fun p13_4 tp13_4 => ?_)
  try rw [t_cv wh8_3 tp13_4 rfl]
  refine jok_b (S_X4_read_R hn hg wh8_3 tp13_4) (fun q16_5 wq16_5 => ?_)
  obtain ⟨wq16_5, pq16_5⟩ := wq16_5
  refine jok_b (t_pI wq16_5 ta0 rfl rfl trivial) (fun h19_6 wh19_6 => ?_)
  obtain ⟨wh19_6, jh19_6, rh19_6⟩ := wh19_6
  refine jok_b (t_gR wh19_6 ta0 rfl rfl) (fun p23_7 tp23_7 => ?_)
  have f9 : ((0 : Int32)).toInt = 0 := rfl
  refine jok_b (t_pL (x := (0 : Int32)) wh19_6 hu tp23_7) (fun h27_8 wh27_8 => ?_)
  obtain ⟨wh27_8, jh27_8, rh27_8⟩ := wh27_8
  have hgh27_8 : jgok (((0 : Int32)).toInt, g.2) := ⟨⟨by dsimp only; omega, by dsimp only; omega⟩, hg.2⟩
  refine jok_r (fI (rh27_8 _ _ _ (Or.inl (jneq ta0 tp23_7 (by decide)))) (fJ jh19_6)) ?_
  have f11 : ((-1 : Int32)).toInt = -1 := rfl
  refine jok_eq (fun c12 d12 => ?_) (fun c12 => ?_)
  · refine jok_b (t_gR wh27_8 ta0 rfl rfl) (fun p49_13 tp49_13 => ?_)
    refine jok_b2 (t_gI wh27_8 tp49_13 rfl rfl) (fun v52_14 ev52_14 pv52_14 => ?_)
    have f15 : ((12 : Int32)).toInt = 12 := rfl
    refine jok_lt (fun c16 => ?_) (fun c16 => ?_)
    · refine jok_b (t_gR wh27_8 ta0 rfl rfl) (fun p71_17 tp71_17 => ?_)
      refine jok_b2 (t_gI wh27_8 tp71_17 rfl rfl) (fun v75_18 ev75_18 pv75_18 => ?_)
      have f20 : ((1 : Int32)).toInt = 1 := rfl
      refine jok_b (t_pI wh27_8 tp71_17 rfl rfl trivial) (fun h80_19 wh80_19 => ?_)
      obtain ⟨wh80_19, jh80_19, rh80_19⟩ := wh80_19
      refine jok_b (t_gR wh80_19 ta0 rfl rfl) (fun p84_21 tp84_21 => ?_)
      refine jok_b (t_gR wh80_19 ta0 rfl rfl) (fun p88_22 tp88_22 => ?_)
      try rw [t_cv wh80_19 tp84_21 rfl]
      refine jok_b (S_X8_copyFrom hn hgh27_8 wh80_19 tp84_21 tp88_22) (fun h91_23 wh91_23 => ?_)
      refine jok_b (t_gR wh91_23 ta0 rfl rfl) (fun p95_24 tp95_24 => ?_)
      try rw [t_cv wh91_23 tp95_24 rfl]
      refine jok_b (S_X0_forget hn hgh27_8 wh91_23 tp95_24) (fun h98_25 wh98_25 => ?_)
      refine jok_b (t_gR wh98_25 ta0 rfl rfl) (fun p102_26 tp102_26 => ?_)
      refine jok_b2 (t_gI wh98_25 tp102_26 rfl rfl) (fun v105_27 ev105_27 pv105_27 => ?_)
      exact jok_s ⟨wh98_25, jX_l trivial⟩
    · exact jok_s ⟨wh27_8, jX_r (by decide)⟩
  · exact jok_s ⟨wh27_8, jX_r (by decide)⟩
set_option maxHeartbeats 1000000 in
theorem S_X11_law {g : jGh} {Γ : Nat → Option Nat} {n : Nat} {a0 : Nat} {h : jH} (hn : 6000 ≤ n) (hg : jgok g) (w : jW (jKd g) Γ h) (ta0 : Γ a0 = some 19) (hu : ∀ a b, Γ a = some 10 → Γ b = some 10 → a = b) : jok (F_X11_law n a0 h) (fun q => jW (jKd ((0 : Int32).toInt, g.2)) Γ q.2 ∧ jXok [0] (fun v => True) q.1) := by
  unfold F_X11_law
  refine jok_b (t_gR w ta0 rfl rfl) (fun p1_1 tp1_1 => ?_)
  try rw [t_cv w tp1_1 rfl]
  refine jok_b (S_X2_begin hn hg w tp1_1) (fun h4_2 wh4_2 => ?_)
  refine jok_b (t_gR wh4_2 ta0 rfl rfl) (fun p9_3 tp9_3 => ?_)
  try rw [t_cv wh4_2 tp9_3 rfl]
  refine jok_b (S_X4_read_L hn hg wh4_2 tp9_3) (fun q12_4 wq12_4 => ?_)
  obtain ⟨wq12_4, pq12_4⟩ := wq12_4
  refine jok_b (t_pI wq12_4 ta0 rfl rfl trivial) (fun h15_5 wh15_5 => ?_)
  obtain ⟨wh15_5, jh15_5, rh15_5⟩ := wh15_5
  refine jok_b (t_gR wh15_5 ta0 rfl rfl) (fun p19_6 tp19_6 => ?_)
  have f8 : ((0 : Int32)).toInt = 0 := rfl
  refine jok_b (t_pL (x := (0 : Int32)) wh15_5 hu tp19_6) (fun h23_7 wh23_7 => ?_)
  obtain ⟨wh23_7, jh23_7, rh23_7⟩ := wh23_7
  have hgh23_7 : jgok (((0 : Int32)).toInt, g.2) := ⟨⟨by dsimp only; omega, by dsimp only; omega⟩, hg.2⟩
  refine jok_r (fI (rh23_7 _ _ _ (Or.inl (jneq ta0 tp19_6 (by decide)))) (fJ jh15_5)) ?_
  have f10 : ((-1 : Int32)).toInt = -1 := rfl
  refine jok_eq (fun c11 d11 => ?_) (fun c11 => ?_)
  · refine jok_b (t_gR wh23_7 ta0 rfl rfl) (fun p45_12 tp45_12 => ?_)
    refine jok_b (t_gR wh23_7 ta0 rfl rfl) (fun p49_13 tp49_13 => ?_)
    try rw [t_cv wh23_7 tp45_12 rfl]
    refine jok_b (S_X2_copyFrom hn hgh23_7 wh23_7 tp45_12 tp49_13) (fun h52_14 wh52_14 => ?_)
    refine jok_b (t_gR wh52_14 ta0 rfl rfl) (fun p56_15 tp56_15 => ?_)
    try rw [t_cv wh52_14 tp56_15 rfl]
    refine jok_b (S_X0_forget hn hgh23_7 wh52_14 tp56_15) (fun h59_16 wh59_16 => ?_)
    refine jok_b (t_gR wh59_16 ta0 rfl rfl) (fun p63_17 tp63_17 => ?_)
    refine jok_b2 (t_gI wh59_16 tp63_17 rfl rfl) (fun v66_18 ev66_18 pv66_18 => ?_)
    obtain ⟨lv66_18, uv66_18⟩ := pv66_18
    exact jok_s ⟨wh59_16, jX_l trivial⟩
  · exact jok_s ⟨wh23_7, jX_r (by decide)⟩
set_option maxHeartbeats 1000000 in
theorem S_X11_readSnags {g : jGh} {Γ : Nat → Option Nat} {n : Nat} {a0 : Nat} {h : jH} (hn : 6000 ≤ n) (hg : jgok g) (w : jW (jKd g) Γ h) (ta0 : Γ a0 = some 19) (hu : ∀ a b, Γ a = some 10 → Γ b = some 10 → a = b) : jok (F_X11_readSnags n a0 h) (fun q => jW (jKd ((0 : Int32).toInt, g.2)) Γ q.2 ∧ jXok [0] (fun v => True) q.1) := by
  unfold F_X11_readSnags
  refine jok_b (t_gR w ta0 rfl rfl) (fun p1_1 tp1_1 => ?_)
  refine jok_b (t_gR w ta0 rfl rfl) (fun p5_2 tp5_2 => ?_)
  refine jok_b2 (t_gI w tp5_2 rfl rfl) (fun v8_3 ev8_3 pv8_3 => ?_)
  obtain ⟨lv8_3, uv8_3⟩ := pv8_3
  try rw [t_cv w tp1_1 rfl]
  refine jok_b (S_X7_areRows hn hg w tp1_1 (by omega) (by omega)) (fun v11_4 pv11_4 => ?_)
  have pv11_4_9 := pv11_4
  try dsimp only at pv11_4_9
  have f5 : ((0 : Int32)).toInt = 0 := rfl
  refine jok_eq (fun c6 d6 => ?_) (fun c6 => ?_)
  · refine jok_b (t_gR w ta0 rfl rfl) (fun p31_7 tp31_7 => ?_)
    refine jok_b (t_pL (x := (0 : Int32)) w hu tp31_7) (fun h35_8 wh35_8 => ?_)
    obtain ⟨wh35_8, jh35_8, rh35_8⟩ := wh35_8
    have hgh35_8 : jgok (((0 : Int32)).toInt, g.2) := ⟨⟨by dsimp only; omega, by dsimp only; omega⟩, hg.2⟩
    refine jok_eq (fun c9 d9 => ?_) (fun c9 => ?_)
    · exact jok_s ⟨wh35_8, jX_r (by decide)⟩
    · exact jok_s ⟨wh35_8, jX_l trivial⟩
  · refine jok_b (t_gR w ta0 rfl rfl) (fun p20_10 tp20_10 => ?_)
    refine jok_b (t_gR w ta0 rfl rfl) (fun p24_11 tp24_11 => ?_)
    have hr : jrows g := pv11_4_9.2.2 (by omega)
    try rw [t_cv w tp20_10 rfl]
    refine jok_b (S_X7_seekSnags hn hg w tp20_10 tp24_11 hr) (fun h27_12 wh27_12 => ?_)
    refine jok_b (t_gR wh27_12 ta0 rfl rfl) (fun p31_13 tp31_13 => ?_)
    refine jok_b (t_pL (x := (0 : Int32)) wh27_12 hu tp31_13) (fun h35_14 wh35_14 => ?_)
    obtain ⟨wh35_14, jh35_14, rh35_14⟩ := wh35_14
    have hgh35_14 : jgok (((0 : Int32)).toInt, g.2) := ⟨⟨by dsimp only; omega, by dsimp only; omega⟩, hg.2⟩
    refine jok_eq (fun c15 d15 => ?_) (fun c15 => ?_)
    · exact jok_s ⟨wh35_14, jX_r (by decide)⟩
    · exact jok_s ⟨wh35_14, jX_l trivial⟩
set_option maxHeartbeats 1000000 in
theorem S_X11_snags {g : jGh} {Γ : Nat → Option Nat} {n : Nat} {a0 : Nat} {x1 : Int32} {h : jH} (hn : 6000 ≤ n) (hg : jgok g) (w : jW (jKd g) Γ h) (ta0 : Γ a0 = some 19) (hu : ∀ a b, Γ a = some 10 → Γ b = some 10 → a = b) : jok (F_X11_snags n a0 x1 h) (fun q => jW (jKd ((0 : Int32).toInt, g.2)) Γ q.2 ∧ jXok [0] (fun v => True) q.1) := by
  unfold F_X11_snags
  try rw [t_cv w ta0 rfl]
  refine jok_b (S_X11_readSnags hn hg w ta0 hu) (fun q1_1 wq1_1 => ?_)
  obtain ⟨wq1_1, pq1_1⟩ := wq1_1
  refine jok_t pq1_1 (fun k9 q9 => ⟨wq1_1, jX_r (jsub9 q9 (by decide))⟩) (fun r1_2 pr1_2 => ?_)
  have hgq1_1 : jgok ((0 : Int32).toInt, g.2) := ⟨⟨by show (0 : Int) ≤ (0 : Int32).toInt; decide, by show (0 : Int32).toInt ≤ 400; decide⟩, hg.2⟩
  have f3 : ((0 : Int32)).toInt = 0 := rfl
  refine jok_eq (fun c4 d4 => ?_) (fun c4 => ?_)
  · refine jok_b (t_gR wq1_1 ta0 rfl rfl) (fun p19_5 tp19_5 => ?_)
    refine jok_b2 (t_gI wq1_1 tp19_5 rfl rfl) (fun v22_6 ev22_6 pv22_6 => ?_)
    obtain ⟨lv22_6, uv22_6⟩ := pv22_6
    exact jok_s ⟨wq1_1, jX_l trivial⟩
  · refine jok_b (t_gR wq1_1 ta0 rfl rfl) (fun p9_7 tp9_7 => ?_)
    try rw [t_cv wq1_1 tp9_7 rfl]
    refine jok_b (S_X7_inAllFitting hn hgq1_1 wq1_1 tp9_7) (fun v12_8 pv12_8 => ?_)
    exact jok_s ⟨wq1_1, jX_l trivial⟩
set_option maxHeartbeats 1000000 in
theorem S_X11_tries {g : jGh} {Γ : Nat → Option Nat} {n : Nat} {a0 : Nat} {h : jH} (hn : 6000 ≤ n) (hg : jgok g) (w : jW (jKd g) Γ h) (ta0 : Γ a0 = some 19) (hu : ∀ a b, Γ a = some 10 → Γ b = some 10 → a = b) : jok (F_X11_tries n a0 h) (fun q => jW (jKd ((0 : Int32).toInt, g.2)) Γ q.2 ∧ jXok [0] (fun v => True) q.1) := by
  unfold F_X11_tries
  try rw [t_cv w ta0 rfl]
  refine jok_b (S_X11_readSnags hn hg w ta0 hu) (fun q1_1 wq1_1 => ?_)
  obtain ⟨wq1_1, pq1_1⟩ := wq1_1
  refine jok_t pq1_1 (fun k9 q9 => ⟨wq1_1, jX_r (jsub9 q9 (by decide))⟩) (fun r1_2 pr1_2 => ?_)
  have hgq1_1 : jgok ((0 : Int32).toInt, g.2) := ⟨⟨by show (0 : Int) ≤ (0 : Int32).toInt; decide, by show (0 : Int32).toInt ≤ 400; decide⟩, hg.2⟩
  refine jok_b (t_gR wq1_1 ta0 rfl rfl) (fun p5_3 tp5_3 => ?_)
  refine jok_b (t_gR wq1_1 ta0 rfl rfl) (fun p9_4 tp9_4 => ?_)
  try rw [t_cv wq1_1 tp5_3 rfl]
  refine jok_b (S_X7_partingPull hn hgq1_1 wq1_1 tp5_3 tp9_4) (fun q12_5 wq12_5 => ?_)
  obtain ⟨wq12_5, pq12_5⟩ := wq12_5
  exact jok_s ⟨wq12_5, jX_l trivial⟩
set_option maxHeartbeats 1000000 in
theorem S_X12_rings {g : jGh} {Γ : Nat → Option Nat} {n : Nat} {a0 : Nat} {h : jH} (hn : 6000 ≤ n) (hg : jgok g) (w : jW (jKd g) Γ h) (ta0 : Γ a0 = some 20) : jok (F_X12_rings n a0 h) (fun v => 0 ≤ v.toInt ∧ v.toInt ≤ 8) := by
  unfold F_X12_rings
  refine jok_b (t_gR w ta0 rfl rfl) (fun p1_1 tp1_1 => ?_)
  have f3 : ((0 : Int32)).toInt = 0 := rfl
  refine jok_b (t_al w tp1_1 rfl (by omega) (by omega)) (fun v5_2 pv5_2 => ?_)
  have bv5_2 : 0 ≤ (v5_2).toInt ∧ (v5_2).toInt ≤ 8 := by rcases pv5_2.1.1 with z | z; exact absurd rfl z; exact z
  obtain ⟨lv5_2, uv5_2⟩ := bv5_2
  exact jok_s (show jI 0 8 v5_2 from ⟨by omega, by omega⟩)
set_option maxHeartbeats 1000000 in
theorem S_X12_lastRing {g : jGh} {Γ : Nat → Option Nat} {n : Nat} {a0 : Nat} {h : jH} (hn : 6000 ≤ n) (hg : jgok g) (w : jW (jKd g) Γ h) (ta0 : Γ a0 = some 20) : jok (F_X12_lastRing n a0 h) (fun v => -1 ≤ v.toInt ∧ v.toInt ≤ 7) := by
  unfold F_X12_lastRing
  try rw [t_cv w ta0 rfl]
  refine jok_b2 (S_X12_rings hn hg w ta0) (fun v1_1 ev1_1 pv1_1 => ?_)
  obtain ⟨lv1_1, uv1_1⟩ := pv1_1
  have f2 : ((1 : Int32)).toInt = 1 := rfl
  have f3 : ((v1_1 - (1 : Int32))).toInt = (v1_1).toInt - ((1 : Int32)).toInt := jsub (by omega) (by omega)
  exact jok_s (show jI (-1) 7 (v1_1 - (1 : Int32)) from ⟨by omega, by omega⟩)
theorem last_of {g : jGh} {Γ : Nat → Option Nat} {n a0 : Nat} {h : jH} {v : Int32} (w : jW (jKd g) Γ h) (ta0 : Γ a0 = some 20) (e : F_X12_rings n a0 h = some v) : F_X12_lastRing n a0 h = some (v - (1 : Int32)) := by
  unfold F_X12_lastRing
  rw [t_cv w ta0 rfl, e]
  rfl
set_option maxHeartbeats 1000000 in
theorem S_X12_at {g : jGh} {Γ : Nat → Option Nat} {n : Nat} {x0 : Int32} {x1 : Int32} {h : jH} (hn : 6000 ≤ n) (hg : jgok g) (w : jW (jKd g) Γ h) (lx0 : 0 ≤ x0.toInt) (ux0 : x0.toInt ≤ 8) (lx1 : 0 ≤ x1.toInt) (ux1 : x1.toInt ≤ 7) : jok (F_X12_at n x0 x1 h) (fun v => v.toInt = 11 + 8 * x0.toInt + x1.toInt) := by
  unfold F_X12_at
  have f1 : ((11 : Int32)).toInt = 11 := rfl
  have f2 : ((8 : Int32)).toInt = 8 := rfl
  have f3 : (((8 : Int32) * x0)).toInt = 8 * (x0).toInt := jmulL (c := 8) (by omega) (by omega) (by omega)
  have f4 : (((11 : Int32) + ((8 : Int32) * x0))).toInt = ((11 : Int32)).toInt + (((8 : Int32) * x0)).toInt := jadd (by omega) (by omega)
  have f5 : ((((11 : Int32) + ((8 : Int32) * x0)) + x1)).toInt = (((11 : Int32) + ((8 : Int32) * x0))).toInt + (x1).toInt := jadd (by omega) (by omega)
  exact jok_s (show (((11 : Int32) + ((8 : Int32) * x0)) + x1).toInt = 11 + 8 * x0.toInt + x1.toInt from by omega)
set_option maxHeartbeats 1000000 in
theorem S_X12_of {g : jGh} {Γ : Nat → Option Nat} {n : Nat} {a0 : Nat} {x1 : Int32} {x2 : Int32} {h : jH} (hn : 6000 ≤ n) (hg : jgok g) (w : jW (jKd g) Γ h) (ta0 : Γ a0 = some 20) (lx1 : 0 ≤ x1.toInt) (ux1 : x1.toInt ≤ 8) (lx2 : 0 ≤ x2.toInt) (ux2 : x2.toInt ≤ 7) : jok (F_X12_of n a0 x1 x2 h) (fun v => ¬ x2.toInt = 0 ∨ 8 ≤ x1.toInt ∨ (0 ≤ v.toInt ∧ v.toInt ≤ 31)) := by
  unfold F_X12_of
  refine jok_b (t_gR w ta0 rfl rfl) (fun p1_1 tp1_1 => ?_)
  refine jok_b (S_X12_at hn hg w (by omega) (by omega) (by omega) (by omega)) (fun v6_2 pv6_2 => ?_)
  have pv6_2_9 := pv6_2
  try dsimp only at pv6_2_9
  refine jok_b (t_al w tp1_1 rfl (by omega) (by omega)) (fun v9_3 pv9_3 => ?_)
  have ov9_3 := pv9_3.1.2.2
  exact jok_s (show ¬ x2.toInt = 0 ∨ 8 ≤ x1.toInt ∨ (0 ≤ v9_3.toInt ∧ v9_3.toInt ≤ 31) from by omega)
set_option maxHeartbeats 1000000 in
theorem S_X12_is {g : jGh} {Γ : Nat → Option Nat} {n : Nat} {a0 : Nat} {x1 : Int32} {x2 : Int32} {h : jH} (hn : 6000 ≤ n) (hg : jgok g) (w : jW (jKd g) Γ h) (ta0 : Γ a0 = some 20) (lx1 : 0 ≤ x1.toInt) (ux1 : x1.toInt ≤ 8) (lx2 : 0 ≤ x2.toInt) (ux2 : x2.toInt ≤ 7) : jok (F_X12_is n a0 x1 x2 h) (fun v => 0 ≤ v.toInt ∧ v.toInt ≤ 1) := by
  unfold F_X12_is
  try rw [t_cv w ta0 rfl]
  refine jok_b (S_X12_of hn hg w ta0 (by omega) (by omega) (by omega) (by omega)) (fun v3_1 pv3_1 => ?_)
  have pv3_1_9 := pv3_1
  try dsimp only at pv3_1_9
  have f2 : ((1 : Int32)).toInt = 1 := rfl
  refine jok_eq (fun c3 d3 => ?_) (fun c3 => ?_)
  · exact jok_s (show jI 0 1 (1 : Int32) from ⟨by omega, by omega⟩)
  · have f4 : ((0 : Int32)).toInt = 0 := rfl
    exact jok_s (show jI 0 1 (0 : Int32) from ⟨by omega, by omega⟩)
set_option maxHeartbeats 1000000 in
theorem S_X12_gapOf {g : jGh} {Γ : Nat → Option Nat} {n : Nat} {a0 : Nat} {x1 : Int32} {h : jH} (hn : 6000 ≤ n) (hg : jgok g) (w : jW (jKd g) Γ h) (ta0 : Γ a0 = some 20) (lx1 : 0 ≤ x1.toInt) (ux1 : x1.toInt ≤ 7) : jok (F_X12_gapOf n a0 x1 h) (fun v => True) := by
  unfold F_X12_gapOf
  try rw [t_cv w ta0 rfl]
  refine jok_b2 (S_X12_lastRing hn hg w ta0) (fun v2_1 ev2_1 pv2_1 => ?_)
  obtain ⟨lv2_1, uv2_1⟩ := pv2_1
  refine jok_eq (fun c2 d2 => ?_) (fun c2 => ?_)
  · exact jok_s trivial
  · try rw [t_cv w ta0 rfl]
    have f4 : ((1 : Int32)).toInt = 1 := rfl
    have f5 : ((x1 + (1 : Int32))).toInt = (x1).toInt + ((1 : Int32)).toInt := jadd (by omega) (by omega)
    have f6 : ((0 : Int32)).toInt = 0 := rfl
    refine jok_b (S_X12_of hn hg w ta0 (by omega) (by omega) (by omega) (by omega)) (fun v18_3 pv18_3 => ?_)
    have pv18_3_9 := pv18_3
    try dsimp only at pv18_3_9
    try rw [t_cv w ta0 rfl]
    refine jok_b (S_X12_of hn hg w ta0 (by omega) (by omega) (by omega) (by omega)) (fun v24_7 pv24_7 => ?_)
    have pv24_7_9 := pv24_7
    try dsimp only at pv24_7_9
    exact jok_s trivial
set_option maxHeartbeats 1000000 in
theorem S_X12_ringsThat_4 {g : jGh} {Γ : Nat → Option Nat} {n : Nat} (hn : 6000 ≤ n) (hg : jgok g)  (k : Nat) : ∀ {a0 : Nat} {x1 : Int32} {x2 : Int32} {x3 : Int32} {h : jH}, jW (jKd g) Γ h → (Γ a0 = some 20) → (0 ≤ x1.toInt) → (x1.toInt ≤ 7) → (0 ≤ x2.toInt) → (x2.toInt ≤ 255) → (0 ≤ x3.toInt) → (x3.toInt ≤ 8) → (8 : Int) - x3.toInt < (k : Int) → jok (F_X12_ringsThat_4 n k a0 x1 x2 x3 h) (fun v => 0 ≤ v.toInt ∧ v.toInt ≤ 255) := by
  induction k with
  | zero =>
    intro a0 x1 x2 x3 h w ta0 lx1 ux1 lx2 ux2 lx3 ux3 mk
    omega
  | succ k ih =>
    intro a0 x1 x2 x3 h w ta0 lx1 ux1 lx2 ux2 lx3 ux3 mk
    show jok (F_X12_ringsThat_4_b n (F_X12_ringsThat_4 n k) a0 x1 x2 x3 h) _
    unfold F_X12_ringsThat_4_b
    try rw [t_cv w ta0 rfl]
    refine jok_b2 (S_X12_rings hn hg w ta0) (fun v6_1 ev6_1 pv6_1 => ?_)
    obtain ⟨lv6_1, uv6_1⟩ := pv6_1
    refine jok_le (fun c2 => ?_) (fun c2 => ?_)
    · exact jok_s (show jI 0 255 x2 from ⟨by omega, by omega⟩)
    · try rw [t_cv w ta0 rfl]
      refine jok_b (S_X12_is hn hg w ta0 (by omega) (by omega) (by omega) (by omega)) (fun v16_3 pv16_3 => ?_)
      obtain ⟨lv16_3, uv16_3⟩ := pv16_3
      have f4 : ((0 : Int32)).toInt = 0 := rfl
      refine jok_eq (fun c5 d5 => ?_) (fun c5 => ?_)
      · have f6 := jor255 (x := x2) (y := (0 : Int32)) (by omega) (by omega) (by omega) (by omega)
        have f7 : ((1 : Int32)).toInt = 1 := rfl
        have f8 : ((x3 + (1 : Int32))).toInt = (x3).toInt + ((1 : Int32)).toInt := jadd (by omega) (by omega)
        exact ih w ta0 (by omega) (by omega) (by omega) (by omega) (by omega) (by omega) (by omega)
      · have f9 := jshl1 (v := x3) (k := 7) (by omega) (by omega) (by decide)
        have f10 := jor255 (x := x2) (y := ((1 : Int32) <<< (x3 &&& (31 : Int32)))) (by omega) (by omega) (by omega) (by omega)
        have f11 : ((1 : Int32)).toInt = 1 := rfl
        have f12 : ((x3 + (1 : Int32))).toInt = (x3).toInt + ((1 : Int32)).toInt := jadd (by omega) (by omega)
        exact ih w ta0 (by omega) (by omega) (by omega) (by omega) (by omega) (by omega) (by omega)
set_option maxHeartbeats 1000000 in
theorem S_X12_ringsThat {g : jGh} {Γ : Nat → Option Nat} {n : Nat} {a0 : Nat} {x1 : Int32} {h : jH} (hn : 6000 ≤ n) (hg : jgok g) (w : jW (jKd g) Γ h) (ta0 : Γ a0 = some 20) (lx1 : 0 ≤ x1.toInt) (ux1 : x1.toInt ≤ 7) : jok (F_X12_ringsThat n a0 x1 h) (fun v => 0 ≤ v.toInt ∧ v.toInt ≤ 255) := by
  unfold F_X12_ringsThat
  have f1 : ((0 : Int32)).toInt = 0 := rfl
  exact S_X12_ringsThat_4 hn hg  n w ta0 (by omega) (by omega) (by omega) (by omega) (by omega) (by omega) (by omega)
set_option maxHeartbeats 1000000 in
theorem S_X12_in {g : jGh} {Γ : Nat → Option Nat} {n : Nat} {x0 : Int32} {x1 : Int32} {x2 : Int32} {h : jH} (hn : 6000 ≤ n) (hg : jgok g) (w : jW (jKd g) Γ h)  : jok (F_X12_in n x0 x1 x2 h) (fun v => (v.toInt = 1 ∧ x1.toInt ≤ x0.toInt ∧ x0.toInt ≤ x2.toInt) ∨ (v.toInt = 0 ∧ (x0.toInt < x1.toInt ∨ x2.toInt < x0.toInt))) := by
  unfold F_X12_in
  refine jok_lt (fun c1 => ?_) (fun c1 => ?_)
  · have f2 : ((0 : Int32)).toInt = 0 := rfl
    exact jok_s (show ((0 : Int32).toInt = 1 ∧ x1.toInt ≤ x0.toInt ∧ x0.toInt ≤ x2.toInt) ∨ ((0 : Int32).toInt = 0 ∧ (x0.toInt < x1.toInt ∨ x2.toInt < x0.toInt)) from by omega)
  · refine jok_lt (fun c3 => ?_) (fun c3 => ?_)
    · have f4 : ((0 : Int32)).toInt = 0 := rfl
      exact jok_s (show ((0 : Int32).toInt = 1 ∧ x1.toInt ≤ x0.toInt ∧ x0.toInt ≤ x2.toInt) ∨ ((0 : Int32).toInt = 0 ∧ (x0.toInt < x1.toInt ∨ x2.toInt < x0.toInt)) from by omega)
    · have f5 : ((1 : Int32)).toInt = 1 := rfl
      exact jok_s (show ((1 : Int32).toInt = 1 ∧ x1.toInt ≤ x0.toInt ∧ x0.toInt ≤ x2.toInt) ∨ ((1 : Int32).toInt = 0 ∧ (x0.toInt < x1.toInt ∨ x2.toInt < x0.toInt)) from by omega)
set_option maxHeartbeats 1000000 in
theorem S_X12_noRing {g : jGh} {Γ : Nat → Option Nat} {n : Nat} {a0 : Nat} {x1 : Int32} {h : jH} (hn : 6000 ≤ n) (hg : jgok g) (w : jW (jKd g) Γ h) (ta0 : Γ a0 = some 20) : jok (F_X12_noRing n a0 x1 h) (fun v => (v.toInt = 0 ∧ 0 ≤ x1.toInt ∧ x1.toInt ≤ 7) ∨ v.toInt = 1) := by
  unfold F_X12_noRing
  try rw [t_cv w ta0 rfl]
  refine jok_b2 (S_X12_lastRing hn hg w ta0) (fun v3_1 ev3_1 pv3_1 => ?_)
  obtain ⟨lv3_1, uv3_1⟩ := pv3_1
  refine jok_b (S_X12_in hn hg w) (fun v6_2 pv6_2 => ?_)
  have f3 : ((0 : Int32)).toInt = 0 := rfl
  have pv6_2_9 := pv6_2
  try dsimp only at pv6_2_9
  refine jok_eq (fun c4 d4 => ?_) (fun c4 => ?_)
  · have f5 : ((1 : Int32)).toInt = 1 := rfl
    exact jok_s (show ((1 : Int32).toInt = 0 ∧ 0 ≤ x1.toInt ∧ x1.toInt ≤ 7) ∨ (1 : Int32).toInt = 1 from by omega)
  · exact jok_s (show ((0 : Int32).toInt = 0 ∧ 0 ≤ x1.toInt ∧ x1.toInt ≤ 7) ∨ (0 : Int32).toInt = 1 from by omega)
set_option maxHeartbeats 1000000 in
theorem S_X12_noPlace {g : jGh} {Γ : Nat → Option Nat} {n : Nat} {x0 : Int32} {h : jH} (hn : 6000 ≤ n) (hg : jgok g) (w : jW (jKd g) Γ h)  : jok (F_X12_noPlace n x0 h) (fun v => (v.toInt = 0 ∧ 0 ≤ x0.toInt ∧ x0.toInt ≤ 31) ∨ v.toInt = 1) := by
  unfold F_X12_noPlace
  refine jok_b (S_X12_in hn hg w) (fun v4_1 pv4_1 => ?_)
  have f2 : ((0 : Int32)).toInt = 0 := rfl
  have f3 : ((31 : Int32)).toInt = 31 := rfl
  have pv4_1_9 := pv4_1
  try dsimp only at pv4_1_9
  refine jok_eq (fun c4 d4 => ?_) (fun c4 => ?_)
  · have f5 : ((1 : Int32)).toInt = 1 := rfl
    exact jok_s (show ((1 : Int32).toInt = 0 ∧ 0 ≤ x0.toInt ∧ x0.toInt ≤ 31) ∨ (1 : Int32).toInt = 1 from by omega)
  · exact jok_s (show ((0 : Int32).toInt = 0 ∧ 0 ≤ x0.toInt ∧ x0.toInt ≤ 31) ∨ (0 : Int32).toInt = 1 from by omega)
set_option maxHeartbeats 1000000 in
theorem S_X12_noSteps {g : jGh} {Γ : Nat → Option Nat} {n : Nat} {x0 : Int32} {h : jH} (hn : 6000 ≤ n) (hg : jgok g) (w : jW (jKd g) Γ h)  : jok (F_X12_noSteps n x0 h) (fun v => (v.toInt = 0 ∧ 1 ≤ x0.toInt ∧ x0.toInt ≤ 31) ∨ v.toInt = 1) := by
  unfold F_X12_noSteps
  refine jok_b (S_X12_in hn hg w) (fun v4_1 pv4_1 => ?_)
  have f2 : ((1 : Int32)).toInt = 1 := rfl
  have f3 : ((31 : Int32)).toInt = 31 := rfl
  have pv4_1_9 := pv4_1
  try dsimp only at pv4_1_9
  have f4 : ((0 : Int32)).toInt = 0 := rfl
  refine jok_eq (fun c5 d5 => ?_) (fun c5 => ?_)
  · exact jok_s (show ((1 : Int32).toInt = 0 ∧ 1 ≤ x0.toInt ∧ x0.toInt ≤ 31) ∨ (1 : Int32).toInt = 1 from by omega)
  · exact jok_s (show ((0 : Int32).toInt = 0 ∧ 1 ≤ x0.toInt ∧ x0.toInt ≤ 31) ∨ (0 : Int32).toInt = 1 from by omega)
set_option maxHeartbeats 1000000 in
theorem S_X12_noAhead {g : jGh} {Γ : Nat → Option Nat} {n : Nat} {x0 : Int32} {h : jH} (hn : 6000 ≤ n) (hg : jgok g) (w : jW (jKd g) Γ h)  : jok (F_X12_noAhead n x0 h) (fun v => (v.toInt = 0 ∧ 0 ≤ x0.toInt ∧ x0.toInt ≤ 80) ∨ v.toInt = 1) := by
  unfold F_X12_noAhead
  refine jok_b (S_X12_in hn hg w) (fun v4_1 pv4_1 => ?_)
  have f2 : ((0 : Int32)).toInt = 0 := rfl
  have f3 : ((80 : Int32)).toInt = 80 := rfl
  have pv4_1_9 := pv4_1
  try dsimp only at pv4_1_9
  refine jok_eq (fun c4 d4 => ?_) (fun c4 => ?_)
  · have f5 : ((1 : Int32)).toInt = 1 := rfl
    exact jok_s (show ((1 : Int32).toInt = 0 ∧ 0 ≤ x0.toInt ∧ x0.toInt ≤ 80) ∨ (1 : Int32).toInt = 1 from by omega)
  · exact jok_s (show ((0 : Int32).toInt = 0 ∧ 0 ≤ x0.toInt ∧ x0.toInt ≤ 80) ∨ (0 : Int32).toInt = 1 from by omega)
set_option maxHeartbeats 1000000 in
theorem S_X12_throwsIf {g : jGh} {Γ : Nat → Option Nat} {n : Nat} {a0 : Nat} {x1 : Int32} {x2 : Int32} {h : jH} (hn : 6000 ≤ n) (hg : jgok g) (w : jW (jKd g) Γ h) (ta0 : Γ a0 = some 20) (lx1 : 0 ≤ x1.toInt) (ux1 : x1.toInt ≤ 1) : jok (F_X12_throwsIf n a0 x1 x2 h) (fun q => jW (jKd g) Γ q.2 ∧ (fun v : Int32 => v.toInt = x1.toInt) q.1) := by
  unfold F_X12_throwsIf
  have f1 : ((0 : Int32)).toInt = 0 := rfl
  refine jok_eq (fun c2 d2 => ?_) (fun c2 => ?_)
  · rw [if_pos (show x1 = 0 ∨ x1 = 1 from j01 (by omega) (by omega))]
    exact jok_s ⟨w, (show x1.toInt = x1.toInt from by omega)⟩
  · refine jok_b (t_pI w ta0 rfl rfl trivial) (fun h6_3 wh6_3 => ?_)
    obtain ⟨wh6_3, jh6_3, rh6_3⟩ := wh6_3
    rw [if_pos (show x1 = 0 ∨ x1 = 1 from j01 (by omega) (by omega))]
    exact jok_s ⟨wh6_3, (show x1.toInt = x1.toInt from by omega)⟩
set_option maxHeartbeats 1000000 in
theorem S_X12_has {g : jGh} {Γ : Nat → Option Nat} {n : Nat} {x0 : Int32} {x1 : Int32} {h : jH} (hn : 6000 ≤ n) (hg : jgok g) (w : jW (jKd g) Γ h)  : jok (F_X12_has n x0 x1 h) (fun v => 0 ≤ v.toInt ∧ v.toInt ≤ 1) := by
  unfold F_X12_has
  have f1 := jandR (x := (x0 >>> (x1 &&& (31 : Int32)))) (y := (1 : Int32)) (c := 1) rfl (by decide)
  have f2 : ((1 : Int32)).toInt = 1 := rfl
  refine jok_eq (fun c3 d3 => ?_) (fun c3 => ?_)
  · exact jok_s (show jI 0 1 (1 : Int32) from ⟨by omega, by omega⟩)
  · have f4 : ((0 : Int32)).toInt = 0 := rfl
    exact jok_s (show jI 0 1 (0 : Int32) from ⟨by omega, by omega⟩)
set_option maxHeartbeats 1000000 in
theorem S_X12_isLit {g : jGh} {Γ : Nat → Option Nat} {n : Nat} {a0 : Nat} {x1 : Int32} {x2 : Int32} {h : jH} (hn : 6000 ≤ n) (hg : jgok g) (w : jW (jKd g) Γ h) (ta0 : Γ a0 = some 20) (lx1 : 0 ≤ x1.toInt) (ux1 : x1.toInt ≤ 7) : jok (F_X12_isLit n a0 x1 x2 h) (fun v => 0 ≤ v.toInt ∧ v.toInt ≤ 1) := by
  unfold F_X12_isLit
  try rw [t_cv w ta0 rfl]
  have f2 : ((0 : Int32)).toInt = 0 := rfl
  refine jok_b (S_X12_of hn hg w ta0 (by omega) (by omega) (by omega) (by omega)) (fun v3_1 pv3_1 => ?_)
  have pv3_1_9 := pv3_1
  try dsimp only at pv3_1_9
  refine jok_b (t_gR w ta0 rfl rfl) (fun p13_3 tp13_3 => ?_)
  have f5 : ((6 : Int32)).toInt = 6 := rfl
  refine jok_b (t_al w tp13_3 rfl (by omega) (by omega)) (fun v18_4 pv18_4 => ?_)
  refine jok_b (S_X12_in hn hg w) (fun v20_6 pv20_6 => ?_)
  have f7 : ((4 : Int32)).toInt = 4 := rfl
  have pv20_6_9 := pv20_6
  try dsimp only at pv20_6_9
  rw [if_pos (show v20_6 = 0 ∨ v20_6 = 1 from j01 (by omega) (by omega))]
  exact jok_s (show jI 0 1 v20_6 from ⟨by omega, by omega⟩)
set_option maxHeartbeats 1000000 in
theorem S_X12_takesAlong {g : jGh} {Γ : Nat → Option Nat} {n : Nat} {a0 : Nat} {x1 : Int32} {x2 : Int32} {x3 : Int32} {h : jH} (hn : 6000 ≤ n) (hg : jgok g) (w : jW (jKd g) Γ h) (ta0 : Γ a0 = some 20) (lx1 : 0 ≤ x1.toInt) (ux1 : x1.toInt ≤ 7) (lx2 : 0 ≤ x2.toInt) (ux2 : x2.toInt ≤ 7) : jok (F_X12_takesAlong n a0 x1 x2 x3 h) (fun v => 0 ≤ v.toInt ∧ v.toInt ≤ 1) := by
  unfold F_X12_takesAlong
  try rw [t_cv w ta0 rfl]
  have f2 : 0 ≤ ((if x2 < x1 then x2 else x1)).toInt ∧ ((if x2 < x1 then x2 else x1)).toInt ≤ 7 := jif_lt (fun _ => (by omega)) (fun _ => (by omega))
  have f3 : ((7 : Int32)).toInt = 7 := rfl
  refine jok_b (S_X12_is hn hg w ta0 (by omega) (by omega) (by omega) (by omega)) (fun v12_1 pv12_1 => ?_)
  obtain ⟨lv12_1, uv12_1⟩ := pv12_1
  have f4 : ((0 : Int32)).toInt = 0 := rfl
  refine jok_eq (fun c5 d5 => ?_) (fun c5 => ?_)
  · refine jok_le (fun c6 => ?_) (fun c6 => ?_)
    · unfold F_X12_takesAlong_30
      refine jok_eq (fun c7 d7 => ?_) (fun c7 => ?_)
      · try rw [t_cv w ta0 rfl]
        refine jok_b (S_X12_gapOf hn hg w ta0 (by omega) (by omega)) (fun v37_8 pv37_8 => ?_)
        have f9 : ((1 : Int32)).toInt = 1 := rfl
        refine jok_eq (fun c10 d10 => ?_) (fun c10 => ?_)
        · exact jok_s (show jI 0 1 (1 : Int32) from ⟨by omega, by omega⟩)
        · exact jok_s (show jI 0 1 (0 : Int32) from ⟨by omega, by omega⟩)
      · try rw [t_cv w ta0 rfl]
        refine jok_b (S_X12_gapOf hn hg w ta0 (by omega) (by omega)) (fun v55_11 pv55_11 => ?_)
        try rw [t_cv w ta0 rfl]
        have f13 : ((1 : Int32)).toInt = 1 := rfl
        refine jok_b (S_X12_of hn hg w ta0 (by omega) (by omega) (by omega) (by omega)) (fun v62_12 pv62_12 => ?_)
        have pv62_12_9 := pv62_12
        try dsimp only at pv62_12_9
        refine jok_lt (fun c14 => ?_) (fun c14 => ?_)
        · exact jok_s (show jI 0 1 (0 : Int32) from ⟨by omega, by omega⟩)
        · exact jok_s (show jI 0 1 (1 : Int32) from ⟨by omega, by omega⟩)
    · unfold F_X12_takesAlong_30
      have f15 : ((1 : Int32)).toInt = 1 := rfl
      refine jok_eq (fun c16 d16 => ?_) (fun c16 => ?_)
      · try rw [t_cv w ta0 rfl]
        refine jok_b (S_X12_gapOf hn hg w ta0 (by omega) (by omega)) (fun v37_17 pv37_17 => ?_)
        refine jok_eq (fun c18 d18 => ?_) (fun c18 => ?_)
        · exact jok_s (show jI 0 1 (1 : Int32) from ⟨by omega, by omega⟩)
        · exact jok_s (show jI 0 1 (0 : Int32) from ⟨by omega, by omega⟩)
      · try rw [t_cv w ta0 rfl]
        refine jok_b (S_X12_gapOf hn hg w ta0 (by omega) (by omega)) (fun v55_19 pv55_19 => ?_)
        try rw [t_cv w ta0 rfl]
        refine jok_b (S_X12_of hn hg w ta0 (by omega) (by omega) (by omega) (by omega)) (fun v62_20 pv62_20 => ?_)
        have pv62_20_9 := pv62_20
        try dsimp only at pv62_20_9
        refine jok_lt (fun c21 => ?_) (fun c21 => ?_)
        · exact jok_s (show jI 0 1 (0 : Int32) from ⟨by omega, by omega⟩)
        · exact jok_s (show jI 0 1 (1 : Int32) from ⟨by omega, by omega⟩)
  · have f22 : ((1 : Int32)).toInt = 1 := rfl
    exact jok_s (show jI 0 1 (1 : Int32) from ⟨by omega, by omega⟩)
set_option maxHeartbeats 1000000 in
theorem S_X12_allWith_17 {g : jGh} {Γ : Nat → Option Nat} {n : Nat} (hn : 6000 ≤ n) (hg : jgok g) {k7 : Nat} {rc7 : Nat → Int32 → Int32 → Int32 → jH → Option Int32} (k : Nat) : ∀ {a0 : Nat} {x2 : Int32} {x3 : Int32} {x4 : Int32} {x5 : Int32} {h : jH}, jW (jKd g) Γ h → (Γ a0 = some 20) → (0 ≤ x4.toInt) → (x4.toInt ≤ 7) → (0 ≤ x5.toInt) → (x5.toInt ≤ 8) → (8 : Int) - x5.toInt < (k : Int) → (∀ {a0 : Nat} {x2 : Int32} {x3 : Int32} {x4 : Int32} {h : jH}, jW (jKd g) Γ h → (Γ a0 = some 20) → (0 ≤ x4.toInt) → (x4.toInt ≤ 8) → (8 : Int) - x4.toInt < (k7 : Int) → jok (rc7 a0 x2 x3 x4 h) (fun v => True)) → ((8 : Int) - x4.toInt ≤ (k7 : Int)) → jok (F_X12_allWith_17 n rc7 k a0 x2 x3 x4 x5 h) (fun v => True) := by
  induction k with
  | zero =>
    intro a0 x2 x3 x4 x5 h w ta0 lx4 ux4 lx5 ux5 mk hrc7 m7
    omega
  | succ k ih =>
    intro a0 x2 x3 x4 x5 h w ta0 lx4 ux4 lx5 ux5 mk hrc7 m7
    show jok (F_X12_allWith_17_b n rc7 (F_X12_allWith_17 n rc7 k) a0 x2 x3 x4 x5 h) _
    unfold F_X12_allWith_17_b
    try rw [t_cv w ta0 rfl]
    refine jok_b2 (S_X12_rings hn hg w ta0) (fun v20_1 ev20_1 pv20_1 => ?_)
    obtain ⟨lv20_1, uv20_1⟩ := pv20_1
    refine jok_le (fun c2 => ?_) (fun c2 => ?_)
    · have f3 : ((1 : Int32)).toInt = 1 := rfl
      have f4 : ((x4 + (1 : Int32))).toInt = (x4).toInt + ((1 : Int32)).toInt := jadd (by omega) (by omega)
      exact hrc7 w ta0 (by omega) (by omega) (by omega)
    · refine jok_b (S_X12_has hn hg w) (fun v29_5 pv29_5 => ?_)
      obtain ⟨lv29_5, uv29_5⟩ := pv29_5
      have f6 : ((0 : Int32)).toInt = 0 := rfl
      refine jok_eq (fun c7 d7 => ?_) (fun c7 => ?_)
      · have f8 : ((1 : Int32)).toInt = 1 := rfl
        have f9 : ((x5 + (1 : Int32))).toInt = (x5).toInt + ((1 : Int32)).toInt := jadd (by omega) (by omega)
        exact ih w ta0 (by omega) (by omega) (by omega) (by omega) (by omega) hrc7 (by omega)
      · try rw [t_cv w ta0 rfl]
        refine jok_r (last_of w ta0 ev20_1) ?_
        have f11 : ((1 : Int32)).toInt = 1 := rfl
        have f12 : ((v20_1 - (1 : Int32))).toInt = (v20_1).toInt - ((1 : Int32)).toInt := jsub (by omega) (by omega)
        refine jok_le (fun c13 => ?_) (fun c13 => ?_)
        · unfold F_X12_allWith_72
          refine jok_le (fun c14 => ?_) (fun c14 => ?_)
          · have f15 : ((x5 + (1 : Int32))).toInt = (x5).toInt + ((1 : Int32)).toInt := jadd (by omega) (by omega)
            exact ih w ta0 (by omega) (by omega) (by omega) (by omega) (by omega) hrc7 (by omega)
          · try rw [t_cv w ta0 rfl]
            have f17 : ((x5 - (1 : Int32))).toInt = (x5).toInt - ((1 : Int32)).toInt := jsub (by omega) (by omega)
            refine jok_b (S_X12_takesAlong hn hg w ta0 (by omega) (by omega) (by omega) (by omega)) (fun v88_16 pv88_16 => ?_)
            obtain ⟨lv88_16, uv88_16⟩ := pv88_16
            refine jok_eq (fun c18 d18 => ?_) (fun c18 => ?_)
            · have f19 : ((x5 + (1 : Int32))).toInt = (x5).toInt + ((1 : Int32)).toInt := jadd (by omega) (by omega)
              exact ih w ta0 (by omega) (by omega) (by omega) (by omega) (by omega) hrc7 (by omega)
            · have f20 : ((x5 + (1 : Int32))).toInt = (x5).toInt + ((1 : Int32)).toInt := jadd (by omega) (by omega)
              exact ih w ta0 (by omega) (by omega) (by omega) (by omega) (by omega) hrc7 (by omega)
        · try rw [t_cv w ta0 rfl]
          have f22 : ((x5 + (1 : Int32))).toInt = (x5).toInt + ((1 : Int32)).toInt := jadd (by omega) (by omega)
          refine jok_b (S_X12_takesAlong hn hg w ta0 (by omega) (by omega) (by omega) (by omega)) (fun v56_21 pv56_21 => ?_)
          obtain ⟨lv56_21, uv56_21⟩ := pv56_21
          refine jok_eq (fun c23 d23 => ?_) (fun c23 => ?_)
          · unfold F_X12_allWith_72
            refine jok_le (fun c24 => ?_) (fun c24 => ?_)
            · exact ih w ta0 (by omega) (by omega) (by omega) (by omega) (by omega) hrc7 (by omega)
            · try rw [t_cv w ta0 rfl]
              have f26 : ((x5 - (1 : Int32))).toInt = (x5).toInt - ((1 : Int32)).toInt := jsub (by omega) (by omega)
              refine jok_b (S_X12_takesAlong hn hg w ta0 (by omega) (by omega) (by omega) (by omega)) (fun v88_25 pv88_25 => ?_)
              obtain ⟨lv88_25, uv88_25⟩ := pv88_25
              refine jok_eq (fun c27 d27 => ?_) (fun c27 => ?_)
              · exact ih w ta0 (by omega) (by omega) (by omega) (by omega) (by omega) hrc7 (by omega)
              · exact ih w ta0 (by omega) (by omega) (by omega) (by omega) (by omega) hrc7 (by omega)
          · unfold F_X12_allWith_72
            refine jok_le (fun c28 => ?_) (fun c28 => ?_)
            · exact ih w ta0 (by omega) (by omega) (by omega) (by omega) (by omega) hrc7 (by omega)
            · try rw [t_cv w ta0 rfl]
              have f30 : ((x5 - (1 : Int32))).toInt = (x5).toInt - ((1 : Int32)).toInt := jsub (by omega) (by omega)
              refine jok_b (S_X12_takesAlong hn hg w ta0 (by omega) (by omega) (by omega) (by omega)) (fun v88_29 pv88_29 => ?_)
              obtain ⟨lv88_29, uv88_29⟩ := pv88_29
              refine jok_eq (fun c31 d31 => ?_) (fun c31 => ?_)
              · exact ih w ta0 (by omega) (by omega) (by omega) (by omega) (by omega) hrc7 (by omega)
              · exact ih w ta0 (by omega) (by omega) (by omega) (by omega) (by omega) hrc7 (by omega)
set_option maxHeartbeats 1000000 in
theorem S_X12_allWith_7 {g : jGh} {Γ : Nat → Option Nat} {n : Nat} (hn : 6000 ≤ n) (hg : jgok g)  (k : Nat) : ∀ {a0 : Nat} {x2 : Int32} {x3 : Int32} {x4 : Int32} {h : jH}, jW (jKd g) Γ h → (Γ a0 = some 20) → (0 ≤ x4.toInt) → (x4.toInt ≤ 8) → (8 : Int) - x4.toInt < (k : Int) → jok (F_X12_allWith_7 n k a0 x2 x3 x4 h) (fun v => True) := by
  induction k with
  | zero =>
    intro a0 x2 x3 x4 h w ta0 lx4 ux4 mk
    omega
  | succ k ih =>
    intro a0 x2 x3 x4 h w ta0 lx4 ux4 mk
    show jok (F_X12_allWith_7_b n (F_X12_allWith_7 n k) a0 x2 x3 x4 h) _
    unfold F_X12_allWith_7_b
    have f1 : ((8 : Int32)).toInt = 8 := rfl
    refine jok_le (fun c2 => ?_) (fun c2 => ?_)
    · exact jok_s trivial
    · have f3 : ((0 : Int32)).toInt = 0 := rfl
      exact S_X12_allWith_17 hn hg  n w ta0 (by omega) (by omega) (by omega) (by omega) (by omega) ih (by omega)
set_option maxHeartbeats 1000000 in
theorem S_X12_allWith {g : jGh} {Γ : Nat → Option Nat} {n : Nat} {a0 : Nat} {x1 : Int32} {x2 : Int32} {h : jH} (hn : 6000 ≤ n) (hg : jgok g) (w : jW (jKd g) Γ h) (ta0 : Γ a0 = some 20) (lx1 : -128 ≤ x1.toInt) (ux1 : x1.toInt ≤ 127) : jok (F_X12_allWith n a0 x1 x2 h) (fun v => True) := by
  unfold F_X12_allWith
  have f1 : ((0 : Int32)).toInt = 0 := rfl
  exact S_X12_allWith_7 hn hg  n w ta0 (by omega) (by omega) (by omega)
set_option maxHeartbeats 1000000 in
theorem S_X12_drawn {g : jGh} {Γ : Nat → Option Nat} {n : Nat} {a0 : Nat} {x1 : Int32} {h : jH} (hn : 6000 ≤ n) (hg : jgok g) (w : jW (jKd g) Γ h) (ta0 : Γ a0 = some 20) (lx1 : 100 ≤ x1.toInt) (ux1 : x1.toInt ≤ 100) : jok (F_X12_drawn n a0 x1 h) (fun q => jW (jKd g) Γ q.2 ∧ (fun v : Int32 => True) q.1) := by
  unfold F_X12_drawn
  refine jok_b (t_gR w ta0 rfl rfl) (fun p1_1 tp1_1 => ?_)
  refine jok_b (t_gR w ta0 rfl rfl) (fun p9_2 tp9_2 => ?_)
  have f4 : ((10 : Int32)).toInt = 10 := rfl
  refine jok_b (t_al w tp9_2 rfl (by omega) (by omega)) (fun v14_3 pv14_3 => ?_)
  have f6 : ((1103515245 : Int32)).toInt = 1103515245 := rfl
  have f7 : ((12345 : Int32)).toInt = 12345 := rfl
  refine jok_b (t_as w tp1_1 rfl (by omega) (by omega) (show jRw g ((10 : Int32)).toInt.toNat (((1103515245 : Int32) * v14_3) + (12345 : Int32)) from ⟨⟨by omega, by omega, by omega⟩, Or.inl (by omega)⟩) (fun q => by cases q)) (fun h20_5 wh20_5 => ?_)
  obtain ⟨wh20_5, rh20_5⟩ := wh20_5
  refine jok_b (t_gR wh20_5 ta0 rfl rfl) (fun p22_8 tp22_8 => ?_)
  refine jok_b (t_al wh20_5 tp22_8 rfl (by omega) (by omega)) (fun v27_9 pv27_9 => ?_)
  have f11 : ((0 : Int32)).toInt = 0 := rfl
  rw [if_neg (show ¬ (x1 = 0) from jne (by omega))]
  exact jok_s ⟨wh20_5, trivial⟩
set_option maxHeartbeats 1000000 in
theorem S_X12_tells_5 {g : jGh} {Γ : Nat → Option Nat} {n : Nat} (hn : 6000 ≤ n) (hg : jgok g)  (k : Nat) : ∀ {a0 : Nat} {x1 : Int32} {x2 : Int32} {x3 : Int32} {x4 : Int32} {h : jH}, jW (jKd g) Γ h → (Γ a0 = some 20) → (0 ≤ x1.toInt) → (x1.toInt ≤ 7) → (5 ≤ x4.toInt) → (x4.toInt ≤ 359) → x4.toInt - (5 : Int) < (k : Int) → jok (F_X12_tells_5 n k a0 x1 x2 x3 x4 h) (fun q => jW (jKd g) Γ q) := by
  induction k with
  | zero =>
    intro a0 x1 x2 x3 x4 h w ta0 lx1 ux1 lx4 ux4 mk
    omega
  | succ k ih =>
    intro a0 x1 x2 x3 x4 h w ta0 lx1 ux1 lx4 ux4 mk
    show jok (F_X12_tells_5_b n (F_X12_tells_5 n k) a0 x1 x2 x3 x4 h) _
    unfold F_X12_tells_5_b
    have f1 : ((6 : Int32)).toInt = 6 := rfl
    refine jok_lt (fun c2 => ?_) (fun c2 => ?_)
    · refine jok_b (t_gR w ta0 rfl rfl) (fun p42_3 tp42_3 => ?_)
      refine jok_b (t_gR w ta0 rfl rfl) (fun p48_4 tp48_4 => ?_)
      have f6 : ((4 : Int32)).toInt = 4 := rfl
      refine jok_b (t_al w tp48_4 rfl (by omega) (by omega)) (fun v52_5 pv52_5 => ?_)
      have f8 : ((75 : Int32)).toInt = 75 := rfl
      refine jok_b (t_as w tp42_3 rfl (by omega) (by omega) (show jRw g ((75 : Int32)).toInt.toNat v52_5 from ⟨⟨by omega, by omega, by omega⟩, Or.inl (by omega)⟩) (fun q => by cases q)) (fun h53_7 wh53_7 => ?_)
      obtain ⟨wh53_7, rh53_7⟩ := wh53_7
      refine jok_b (t_gR wh53_7 ta0 rfl rfl) (fun p55_9 tp55_9 => ?_)
      refine jok_b (t_gR wh53_7 ta0 rfl rfl) (fun p61_10 tp61_10 => ?_)
      have f12 : ((3 : Int32)).toInt = 3 := rfl
      refine jok_b (t_al wh53_7 tp61_10 rfl (by omega) (by omega)) (fun v65_11 pv65_11 => ?_)
      have f14 : ((76 : Int32)).toInt = 76 := rfl
      refine jok_b (t_as wh53_7 tp55_9 rfl (by omega) (by omega) (show jRw g ((76 : Int32)).toInt.toNat v65_11 from ⟨⟨by omega, by omega, by omega⟩, Or.inl (by omega)⟩) (fun q => by cases q)) (fun h66_13 wh66_13 => ?_)
      obtain ⟨wh66_13, rh66_13⟩ := wh66_13
      refine jok_b (t_gR wh66_13 ta0 rfl rfl) (fun p68_15 tp68_15 => ?_)
      have f17 : ((77 : Int32)).toInt = 77 := rfl
      refine jok_b (t_as wh66_13 tp68_15 rfl (by omega) (by omega) (show jRw g ((77 : Int32)).toInt.toNat x1 from ⟨⟨by omega, by omega, by omega⟩, Or.inl (by omega)⟩) (fun q => by cases q)) (fun h74_16 wh74_16 => ?_)
      obtain ⟨wh74_16, rh74_16⟩ := wh74_16
      refine jok_b (t_gR wh74_16 ta0 rfl rfl) (fun p76_18 tp76_18 => ?_)
      have f20 : ((78 : Int32)).toInt = 78 := rfl
      refine jok_b (t_as wh74_16 tp76_18 rfl (by omega) (by omega) (show jRw g ((78 : Int32)).toInt.toNat x2 from ⟨⟨by omega, by omega, by omega⟩, Or.inl (by omega)⟩) (fun q => by cases q)) (fun h82_19 wh82_19 => ?_)
      obtain ⟨wh82_19, rh82_19⟩ := wh82_19
      refine jok_b (t_gR wh82_19 ta0 rfl rfl) (fun p84_21 tp84_21 => ?_)
      have f23 : ((79 : Int32)).toInt = 79 := rfl
      refine jok_b (t_as wh82_19 tp84_21 rfl (by omega) (by omega) (show jRw g ((79 : Int32)).toInt.toNat x3 from ⟨⟨by omega, by omega, by omega⟩, Or.inl (by omega)⟩) (fun q => by cases q)) (fun h90_22 wh90_22 => ?_)
      obtain ⟨wh90_22, rh90_22⟩ := wh90_22
      refine jok_b (t_gR wh90_22 ta0 rfl rfl) (fun p92_24 tp92_24 => ?_)
      try rw [t_cv wh90_22 ta0 rfl]
      have f26 : ((0 : Int32)).toInt = 0 := rfl
      refine jok_b (S_X12_of hn hg wh90_22 ta0 (by omega) (by omega) (by omega) (by omega)) (fun v100_25 pv100_25 => ?_)
      have pv100_25_9 := pv100_25
      try dsimp only at pv100_25_9
      have f28 : ((80 : Int32)).toInt = 80 := rfl
      refine jok_b (t_as wh90_22 tp92_24 rfl (by omega) (by omega) (show jRw g ((80 : Int32)).toInt.toNat v100_25 from ⟨⟨by omega, by omega, by omega⟩, Or.inl (by omega)⟩) (fun q => by cases q)) (fun h103_27 wh103_27 => ?_)
      obtain ⟨wh103_27, rh103_27⟩ := wh103_27
      refine jok_b (t_gR wh103_27 ta0 rfl rfl) (fun p105_29 tp105_29 => ?_)
      refine jok_b (t_gR wh103_27 ta0 rfl rfl) (fun p113_30 tp113_30 => ?_)
      have f32 : ((9 : Int32)).toInt = 9 := rfl
      refine jok_b (t_al wh103_27 tp113_30 rfl (by omega) (by omega)) (fun v118_31 pv118_31 => ?_)
      have bv118_31 : 0 ≤ (v118_31).toInt ∧ (v118_31).toInt ≤ 60 := by rcases pv118_31.1.2.1 with z | z; exact absurd rfl z; exact z
      obtain ⟨lv118_31, uv118_31⟩ := bv118_31
      have f34 : ((1 : Int32)).toInt = 1 := rfl
      have f35 : ((v118_31 + (1 : Int32))).toInt = (v118_31).toInt + ((1 : Int32)).toInt := jadd (by omega) (by omega)
      have f36 : ((60 : Int32)).toInt = 60 := rfl
      have f37 : 1 ≤ ((if (v118_31 + (1 : Int32)) < (60 : Int32) then (v118_31 + (1 : Int32)) else (60 : Int32))).toInt ∧ ((if (v118_31 + (1 : Int32)) < (60 : Int32) then (v118_31 + (1 : Int32)) else (60 : Int32))).toInt ≤ 60 := jif_lt (fun _ => (by omega)) (fun _ => (by omega))
      refine jok_b (t_as wh103_27 tp105_29 rfl (by omega) (by omega) (show jRw g ((9 : Int32)).toInt.toNat (if (v118_31 + (1 : Int32)) < (60 : Int32) then (v118_31 + (1 : Int32)) else (60 : Int32)) from ⟨⟨by omega, by omega, by omega⟩, Or.inl (by omega)⟩) (fun q => by cases q)) (fun h124_33 wh124_33 => ?_)
      obtain ⟨wh124_33, rh124_33⟩ := wh124_33
      exact jok_s wh124_33
    · refine jok_b (t_gR w ta0 rfl rfl) (fun p13_38 tp13_38 => ?_)
      refine jok_b (t_gR w ta0 rfl rfl) (fun p22_39 tp22_39 => ?_)
      have f41 : ((75 : Int32)).toInt = 75 := rfl
      have f42 : (((75 : Int32) + x4)).toInt = ((75 : Int32)).toInt + (x4).toInt := jadd (by omega) (by omega)
      have f43 : ((((75 : Int32) + x4) - (6 : Int32))).toInt = (((75 : Int32) + x4)).toInt - ((6 : Int32)).toInt := jsub (by omega) (by omega)
      refine jok_b (t_al w tp22_39 rfl (by omega) (by omega)) (fun v33_40 pv33_40 => ?_)
      refine jok_b (t_as w tp13_38 rfl (by omega) (by omega) (show jRw g (((75 : Int32) + x4)).toInt.toNat v33_40 from ⟨⟨by omega, by omega, by omega⟩, Or.inl (by omega)⟩) (fun q => by cases q)) (fun h34_44 wh34_44 => ?_)
      obtain ⟨wh34_44, rh34_44⟩ := wh34_44
      obtain ⟨y45, hy45⟩ : ∃ y : Int32, y = (x4 + (-1 : Int32)) := ⟨_, rfl⟩
      have fy45 : (y45).toInt = (x4).toInt - 1 := by rw [hy45]; exact jaddN rfl (by omega) (by omega)
      try rw [← hy45]
      exact ih wh34_44 ta0 (by omega) (by omega) (by omega) (by omega) (by omega)
set_option maxHeartbeats 1000000 in
theorem S_X12_tells {g : jGh} {Γ : Nat → Option Nat} {n : Nat} {a0 : Nat} {x1 : Int32} {x2 : Int32} {x3 : Int32} {h : jH} (hn : 6000 ≤ n) (hg : jgok g) (w : jW (jKd g) Γ h) (ta0 : Γ a0 = some 20) (lx1 : 0 ≤ x1.toInt) (ux1 : x1.toInt ≤ 7) : jok (F_X12_tells n a0 x1 x2 x3 h) (fun q => jW (jKd g) Γ q) := by
  unfold F_X12_tells
  have f1 : ((359 : Int32)).toInt = 359 := rfl
  exact S_X12_tells_5 hn hg  n w ta0 (by omega) (by omega) (by omega) (by omega) (by omega)
set_option maxHeartbeats 1000000 in
theorem S_X12_fadesOfAll_4 {g : jGh} {Γ : Nat → Option Nat} {n : Nat} (hn : 6000 ≤ n) (hg : jgok g)  (k : Nat) : ∀ {a0 : Nat} {x1 : Int32} {x2 : Int32} {h : jH}, jW (jKd g) Γ h → (Γ a0 = some 20) → (0 ≤ x2.toInt) → (x2.toInt ≤ 8) → (8 : Int) - x2.toInt < (k : Int) → jok (F_X12_fadesOfAll_4 n k a0 x1 x2 h) (fun v => True) := by
  induction k with
  | zero =>
    intro a0 x1 x2 h w ta0 lx2 ux2 mk
    omega
  | succ k ih =>
    intro a0 x1 x2 h w ta0 lx2 ux2 mk
    show jok (F_X12_fadesOfAll_4_b n (F_X12_fadesOfAll_4 n k) a0 x1 x2 h) _
    unfold F_X12_fadesOfAll_4_b
    try rw [t_cv w ta0 rfl]
    refine jok_b2 (S_X12_rings hn hg w ta0) (fun v6_1 ev6_1 pv6_1 => ?_)
    obtain ⟨lv6_1, uv6_1⟩ := pv6_1
    refine jok_le (fun c2 => ?_) (fun c2 => ?_)
    · exact jok_s trivial
    · try rw [t_cv w ta0 rfl]
      have f4 : ((4 : Int32)).toInt = 4 := rfl
      refine jok_b (S_X12_of hn hg w ta0 (by omega) (by omega) (by omega) (by omega)) (fun v16_3 pv16_3 => ?_)
      have pv16_3_9 := pv16_3
      try dsimp only at pv16_3_9
      have f5 : ((1 : Int32)).toInt = 1 := rfl
      have f6 : ((x2 + (1 : Int32))).toInt = (x2).toInt + ((1 : Int32)).toInt := jadd (by omega) (by omega)
      exact ih w ta0 (by omega) (by omega) (by omega)
set_option maxHeartbeats 1000000 in
theorem S_X12_fadesOfAll {g : jGh} {Γ : Nat → Option Nat} {n : Nat} {a0 : Nat} {h : jH} (hn : 6000 ≤ n) (hg : jgok g) (w : jW (jKd g) Γ h) (ta0 : Γ a0 = some 20) : jok (F_X12_fadesOfAll n a0 h) (fun v => True) := by
  unfold F_X12_fadesOfAll
  have f1 : ((0 : Int32)).toInt = 0 := rfl
  exact S_X12_fadesOfAll_4 hn hg  n w ta0 (by omega) (by omega) (by omega)
set_option maxHeartbeats 1000000 in
theorem S_X12_shareOf {g : jGh} {Γ : Nat → Option Nat} {n : Nat} {a0 : Nat} {x1 : Int32} {h : jH} (hn : 6000 ≤ n) (hg : jgok g) (w : jW (jKd g) Γ h) (ta0 : Γ a0 = some 20) (lx1 : 0 ≤ x1.toInt) (ux1 : x1.toInt ≤ 7) : jok (F_X12_shareOf n a0 x1 h) (fun v => True) := by
  unfold F_X12_shareOf
  try rw [t_cv w ta0 rfl]
  refine jok_b (S_X12_fadesOfAll hn hg w ta0) (fun v1_1 pv1_1 => ?_)
  have f2 : ((0 : Int32)).toInt = 0 := rfl
  refine jok_eq (fun c3 d3 => ?_) (fun c3 => ?_)
  · exact jok_s trivial
  · try rw [t_cv w ta0 rfl]
    have f5 : ((4 : Int32)).toInt = 4 := rfl
    refine jok_b (S_X12_of hn hg w ta0 (by omega) (by omega) (by omega) (by omega)) (fun v18_4 pv18_4 => ?_)
    have pv18_4_9 := pv18_4
    try dsimp only at pv18_4_9
    rw [if_neg (show ¬ (v1_1 = 0) from jne (by omega))]
    exact jok_s trivial
set_option maxHeartbeats 1000000 in
theorem S_X12_hangsOn_21 {g : jGh} {Γ : Nat → Option Nat} {n : Nat} (hn : 6000 ≤ n) (hg : jgok g)  (k : Nat) : ∀ {a0 : Nat} {x1 : Int32} {x2 : Int32} {x3 : Int32} {x4 : Int32} {h : jH}, jW (jKd g) Γ h → (Γ a0 = some 20) → (0 ≤ x1.toInt) → (x1.toInt ≤ 7) → (0 ≤ x4.toInt) → (x4.toInt ≤ 8) → (8 : Int) - x4.toInt < (k : Int) → jok (F_X12_hangsOn_21 n k a0 x1 x2 x3 x4 h) (fun v => True) := by
  induction k with
  | zero =>
    intro a0 x1 x2 x3 x4 h w ta0 lx1 ux1 lx4 ux4 mk
    omega
  | succ k ih =>
    intro a0 x1 x2 x3 x4 h w ta0 lx1 ux1 lx4 ux4 mk
    show jok (F_X12_hangsOn_21_b n (F_X12_hangsOn_21 n k) a0 x1 x2 x3 x4 h) _
    unfold F_X12_hangsOn_21_b
    try rw [t_cv w ta0 rfl]
    refine jok_b2 (S_X12_rings hn hg w ta0) (fun v24_1 ev24_1 pv24_1 => ?_)
    obtain ⟨lv24_1, uv24_1⟩ := pv24_1
    refine jok_le (fun c2 => ?_) (fun c2 => ?_)
    · exact jok_s trivial
    · try rw [t_cv w ta0 rfl]
      have f4 : ((6 : Int32)).toInt = 6 := rfl
      refine jok_b (S_X12_is hn hg w ta0 (by omega) (by omega) (by omega) (by omega)) (fun v35_3 pv35_3 => ?_)
      obtain ⟨lv35_3, uv35_3⟩ := pv35_3
      have f5 : ((0 : Int32)).toInt = 0 := rfl
      refine jok_eq (fun c6 d6 => ?_) (fun c6 => ?_)
      · have f7 : ((1000000 : Int32)).toInt = 1000000 := rfl
        refine jok_le (fun c8 => ?_) (fun c8 => ?_)
        · unfold F_X12_hangsOn_78
          have f9 : ((1 : Int32)).toInt = 1 := rfl
          have f10 : ((x4 + (1 : Int32))).toInt = (x4).toInt + ((1 : Int32)).toInt := jadd (by omega) (by omega)
          exact ih w ta0 (by omega) (by omega) (by omega) (by omega) (by omega)
        · unfold F_X12_hangsOn_78
          have f11 : ((1 : Int32)).toInt = 1 := rfl
          have f12 : ((x4 + (1 : Int32))).toInt = (x4).toInt + ((1 : Int32)).toInt := jadd (by omega) (by omega)
          exact ih w ta0 (by omega) (by omega) (by omega) (by omega) (by omega)
      · try rw [t_cv w ta0 rfl]
        refine jok_b (S_X12_of hn hg w ta0 (by omega) (by omega) (by omega) (by omega)) (fun v45_13 pv45_13 => ?_)
        have pv45_13_9 := pv45_13
        try dsimp only at pv45_13_9
        try rw [t_cv w ta0 rfl]
        refine jok_b (S_X12_of hn hg w ta0 (by omega) (by omega) (by omega) (by omega)) (fun v51_14 pv51_14 => ?_)
        have pv51_14_9 := pv51_14
        try dsimp only at pv51_14_9
        have f15 : ((v45_13 - v51_14)).toInt = (v45_13).toInt - (v51_14).toInt := jsub (by omega) (by omega)
        have f17 : 0 ≤ ((if (0 : Int32) ≤ (v45_13 - v51_14) then (v45_13 - v51_14) else ((0 : Int32) - (v45_13 - v51_14)))).toInt ∧ ((if (0 : Int32) ≤ (v45_13 - v51_14) then (v45_13 - v51_14) else ((0 : Int32) - (v45_13 - v51_14)))).toInt ≤ 31 := jif_le (fun _ => (by omega)) (fun _ => (by have f16 : (((0 : Int32) - (v45_13 - v51_14))).toInt = ((0 : Int32)).toInt - ((v45_13 - v51_14)).toInt := jsub (by omega) (by omega); omega))
        refine jok_le (fun c18 => ?_) (fun c18 => ?_)
        · unfold F_X12_hangsOn_78
          have f19 : ((1 : Int32)).toInt = 1 := rfl
          have f20 : ((x4 + (1 : Int32))).toInt = (x4).toInt + ((1 : Int32)).toInt := jadd (by omega) (by omega)
          exact ih w ta0 (by omega) (by omega) (by omega) (by omega) (by omega)
        · unfold F_X12_hangsOn_78
          have f21 : ((1 : Int32)).toInt = 1 := rfl
          have f22 : ((x4 + (1 : Int32))).toInt = (x4).toInt + ((1 : Int32)).toInt := jadd (by omega) (by omega)
          exact ih w ta0 (by omega) (by omega) (by omega) (by omega) (by omega)
set_option maxHeartbeats 1000000 in
theorem S_X12_hangsOn {g : jGh} {Γ : Nat → Option Nat} {n : Nat} {a0 : Nat} {x1 : Int32} {h : jH} (hn : 6000 ≤ n) (hg : jgok g) (w : jW (jKd g) Γ h) (ta0 : Γ a0 = some 20) (lx1 : 0 ≤ x1.toInt) (ux1 : x1.toInt ≤ 7) : jok (F_X12_hangsOn n a0 x1 h) (fun v => True) := by
  unfold F_X12_hangsOn
  try rw [t_cv w ta0 rfl]
  have f2 : ((6 : Int32)).toInt = 6 := rfl
  refine jok_b (S_X12_is hn hg w ta0 (by omega) (by omega) (by omega) (by omega)) (fun v4_1 pv4_1 => ?_)
  obtain ⟨lv4_1, uv4_1⟩ := pv4_1
  have f3 : ((0 : Int32)).toInt = 0 := rfl
  refine jok_eq (fun c4 d4 => ?_) (fun c4 => ?_)
  · exact S_X12_hangsOn_21 hn hg  n w ta0 (by omega) (by omega) (by omega) (by omega) (by omega)
  · exact jok_s trivial
set_option maxHeartbeats 1000000 in
theorem S_X12_keepsAll_2 {g : jGh} {Γ : Nat → Option Nat} {n : Nat} (hn : 6000 ≤ n) (hg : jgok g)  (k : Nat) : ∀ {a0 : Nat} {x1 : Int32} {h : jH}, jW (jKd g) Γ h → (Γ a0 = some 20) → (0 ≤ x1.toInt) → (x1.toInt ≤ 435) → (435 : Int) - x1.toInt < (k : Int) → jok (F_X12_keepsAll_2 n k a0 x1 h) (fun q => jW (jKd g) Γ q) := by
  induction k with
  | zero =>
    intro a0 x1 h w ta0 lx1 ux1 mk
    omega
  | succ k ih =>
    intro a0 x1 h w ta0 lx1 ux1 mk
    show jok (F_X12_keepsAll_2_b n (F_X12_keepsAll_2 n k) a0 x1 h) _
    unfold F_X12_keepsAll_2_b
    have f1 : ((435 : Int32)).toInt = 435 := rfl
    refine jok_le (fun c2 => ?_) (fun c2 => ?_)
    · exact jok_s w
    · refine jok_b (t_gR w ta0 rfl rfl) (fun p10_3 tp10_3 => ?_)
      refine jok_b (t_gR w ta0 rfl rfl) (fun p15_4 tp15_4 => ?_)
      refine jok_b (t_al w tp15_4 rfl (by omega) (by omega)) (fun v19_5 pv19_5 => ?_)
      refine jok_b (t_as w tp10_3 rfl (by omega) (by omega) pv19_5.1 (fun q => by cases q)) (fun h20_6 wh20_6 => ?_)
      obtain ⟨wh20_6, rh20_6⟩ := wh20_6
      have f7 : ((1 : Int32)).toInt = 1 := rfl
      have f8 : ((x1 + (1 : Int32))).toInt = (x1).toInt + ((1 : Int32)).toInt := jadd (by omega) (by omega)
      exact ih wh20_6 ta0 (by omega) (by omega) (by omega)
set_option maxHeartbeats 1000000 in
theorem S_X12_keepsAll {g : jGh} {Γ : Nat → Option Nat} {n : Nat} {a0 : Nat} {h : jH} (hn : 6000 ≤ n) (hg : jgok g) (w : jW (jKd g) Γ h) (ta0 : Γ a0 = some 20) : jok (F_X12_keepsAll n a0 h) (fun q => jW (jKd g) Γ q) := by
  unfold F_X12_keepsAll
  have f1 : ((0 : Int32)).toInt = 0 := rfl
  exact S_X12_keepsAll_2 hn hg  n w ta0 (by omega) (by omega) (by omega)
set_option maxHeartbeats 1000000 in
theorem S_X12_bringsBack_2 {g : jGh} {Γ : Nat → Option Nat} {n : Nat} (hn : 6000 ≤ n) (hg : jgok g)  (k : Nat) : ∀ {a0 : Nat} {x1 : Int32} {h : jH}, jW (jKd g) Γ h → (Γ a0 = some 20) → (0 ≤ x1.toInt) → (x1.toInt ≤ 435) → (435 : Int) - x1.toInt < (k : Int) → jok (F_X12_bringsBack_2 n k a0 x1 h) (fun q => jW (jKd g) Γ q) := by
  induction k with
  | zero =>
    intro a0 x1 h w ta0 lx1 ux1 mk
    omega
  | succ k ih =>
    intro a0 x1 h w ta0 lx1 ux1 mk
    show jok (F_X12_bringsBack_2_b n (F_X12_bringsBack_2 n k) a0 x1 h) _
    unfold F_X12_bringsBack_2_b
    have f1 : ((435 : Int32)).toInt = 435 := rfl
    refine jok_le (fun c2 => ?_) (fun c2 => ?_)
    · exact jok_s w
    · refine jok_b (t_gR w ta0 rfl rfl) (fun p10_3 tp10_3 => ?_)
      refine jok_b (t_gR w ta0 rfl rfl) (fun p15_4 tp15_4 => ?_)
      refine jok_b (t_al w tp15_4 rfl (by omega) (by omega)) (fun v19_5 pv19_5 => ?_)
      refine jok_b (t_as w tp10_3 rfl (by omega) (by omega) ⟨pv19_5, Or.inl (by omega)⟩ (fun q => by cases q)) (fun h20_6 wh20_6 => ?_)
      obtain ⟨wh20_6, rh20_6⟩ := wh20_6
      have f7 : ((1 : Int32)).toInt = 1 := rfl
      have f8 : ((x1 + (1 : Int32))).toInt = (x1).toInt + ((1 : Int32)).toInt := jadd (by omega) (by omega)
      exact ih wh20_6 ta0 (by omega) (by omega) (by omega)
set_option maxHeartbeats 1000000 in
theorem S_X12_bringsBack {g : jGh} {Γ : Nat → Option Nat} {n : Nat} {a0 : Nat} {h : jH} (hn : 6000 ≤ n) (hg : jgok g) (w : jW (jKd g) Γ h) (ta0 : Γ a0 = some 20) : jok (F_X12_bringsBack n a0 h) (fun q => jW (jKd g) Γ q) := by
  unfold F_X12_bringsBack
  have f1 : ((0 : Int32)).toInt = 0 := rfl
  exact S_X12_bringsBack_2 hn hg  n w ta0 (by omega) (by omega) (by omega)
set_option maxHeartbeats 1000000 in
theorem S_X12_somePale_4 {g : jGh} {Γ : Nat → Option Nat} {n : Nat} (hn : 6000 ≤ n) (hg : jgok g)  (k : Nat) : ∀ {a0 : Nat} {x1 : Int32} {x2 : Int32} {h : jH}, jW (jKd g) Γ h → (Γ a0 = some 20) → (0 ≤ x1.toInt) → (x1.toInt ≤ 1) → (0 ≤ x2.toInt) → (x2.toInt ≤ 8) → (8 : Int) - x2.toInt < (k : Int) → jok (F_X12_somePale_4 n k a0 x1 x2 h) (fun v => 0 ≤ v.toInt ∧ v.toInt ≤ 1) := by
  induction k with
  | zero =>
    intro a0 x1 x2 h w ta0 lx1 ux1 lx2 ux2 mk
    omega
  | succ k ih =>
    intro a0 x1 x2 h w ta0 lx1 ux1 lx2 ux2 mk
    show jok (F_X12_somePale_4_b n (F_X12_somePale_4 n k) a0 x1 x2 h) _
    unfold F_X12_somePale_4_b
    try rw [t_cv w ta0 rfl]
    refine jok_b2 (S_X12_rings hn hg w ta0) (fun v6_1 ev6_1 pv6_1 => ?_)
    obtain ⟨lv6_1, uv6_1⟩ := pv6_1
    refine jok_le (fun c2 => ?_) (fun c2 => ?_)
    · rw [if_pos (show x1 = 0 ∨ x1 = 1 from j01 (by omega) (by omega))]
      exact jok_s (show jI 0 1 x1 from ⟨by omega, by omega⟩)
    · have f3 : ((0 : Int32)).toInt = 0 := rfl
      refine jok_eq (fun c4 d4 => ?_) (fun c4 => ?_)
      · try rw [t_cv w ta0 rfl]
        have f6 : ((4 : Int32)).toInt = 4 := rfl
        refine jok_b (S_X12_of hn hg w ta0 (by omega) (by omega) (by omega) (by omega)) (fun v19_5 pv19_5 => ?_)
        have pv19_5_9 := pv19_5
        try dsimp only at pv19_5_9
        have f7 : ((99 : Int32)).toInt = 99 := rfl
        refine jok_eq (fun c8 d8 => ?_) (fun c8 => ?_)
        · have f9 : ((1 : Int32)).toInt = 1 := rfl
          have f10 : ((x2 + (1 : Int32))).toInt = (x2).toInt + ((1 : Int32)).toInt := jadd (by omega) (by omega)
          exact ih w ta0 (by omega) (by omega) (by omega) (by omega) (by omega)
        · have f11 : ((1 : Int32)).toInt = 1 := rfl
          have f12 : ((x2 + (1 : Int32))).toInt = (x2).toInt + ((1 : Int32)).toInt := jadd (by omega) (by omega)
          exact ih w ta0 (by omega) (by omega) (by omega) (by omega) (by omega)
      · have f13 : ((1 : Int32)).toInt = 1 := rfl
        have f14 : ((x2 + (1 : Int32))).toInt = (x2).toInt + ((1 : Int32)).toInt := jadd (by omega) (by omega)
        exact ih w ta0 (by omega) (by omega) (by omega) (by omega) (by omega)
set_option maxHeartbeats 1000000 in
theorem S_X12_somePale {g : jGh} {Γ : Nat → Option Nat} {n : Nat} {a0 : Nat} {h : jH} (hn : 6000 ≤ n) (hg : jgok g) (w : jW (jKd g) Γ h) (ta0 : Γ a0 = some 20) : jok (F_X12_somePale n a0 h) (fun v => 0 ≤ v.toInt ∧ v.toInt ≤ 1) := by
  unfold F_X12_somePale
  have f1 : ((0 : Int32)).toInt = 0 := rfl
  exact S_X12_somePale_4 hn hg  n w ta0 (by omega) (by omega) (by omega) (by omega) (by omega)
set_option maxHeartbeats 1000000 in
theorem S_X12_shadeNow_44 {g : jGh} {Γ : Nat → Option Nat} {n : Nat} (hn : 6000 ≤ n) (hg : jgok g) {k4 : Nat} {rc4 : Nat → Int32 → Int32 → jH → Option Int32} (k : Nat) : ∀ {a0 : Nat} {x1 : Int32} {x2 : Int32} {x3 : Int32} {h : jH}, jW (jKd g) Γ h → (Γ a0 = some 20) → (0 ≤ x2.toInt) → (x2.toInt ≤ 6) → (0 ≤ x3.toInt) → (x3.toInt ≤ 32) → (32 : Int) - x3.toInt < (k : Int) → (∀ {a0 : Nat} {x1 : Int32} {x2 : Int32} {h : jH}, jW (jKd g) Γ h → (Γ a0 = some 20) → (0 ≤ x2.toInt) → (x2.toInt ≤ 7) → (7 : Int) - x2.toInt < (k4 : Int) → jok (rc4 a0 x1 x2 h) (fun v => True)) → ((7 : Int) - x2.toInt ≤ (k4 : Int)) → jok (F_X12_shadeNow_44 n rc4 k a0 x1 x2 x3 h) (fun v => True) := by
  induction k with
  | zero =>
    intro a0 x1 x2 x3 h w ta0 lx2 ux2 lx3 ux3 mk hrc4 m4
    omega
  | succ k ih =>
    intro a0 x1 x2 x3 h w ta0 lx2 ux2 lx3 ux3 mk hrc4 m4
    show jok (F_X12_shadeNow_44_b n rc4 (F_X12_shadeNow_44 n rc4 k) a0 x1 x2 x3 h) _
    unfold F_X12_shadeNow_44_b
    try rw [t_cv w ta0 rfl]
    have f2 : ((1 : Int32)).toInt = 1 := rfl
    have f3 : ((x2 + (1 : Int32))).toInt = (x2).toInt + ((1 : Int32)).toInt := jadd (by omega) (by omega)
    have f4 : ((0 : Int32)).toInt = 0 := rfl
    refine jok_b (S_X12_of hn hg w ta0 (by omega) (by omega) (by omega) (by omega)) (fun v50_1 pv50_1 => ?_)
    have pv50_1_9 := pv50_1
    try dsimp only at pv50_1_9
    refine jok_lt (fun c5 => ?_) (fun c5 => ?_)
    · exact hrc4 w ta0 (by omega) (by omega) (by omega)
    · have f6 : ((x3 + (1 : Int32))).toInt = (x3).toInt + ((1 : Int32)).toInt := jadd (by omega) (by omega)
      exact ih w ta0 (by omega) (by omega) (by omega) (by omega) (by omega) hrc4 (by omega)
set_option maxHeartbeats 1000000 in
theorem S_X12_shadeNow_4 {g : jGh} {Γ : Nat → Option Nat} {n : Nat} (hn : 6000 ≤ n) (hg : jgok g)  (k : Nat) : ∀ {a0 : Nat} {x1 : Int32} {x2 : Int32} {h : jH}, jW (jKd g) Γ h → (Γ a0 = some 20) → (0 ≤ x2.toInt) → (x2.toInt ≤ 7) → (7 : Int) - x2.toInt < (k : Int) → jok (F_X12_shadeNow_4 n k a0 x1 x2 h) (fun v => True) := by
  induction k with
  | zero =>
    intro a0 x1 x2 h w ta0 lx2 ux2 mk
    omega
  | succ k ih =>
    intro a0 x1 x2 h w ta0 lx2 ux2 mk
    show jok (F_X12_shadeNow_4_b n (F_X12_shadeNow_4 n k) a0 x1 x2 h) _
    unfold F_X12_shadeNow_4_b
    try rw [t_cv w ta0 rfl]
    refine jok_b2 (S_X12_lastRing hn hg w ta0) (fun v6_1 ev6_1 pv6_1 => ?_)
    obtain ⟨lv6_1, uv6_1⟩ := pv6_1
    refine jok_le (fun c2 => ?_) (fun c2 => ?_)
    · exact jok_s trivial
    · try rw [t_cv w ta0 rfl]
      have f4 : ((6 : Int32)).toInt = 6 := rfl
      refine jok_b (S_X12_is hn hg w ta0 (by omega) (by omega) (by omega) (by omega)) (fun v16_3 pv16_3 => ?_)
      obtain ⟨lv16_3, uv16_3⟩ := pv16_3
      have f5 : ((0 : Int32)).toInt = 0 := rfl
      refine jok_eq (fun c6 d6 => ?_) (fun c6 => ?_)
      · have f7 : ((1 : Int32)).toInt = 1 := rfl
        have f8 : ((x2 + (1 : Int32))).toInt = (x2).toInt + ((1 : Int32)).toInt := jadd (by omega) (by omega)
        exact ih w ta0 (by omega) (by omega) (by omega)
      · try rw [t_cv w ta0 rfl]
        have f10 : ((1 : Int32)).toInt = 1 := rfl
        have f11 : ((x2 + (1 : Int32))).toInt = (x2).toInt + ((1 : Int32)).toInt := jadd (by omega) (by omega)
        refine jok_b (S_X12_is hn hg w ta0 (by omega) (by omega) (by omega) (by omega)) (fun v28_9 pv28_9 => ?_)
        obtain ⟨lv28_9, uv28_9⟩ := pv28_9
        refine jok_eq (fun c12 d12 => ?_) (fun c12 => ?_)
        · exact ih w ta0 (by omega) (by omega) (by omega)
        · try rw [t_cv w ta0 rfl]
          refine jok_b (S_X12_of hn hg w ta0 (by omega) (by omega) (by omega) (by omega)) (fun v40_13 pv40_13 => ?_)
          have pv40_13_9 := pv40_13
          try dsimp only at pv40_13_9
          exact S_X12_shadeNow_44 hn hg  n w ta0 (by omega) (by omega) (by omega) (by omega) (by omega) ih (by omega)
set_option maxHeartbeats 1000000 in
theorem S_X12_shadeNow {g : jGh} {Γ : Nat → Option Nat} {n : Nat} {a0 : Nat} {h : jH} (hn : 6000 ≤ n) (hg : jgok g) (w : jW (jKd g) Γ h) (ta0 : Γ a0 = some 20) : jok (F_X12_shadeNow n a0 h) (fun v => True) := by
  unfold F_X12_shadeNow
  have f1 : ((0 : Int32)).toInt = 0 := rfl
  exact S_X12_shadeNow_4 hn hg  n w ta0 (by omega) (by omega) (by omega)
set_option maxHeartbeats 1000000 in
theorem S_X12_darkNow {g : jGh} {Γ : Nat → Option Nat} {n : Nat} {a0 : Nat} {h : jH} (hn : 6000 ≤ n) (hg : jgok g) (w : jW (jKd g) Γ h) (ta0 : Γ a0 = some 20) : jok (F_X12_darkNow n a0 h) (fun v => True) := by
  unfold F_X12_darkNow
  refine jok_b (t_gR w ta0 rfl rfl) (fun p1_1 tp1_1 => ?_)
  have f3 : ((7 : Int32)).toInt = 7 := rfl
  refine jok_b (t_al w tp1_1 rfl (by omega) (by omega)) (fun v6_2 pv6_2 => ?_)
  try rw [t_cv w ta0 rfl]
  refine jok_b (S_X12_shadeNow hn hg w ta0) (fun v8_4 pv8_4 => ?_)
  refine jok_b (S_J6_bitCount_0f7a4 hn hg w) (fun v12_5 pv12_5 => ?_)
  exact jok_s trivial
set_option maxHeartbeats 1000000 in
theorem S_X12_areCaught_2 {g : jGh} {Γ : Nat → Option Nat} {n : Nat} (hn : 6000 ≤ n) (hg : jgok g)  (k : Nat) : ∀ {a0 : Nat} {x1 : Int32} {x2 : Int32} {h : jH}, jW (jKd g) Γ h → (Γ a0 = some 20) → (0 ≤ x2.toInt) → (x2.toInt ≤ 8) → (8 : Int) - x2.toInt < (k : Int) → jok (F_X12_areCaught_2 n k a0 x1 x2 h) (fun q => jW (jKd g) Γ q) := by
  induction k with
  | zero =>
    intro a0 x1 x2 h w ta0 lx2 ux2 mk
    omega
  | succ k ih =>
    intro a0 x1 x2 h w ta0 lx2 ux2 mk
    show jok (F_X12_areCaught_2_b n (F_X12_areCaught_2 n k) a0 x1 x2 h) _
    unfold F_X12_areCaught_2_b
    try rw [t_cv w ta0 rfl]
    refine jok_b2 (S_X12_rings hn hg w ta0) (fun v4_1 ev4_1 pv4_1 => ?_)
    obtain ⟨lv4_1, uv4_1⟩ := pv4_1
    refine jok_le (fun c2 => ?_) (fun c2 => ?_)
    · exact jok_s w
    · refine jok_b (t_gR w ta0 rfl rfl) (fun p11_3 tp11_3 => ?_)
      have f5 : ((7 : Int32)).toInt = 7 := rfl
      refine jok_b (S_X12_at hn hg w (by omega) (by omega) (by omega) (by omega)) (fun v17_4 pv17_4 => ?_)
      have pv17_4_9 := pv17_4
      try dsimp only at pv17_4_9
      refine jok_b (S_X12_has hn hg w) (fun v22_6 pv22_6 => ?_)
      obtain ⟨lv22_6, uv22_6⟩ := pv22_6
      have f7 : ((0 : Int32)).toInt = 0 := rfl
      refine jok_eq (fun c8 d8 => ?_) (fun c8 => ?_)
      · refine jok_b (t_as w tp11_3 rfl (by omega) (by omega) (show jRw g (v17_4).toInt.toNat (0 : Int32) from ⟨⟨by omega, by omega, by omega⟩, Or.inl (by omega)⟩) (fun q => by cases q)) (fun h33_9 wh33_9 => ?_)
        obtain ⟨wh33_9, rh33_9⟩ := wh33_9
        have f10 : ((1 : Int32)).toInt = 1 := rfl
        have f11 : ((x2 + (1 : Int32))).toInt = (x2).toInt + ((1 : Int32)).toInt := jadd (by omega) (by omega)
        exact ih wh33_9 ta0 (by omega) (by omega) (by omega)
      · have f13 : ((1 : Int32)).toInt = 1 := rfl
        refine jok_b (t_as w tp11_3 rfl (by omega) (by omega) (show jRw g (v17_4).toInt.toNat (1 : Int32) from ⟨⟨by omega, by omega, by omega⟩, Or.inl (by omega)⟩) (fun q => by cases q)) (fun h33_12 wh33_12 => ?_)
        obtain ⟨wh33_12, rh33_12⟩ := wh33_12
        have f14 : ((x2 + (1 : Int32))).toInt = (x2).toInt + ((1 : Int32)).toInt := jadd (by omega) (by omega)
        exact ih wh33_12 ta0 (by omega) (by omega) (by omega)
set_option maxHeartbeats 1000000 in
theorem S_X12_areCaught {g : jGh} {Γ : Nat → Option Nat} {n : Nat} {a0 : Nat} {x1 : Int32} {h : jH} (hn : 6000 ≤ n) (hg : jgok g) (w : jW (jKd g) Γ h) (ta0 : Γ a0 = some 20) : jok (F_X12_areCaught n a0 x1 h) (fun q => jW (jKd g) Γ q) := by
  unfold F_X12_areCaught
  have f1 : ((0 : Int32)).toInt = 0 := rfl
  exact S_X12_areCaught_2 hn hg  n w ta0 (by omega) (by omega) (by omega)
set_option maxHeartbeats 1000000 in
theorem S_X12_thatCanCatch {g : jGh} {Γ : Nat → Option Nat} {n : Nat} {a0 : Nat} {h : jH} (hn : 6000 ≤ n) (hg : jgok g) (w : jW (jKd g) Γ h) (ta0 : Γ a0 = some 20) : jok (F_X12_thatCanCatch n a0 h) (fun v => 0 ≤ v.toInt ∧ v.toInt ≤ 127) := by
  unfold F_X12_thatCanCatch
  try rw [t_cv w ta0 rfl]
  refine jok_b2 (S_X12_rings hn hg w ta0) (fun v1_1 ev1_1 pv1_1 => ?_)
  obtain ⟨lv1_1, uv1_1⟩ := pv1_1
  have f2 : ((2 : Int32)).toInt = 2 := rfl
  refine jok_le (fun c3 => ?_) (fun c3 => ?_)
  · try rw [t_cv w ta0 rfl]
    refine jok_r (last_of w ta0 ev1_1) ?_
    have f5 : ((1 : Int32)).toInt = 1 := rfl
    have f6 : ((v1_1 - (1 : Int32))).toInt = (v1_1).toInt - ((1 : Int32)).toInt := jsub (by omega) (by omega)
    have f7 := jshl1 (v := (v1_1 - (1 : Int32))) (k := 7) (by omega) (by omega) (by decide)
    have f8 : ((((1 : Int32) <<< ((v1_1 - (1 : Int32)) &&& (31 : Int32))) - (1 : Int32))).toInt = (((1 : Int32) <<< ((v1_1 - (1 : Int32)) &&& (31 : Int32)))).toInt - ((1 : Int32)).toInt := jsub (by omega) (by omega)
    exact jok_s (show jI 0 127 (((1 : Int32) <<< ((v1_1 - (1 : Int32)) &&& (31 : Int32))) - (1 : Int32)) from ⟨by omega, by omega⟩)
  · have f9 : ((0 : Int32)).toInt = 0 := rfl
    exact jok_s (show jI 0 127 (0 : Int32) from ⟨by omega, by omega⟩)
set_option maxHeartbeats 1000000 in
theorem S_X12_likens {g : jGh} {Γ : Nat → Option Nat} {n : Nat} {a0 : Nat} {x1 : Int32} {x2 : Int32} {h : jH} (hn : 6000 ≤ n) (hg : jgok g) (w : jW (jKd g) Γ h) (ta0 : Γ a0 = some 20) (lx1 : 0 ≤ x1.toInt) (ux1 : x1.toInt ≤ 7) (lx2 : 0 ≤ x2.toInt) (ux2 : x2.toInt ≤ 7) : jok (F_X12_likens n a0 x1 x2 h) (fun v => 0 ≤ v.toInt ∧ v.toInt ≤ 1) := by
  unfold F_X12_likens
  try rw [t_cv w ta0 rfl]
  have f2 : ((1 : Int32)).toInt = 1 := rfl
  refine jok_b (S_X12_of hn hg w ta0 (by omega) (by omega) (by omega) (by omega)) (fun v3_1 pv3_1 => ?_)
  have pv3_1_9 := pv3_1
  try dsimp only at pv3_1_9
  try rw [t_cv w ta0 rfl]
  refine jok_b (S_X12_of hn hg w ta0 (by omega) (by omega) (by omega) (by omega)) (fun v9_3 pv9_3 => ?_)
  have pv9_3_9 := pv9_3
  try dsimp only at pv9_3_9
  refine jok_eq (fun c4 d4 => ?_) (fun c4 => ?_)
  · try rw [t_cv w ta0 rfl]
    have f6 : ((5 : Int32)).toInt = 5 := rfl
    refine jok_b (S_X12_of hn hg w ta0 (by omega) (by omega) (by omega) (by omega)) (fun v18_5 pv18_5 => ?_)
    have pv18_5_9 := pv18_5
    try dsimp only at pv18_5_9
    try rw [t_cv w ta0 rfl]
    refine jok_b (S_X12_of hn hg w ta0 (by omega) (by omega) (by omega) (by omega)) (fun v24_7 pv24_7 => ?_)
    have pv24_7_9 := pv24_7
    try dsimp only at pv24_7_9
    refine jok_eq (fun c8 d8 => ?_) (fun c8 => ?_)
    · try rw [t_cv w ta0 rfl]
      have f10 : ((4 : Int32)).toInt = 4 := rfl
      refine jok_b (S_X12_of hn hg w ta0 (by omega) (by omega) (by omega) (by omega)) (fun v33_9 pv33_9 => ?_)
      have pv33_9_9 := pv33_9
      try dsimp only at pv33_9_9
      try rw [t_cv w ta0 rfl]
      refine jok_b (S_X12_of hn hg w ta0 (by omega) (by omega) (by omega) (by omega)) (fun v39_11 pv39_11 => ?_)
      have pv39_11_9 := pv39_11
      try dsimp only at pv39_11_9
      refine jok_eq (fun c12 d12 => ?_) (fun c12 => ?_)
      · exact jok_s (show jI 0 1 (1 : Int32) from ⟨by omega, by omega⟩)
      · have f13 : ((0 : Int32)).toInt = 0 := rfl
        exact jok_s (show jI 0 1 (0 : Int32) from ⟨by omega, by omega⟩)
    · have f14 : ((0 : Int32)).toInt = 0 := rfl
      exact jok_s (show jI 0 1 (0 : Int32) from ⟨by omega, by omega⟩)
  · have f15 : ((0 : Int32)).toInt = 0 := rfl
    exact jok_s (show jI 0 1 (0 : Int32) from ⟨by omega, by omega⟩)
set_option maxHeartbeats 1000000 in
theorem S_X12_litIn_4 {g : jGh} {Γ : Nat → Option Nat} {n : Nat} (hn : 6000 ≤ n) (hg : jgok g)  (k : Nat) : ∀ {a0 : Nat} {x1 : Int32} {x2 : Int32} {x3 : Int32} {h : jH}, jW (jKd g) Γ h → (Γ a0 = some 20) → (0 ≤ x3.toInt) → (x3.toInt ≤ 8) → (8 : Int) - x3.toInt < (k : Int) → jok (F_X12_litIn_4 n k a0 x1 x2 x3 h) (fun v => True) := by
  induction k with
  | zero =>
    intro a0 x1 x2 x3 h w ta0 lx3 ux3 mk
    omega
  | succ k ih =>
    intro a0 x1 x2 x3 h w ta0 lx3 ux3 mk
    show jok (F_X12_litIn_4_b n (F_X12_litIn_4 n k) a0 x1 x2 x3 h) _
    unfold F_X12_litIn_4_b
    try rw [t_cv w ta0 rfl]
    refine jok_b2 (S_X12_rings hn hg w ta0) (fun v6_1 ev6_1 pv6_1 => ?_)
    obtain ⟨lv6_1, uv6_1⟩ := pv6_1
    refine jok_le (fun c2 => ?_) (fun c2 => ?_)
    · exact jok_s trivial
    · try rw [t_cv w ta0 rfl]
      refine jok_b (S_X12_isLit hn hg w ta0 (by omega) (by omega)) (fun v16_3 pv16_3 => ?_)
      obtain ⟨lv16_3, uv16_3⟩ := pv16_3
      have f4 : ((0 : Int32)).toInt = 0 := rfl
      refine jok_eq (fun c5 d5 => ?_) (fun c5 => ?_)
      · have f6 : ((1 : Int32)).toInt = 1 := rfl
        have f7 : ((x3 + (1 : Int32))).toInt = (x3).toInt + ((1 : Int32)).toInt := jadd (by omega) (by omega)
        exact ih w ta0 (by omega) (by omega) (by omega)
      · have f8 : ((1 : Int32)).toInt = 1 := rfl
        have f9 : ((x3 + (1 : Int32))).toInt = (x3).toInt + ((1 : Int32)).toInt := jadd (by omega) (by omega)
        exact ih w ta0 (by omega) (by omega) (by omega)
set_option maxHeartbeats 1000000 in
theorem S_X12_litIn {g : jGh} {Γ : Nat → Option Nat} {n : Nat} {a0 : Nat} {x1 : Int32} {h : jH} (hn : 6000 ≤ n) (hg : jgok g) (w : jW (jKd g) Γ h) (ta0 : Γ a0 = some 20) : jok (F_X12_litIn n a0 x1 h) (fun v => True) := by
  unfold F_X12_litIn
  have f1 : ((0 : Int32)).toInt = 0 := rfl
  exact S_X12_litIn_4 hn hg  n w ta0 (by omega) (by omega) (by omega)
set_option maxHeartbeats 1000000 in
theorem S_X12_looseOnes {g : jGh} {Γ : Nat → Option Nat} {n : Nat} {a0 : Nat} {h : jH} (hn : 6000 ≤ n) (hg : jgok g) (w : jW (jKd g) Γ h) (ta0 : Γ a0 = some 20) : jok (F_X12_looseOnes n a0 h) (fun v => True) := by
  unfold F_X12_looseOnes
  try rw [t_cv w ta0 rfl]
  refine jok_b2 (S_X12_rings hn hg w ta0) (fun v2_1 ev2_1 pv2_1 => ?_)
  obtain ⟨lv2_1, uv2_1⟩ := pv2_1
  try rw [t_cv w ta0 rfl]
  have f3 : ((6 : Int32)).toInt = 6 := rfl
  refine jok_b (S_X12_ringsThat hn hg w ta0 (by omega) (by omega)) (fun v11_2 pv11_2 => ?_)
  obtain ⟨lv11_2, uv11_2⟩ := pv11_2
  exact jok_s trivial
set_option maxHeartbeats 1000000 in
theorem S_X12_eachHas {g : jGh} {Γ : Nat → Option Nat} {n : Nat} {a0 : Nat} {x1 : Int32} {x2 : Int32} {x3 : Int32} {h : jH} (hn : 6000 ≤ n) (hg : jgok g) (w : jW (jKd g) Γ h) (ta0 : Γ a0 = some 20) (lx1 : 0 ≤ x1.toInt) (ux1 : x1.toInt ≤ 7) : jok (F_X12_eachHas n a0 x1 x2 x3 h) (fun v => True) := by
  unfold F_X12_eachHas
  refine jok_eq (fun c1 d1 => ?_) (fun c1 => ?_)
  · exact jok_s trivial
  · have f2 : ((1 : Int32)).toInt = 1 := rfl
    refine jok_eq (fun c3 d3 => ?_) (fun c3 => ?_)
    · try rw [t_cv w ta0 rfl]
      refine jok_b (S_X12_gapOf hn hg w ta0 (by omega) (by omega)) (fun v14_4 pv14_4 => ?_)
      exact jok_s trivial
    · try rw [t_cv w ta0 rfl]
      have f6 : ((7 : Int32)).toInt = 7 := rfl
      refine jok_b (S_X12_is hn hg w ta0 (by omega) (by omega) (by omega) (by omega)) (fun v26_5 pv26_5 => ?_)
      obtain ⟨lv26_5, uv26_5⟩ := pv26_5
      have f7 : ((0 : Int32)).toInt = 0 := rfl
      refine jok_eq (fun c8 d8 => ?_) (fun c8 => ?_)
      · exact jok_s trivial
      · exact jok_s trivial
set_option maxHeartbeats 1000000 in
theorem S_X12_ofLog {g : jGh} {Γ : Nat → Option Nat} {n : Nat} {a0 : Nat} {x1 : Int32} {x2 : Int32} {h : jH} (hn : 6000 ≤ n) (hg : jgok g) (w : jW (jKd g) Γ h) (ta0 : Γ a0 = some 20) (lx1 : 0 ≤ x1.toInt) (ux1 : x1.toInt ≤ 59) (lx2 : 0 ≤ x2.toInt) (ux2 : x2.toInt ≤ 5) : jok (F_X12_ofLog n a0 x1 x2 h) (fun v => True) := by
  unfold F_X12_ofLog
  refine jok_b (t_gR w ta0 rfl rfl) (fun p1_1 tp1_1 => ?_)
  have f3 : ((75 : Int32)).toInt = 75 := rfl
  have f4 : ((6 : Int32)).toInt = 6 := rfl
  have f5 : (((6 : Int32) * x1)).toInt = 6 * (x1).toInt := jmulL (c := 6) (by omega) (by omega) (by omega)
  have f6 : (((75 : Int32) + ((6 : Int32) * x1))).toInt = ((75 : Int32)).toInt + (((6 : Int32) * x1)).toInt := jadd (by omega) (by omega)
  have f7 : ((((75 : Int32) + ((6 : Int32) * x1)) + x2)).toInt = (((75 : Int32) + ((6 : Int32) * x1))).toInt + (x2).toInt := jadd (by omega) (by omega)
  refine jok_b (t_al w tp1_1 rfl (by omega) (by omega)) (fun v13_2 pv13_2 => ?_)
  exact jok_s trivial
set_option maxHeartbeats 1000000 in
theorem S_X12_fault {g : jGh} {Γ : Nat → Option Nat} {n : Nat} {a0 : Nat} {h : jH} (hn : 6000 ≤ n) (hg : jgok g) (w : jW (jKd g) Γ h) (ta0 : Γ a0 = some 20) : jok (F_X12_fault n a0 h) (fun q => jW (jKd g) Γ q.2 ∧ (fun v : Int32 => True) q.1) := by
  unfold F_X12_fault
  have f2 : ((0 : Int32)).toInt = 0 := rfl
  refine jok_b (t_pI w ta0 rfl rfl trivial) (fun h2_1 wh2_1 => ?_)
  obtain ⟨wh2_1, jh2_1, rh2_1⟩ := wh2_1
  refine jok_b2 (t_gI wh2_1 ta0 rfl rfl) (fun v6_3 ev6_3 pv6_3 => ?_)
  exact jok_s ⟨wh2_1, trivial⟩
set_option maxHeartbeats 1000000 in
theorem S_X12_shade {g : jGh} {Γ : Nat → Option Nat} {n : Nat} {a0 : Nat} {h : jH} (hn : 6000 ≤ n) (hg : jgok g) (w : jW (jKd g) Γ h) (ta0 : Γ a0 = some 20) : jok (F_X12_shade n a0 h) (fun q => jW (jKd g) Γ q.2 ∧ (fun v : Int32 => True) q.1) := by
  unfold F_X12_shade
  have f2 : ((0 : Int32)).toInt = 0 := rfl
  refine jok_b (t_pI w ta0 rfl rfl trivial) (fun h2_1 wh2_1 => ?_)
  obtain ⟨wh2_1, jh2_1, rh2_1⟩ := wh2_1
  try rw [t_cv wh2_1 ta0 rfl]
  refine jok_b (S_X12_shadeNow hn hg wh2_1 ta0) (fun v6_3 pv6_3 => ?_)
  exact jok_s ⟨wh2_1, trivial⟩
set_option maxHeartbeats 1000000 in
theorem S_X12_dark {g : jGh} {Γ : Nat → Option Nat} {n : Nat} {a0 : Nat} {h : jH} (hn : 6000 ≤ n) (hg : jgok g) (w : jW (jKd g) Γ h) (ta0 : Γ a0 = some 20) : jok (F_X12_dark n a0 h) (fun q => jW (jKd g) Γ q.2 ∧ (fun v : Int32 => True) q.1) := by
  unfold F_X12_dark
  have f2 : ((0 : Int32)).toInt = 0 := rfl
  refine jok_b (t_pI w ta0 rfl rfl trivial) (fun h2_1 wh2_1 => ?_)
  obtain ⟨wh2_1, jh2_1, rh2_1⟩ := wh2_1
  try rw [t_cv wh2_1 ta0 rfl]
  refine jok_b (S_X12_darkNow hn hg wh2_1 ta0) (fun v6_3 pv6_3 => ?_)
  exact jok_s ⟨wh2_1, trivial⟩
set_option maxHeartbeats 1000000 in
theorem S_X12_bare {g : jGh} {Γ : Nat → Option Nat} {n : Nat} {a0 : Nat} {h : jH} (hn : 6000 ≤ n) (hg : jgok g) (w : jW (jKd g) Γ h) (ta0 : Γ a0 = some 20) : jok (F_X12_bare n a0 h) (fun q => jW (jKd g) Γ q.2 ∧ (fun v : Int32 => True) q.1) := by
  unfold F_X12_bare
  have f2 : ((0 : Int32)).toInt = 0 := rfl
  refine jok_b (t_pI w ta0 rfl rfl trivial) (fun h2_1 wh2_1 => ?_)
  obtain ⟨wh2_1, jh2_1, rh2_1⟩ := wh2_1
  refine jok_b (t_gR wh2_1 ta0 rfl rfl) (fun p6_3 tp6_3 => ?_)
  have f5 : ((7 : Int32)).toInt = 7 := rfl
  refine jok_b (t_al wh2_1 tp6_3 rfl (by omega) (by omega)) (fun v11_4 pv11_4 => ?_)
  try rw [t_cv wh2_1 ta0 rfl]
  refine jok_b (S_X12_shadeNow hn hg wh2_1 ta0) (fun v13_6 pv13_6 => ?_)
  exact jok_s ⟨wh2_1, trivial⟩
set_option maxHeartbeats 1000000 in
theorem S_X12_slack_9 {g : jGh} {Γ : Nat → Option Nat} {n : Nat} (hn : 6000 ≤ n) (hg : jgok g)  (k : Nat) : ∀ {a0 : Nat} {x1 : Int32} {x2 : Int32} {h : jH}, jW (jKd g) Γ h → (Γ a0 = some 20) → (0 ≤ x2.toInt) → (x2.toInt ≤ 7) → (7 : Int) - x2.toInt < (k : Int) → jok (F_X12_slack_9 n k a0 x1 x2 h) (fun q => jW (jKd g) Γ q.2 ∧ (fun v : Int32 => True) q.1) := by
  induction k with
  | zero =>
    intro a0 x1 x2 h w ta0 lx2 ux2 mk
    omega
  | succ k ih =>
    intro a0 x1 x2 h w ta0 lx2 ux2 mk
    show jok (F_X12_slack_9_b n (F_X12_slack_9 n k) a0 x1 x2 h) _
    unfold F_X12_slack_9_b
    try rw [t_cv w ta0 rfl]
    refine jok_b2 (S_X12_lastRing hn hg w ta0) (fun v11_1 ev11_1 pv11_1 => ?_)
    obtain ⟨lv11_1, uv11_1⟩ := pv11_1
    refine jok_le (fun c2 => ?_) (fun c2 => ?_)
    · exact jok_s ⟨w, trivial⟩
    · try rw [t_cv w ta0 rfl]
      have f4 : ((1 : Int32)).toInt = 1 := rfl
      refine jok_b (S_X12_of hn hg w ta0 (by omega) (by omega) (by omega) (by omega)) (fun v21_3 pv21_3 => ?_)
      have pv21_3_9 := pv21_3
      try dsimp only at pv21_3_9
      try rw [t_cv w ta0 rfl]
      refine jok_b (S_X12_gapOf hn hg w ta0 (by omega) (by omega)) (fun v26_5 pv26_5 => ?_)
      have f6 : ((x2 + (1 : Int32))).toInt = (x2).toInt + ((1 : Int32)).toInt := jadd (by omega) (by omega)
      exact ih w ta0 (by omega) (by omega) (by omega)
set_option maxHeartbeats 1000000 in
theorem S_X12_slack {g : jGh} {Γ : Nat → Option Nat} {n : Nat} {a0 : Nat} {h : jH} (hn : 6000 ≤ n) (hg : jgok g) (w : jW (jKd g) Γ h) (ta0 : Γ a0 = some 20) : jok (F_X12_slack n a0 h) (fun q => jW (jKd g) Γ q.2 ∧ (fun v : Int32 => True) q.1) := by
  unfold F_X12_slack
  have f2 : ((0 : Int32)).toInt = 0 := rfl
  refine jok_b (t_pI w ta0 rfl rfl trivial) (fun h2_1 wh2_1 => ?_)
  obtain ⟨wh2_1, jh2_1, rh2_1⟩ := wh2_1
  exact S_X12_slack_9 hn hg  n wh2_1 ta0 (by omega) (by omega) (by omega)
set_option maxHeartbeats 1000000 in
theorem S_X12_taut_9 {g : jGh} {Γ : Nat → Option Nat} {n : Nat} (hn : 6000 ≤ n) (hg : jgok g)  (k : Nat) : ∀ {a0 : Nat} {x1 : Int32} {x2 : Int32} {h : jH}, jW (jKd g) Γ h → (Γ a0 = some 20) → (0 ≤ x2.toInt) → (x2.toInt ≤ 7) → (7 : Int) - x2.toInt < (k : Int) → jok (F_X12_taut_9 n k a0 x1 x2 h) (fun q => jW (jKd g) Γ q.2 ∧ (fun v : Int32 => True) q.1) := by
  induction k with
  | zero =>
    intro a0 x1 x2 h w ta0 lx2 ux2 mk
    omega
  | succ k ih =>
    intro a0 x1 x2 h w ta0 lx2 ux2 mk
    show jok (F_X12_taut_9_b n (F_X12_taut_9 n k) a0 x1 x2 h) _
    unfold F_X12_taut_9_b
    try rw [t_cv w ta0 rfl]
    refine jok_b2 (S_X12_lastRing hn hg w ta0) (fun v11_1 ev11_1 pv11_1 => ?_)
    obtain ⟨lv11_1, uv11_1⟩ := pv11_1
    refine jok_le (fun c2 => ?_) (fun c2 => ?_)
    · exact jok_s ⟨w, trivial⟩
    · try rw [t_cv w ta0 rfl]
      refine jok_b (S_X12_gapOf hn hg w ta0 (by omega) (by omega)) (fun v20_3 pv20_3 => ?_)
      try rw [t_cv w ta0 rfl]
      have f5 : ((1 : Int32)).toInt = 1 := rfl
      refine jok_b (S_X12_of hn hg w ta0 (by omega) (by omega) (by omega) (by omega)) (fun v26_4 pv26_4 => ?_)
      have pv26_4_9 := pv26_4
      try dsimp only at pv26_4_9
      refine jok_eq (fun c6 d6 => ?_) (fun c6 => ?_)
      · have f7 : ((x2 + (1 : Int32))).toInt = (x2).toInt + ((1 : Int32)).toInt := jadd (by omega) (by omega)
        exact ih w ta0 (by omega) (by omega) (by omega)
      · have f8 : ((x2 + (1 : Int32))).toInt = (x2).toInt + ((1 : Int32)).toInt := jadd (by omega) (by omega)
        exact ih w ta0 (by omega) (by omega) (by omega)
set_option maxHeartbeats 1000000 in
theorem S_X12_taut {g : jGh} {Γ : Nat → Option Nat} {n : Nat} {a0 : Nat} {h : jH} (hn : 6000 ≤ n) (hg : jgok g) (w : jW (jKd g) Γ h) (ta0 : Γ a0 = some 20) : jok (F_X12_taut n a0 h) (fun q => jW (jKd g) Γ q.2 ∧ (fun v : Int32 => True) q.1) := by
  unfold F_X12_taut
  have f2 : ((0 : Int32)).toInt = 0 := rfl
  refine jok_b (t_pI w ta0 rfl rfl trivial) (fun h2_1 wh2_1 => ?_)
  obtain ⟨wh2_1, jh2_1, rh2_1⟩ := wh2_1
  exact S_X12_taut_9 hn hg  n wh2_1 ta0 (by omega) (by omega) (by omega)
/-- a ring may go one step: its place is not at the end; all of a set may, below b -/
def jgood (n a0 : Nat) (x2 : Int32) (h : jH) (y : Int32) : Prop := ∀ p, F_X12_of n a0 y (0 : Int32) h = some p → (x2 = 0 → 1 ≤ p.toInt) ∧ (¬ x2.toInt = 0 → p.toInt ≤ 30)
def jgo (n a0 : Nat) (x2 x3 : Int32) (h : jH) (b : Int) : Prop := ∀ (y u : Int32), 0 ≤ y.toInt → y.toInt < b → F_X12_has n x3 y h = some u → ¬ u.toInt = 0 → jgood n a0 x2 h y
theorem jgo_step {n a0 : Nat} {x2 x3 x5 : Int32} {h : jH} (hv : jgo n a0 x2 x3 h x5.toInt) (f : (x5 + (1 : Int32)).toInt = x5.toInt + (1 : Int32).toInt) (f1 : (1 : Int32).toInt = 1) (hx : ∀ u, F_X12_has n x3 x5 h = some u → ¬ u.toInt = 0 → jgood n a0 x2 h x5) : jgo n a0 x2 x3 h (x5 + (1 : Int32)).toInt := by
  intro y u h0 h1 eu hu
  by_cases q : y.toInt = x5.toInt
  · cases Int32.toInt_inj.mp q
    exact hx u eu hu
  · exact hv y u h0 (by omega) eu hu
theorem jal_as {t p : Nat} {i j x : Int32} {h h1 : jH} (e : jas t h p i x = some h1) (hj : ¬ j.toNatClampNeg = i.toNatClampNeg) : jal t h1 p j = jal t h p j := by
  obtain ⟨N, f, e1, -, -, rfl⟩ := jas_o e
  unfold jal
  rw [e1]
  show (match (if p = p then some _ else h.2 p) with | some (.inr (.inl x)) => if x.1 = t ∧ ¬ (j < 0 ∨ x.2.1 ≤ j.toNatClampNeg) then some (x.2.2 j.toNatClampNeg) else none | _ => none) = _
  rw [if_pos rfl]
  dsimp only
  simp only [upd, if_neg hj]
theorem jgR_as {t p ci a k : Nat} {i x : Int32} {h h1 : jH} (e : jas t h p i x = some h1) : jgR ci h1 a k = jgR ci h a k := by
  obtain ⟨N, f, e1, -, -, rfl⟩ := jas_o e
  unfold jgR
  rw [jfa_up e1 ci a k]
theorem of_as {n a0 p : Nat} {i x y : Int32} {h h1 : jH} (ep : jgR 10 h a0 1 = some p) (e : jas 0 h p i x = some h1) (hy : ¬ (((11 : Int32) + ((8 : Int32) * y)) + (0 : Int32)).toNatClampNeg = i.toNatClampNeg) : F_X12_of n a0 y (0 : Int32) h1 = F_X12_of n a0 y (0 : Int32) h := by
  unfold F_X12_of
  rw [jgR_as e, ep]
  show (jal 0 h1 p _).bind _ = (jal 0 h p _).bind _
  rw [jal_as e hy]
theorem rings_as {n a0 p : Nat} {i x : Int32} {h h1 : jH} (ep : jgR 10 h a0 1 = some p) (e : jas 0 h p i x = some h1) (hy : ¬ (0 : Int32).toNatClampNeg = i.toNatClampNeg) : F_X12_rings n a0 h1 = F_X12_rings n a0 h := by
  unfold F_X12_rings
  rw [jgR_as e, ep]
  show (jal 0 h1 p _).bind _ = (jal 0 h p _).bind _
  rw [jal_as e hy]
set_option maxHeartbeats 1000000 in
theorem S_X12_mayGo {g : jGh} {Γ : Nat → Option Nat} {n : Nat} {a0 : Nat} {x1 : Int32} {x2 : Int32} {h : jH} (hn : 6000 ≤ n) (hg : jgok g) (w : jW (jKd g) Γ h) (ta0 : Γ a0 = some 20) (lx1 : 0 ≤ x1.toInt) (ux1 : x1.toInt ≤ 7) : jok (F_X12_mayGo n a0 x1 x2 h) (fun v => (0 ≤ v.toInt ∧ v.toInt ≤ 1) ∧ (v.toInt = 1 → jgood n a0 x2 h x1)) := by
  unfold F_X12_mayGo
  try rw [t_cv w ta0 rfl]
  have f2 : ((0 : Int32)).toInt = 0 := rfl
  refine jok_b2 (S_X12_of hn hg w ta0 (by omega) (by omega) (by omega) (by omega)) (fun v3_1 e3 pv3_1 => ?_)
  have pv3_1_9 := pv3_1
  try dsimp only at pv3_1_9
  refine jok_eq (fun c3 d3 => ?_) (fun c3 => ?_)
  · unfold F_X12_mayGo_20
    refine jok_b (S_X12_noPlace hn hg w) (fun v20_4 pv20_4 => ?_)
    have f5 : ((1 : Int32)).toInt = 1 := rfl
    have f6 : ((v3_1 - (1 : Int32))).toInt = (v3_1).toInt - ((1 : Int32)).toInt := jsub (by omega) (by omega)
    have pv20_4_9 := pv20_4
    try dsimp only at pv20_4_9
    refine jok_eq (fun c7 d7 => ?_) (fun c7 => ?_)
    · try rw [t_cv w ta0 rfl]
      have f9 : ((2 : Int32)).toInt = 2 := rfl
      refine jok_b (S_X12_is hn hg w ta0 (by omega) (by omega) (by omega) (by omega)) (fun v31_8 pv31_8 => ?_)
      obtain ⟨lv31_8, uv31_8⟩ := pv31_8
      refine jok_eq (fun c10 d10 => ?_) (fun c10 => ?_)
      · exact jok_s ⟨⟨by decide, by decide⟩, fun _ p ep => by cases e3.symm.trans ep; exact ⟨fun _ => by omega, fun z => absurd (by rw [d3]; rfl) z⟩⟩
      · refine jok_eq (fun c11 d11 => ?_) (fun c11 => ?_)
        · refine jok_b (t_gR w ta0 rfl rfl) (fun p49_12 tp49_12 => ?_)
          have f14 : ((5 : Int32)).toInt = 5 := rfl
          refine jok_b (t_al w tp49_12 rfl (by omega) (by omega)) (fun v53_13 pv53_13 => ?_)
          refine jok_eq (fun c15 d15 => ?_) (fun c15 => ?_)
          · exact jok_s ⟨⟨by decide, by decide⟩, fun q => absurd q (by decide)⟩
          · exact jok_s ⟨⟨by decide, by decide⟩, fun _ p ep => by cases e3.symm.trans ep; exact ⟨fun _ => by omega, fun z => absurd (by rw [d3]; rfl) z⟩⟩
        · refine jok_b (t_gR w ta0 rfl rfl) (fun p49_16 tp49_16 => ?_)
          have f18 : ((5 : Int32)).toInt = 5 := rfl
          refine jok_b (t_al w tp49_16 rfl (by omega) (by omega)) (fun v53_17 pv53_17 => ?_)
          have f19 : ((v3_1 + (1 : Int32))).toInt = (v3_1).toInt + ((1 : Int32)).toInt := jadd (by omega) (by omega)
          refine jok_eq (fun c20 d20 => ?_) (fun c20 => ?_)
          · exact jok_s ⟨⟨by decide, by decide⟩, fun q => absurd q (by decide)⟩
          · exact jok_s ⟨⟨by decide, by decide⟩, fun _ p ep => by cases e3.symm.trans ep; exact ⟨fun _ => by omega, fun z => absurd (by rw [d3]; rfl) z⟩⟩
    · exact jok_s ⟨⟨by decide, by decide⟩, fun q => absurd q (by decide)⟩
  · unfold F_X12_mayGo_20
    refine jok_b (S_X12_noPlace hn hg w) (fun v20_21 pv20_21 => ?_)
    have f22 : ((1 : Int32)).toInt = 1 := rfl
    have f23 : ((v3_1 + (1 : Int32))).toInt = (v3_1).toInt + ((1 : Int32)).toInt := jadd (by omega) (by omega)
    have pv20_21_9 := pv20_21
    try dsimp only at pv20_21_9
    refine jok_eq (fun c24 d24 => ?_) (fun c24 => ?_)
    · try rw [t_cv w ta0 rfl]
      have f26 : ((2 : Int32)).toInt = 2 := rfl
      refine jok_b (S_X12_is hn hg w ta0 (by omega) (by omega) (by omega) (by omega)) (fun v31_25 pv31_25 => ?_)
      obtain ⟨lv31_25, uv31_25⟩ := pv31_25
      refine jok_eq (fun c27 d27 => ?_) (fun c27 => ?_)
      · exact jok_s ⟨⟨by decide, by decide⟩, fun _ p ep => by cases e3.symm.trans ep; exact ⟨fun z => absurd (by rw [z]) c3, fun _ => by omega⟩⟩
      · refine jok_eq (fun c28 d28 => ?_) (fun c28 => ?_)
        · refine jok_b (t_gR w ta0 rfl rfl) (fun p49_29 tp49_29 => ?_)
          have f31 : ((5 : Int32)).toInt = 5 := rfl
          refine jok_b (t_al w tp49_29 rfl (by omega) (by omega)) (fun v53_30 pv53_30 => ?_)
          refine jok_eq (fun c32 d32 => ?_) (fun c32 => ?_)
          · exact jok_s ⟨⟨by decide, by decide⟩, fun q => absurd q (by decide)⟩
          · exact jok_s ⟨⟨by decide, by decide⟩, fun _ p ep => by cases e3.symm.trans ep; exact ⟨fun z => absurd (by rw [z]) c3, fun _ => by omega⟩⟩
        · refine jok_b (t_gR w ta0 rfl rfl) (fun p49_33 tp49_33 => ?_)
          have f35 : ((5 : Int32)).toInt = 5 := rfl
          refine jok_b (t_al w tp49_33 rfl (by omega) (by omega)) (fun v53_34 pv53_34 => ?_)
          refine jok_eq (fun c36 d36 => ?_) (fun c36 => ?_)
          · exact jok_s ⟨⟨by decide, by decide⟩, fun q => absurd q (by decide)⟩
          · exact jok_s ⟨⟨by decide, by decide⟩, fun _ p ep => by cases e3.symm.trans ep; exact ⟨fun z => absurd (by rw [z]) c3, fun _ => by omega⟩⟩
    · exact jok_s ⟨⟨by decide, by decide⟩, fun q => absurd q (by decide)⟩
set_option maxHeartbeats 1000000 in
theorem S_X12_goingBy_13 {g : jGh} {Γ : Nat → Option Nat} {n : Nat} (hn : 6000 ≤ n) (hg : jgok g)  (k : Nat) : ∀ {a0 : Nat} {x2 : Int32} {x3 : Int32} {x4 : Int32} {x5 : Int32} {h : jH}, jW (jKd g) Γ h → (Γ a0 = some 20) → (0 ≤ x4.toInt) → (x4.toInt ≤ 1) → (0 ≤ x5.toInt) → (x5.toInt ≤ 8) → (8 : Int) - x5.toInt < (k : Int) → (¬ x4.toInt = 0 → jgo n a0 x2 x3 h x5.toInt) → jok (F_X12_goingBy_13 n k a0 x2 x3 x4 x5 h) (fun v => v.toInt = 0 ∨ (v = x3 ∧ ∀ r, F_X12_rings n a0 h = some r → jgo n a0 x2 x3 h r.toInt)) := by
  induction k with
  | zero =>
    intro a0 x2 x3 x4 x5 h w ta0 lx4 ux4 lx5 ux5 mk hv
    omega
  | succ k ih =>
    intro a0 x2 x3 x4 x5 h w ta0 lx4 ux4 lx5 ux5 mk hv
    show jok (F_X12_goingBy_13_b n (F_X12_goingBy_13 n k) a0 x2 x3 x4 x5 h) _
    unfold F_X12_goingBy_13_b
    try rw [t_cv w ta0 rfl]
    refine jok_b2 (S_X12_rings hn hg w ta0) (fun v16_1 e16 pv16_1 => ?_)
    obtain ⟨lv16_1, uv16_1⟩ := pv16_1
    refine jok_le (fun c2 => ?_) (fun c2 => ?_)
    · have f3 : ((0 : Int32)).toInt = 0 := rfl
      refine jok_eq (fun c4 d4 => ?_) (fun c4 => ?_)
      · exact jok_s (Or.inl rfl)
      · exact jok_s (Or.inr ⟨rfl, fun r er y u h0 h1 => hv (by omega) y u h0 (by cases e16.symm.trans er; omega)⟩)
    · have f5 : ((0 : Int32)).toInt = 0 := rfl
      refine jok_eq (fun c6 d6 => ?_) (fun c6 => ?_)
      · have f7 : ((1 : Int32)).toInt = 1 := rfl
        have f8 : ((x5 + (1 : Int32))).toInt = (x5).toInt + ((1 : Int32)).toInt := jadd (by omega) (by omega)
        exact ih w ta0 (by omega) (by omega) (by omega) (by omega) (by omega) (fun z => absurd rfl z)
      · refine jok_b2 (S_X12_has hn hg w) (fun v30_9 e30 pv30_9 => ?_)
        obtain ⟨lv30_9, uv30_9⟩ := pv30_9
        refine jok_eq (fun c10 d10 => ?_) (fun c10 => ?_)
        · have f11 : ((1 : Int32)).toInt = 1 := rfl
          have f12 : ((x5 + (1 : Int32))).toInt = (x5).toInt + ((1 : Int32)).toInt := jadd (by omega) (by omega)
          exact ih w ta0 (by omega) (by omega) (by omega) (by omega) (by omega) (fun _ => jgo_step (hv (by omega)) f12 f11 (fun u eu hu => absurd (by cases e30.symm.trans eu; exact c10) hu))
        · try rw [t_cv w ta0 rfl]
          refine jok_b (S_X12_mayGo hn hg w ta0 (by omega) (by omega)) (fun v40_13 pv40_13 => ?_)
          obtain ⟨⟨lv40_13, uv40_13⟩, gv40⟩ := pv40_13
          refine jok_eq (fun c14 d14 => ?_) (fun c14 => ?_)
          · have f15 : ((1 : Int32)).toInt = 1 := rfl
            have f16 : ((x5 + (1 : Int32))).toInt = (x5).toInt + ((1 : Int32)).toInt := jadd (by omega) (by omega)
            exact ih w ta0 (by omega) (by omega) (by omega) (by omega) (by omega) (fun z => absurd rfl z)
          · have f17 : ((1 : Int32)).toInt = 1 := rfl
            have f18 : ((x5 + (1 : Int32))).toInt = (x5).toInt + ((1 : Int32)).toInt := jadd (by omega) (by omega)
            exact ih w ta0 (by omega) (by omega) (by omega) (by omega) (by omega) (fun _ => jgo_step (hv (by omega)) f18 f17 (fun u eu hu => gv40 (by omega)))
set_option maxHeartbeats 1000000 in
theorem S_X12_goingBy {g : jGh} {Γ : Nat → Option Nat} {n : Nat} {a0 : Nat} {x1 : Int32} {x2 : Int32} {h : jH} (hn : 6000 ≤ n) (hg : jgok g) (w : jW (jKd g) Γ h) (ta0 : Γ a0 = some 20) (lx1 : -128 ≤ x1.toInt) (ux1 : x1.toInt ≤ 127) : jok (F_X12_goingBy n a0 x1 x2 h) (fun v => v.toInt = 0 ∨ ∀ r, F_X12_rings n a0 h = some r → jgo n a0 x2 v h r.toInt) := by
  unfold F_X12_goingBy
  try rw [t_cv w ta0 rfl]
  refine jok_b (S_X12_allWith hn hg w ta0 (by omega) (by omega)) (fun v3_1 pv3_1 => ?_)
  have f2 : ((1 : Int32)).toInt = 1 := rfl
  have f3 : ((0 : Int32)).toInt = 0 := rfl
  exact jok_w (S_X12_goingBy_13 hn hg  n w ta0 (by omega) (by omega) (by omega) (by omega) (by omega) (fun _ y u h0 h1 => by omega)) (fun v q => q.elim Or.inl (fun q => Or.inr (by rw [q.1]; exact q.2)))
/-! a line of the law is run: the stack is never empty where it is taken from -/
theorem jhgt_le {c : Nat → Int32} {s : Nat} : ∀ (l t : Nat), jhgt c s l = some t → t ≤ l := by
  intro l
  induction l with
  | zero => intro t h; cases h; exact Nat.le_refl _
  | succ l ih =>
    intro t h
    obtain ⟨u, e, h⟩ := jbind (show (jhgt c s l).bind _ = some t from h)
    have hu := ih u e
    split at h
    · cases h; omega
    · split at h
      · split at h
        · cases h; omega
        · cases h
      · split at h
        · cases h; omega
        · cases h
theorem jhgt_some {c : Nat → Int32} {s : Nat} : ∀ (d l : Nat), (jhgt c s (l + d)).isSome = true → (jhgt c s l).isSome = true := by
  intro d
  induction d with
  | zero => intro l h; exact h
  | succ d ih =>
    intro l h
    refine ih l ?_
    cases q : jhgt c s (l + d) with
    | some t => rfl
    | none =>
      have e : jhgt c s (l + (d + 1)) = (jhgt c s (l + d)).bind _ := rfl
      rw [e, q] at h
      cases h
def jhold (g : jGh) (k top i : Int) : Prop := ∃ ln t : Nat, k = 436 + 4 * (ln : Int) ∧ (ln : Int) < (g.2.2.2.1 435).toInt ∧ (g.2.2.2.1 (438 + 4 * ln)).toInt ≤ i ∧ i ≤ (g.2.2.2.1 (439 + 4 * ln)).toInt ∧ jhgt g.2.2.2.1 (g.2.2.2.1 (438 + 4 * ln)).toInt.toNat (i.toNat - (g.2.2.2.1 (438 + 4 * ln)).toInt.toNat) = some t ∧ top = (t : Int)
theorem jw_eq {g : jGh} {j v : Int32} {k : Nat} (p : jRw g j.toInt.toNat v) (hj : j.toInt = (k : Int)) (h1 : 435 ≤ k) (_ : k < 1284) : v = g.2.2.2.1 k := by
  have e : j.toInt.toNat = k := by omega
  rw [e] at p
  rcases p.2 with q | q
  · omega
  · exact q
theorem jw435 {g : jGh} {v : Int32} (hg : jgok g) (p : jRw g (435 : Int32).toInt.toNat v) : v.toInt = (g.2.2.2.1 435).toInt ∧ 0 ≤ v.toInt ∧ v.toInt ≤ 12 := by
  have e := jw_eq (k := 435) p rfl (by omega) (by omega)
  have h := hg.2.2.2
  rw [e]
  exact ⟨rfl, h.1, h.2.1⟩
theorem jhold_bd {g : jGh} {k top i : Int} (hg : jgok g) (H : jhold g k top i) : 436 ≤ k ∧ k ≤ 480 ∧ 0 ≤ i ∧ i ≤ 400 ∧ 0 ≤ top ∧ top ≤ i := by
  obtain ⟨ln, t, h1, h2, h3, h4, h5, h6⟩ := H
  obtain ⟨b1, b2, b3⟩ := hg.2.2.2
  obtain ⟨c1, c2, c3, c4⟩ := b3 ln h2
  have := jhgt_le _ _ h5
  omega
theorem jhold_step {g : jGh} {k top i : Int} {j m v32 v48 : Int32} (hg : jgok g) (H : jhold g k top i) (p32 : jRw g j.toInt.toNat v32) (hj : j.toInt = k + 3) (hlt : i < v32.toInt) (p48 : jRw g m.toInt.toNat v48) (hm : m.toInt = 484 + 2 * i) :
    i ≤ 399 ∧ top ≤ 399 ∧ (v48.toInt ≤ 11 → jhold g k (top + 1) (i + 1)) ∧ (v48.toInt = 15 → 1 ≤ top ∧ jhold g k top (i + 1)) ∧ (11 < v48.toInt → ¬ v48.toInt = 15 → 2 ≤ top ∧ jhold g k (top - 1) (i + 1)) := by
  have hb := jhold_bd hg H
  obtain ⟨ln, t, h1, h2, h3, h4, h5, h6⟩ := H
  obtain ⟨b1, b2, b3⟩ := hg.2.2.2
  obtain ⟨c1, c2, c3, c4⟩ := b3 ln h2
  have e32 : v32 = g.2.2.2.1 (439 + 4 * ln) := jw_eq (k := 439 + 4 * ln) p32 (by omega) (by omega) (by omega)
  rw [e32] at hlt
  have e48 : v48 = g.2.2.2.1 (484 + 2 * i.toNat) := jw_eq (k := 484 + 2 * i.toNat) p48 (by omega) (by omega) (by omega)
  have ht := jhgt_le _ _ h5
  generalize hs : (g.2.2.2.1 (438 + 4 * ln)).toInt = s at *
  generalize he : (g.2.2.2.1 (439 + 4 * ln)).toInt = e at *
  have hl : (i + 1).toNat - s.toNat = (i.toNat - s.toNat) + 1 := by omega
  have hq : (jhgt g.2.2.2.1 s.toNat ((i.toNat - s.toNat) + 1)).isSome = true := jhgt_some (e.toNat - s.toNat - ((i.toNat - s.toNat) + 1)) _ (by rw [show (i.toNat - s.toNat) + 1 + (e.toNat - s.toNat - ((i.toNat - s.toNat) + 1)) = e.toNat - s.toNat by omega]; exact c4)
  have hx : jhgt g.2.2.2.1 s.toNat ((i.toNat - s.toNat) + 1) = (if v48.toInt ≤ 11 then some (t + 1) else if v48.toInt = 15 then (if 1 ≤ t then some t else none) else (if 2 ≤ t then some (t - 1) else none)) := by
    show (jhgt g.2.2.2.1 s.toNat (i.toNat - s.toNat)).bind _ = _
    rw [h5]
    show (if (g.2.2.2.1 (484 + 2 * (s.toNat + (i.toNat - s.toNat)))).toInt ≤ 11 then _ else _) = _
    rw [show s.toNat + (i.toNat - s.toNat) = i.toNat by omega, ← e48]
  refine ⟨by omega, by omega, fun q => ?_, fun q => ?_, fun q1 q2 => ?_⟩
  · rw [if_pos q] at hx
    exact ⟨ln, t + 1, h1, h2, by omega, by omega, by rw [hs, hl]; exact hx, by omega⟩
  · rw [if_neg (by omega), if_pos q] at hx
    by_cases q9 : 1 ≤ t
    · rw [if_pos q9] at hx
      exact ⟨by omega, ln, t, h1, h2, by omega, by omega, by rw [hs, hl]; exact hx, by omega⟩
    · rw [if_neg q9] at hx
      rw [hx] at hq
      cases hq
  · rw [if_neg (by omega), if_neg q2] at hx
    by_cases q9 : 2 ≤ t
    · rw [if_pos q9] at hx
      exact ⟨by omega, ln, t - 1, h1, h2, by omega, by omega, by rw [hs, hl]; exact hx, by omega⟩
    · rw [if_neg q9] at hx
      rw [hx] at hq
      cases hq
theorem jhold_c {g : jGh} {k k2 a a2 b b2 : Int} (H : jhold g k a b) (h0 : k2 = k) (h1 : a2 = a) (h2 : b2 = b) : jhold g k2 a2 b2 := by
  subst h0 h1 h2
  exact H
theorem jhold_0 {g : jGh} {x1 : Int} {j v19 : Int32} (hg : jgok g) (h0 : 0 ≤ x1) (hl : x1 < (g.2.2.2.1 435).toInt) (p19 : jRw g j.toInt.toNat v19) (hj : j.toInt = 438 + 4 * x1) : jhold g (436 + 4 * x1) 0 v19.toInt := by
  obtain ⟨b1, b2, b3⟩ := hg.2.2.2
  obtain ⟨ln, rfl⟩ := Int.eq_ofNat_of_zero_le h0
  obtain ⟨c1, c2, c3, c4⟩ := b3 ln hl
  have e19 : v19 = g.2.2.2.1 (438 + 4 * ln) := jw_eq (k := 438 + 4 * ln) p19 (by omega) (by omega) (by omega)
  refine ⟨ln, 0, by omega, hl, by rw [e19]; omega, by rw [e19]; exact c2, ?_, rfl⟩
  rw [e19, Nat.sub_self]
  rfl
set_option maxHeartbeats 1000000 in
theorem S_X12_factOf {g : jGh} {Γ : Nat → Option Nat} {n : Nat} {a0 : Nat} {x1 : Int32} {x2 : Int32} {x3 : Int32} {h : jH} (hn : 6000 ≤ n) (hg : jgok g) (w : jW (jKd g) Γ h) (ta0 : Γ a0 = some 20) (lx3 : 0 ≤ x3.toInt) (ux3 : x3.toInt ≤ 7) : jok (F_X12_factOf n a0 x1 x2 x3 h) (fun v => True) := by
  unfold F_X12_factOf
  have f1 : ((0 : Int32)).toInt = 0 := rfl
  refine jok_eq (fun c2 d2 => ?_) (fun c2 => ?_)
  · exact jok_s trivial
  · have f3 : ((1 : Int32)).toInt = 1 := rfl
    refine jok_eq (fun c4 d4 => ?_) (fun c4 => ?_)
    · try rw [t_cv w ta0 rfl]
      refine jok_b (S_X12_of hn hg w ta0 (by omega) (by omega) (by omega) (by omega)) (fun v65_5 pv65_5 => ?_)
      have pv65_5_9 := pv65_5
      try dsimp only at pv65_5_9
      exact jok_s trivial
    · have f6 : ((2 : Int32)).toInt = 2 := rfl
      refine jok_eq (fun c7 d7 => ?_) (fun c7 => ?_)
      · try rw [t_cv w ta0 rfl]
        refine jok_b (S_X12_gapOf hn hg w ta0 (by omega) (by omega)) (fun v71_8 pv71_8 => ?_)
        exact jok_s trivial
      · have f9 : ((3 : Int32)).toInt = 3 := rfl
        refine jok_eq (fun c10 d10 => ?_) (fun c10 => ?_)
        · try rw [t_cv w ta0 rfl]
          have f12 : ((4 : Int32)).toInt = 4 := rfl
          refine jok_b (S_X12_of hn hg w ta0 (by omega) (by omega) (by omega) (by omega)) (fun v78_11 pv78_11 => ?_)
          have pv78_11_9 := pv78_11
          try dsimp only at pv78_11_9
          exact jok_s trivial
        · have f13 : ((4 : Int32)).toInt = 4 := rfl
          refine jok_eq (fun c14 d14 => ?_) (fun c14 => ?_)
          · try rw [t_cv w ta0 rfl]
            have f16 : ((5 : Int32)).toInt = 5 := rfl
            refine jok_b (S_X12_of hn hg w ta0 (by omega) (by omega) (by omega) (by omega)) (fun v85_15 pv85_15 => ?_)
            have pv85_15_9 := pv85_15
            try dsimp only at pv85_15_9
            exact jok_s trivial
          · have f17 : ((5 : Int32)).toInt = 5 := rfl
            refine jok_eq (fun c18 d18 => ?_) (fun c18 => ?_)
            · refine jok_b (t_gR w ta0 rfl rfl) (fun p90_19 tp90_19 => ?_)
              refine jok_b (t_al w tp90_19 rfl (by omega) (by omega)) (fun v94_20 pv94_20 => ?_)
              exact jok_s trivial
            · have f21 : ((6 : Int32)).toInt = 6 := rfl
              refine jok_eq (fun c22 d22 => ?_) (fun c22 => ?_)
              · refine jok_b (t_gR w ta0 rfl rfl) (fun p97_23 tp97_23 => ?_)
                refine jok_b (t_al w tp97_23 rfl (by omega) (by omega)) (fun v101_24 pv101_24 => ?_)
                exact jok_s trivial
              · have f25 : ((7 : Int32)).toInt = 7 := rfl
                refine jok_eq (fun c26 d26 => ?_) (fun c26 => ?_)
                · try rw [t_cv w ta0 rfl]
                  refine jok_b (S_X12_of hn hg w ta0 (by omega) (by omega) (by omega) (by omega)) (fun v106_27 pv106_27 => ?_)
                  have pv106_27_9 := pv106_27
                  try dsimp only at pv106_27_9
                  exact jok_s trivial
                · have f28 : ((8 : Int32)).toInt = 8 := rfl
                  refine jok_eq (fun c29 d29 => ?_) (fun c29 => ?_)
                  · try rw [t_cv w ta0 rfl]
                    refine jok_b (S_X12_of hn hg w ta0 (by omega) (by omega) (by omega) (by omega)) (fun v113_30 pv113_30 => ?_)
                    have pv113_30_9 := pv113_30
                    try dsimp only at pv113_30_9
                    exact jok_s trivial
                  · have f31 : ((9 : Int32)).toInt = 9 := rfl
                    refine jok_eq (fun c32 d32 => ?_) (fun c32 => ?_)
                    · refine jok_b (t_gR w ta0 rfl rfl) (fun p120_33 tp120_33 => ?_)
                      refine jok_b (t_al w tp120_33 rfl (by omega) (by omega)) (fun v124_34 pv124_34 => ?_)
                      try rw [t_cv w ta0 rfl]
                      refine jok_b (S_X12_isLit hn hg w ta0 (by omega) (by omega)) (fun v125_35 pv125_35 => ?_)
                      obtain ⟨lv125_35, uv125_35⟩ := pv125_35
                      refine jok_eq (fun c36 d36 => ?_) (fun c36 => ?_)
                      · exact jok_s trivial
                      · exact jok_s trivial
                    · have f37 : ((10 : Int32)).toInt = 10 := rfl
                      refine jok_eq (fun c38 d38 => ?_) (fun c38 => ?_)
                      · try rw [t_cv w ta0 rfl]
                        refine jok_b (S_X12_of hn hg w ta0 (by omega) (by omega) (by omega) (by omega)) (fun v141_39 pv141_39 => ?_)
                        have pv141_39_9 := pv141_39
                        try dsimp only at pv141_39_9
                        exact jok_s trivial
                      · exact jok_s trivial
set_option maxHeartbeats 1000000 in
theorem S_X12_holdsLine_22 {g : jGh} {Γ : Nat → Option Nat} {n : Nat} (hn : 6000 ≤ n) (hg : jgok g)  (k : Nat) : ∀ {a0 : Nat} {x2 : Int32} {x3 : Int32} {x4 : Int32} {x5 : Int32} {h : jH}, jW (jKd g) Γ h → (Γ a0 = some 20) → (0 ≤ x2.toInt) → (x2.toInt ≤ 7) → (0 ≤ x3.toInt) → (x3.toInt ≤ 400) → (436 ≤ x4.toInt) → (x4.toInt ≤ 480) → (0 ≤ x5.toInt) → (x5.toInt ≤ 400) → (400 : Int) - x5.toInt < (k : Int) → (jhold g x4.toInt x3.toInt x5.toInt) → jok (F_X12_holdsLine_22 n k a0 x2 x3 x4 x5 h) (fun q => jW (jKd g) Γ q.2 ∧ (fun v : Int32 => 0 ≤ v.toInt ∧ v.toInt ≤ 1) q.1) := by
  induction k with
  | zero =>
    intro a0 x2 x3 x4 x5 h w ta0 lx2 ux2 lx3 ux3 lx4 ux4 lx5 ux5 mk hv
    omega
  | succ k ih =>
    intro a0 x2 x3 x4 x5 h w ta0 lx2 ux2 lx3 ux3 lx4 ux4 lx5 ux5 mk hv
    show jok (F_X12_holdsLine_22_b n (F_X12_holdsLine_22 n k) a0 x2 x3 x4 x5 h) _
    unfold F_X12_holdsLine_22_b
    refine jok_b (t_gR w ta0 rfl rfl) (fun p25_1 tp25_1 => ?_)
    have f3 : ((3 : Int32)).toInt = 3 := rfl
    have f4 : ((x4 + (3 : Int32))).toInt = (x4).toInt + ((3 : Int32)).toInt := jadd (by omega) (by omega)
    refine jok_b (t_al w tp25_1 rfl (by omega) (by omega)) (fun v32_2 pv32_2 => ?_)
    refine jok_le (fun c5 => ?_) (fun c5 => ?_)
    · have f6 : ((0 : Int32)).toInt = 0 := rfl
      refine jok_eq (fun c7 d7 => ?_) (fun c7 => ?_)
      · have f8 : ((1 : Int32)).toInt = 1 := rfl
        exact jok_s ⟨w, (show jI 0 1 (1 : Int32) from ⟨by omega, by omega⟩)⟩
      · refine jok_b (t_gR w ta0 rfl rfl) (fun p268_9 tp268_9 => ?_)
        refine jok_b (t_al w tp268_9 rfl (by omega) (by omega)) (fun v272_10 pv272_10 => ?_)
        have f11 : ((1 : Int32)).toInt = 1 := rfl
        refine jok_eq (fun c12 d12 => ?_) (fun c12 => ?_)
        · exact jok_s ⟨w, (show jI 0 1 (1 : Int32) from ⟨by omega, by omega⟩)⟩
        · exact jok_s ⟨w, (show jI 0 1 (0 : Int32) from ⟨by omega, by omega⟩)⟩
    · refine jok_b (t_gR w ta0 rfl rfl) (fun p37_13 tp37_13 => ?_)
      have f15 : ((484 : Int32)).toInt = 484 := rfl
      have f16 : ((2 : Int32)).toInt = 2 := rfl
      have f17 : (((2 : Int32) * x5)).toInt = 2 * (x5).toInt := jmulL (c := 2) (by omega) (by omega) (by omega)
      have f18 : (((484 : Int32) + ((2 : Int32) * x5))).toInt = ((484 : Int32)).toInt + (((2 : Int32) * x5)).toInt := jadd (by omega) (by omega)
      refine jok_b (t_al w tp37_13 rfl (by omega) (by omega)) (fun v48_14 pv48_14 => ?_)
      have f19 : ((11 : Int32)).toInt = 11 := rfl
      refine jok_lt (fun c20 => ?_) (fun c20 => ?_)
      · have f21 : ((15 : Int32)).toInt = 15 := rfl
        refine jok_eq (fun c22 d22 => ?_) (fun c22 => ?_)
        · have hs := jhold_step hg hv pv32_2 (by omega) (by omega) pv48_14 (by omega)
          have hb1 := hs.1
          have hb2 := hs.2.1
          have hb3 := (hs.2.2.2.1 (by omega)).1
          refine jok_b (t_gR w ta0 rfl rfl) (fun p100_23 tp100_23 => ?_)
          refine jok_b (t_gR w ta0 rfl rfl) (fun p108_24 tp108_24 => ?_)
          have f26 : ((1 : Int32)).toInt = 1 := rfl
          have f27 : ((x3 - (1 : Int32))).toInt = (x3).toInt - ((1 : Int32)).toInt := jsub (by omega) (by omega)
          refine jok_b (t_al w tp108_24 rfl (by omega) (by omega)) (fun v114_25 pv114_25 => ?_)
          refine jok_b (t_as w tp100_23 rfl (by omega) (by omega) trivial (fun q => by cases q)) (fun h116_28 wh116_28 => ?_)
          obtain ⟨wh116_28, rh116_28⟩ := wh116_28
          have f29 : ((x5 + (1 : Int32))).toInt = (x5).toInt + ((1 : Int32)).toInt := jadd (by omega) (by omega)
          exact ih wh116_28 ta0 (by omega) (by omega) (by omega) (by omega) (by omega) (by omega) (by omega) (by omega) (by omega) (jhold_c (hs.2.2.2.1 (by omega)).2 rfl (by omega) (by omega))
        · have hs := jhold_step hg hv pv32_2 (by omega) (by omega) pv48_14 (by omega)
          have hb1 := hs.1
          have hb2 := hs.2.1
          have hb3 := (hs.2.2.2.2 (by omega) (by omega)).1
          refine jok_b (t_gR w ta0 rfl rfl) (fun p124_30 tp124_30 => ?_)
          obtain ⟨y32, hy32⟩ : ∃ y : Int32, y = (x3 + (-1 : Int32)) := ⟨_, rfl⟩
          have fy32 : (y32).toInt = (x3).toInt - 1 := by rw [hy32]; exact jaddN rfl (by omega) (by omega)
          try rw [← hy32]
          have f33 : ((1 : Int32)).toInt = 1 := rfl
          have f34 : ((y32 - (1 : Int32))).toInt = (y32).toInt - ((1 : Int32)).toInt := jsub (by omega) (by omega)
          refine jok_b (t_al w tp124_30 rfl (by omega) (by omega)) (fun v130_31 pv130_31 => ?_)
          refine jok_b (t_gR w ta0 rfl rfl) (fun p134_35 tp134_35 => ?_)
          refine jok_b (t_al w tp134_35 rfl (by omega) (by omega)) (fun v138_36 pv138_36 => ?_)
          have f37 : ((13 : Int32)).toInt = 13 := rfl
          refine jok_eq (fun c38 d38 => ?_) (fun c38 => ?_)
          · refine jok_le (fun c39 => ?_) (fun c39 => ?_)
            · unfold F_X12_holdsLine_222
              refine jok_b (t_gR w ta0 rfl rfl) (fun p225_40 tp225_40 => ?_)
              have f41 : ((12 : Int32)).toInt = 12 := rfl
              refine jok_eq (fun c42 d42 => ?_) (fun c42 => ?_)
              · refine jok_b (t_as w tp225_40 rfl (by omega) (by omega) trivial (fun q => by cases q)) (fun h256_43 wh256_43 => ?_)
                obtain ⟨wh256_43, rh256_43⟩ := wh256_43
                have f44 : ((x5 + (1 : Int32))).toInt = (x5).toInt + ((1 : Int32)).toInt := jadd (by omega) (by omega)
                exact ih wh256_43 ta0 (by omega) (by omega) (by omega) (by omega) (by omega) (by omega) (by omega) (by omega) (by omega) (jhold_c (hs.2.2.2.2 (by omega) (by omega)).2 rfl (by omega) (by omega))
              · have f45 : ((0 : Int32)).toInt = 0 := rfl
                refine jok_eq (fun c46 d46 => ?_) (fun c46 => ?_)
                · refine jok_b (t_as w tp225_40 rfl (by omega) (by omega) trivial (fun q => by cases q)) (fun h256_47 wh256_47 => ?_)
                  obtain ⟨wh256_47, rh256_47⟩ := wh256_47
                  have f48 : ((x5 + (1 : Int32))).toInt = (x5).toInt + ((1 : Int32)).toInt := jadd (by omega) (by omega)
                  exact ih wh256_47 ta0 (by omega) (by omega) (by omega) (by omega) (by omega) (by omega) (by omega) (by omega) (by omega) (jhold_c (hs.2.2.2.2 (by omega) (by omega)).2 rfl (by omega) (by omega))
                · refine jok_b (t_as w tp225_40 rfl (by omega) (by omega) trivial (fun q => by cases q)) (fun h256_49 wh256_49 => ?_)
                  obtain ⟨wh256_49, rh256_49⟩ := wh256_49
                  have f50 : ((x5 + (1 : Int32))).toInt = (x5).toInt + ((1 : Int32)).toInt := jadd (by omega) (by omega)
                  exact ih wh256_49 ta0 (by omega) (by omega) (by omega) (by omega) (by omega) (by omega) (by omega) (by omega) (by omega) (jhold_c (hs.2.2.2.2 (by omega) (by omega)).2 rfl (by omega) (by omega))
            · unfold F_X12_holdsLine_222
              refine jok_b (t_gR w ta0 rfl rfl) (fun p225_51 tp225_51 => ?_)
              have f52 : ((12 : Int32)).toInt = 12 := rfl
              refine jok_eq (fun c53 d53 => ?_) (fun c53 => ?_)
              · refine jok_b (t_as w tp225_51 rfl (by omega) (by omega) trivial (fun q => by cases q)) (fun h256_54 wh256_54 => ?_)
                obtain ⟨wh256_54, rh256_54⟩ := wh256_54
                have f55 : ((x5 + (1 : Int32))).toInt = (x5).toInt + ((1 : Int32)).toInt := jadd (by omega) (by omega)
                exact ih wh256_54 ta0 (by omega) (by omega) (by omega) (by omega) (by omega) (by omega) (by omega) (by omega) (by omega) (jhold_c (hs.2.2.2.2 (by omega) (by omega)).2 rfl (by omega) (by omega))
              · have f56 : ((0 : Int32)).toInt = 0 := rfl
                refine jok_eq (fun c57 d57 => ?_) (fun c57 => ?_)
                · refine jok_b (t_as w tp225_51 rfl (by omega) (by omega) trivial (fun q => by cases q)) (fun h256_58 wh256_58 => ?_)
                  obtain ⟨wh256_58, rh256_58⟩ := wh256_58
                  have f59 : ((x5 + (1 : Int32))).toInt = (x5).toInt + ((1 : Int32)).toInt := jadd (by omega) (by omega)
                  exact ih wh256_58 ta0 (by omega) (by omega) (by omega) (by omega) (by omega) (by omega) (by omega) (by omega) (by omega) (jhold_c (hs.2.2.2.2 (by omega) (by omega)).2 rfl (by omega) (by omega))
                · refine jok_b (t_as w tp225_51 rfl (by omega) (by omega) trivial (fun q => by cases q)) (fun h256_60 wh256_60 => ?_)
                  obtain ⟨wh256_60, rh256_60⟩ := wh256_60
                  have f61 : ((x5 + (1 : Int32))).toInt = (x5).toInt + ((1 : Int32)).toInt := jadd (by omega) (by omega)
                  exact ih wh256_60 ta0 (by omega) (by omega) (by omega) (by omega) (by omega) (by omega) (by omega) (by omega) (by omega) (jhold_c (hs.2.2.2.2 (by omega) (by omega)).2 rfl (by omega) (by omega))
          · have f62 : ((14 : Int32)).toInt = 14 := rfl
            refine jok_eq (fun c63 d63 => ?_) (fun c63 => ?_)
            · refine jok_le (fun c64 => ?_) (fun c64 => ?_)
              · unfold F_X12_holdsLine_222
                refine jok_b (t_gR w ta0 rfl rfl) (fun p225_65 tp225_65 => ?_)
                have f66 : ((12 : Int32)).toInt = 12 := rfl
                refine jok_eq (fun c67 d67 => ?_) (fun c67 => ?_)
                · refine jok_b (t_as w tp225_65 rfl (by omega) (by omega) trivial (fun q => by cases q)) (fun h256_68 wh256_68 => ?_)
                  obtain ⟨wh256_68, rh256_68⟩ := wh256_68
                  have f69 : ((x5 + (1 : Int32))).toInt = (x5).toInt + ((1 : Int32)).toInt := jadd (by omega) (by omega)
                  exact ih wh256_68 ta0 (by omega) (by omega) (by omega) (by omega) (by omega) (by omega) (by omega) (by omega) (by omega) (jhold_c (hs.2.2.2.2 (by omega) (by omega)).2 rfl (by omega) (by omega))
                · have f70 : ((0 : Int32)).toInt = 0 := rfl
                  refine jok_eq (fun c71 d71 => ?_) (fun c71 => ?_)
                  · refine jok_b (t_as w tp225_65 rfl (by omega) (by omega) trivial (fun q => by cases q)) (fun h256_72 wh256_72 => ?_)
                    obtain ⟨wh256_72, rh256_72⟩ := wh256_72
                    have f73 : ((x5 + (1 : Int32))).toInt = (x5).toInt + ((1 : Int32)).toInt := jadd (by omega) (by omega)
                    exact ih wh256_72 ta0 (by omega) (by omega) (by omega) (by omega) (by omega) (by omega) (by omega) (by omega) (by omega) (jhold_c (hs.2.2.2.2 (by omega) (by omega)).2 rfl (by omega) (by omega))
                  · refine jok_b (t_as w tp225_65 rfl (by omega) (by omega) trivial (fun q => by cases q)) (fun h256_74 wh256_74 => ?_)
                    obtain ⟨wh256_74, rh256_74⟩ := wh256_74
                    have f75 : ((x5 + (1 : Int32))).toInt = (x5).toInt + ((1 : Int32)).toInt := jadd (by omega) (by omega)
                    exact ih wh256_74 ta0 (by omega) (by omega) (by omega) (by omega) (by omega) (by omega) (by omega) (by omega) (by omega) (jhold_c (hs.2.2.2.2 (by omega) (by omega)).2 rfl (by omega) (by omega))
              · unfold F_X12_holdsLine_222
                refine jok_b (t_gR w ta0 rfl rfl) (fun p225_76 tp225_76 => ?_)
                have f77 : ((12 : Int32)).toInt = 12 := rfl
                refine jok_eq (fun c78 d78 => ?_) (fun c78 => ?_)
                · refine jok_b (t_as w tp225_76 rfl (by omega) (by omega) trivial (fun q => by cases q)) (fun h256_79 wh256_79 => ?_)
                  obtain ⟨wh256_79, rh256_79⟩ := wh256_79
                  have f80 : ((x5 + (1 : Int32))).toInt = (x5).toInt + ((1 : Int32)).toInt := jadd (by omega) (by omega)
                  exact ih wh256_79 ta0 (by omega) (by omega) (by omega) (by omega) (by omega) (by omega) (by omega) (by omega) (by omega) (jhold_c (hs.2.2.2.2 (by omega) (by omega)).2 rfl (by omega) (by omega))
                · have f81 : ((0 : Int32)).toInt = 0 := rfl
                  refine jok_eq (fun c82 d82 => ?_) (fun c82 => ?_)
                  · refine jok_b (t_as w tp225_76 rfl (by omega) (by omega) trivial (fun q => by cases q)) (fun h256_83 wh256_83 => ?_)
                    obtain ⟨wh256_83, rh256_83⟩ := wh256_83
                    have f84 : ((x5 + (1 : Int32))).toInt = (x5).toInt + ((1 : Int32)).toInt := jadd (by omega) (by omega)
                    exact ih wh256_83 ta0 (by omega) (by omega) (by omega) (by omega) (by omega) (by omega) (by omega) (by omega) (by omega) (jhold_c (hs.2.2.2.2 (by omega) (by omega)).2 rfl (by omega) (by omega))
                  · refine jok_b (t_as w tp225_76 rfl (by omega) (by omega) trivial (fun q => by cases q)) (fun h256_85 wh256_85 => ?_)
                    obtain ⟨wh256_85, rh256_85⟩ := wh256_85
                    have f86 : ((x5 + (1 : Int32))).toInt = (x5).toInt + ((1 : Int32)).toInt := jadd (by omega) (by omega)
                    exact ih wh256_85 ta0 (by omega) (by omega) (by omega) (by omega) (by omega) (by omega) (by omega) (by omega) (by omega) (jhold_c (hs.2.2.2.2 (by omega) (by omega)).2 rfl (by omega) (by omega))
            · have f87 : ((16 : Int32)).toInt = 16 := rfl
              refine jok_eq (fun c88 d88 => ?_) (fun c88 => ?_)
              · refine jok_eq (fun c89 d89 => ?_) (fun c89 => ?_)
                · unfold F_X12_holdsLine_222
                  refine jok_b (t_gR w ta0 rfl rfl) (fun p225_90 tp225_90 => ?_)
                  have f91 : ((12 : Int32)).toInt = 12 := rfl
                  refine jok_eq (fun c92 d92 => ?_) (fun c92 => ?_)
                  · refine jok_b (t_as w tp225_90 rfl (by omega) (by omega) trivial (fun q => by cases q)) (fun h256_93 wh256_93 => ?_)
                    obtain ⟨wh256_93, rh256_93⟩ := wh256_93
                    have f94 : ((x5 + (1 : Int32))).toInt = (x5).toInt + ((1 : Int32)).toInt := jadd (by omega) (by omega)
                    exact ih wh256_93 ta0 (by omega) (by omega) (by omega) (by omega) (by omega) (by omega) (by omega) (by omega) (by omega) (jhold_c (hs.2.2.2.2 (by omega) (by omega)).2 rfl (by omega) (by omega))
                  · have f95 : ((0 : Int32)).toInt = 0 := rfl
                    refine jok_eq (fun c96 d96 => ?_) (fun c96 => ?_)
                    · refine jok_b (t_as w tp225_90 rfl (by omega) (by omega) trivial (fun q => by cases q)) (fun h256_97 wh256_97 => ?_)
                      obtain ⟨wh256_97, rh256_97⟩ := wh256_97
                      have f98 : ((x5 + (1 : Int32))).toInt = (x5).toInt + ((1 : Int32)).toInt := jadd (by omega) (by omega)
                      exact ih wh256_97 ta0 (by omega) (by omega) (by omega) (by omega) (by omega) (by omega) (by omega) (by omega) (by omega) (jhold_c (hs.2.2.2.2 (by omega) (by omega)).2 rfl (by omega) (by omega))
                    · refine jok_b (t_as w tp225_90 rfl (by omega) (by omega) trivial (fun q => by cases q)) (fun h256_99 wh256_99 => ?_)
                      obtain ⟨wh256_99, rh256_99⟩ := wh256_99
                      have f100 : ((x5 + (1 : Int32))).toInt = (x5).toInt + ((1 : Int32)).toInt := jadd (by omega) (by omega)
                      exact ih wh256_99 ta0 (by omega) (by omega) (by omega) (by omega) (by omega) (by omega) (by omega) (by omega) (by omega) (jhold_c (hs.2.2.2.2 (by omega) (by omega)).2 rfl (by omega) (by omega))
                · unfold F_X12_holdsLine_222
                  refine jok_b (t_gR w ta0 rfl rfl) (fun p225_101 tp225_101 => ?_)
                  have f102 : ((12 : Int32)).toInt = 12 := rfl
                  refine jok_eq (fun c103 d103 => ?_) (fun c103 => ?_)
                  · refine jok_b (t_as w tp225_101 rfl (by omega) (by omega) trivial (fun q => by cases q)) (fun h256_104 wh256_104 => ?_)
                    obtain ⟨wh256_104, rh256_104⟩ := wh256_104
                    have f105 : ((x5 + (1 : Int32))).toInt = (x5).toInt + ((1 : Int32)).toInt := jadd (by omega) (by omega)
                    exact ih wh256_104 ta0 (by omega) (by omega) (by omega) (by omega) (by omega) (by omega) (by omega) (by omega) (by omega) (jhold_c (hs.2.2.2.2 (by omega) (by omega)).2 rfl (by omega) (by omega))
                  · have f106 : ((0 : Int32)).toInt = 0 := rfl
                    refine jok_eq (fun c107 d107 => ?_) (fun c107 => ?_)
                    · refine jok_b (t_as w tp225_101 rfl (by omega) (by omega) trivial (fun q => by cases q)) (fun h256_108 wh256_108 => ?_)
                      obtain ⟨wh256_108, rh256_108⟩ := wh256_108
                      have f109 : ((x5 + (1 : Int32))).toInt = (x5).toInt + ((1 : Int32)).toInt := jadd (by omega) (by omega)
                      exact ih wh256_108 ta0 (by omega) (by omega) (by omega) (by omega) (by omega) (by omega) (by omega) (by omega) (by omega) (jhold_c (hs.2.2.2.2 (by omega) (by omega)).2 rfl (by omega) (by omega))
                    · refine jok_b (t_as w tp225_101 rfl (by omega) (by omega) trivial (fun q => by cases q)) (fun h256_110 wh256_110 => ?_)
                      obtain ⟨wh256_110, rh256_110⟩ := wh256_110
                      have f111 : ((x5 + (1 : Int32))).toInt = (x5).toInt + ((1 : Int32)).toInt := jadd (by omega) (by omega)
                      exact ih wh256_110 ta0 (by omega) (by omega) (by omega) (by omega) (by omega) (by omega) (by omega) (by omega) (by omega) (jhold_c (hs.2.2.2.2 (by omega) (by omega)).2 rfl (by omega) (by omega))
              · have f112 : ((0 : Int32)).toInt = 0 := rfl
                refine jok_le (fun c113 => ?_) (fun c113 => ?_)
                · unfold F_X12_holdsLine_222
                  refine jok_b (t_gR w ta0 rfl rfl) (fun p225_114 tp225_114 => ?_)
                  have f115 : ((12 : Int32)).toInt = 12 := rfl
                  refine jok_eq (fun c116 d116 => ?_) (fun c116 => ?_)
                  · refine jok_b (t_as w tp225_114 rfl (by omega) (by omega) trivial (fun q => by cases q)) (fun h256_117 wh256_117 => ?_)
                    obtain ⟨wh256_117, rh256_117⟩ := wh256_117
                    have f118 : ((x5 + (1 : Int32))).toInt = (x5).toInt + ((1 : Int32)).toInt := jadd (by omega) (by omega)
                    exact ih wh256_117 ta0 (by omega) (by omega) (by omega) (by omega) (by omega) (by omega) (by omega) (by omega) (by omega) (jhold_c (hs.2.2.2.2 (by omega) (by omega)).2 rfl (by omega) (by omega))
                  · refine jok_eq (fun c119 d119 => ?_) (fun c119 => ?_)
                    · refine jok_b (t_as w tp225_114 rfl (by omega) (by omega) trivial (fun q => by cases q)) (fun h256_120 wh256_120 => ?_)
                      obtain ⟨wh256_120, rh256_120⟩ := wh256_120
                      have f121 : ((x5 + (1 : Int32))).toInt = (x5).toInt + ((1 : Int32)).toInt := jadd (by omega) (by omega)
                      exact ih wh256_120 ta0 (by omega) (by omega) (by omega) (by omega) (by omega) (by omega) (by omega) (by omega) (by omega) (jhold_c (hs.2.2.2.2 (by omega) (by omega)).2 rfl (by omega) (by omega))
                    · refine jok_b (t_as w tp225_114 rfl (by omega) (by omega) trivial (fun q => by cases q)) (fun h256_122 wh256_122 => ?_)
                      obtain ⟨wh256_122, rh256_122⟩ := wh256_122
                      have f123 : ((x5 + (1 : Int32))).toInt = (x5).toInt + ((1 : Int32)).toInt := jadd (by omega) (by omega)
                      exact ih wh256_122 ta0 (by omega) (by omega) (by omega) (by omega) (by omega) (by omega) (by omega) (by omega) (by omega) (jhold_c (hs.2.2.2.2 (by omega) (by omega)).2 rfl (by omega) (by omega))
                · unfold F_X12_holdsLine_222
                  refine jok_b (t_gR w ta0 rfl rfl) (fun p225_124 tp225_124 => ?_)
                  have f125 : ((12 : Int32)).toInt = 12 := rfl
                  refine jok_eq (fun c126 d126 => ?_) (fun c126 => ?_)
                  · refine jok_b (t_as w tp225_124 rfl (by omega) (by omega) trivial (fun q => by cases q)) (fun h256_127 wh256_127 => ?_)
                    obtain ⟨wh256_127, rh256_127⟩ := wh256_127
                    have f128 : ((x5 + (1 : Int32))).toInt = (x5).toInt + ((1 : Int32)).toInt := jadd (by omega) (by omega)
                    exact ih wh256_127 ta0 (by omega) (by omega) (by omega) (by omega) (by omega) (by omega) (by omega) (by omega) (by omega) (jhold_c (hs.2.2.2.2 (by omega) (by omega)).2 rfl (by omega) (by omega))
                  · refine jok_eq (fun c129 d129 => ?_) (fun c129 => ?_)
                    · refine jok_b (t_as w tp225_124 rfl (by omega) (by omega) trivial (fun q => by cases q)) (fun h256_130 wh256_130 => ?_)
                      obtain ⟨wh256_130, rh256_130⟩ := wh256_130
                      have f131 : ((x5 + (1 : Int32))).toInt = (x5).toInt + ((1 : Int32)).toInt := jadd (by omega) (by omega)
                      exact ih wh256_130 ta0 (by omega) (by omega) (by omega) (by omega) (by omega) (by omega) (by omega) (by omega) (by omega) (jhold_c (hs.2.2.2.2 (by omega) (by omega)).2 rfl (by omega) (by omega))
                    · refine jok_b (t_as w tp225_124 rfl (by omega) (by omega) trivial (fun q => by cases q)) (fun h256_132 wh256_132 => ?_)
                      obtain ⟨wh256_132, rh256_132⟩ := wh256_132
                      have f133 : ((x5 + (1 : Int32))).toInt = (x5).toInt + ((1 : Int32)).toInt := jadd (by omega) (by omega)
                      exact ih wh256_132 ta0 (by omega) (by omega) (by omega) (by omega) (by omega) (by omega) (by omega) (by omega) (by omega) (jhold_c (hs.2.2.2.2 (by omega) (by omega)).2 rfl (by omega) (by omega))
      · have hs := jhold_step hg hv pv32_2 (by omega) (by omega) pv48_14 (by omega)
        have hb1 := hs.1
        have hb2 := hs.2.1
        refine jok_b (t_gR w ta0 rfl rfl) (fun p59_134 tp59_134 => ?_)
        refine jok_b (t_gR w ta0 rfl rfl) (fun p67_135 tp67_135 => ?_)
        have f137 : ((1 : Int32)).toInt = 1 := rfl
        have f138 : ((((484 : Int32) + ((2 : Int32) * x5)) + (1 : Int32))).toInt = (((484 : Int32) + ((2 : Int32) * x5))).toInt + ((1 : Int32)).toInt := jadd (by omega) (by omega)
        refine jok_b (t_al w tp67_135 rfl (by omega) (by omega)) (fun v80_136 pv80_136 => ?_)
        try rw [t_cv w ta0 rfl]
        refine jok_b (S_X12_factOf hn hg w ta0 (by omega) (by omega)) (fun v82_139 pv82_139 => ?_)
        refine jok_b (t_as w tp59_134 rfl (by omega) (by omega) trivial (fun q => by cases q)) (fun h85_140 wh85_140 => ?_)
        obtain ⟨wh85_140, rh85_140⟩ := wh85_140
        have f141 : ((x3 + (1 : Int32))).toInt = (x3).toInt + ((1 : Int32)).toInt := jadd (by omega) (by omega)
        have f142 : ((x5 + (1 : Int32))).toInt = (x5).toInt + ((1 : Int32)).toInt := jadd (by omega) (by omega)
        exact ih wh85_140 ta0 (by omega) (by omega) (by omega) (by omega) (by omega) (by omega) (by omega) (by omega) (by omega) (jhold_c (hs.2.2.1 (by omega)) rfl (by omega) (by omega))
set_option maxHeartbeats 1000000 in
theorem S_X12_holdsLine {g : jGh} {Γ : Nat → Option Nat} {n : Nat} {a0 : Nat} {x1 : Int32} {x2 : Int32} {h : jH} (hn : 6000 ≤ n) (hg : jgok g) (w : jW (jKd g) Γ h) (ta0 : Γ a0 = some 20) (lx1 : 0 ≤ x1.toInt) (ux1 : x1.toInt ≤ 11) (lx2 : 0 ≤ x2.toInt) (ux2 : x2.toInt ≤ 7) (hl : x1.toInt < (g.2.2.2.1 435).toInt) : jok (F_X12_holdsLine n a0 x1 x2 h) (fun q => jW (jKd g) Γ q.2 ∧ (fun v : Int32 => 0 ≤ v.toInt ∧ v.toInt ≤ 1) q.1) := by
  unfold F_X12_holdsLine
  refine jok_b (t_gR w ta0 rfl rfl) (fun p12_1 tp12_1 => ?_)
  have f3 : ((436 : Int32)).toInt = 436 := rfl
  have f4 : ((4 : Int32)).toInt = 4 := rfl
  have f5 : (((4 : Int32) * x1)).toInt = 4 * (x1).toInt := jmulL (c := 4) (by omega) (by omega) (by omega)
  have f6 : (((436 : Int32) + ((4 : Int32) * x1))).toInt = ((436 : Int32)).toInt + (((4 : Int32) * x1)).toInt := jadd (by omega) (by omega)
  have f7 : ((2 : Int32)).toInt = 2 := rfl
  have f8 : ((((436 : Int32) + ((4 : Int32) * x1)) + (2 : Int32))).toInt = (((436 : Int32) + ((4 : Int32) * x1))).toInt + ((2 : Int32)).toInt := jadd (by omega) (by omega)
  refine jok_b (t_al w tp12_1 rfl (by omega) (by omega)) (fun v19_2 pv19_2 => ?_)
  have hz := jhold_0 hg (by omega) hl pv19_2 (by omega)
  have hz2 := jhold_bd hg hz
  have f9 : ((0 : Int32)).toInt = 0 := rfl
  exact S_X12_holdsLine_22 hn hg  n w ta0 (by omega) (by omega) (by omega) (by omega) (by omega) (by omega) (by omega) (by omega) (by omega) (jhold_c hz (by omega) (by omega) rfl)
set_option maxHeartbeats 1000000 in
theorem S_X12_sumOf_5 {g : jGh} {Γ : Nat → Option Nat} {n : Nat} (hn : 6000 ≤ n) (hg : jgok g)  (k : Nat) : ∀ {a0 : Nat} {x1 : Int32} {x2 : Int32} {x3 : Int32} {x4 : Int32} {h : jH}, jW (jKd g) Γ h → (Γ a0 = some 20) → (0 ≤ x2.toInt) → (x2.toInt ≤ 7) → (0 ≤ x4.toInt) → (x4.toInt ≤ 12) → (12 : Int) - x4.toInt < (k : Int) → jok (F_X12_sumOf_5 n k a0 x1 x2 x3 x4 h) (fun q => jW (jKd g) Γ q.2 ∧ (fun v : Int32 => True) q.1) := by
  induction k with
  | zero =>
    intro a0 x1 x2 x3 x4 h w ta0 lx2 ux2 lx4 ux4 mk
    omega
  | succ k ih =>
    intro a0 x1 x2 x3 x4 h w ta0 lx2 ux2 lx4 ux4 mk
    show jok (F_X12_sumOf_5_b n (F_X12_sumOf_5 n k) a0 x1 x2 x3 x4 h) _
    unfold F_X12_sumOf_5_b
    refine jok_b (t_gR w ta0 rfl rfl) (fun p8_1 tp8_1 => ?_)
    have f3 : ((435 : Int32)).toInt = 435 := rfl
    refine jok_b (t_al w tp8_1 rfl (by omega) (by omega)) (fun v14_2 pv14_2 => ?_)
    have bv14_2 := jw435 hg pv14_2
    obtain ⟨rv14_2, lv14_2, uv14_2⟩ := bv14_2
    refine jok_le (fun c4 => ?_) (fun c4 => ?_)
    · exact jok_s ⟨w, trivial⟩
    · refine jok_b (t_gR w ta0 rfl rfl) (fun p19_5 tp19_5 => ?_)
      have f7 : ((436 : Int32)).toInt = 436 := rfl
      have f8 : ((4 : Int32)).toInt = 4 := rfl
      have f9 : (((4 : Int32) * x4)).toInt = 4 * (x4).toInt := jmulL (c := 4) (by omega) (by omega) (by omega)
      have f10 : (((436 : Int32) + ((4 : Int32) * x4))).toInt = ((436 : Int32)).toInt + (((4 : Int32) * x4)).toInt := jadd (by omega) (by omega)
      refine jok_b (t_al w tp19_5 rfl (by omega) (by omega)) (fun v30_6 pv30_6 => ?_)
      refine jok_eq (fun c11 d11 => ?_) (fun c11 => ?_)
      · try rw [t_cv w ta0 rfl]
        refine jok_b (S_X12_holdsLine hn hg w ta0 (by omega) (by omega) (by omega) (by omega) (by omega)) (fun q39_12 wq39_12 => ?_)
        obtain ⟨wq39_12, pq39_12⟩ := wq39_12
        obtain ⟨lq39_12, uq39_12⟩ := pq39_12
        have f13 : ((0 : Int32)).toInt = 0 := rfl
        refine jok_eq (fun c14 d14 => ?_) (fun c14 => ?_)
        · have f15 : ((1 : Int32)).toInt = 1 := rfl
          have f16 : ((x4 + (1 : Int32))).toInt = (x4).toInt + ((1 : Int32)).toInt := jadd (by omega) (by omega)
          exact ih wq39_12 ta0 (by omega) (by omega) (by omega) (by omega) (by omega)
        · refine jok_b (t_gR wq39_12 ta0 rfl rfl) (fun p47_17 tp47_17 => ?_)
          have f19 : ((1 : Int32)).toInt = 1 := rfl
          have f20 : ((((436 : Int32) + ((4 : Int32) * x4)) + (1 : Int32))).toInt = (((436 : Int32) + ((4 : Int32) * x4))).toInt + ((1 : Int32)).toInt := jadd (by omega) (by omega)
          refine jok_b (t_al wq39_12 tp47_17 rfl (by omega) (by omega)) (fun v60_18 pv60_18 => ?_)
          have f21 : ((x4 + (1 : Int32))).toInt = (x4).toInt + ((1 : Int32)).toInt := jadd (by omega) (by omega)
          exact ih wq39_12 ta0 (by omega) (by omega) (by omega) (by omega) (by omega)
      · have f22 : ((1 : Int32)).toInt = 1 := rfl
        have f23 : ((x4 + (1 : Int32))).toInt = (x4).toInt + ((1 : Int32)).toInt := jadd (by omega) (by omega)
        exact ih w ta0 (by omega) (by omega) (by omega) (by omega) (by omega)
set_option maxHeartbeats 1000000 in
theorem S_X12_sumOf {g : jGh} {Γ : Nat → Option Nat} {n : Nat} {a0 : Nat} {x1 : Int32} {x2 : Int32} {h : jH} (hn : 6000 ≤ n) (hg : jgok g) (w : jW (jKd g) Γ h) (ta0 : Γ a0 = some 20) (lx2 : 0 ≤ x2.toInt) (ux2 : x2.toInt ≤ 7) : jok (F_X12_sumOf n a0 x1 x2 h) (fun q => jW (jKd g) Γ q.2 ∧ (fun v : Int32 => True) q.1) := by
  unfold F_X12_sumOf
  have f1 : ((0 : Int32)).toInt = 0 := rfl
  exact S_X12_sumOf_5 hn hg  n w ta0 (by omega) (by omega) (by omega) (by omega) (by omega)
set_option maxHeartbeats 1000000 in
theorem S_X12_byLaw {g : jGh} {Γ : Nat → Option Nat} {n : Nat} {a0 : Nat} {x1 : Int32} {x2 : Int32} {h : jH} (hn : 6000 ≤ n) (hg : jgok g) (w : jW (jKd g) Γ h) (ta0 : Γ a0 = some 20) (lx2 : 0 ≤ x2.toInt) (ux2 : x2.toInt ≤ 7) : jok (F_X12_byLaw n a0 x1 x2 h) (fun q => jW (jKd g) Γ q.2 ∧ (fun v : Int32 => True) q.1) := by
  unfold F_X12_byLaw
  refine jok_b (t_gR w ta0 rfl rfl) (fun p1_1 tp1_1 => ?_)
  have f3 : ((2 : Int32)).toInt = 2 := rfl
  refine jok_b (t_al w tp1_1 rfl (by omega) (by omega)) (fun v5_2 pv5_2 => ?_)
  have f4 : ((1 : Int32)).toInt = 1 := rfl
  refine jok_eq (fun c5 d5 => ?_) (fun c5 => ?_)
  · try rw [t_cv w ta0 rfl]
    refine jok_b (S_X12_sumOf hn hg w ta0 (by omega) (by omega)) (fun q13_6 wq13_6 => ?_)
    obtain ⟨wq13_6, pq13_6⟩ := wq13_6
    exact jok_s ⟨wq13_6, trivial⟩
  · have f7 : ((0 : Int32)).toInt = 0 := rfl
    refine jok_eq (fun c8 d8 => ?_) (fun c8 => ?_)
    · refine jok_b (t_gR w ta0 rfl rfl) (fun p24_9 tp24_9 => ?_)
      have f11 : ((3 : Int32)).toInt = 3 := rfl
      refine jok_b (t_al w tp24_9 rfl (by omega) (by omega)) (fun v28_10 pv28_10 => ?_)
      try rw [t_cv w ta0 rfl]
      refine jok_b (S_X12_isLit hn hg w ta0 (by omega) (by omega)) (fun v29_12 pv29_12 => ?_)
      obtain ⟨lv29_12, uv29_12⟩ := pv29_12
      refine jok_eq (fun c13 d13 => ?_) (fun c13 => ?_)
      · exact jok_s ⟨w, trivial⟩
      · exact jok_s ⟨w, trivial⟩
    · refine jok_eq (fun c14 d14 => ?_) (fun c14 => ?_)
      · exact jok_s ⟨w, trivial⟩
      · exact jok_s ⟨w, trivial⟩
set_option maxHeartbeats 1000000 in
theorem S_X12_catches_4 {g : jGh} {Γ : Nat → Option Nat} {n : Nat} (hn : 6000 ≤ n) (hg : jgok g)  (k : Nat) : ∀ {a0 : Nat} {x1 : Int32} {x2 : Int32} {h : jH}, jW (jKd g) Γ h → (Γ a0 = some 20) → (0 ≤ x2.toInt) → (x2.toInt ≤ 8) → (8 : Int) - x2.toInt < (k : Int) → jok (F_X12_catches_4 n k a0 x1 x2 h) (fun q => jW (jKd g) Γ q.2 ∧ (fun v : Int32 => True) q.1) := by
  induction k with
  | zero =>
    intro a0 x1 x2 h w ta0 lx2 ux2 mk
    omega
  | succ k ih =>
    intro a0 x1 x2 h w ta0 lx2 ux2 mk
    show jok (F_X12_catches_4_b n (F_X12_catches_4 n k) a0 x1 x2 h) _
    unfold F_X12_catches_4_b
    try rw [t_cv w ta0 rfl]
    refine jok_b2 (S_X12_lastRing hn hg w ta0) (fun v6_1 ev6_1 pv6_1 => ?_)
    obtain ⟨lv6_1, uv6_1⟩ := pv6_1
    refine jok_le (fun c2 => ?_) (fun c2 => ?_)
    · exact jok_s ⟨w, trivial⟩
    · try rw [t_cv w ta0 rfl]
      refine jok_b (S_X12_gapOf hn hg w ta0 (by omega) (by omega)) (fun v14_3 pv14_3 => ?_)
      have f4 : ((1 : Int32)).toInt = 1 := rfl
      refine jok_eq (fun c5 d5 => ?_) (fun c5 => ?_)
      · try rw [t_cv w ta0 rfl]
        have f7 : ((7 : Int32)).toInt = 7 := rfl
        refine jok_b (S_X12_is hn hg w ta0 (by omega) (by omega) (by omega) (by omega)) (fun v25_6 pv25_6 => ?_)
        obtain ⟨lv25_6, uv25_6⟩ := pv25_6
        have f8 : ((0 : Int32)).toInt = 0 := rfl
        refine jok_eq (fun c9 d9 => ?_) (fun c9 => ?_)
        · try rw [t_cv w ta0 rfl]
          have f11 : ((100 : Int32)).toInt = 100 := rfl
          refine jok_b (S_X12_drawn hn hg w ta0 (by omega) (by omega)) (fun q34_10 wq34_10 => ?_)
          obtain ⟨wq34_10, pq34_10⟩ := wq34_10
          try rw [t_cv wq34_10 ta0 rfl]
          refine jok_b (S_X12_byLaw hn hg wq34_10 ta0 (by omega) (by omega)) (fun q40_12 wq40_12 => ?_)
          obtain ⟨wq40_12, pq40_12⟩ := wq40_12
          refine jok_lt (fun c13 => ?_) (fun c13 => ?_)
          · refine jok_b (t_gR wq40_12 ta0 rfl rfl) (fun p50_14 tp50_14 => ?_)
            refine jok_b (S_X12_at hn hg wq40_12 (by omega) (by omega) (by omega) (by omega)) (fun v56_15 pv56_15 => ?_)
            have pv56_15_9 := pv56_15
            try dsimp only at pv56_15_9
            refine jok_b (t_as wq40_12 tp50_14 rfl (by omega) (by omega) (show jRw g (v56_15).toInt.toNat (1 : Int32) from ⟨⟨by omega, by omega, by omega⟩, Or.inl (by omega)⟩) (fun q => by cases q)) (fun h60_16 wh60_16 => ?_)
            obtain ⟨wh60_16, rh60_16⟩ := wh60_16
            try rw [t_cv wh60_16 ta0 rfl]
            refine jok_b (S_X12_tells hn hg wh60_16 ta0 (by omega) (by omega)) (fun h65_17 wh65_17 => ?_)
            have f18 : ((x2 + (1 : Int32))).toInt = (x2).toInt + ((1 : Int32)).toInt := jadd (by omega) (by omega)
            exact ih wh65_17 ta0 (by omega) (by omega) (by omega)
          · have f19 : ((x2 + (1 : Int32))).toInt = (x2).toInt + ((1 : Int32)).toInt := jadd (by omega) (by omega)
            exact ih wq40_12 ta0 (by omega) (by omega) (by omega)
        · have f20 : ((x2 + (1 : Int32))).toInt = (x2).toInt + ((1 : Int32)).toInt := jadd (by omega) (by omega)
          exact ih w ta0 (by omega) (by omega) (by omega)
      · have f21 : ((x2 + (1 : Int32))).toInt = (x2).toInt + ((1 : Int32)).toInt := jadd (by omega) (by omega)
        exact ih w ta0 (by omega) (by omega) (by omega)
set_option maxHeartbeats 1000000 in
theorem S_X12_catches {g : jGh} {Γ : Nat → Option Nat} {n : Nat} {a0 : Nat} {h : jH} (hn : 6000 ≤ n) (hg : jgok g) (w : jW (jKd g) Γ h) (ta0 : Γ a0 = some 20) : jok (F_X12_catches n a0 h) (fun q => jW (jKd g) Γ q.2 ∧ (fun v : Int32 => True) q.1) := by
  unfold F_X12_catches
  have f1 : ((0 : Int32)).toInt = 0 := rfl
  exact S_X12_catches_4 hn hg  n w ta0 (by omega) (by omega) (by omega)
set_option maxHeartbeats 1000000 in
theorem S_X12_falls_4 {g : jGh} {Γ : Nat → Option Nat} {n : Nat} (hn : 6000 ≤ n) (hg : jgok g)  (k : Nat) : ∀ {a0 : Nat} {x1 : Int32} {x2 : Int32} {h : jH}, jW (jKd g) Γ h → (Γ a0 = some 20) → (0 ≤ x2.toInt) → (x2.toInt ≤ 8) → (8 : Int) - x2.toInt < (k : Int) → jok (F_X12_falls_4 n k a0 x1 x2 h) (fun q => jW (jKd g) Γ q.2 ∧ (fun v : Int32 => True) q.1) := by
  induction k with
  | zero =>
    intro a0 x1 x2 h w ta0 lx2 ux2 mk
    omega
  | succ k ih =>
    intro a0 x1 x2 h w ta0 lx2 ux2 mk
    show jok (F_X12_falls_4_b n (F_X12_falls_4 n k) a0 x1 x2 h) _
    unfold F_X12_falls_4_b
    try rw [t_cv w ta0 rfl]
    refine jok_b2 (S_X12_rings hn hg w ta0) (fun v6_1 ev6_1 pv6_1 => ?_)
    obtain ⟨lv6_1, uv6_1⟩ := pv6_1
    refine jok_le (fun c2 => ?_) (fun c2 => ?_)
    · exact jok_s ⟨w, trivial⟩
    · try rw [t_cv w ta0 rfl]
      have f4 : ((6 : Int32)).toInt = 6 := rfl
      refine jok_b (S_X12_is hn hg w ta0 (by omega) (by omega) (by omega) (by omega)) (fun v16_3 pv16_3 => ?_)
      obtain ⟨lv16_3, uv16_3⟩ := pv16_3
      have f5 : ((0 : Int32)).toInt = 0 := rfl
      refine jok_eq (fun c6 d6 => ?_) (fun c6 => ?_)
      · have f7 : ((1 : Int32)).toInt = 1 := rfl
        have f8 : ((x2 + (1 : Int32))).toInt = (x2).toInt + ((1 : Int32)).toInt := jadd (by omega) (by omega)
        exact ih w ta0 (by omega) (by omega) (by omega)
      · try rw [t_cv w ta0 rfl]
        have f10 : ((100 : Int32)).toInt = 100 := rfl
        refine jok_b (S_X12_drawn hn hg w ta0 (by omega) (by omega)) (fun q25_9 wq25_9 => ?_)
        obtain ⟨wq25_9, pq25_9⟩ := wq25_9
        try rw [t_cv wq25_9 ta0 rfl]
        refine jok_b (S_X12_byLaw hn hg wq25_9 ta0 (by omega) (by omega)) (fun q31_11 wq31_11 => ?_)
        obtain ⟨wq31_11, pq31_11⟩ := wq31_11
        refine jok_lt (fun c12 => ?_) (fun c12 => ?_)
        · refine jok_b (t_gR wq31_11 ta0 rfl rfl) (fun p41_13 tp41_13 => ?_)
          refine jok_b (S_X12_at hn hg wq31_11 (by omega) (by omega) (by omega) (by omega)) (fun v47_14 pv47_14 => ?_)
          have pv47_14_9 := pv47_14
          try dsimp only at pv47_14_9
          refine jok_b (t_as wq31_11 tp41_13 rfl (by omega) (by omega) (show jRw g (v47_14).toInt.toNat (0 : Int32) from ⟨⟨by omega, by omega, by omega⟩, Or.inl (by omega)⟩) (fun q => by cases q)) (fun h51_15 wh51_15 => ?_)
          obtain ⟨wh51_15, rh51_15⟩ := wh51_15
          try rw [t_cv wh51_15 ta0 rfl]
          refine jok_b (S_X12_tells hn hg wh51_15 ta0 (by omega) (by omega)) (fun h56_16 wh56_16 => ?_)
          have f17 : ((1 : Int32)).toInt = 1 := rfl
          have f18 : ((x2 + (1 : Int32))).toInt = (x2).toInt + ((1 : Int32)).toInt := jadd (by omega) (by omega)
          exact ih wh56_16 ta0 (by omega) (by omega) (by omega)
        · have f19 : ((1 : Int32)).toInt = 1 := rfl
          have f20 : ((x2 + (1 : Int32))).toInt = (x2).toInt + ((1 : Int32)).toInt := jadd (by omega) (by omega)
          exact ih wq31_11 ta0 (by omega) (by omega) (by omega)
set_option maxHeartbeats 1000000 in
theorem S_X12_falls {g : jGh} {Γ : Nat → Option Nat} {n : Nat} {a0 : Nat} {h : jH} (hn : 6000 ≤ n) (hg : jgok g) (w : jW (jKd g) Γ h) (ta0 : Γ a0 = some 20) : jok (F_X12_falls n a0 h) (fun q => jW (jKd g) Γ q.2 ∧ (fun v : Int32 => True) q.1) := by
  unfold F_X12_falls
  have f1 : ((0 : Int32)).toInt = 0 := rfl
  exact S_X12_falls_4 hn hg  n w ta0 (by omega) (by omega) (by omega)
set_option maxHeartbeats 1000000 in
theorem S_X12_oneHour_2 {g : jGh} {Γ : Nat → Option Nat} {n : Nat} (hn : 6000 ≤ n) (hg : jgok g)  (k : Nat) : ∀ {a0 : Nat} {x1 : Int32} {x2 : Int32} {h : jH}, jW (jKd g) Γ h → (Γ a0 = some 20) → (0 ≤ x2.toInt) → (x2.toInt ≤ 8) → (8 : Int) - x2.toInt < (k : Int) → jok (F_X12_oneHour_2 n k a0 x1 x2 h) (fun q => jW (jKd g) Γ q.2 ∧ (fun v : Int32 => True) q.1) := by
  induction k with
  | zero =>
    intro a0 x1 x2 h w ta0 lx2 ux2 mk
    omega
  | succ k ih =>
    intro a0 x1 x2 h w ta0 lx2 ux2 mk
    show jok (F_X12_oneHour_2_b n (F_X12_oneHour_2 n k) a0 x1 x2 h) _
    unfold F_X12_oneHour_2_b
    try rw [t_cv w ta0 rfl]
    refine jok_b2 (S_X12_rings hn hg w ta0) (fun v4_1 ev4_1 pv4_1 => ?_)
    obtain ⟨lv4_1, uv4_1⟩ := pv4_1
    refine jok_le (fun c2 => ?_) (fun c2 => ?_)
    · have f3 : ((0 : Int32)).toInt = 0 := rfl
      refine jok_eq (fun c4 d4 => ?_) (fun c4 => ?_)
      · try rw [t_cv w ta0 rfl]
        refine jok_b (S_X12_catches hn hg w ta0) (fun q53_5 wq53_5 => ?_)
        obtain ⟨wq53_5, pq53_5⟩ := wq53_5
        try rw [t_cv wq53_5 ta0 rfl]
        refine jok_b (S_X12_falls hn hg wq53_5 ta0) (fun q57_6 wq57_6 => ?_)
        obtain ⟨wq57_6, pq57_6⟩ := wq57_6
        unfold F_X12_oneHour_61
        refine jok_b (t_gR wq57_6 ta0 rfl rfl) (fun p63_7 tp63_7 => ?_)
        have f9 : ((3 : Int32)).toInt = 3 := rfl
        refine jok_b (t_al wq57_6 tp63_7 rfl (by omega) (by omega)) (fun v68_8 pv68_8 => ?_)
        have f11 : ((1 : Int32)).toInt = 1 := rfl
        refine jok_b (t_as wq57_6 tp63_7 rfl (by omega) (by omega) (show jRw g ((3 : Int32)).toInt.toNat (v68_8 + (1 : Int32)) from ⟨⟨by omega, by omega, by omega⟩, Or.inl (by omega)⟩) (fun q => by cases q)) (fun h71_10 wh71_10 => ?_)
        obtain ⟨wh71_10, rh71_10⟩ := wh71_10
        refine jok_b (t_gR wh71_10 ta0 rfl rfl) (fun p73_12 tp73_12 => ?_)
        refine jok_b (t_al wh71_10 tp73_12 rfl (by omega) (by omega)) (fun v77_13 pv77_13 => ?_)
        have f14 : ((8 : Int32)).toInt = 8 := rfl
        refine jok_eq (fun c15 d15 => ?_) (fun c15 => ?_)
        · refine jok_b (t_gR wh71_10 ta0 rfl rfl) (fun p84_16 tp84_16 => ?_)
          refine jok_b (t_as wh71_10 tp84_16 rfl (by omega) (by omega) (show jRw g ((3 : Int32)).toInt.toNat (0 : Int32) from ⟨⟨by omega, by omega, by omega⟩, Or.inl (by omega)⟩) (fun q => by cases q)) (fun h89_17 wh89_17 => ?_)
          obtain ⟨wh89_17, rh89_17⟩ := wh89_17
          refine jok_b (t_gR wh89_17 ta0 rfl rfl) (fun p91_18 tp91_18 => ?_)
          refine jok_b (t_gR wh89_17 ta0 rfl rfl) (fun p99_19 tp99_19 => ?_)
          have f21 : ((4 : Int32)).toInt = 4 := rfl
          refine jok_b (t_al wh89_17 tp99_19 rfl (by omega) (by omega)) (fun v103_20 pv103_20 => ?_)
          have f23 : ((9999 : Int32)).toInt = 9999 := rfl
          refine jok_b (t_as wh89_17 tp91_18 rfl (by omega) (by omega) (show jRw g ((4 : Int32)).toInt.toNat (if (v103_20 + (1 : Int32)) < (9999 : Int32) then (v103_20 + (1 : Int32)) else (9999 : Int32)) from ⟨⟨by omega, by omega, by omega⟩, Or.inl (by omega)⟩) (fun q => by cases q)) (fun h109_22 wh109_22 => ?_)
          obtain ⟨wh109_22, rh109_22⟩ := wh109_22
          exact jok_s ⟨wh109_22, trivial⟩
        · exact jok_s ⟨wh71_10, trivial⟩
      · unfold F_X12_oneHour_61
        refine jok_b (t_gR w ta0 rfl rfl) (fun p63_24 tp63_24 => ?_)
        have f26 : ((3 : Int32)).toInt = 3 := rfl
        refine jok_b (t_al w tp63_24 rfl (by omega) (by omega)) (fun v68_25 pv68_25 => ?_)
        have f28 : ((1 : Int32)).toInt = 1 := rfl
        refine jok_b (t_as w tp63_24 rfl (by omega) (by omega) (show jRw g ((3 : Int32)).toInt.toNat (v68_25 + (1 : Int32)) from ⟨⟨by omega, by omega, by omega⟩, Or.inl (by omega)⟩) (fun q => by cases q)) (fun h71_27 wh71_27 => ?_)
        obtain ⟨wh71_27, rh71_27⟩ := wh71_27
        refine jok_b (t_gR wh71_27 ta0 rfl rfl) (fun p73_29 tp73_29 => ?_)
        refine jok_b (t_al wh71_27 tp73_29 rfl (by omega) (by omega)) (fun v77_30 pv77_30 => ?_)
        have f31 : ((8 : Int32)).toInt = 8 := rfl
        refine jok_eq (fun c32 d32 => ?_) (fun c32 => ?_)
        · refine jok_b (t_gR wh71_27 ta0 rfl rfl) (fun p84_33 tp84_33 => ?_)
          refine jok_b (t_as wh71_27 tp84_33 rfl (by omega) (by omega) (show jRw g ((3 : Int32)).toInt.toNat (0 : Int32) from ⟨⟨by omega, by omega, by omega⟩, Or.inl (by omega)⟩) (fun q => by cases q)) (fun h89_34 wh89_34 => ?_)
          obtain ⟨wh89_34, rh89_34⟩ := wh89_34
          refine jok_b (t_gR wh89_34 ta0 rfl rfl) (fun p91_35 tp91_35 => ?_)
          refine jok_b (t_gR wh89_34 ta0 rfl rfl) (fun p99_36 tp99_36 => ?_)
          have f38 : ((4 : Int32)).toInt = 4 := rfl
          refine jok_b (t_al wh89_34 tp99_36 rfl (by omega) (by omega)) (fun v103_37 pv103_37 => ?_)
          have f40 : ((9999 : Int32)).toInt = 9999 := rfl
          refine jok_b (t_as wh89_34 tp91_35 rfl (by omega) (by omega) (show jRw g ((4 : Int32)).toInt.toNat (if (v103_37 + (1 : Int32)) < (9999 : Int32) then (v103_37 + (1 : Int32)) else (9999 : Int32)) from ⟨⟨by omega, by omega, by omega⟩, Or.inl (by omega)⟩) (fun q => by cases q)) (fun h109_39 wh109_39 => ?_)
          obtain ⟨wh109_39, rh109_39⟩ := wh109_39
          exact jok_s ⟨wh109_39, trivial⟩
        · exact jok_s ⟨wh71_27, trivial⟩
    · refine jok_b (t_gR w ta0 rfl rfl) (fun p11_41 tp11_41 => ?_)
      have f43 : ((4 : Int32)).toInt = 4 := rfl
      refine jok_b (S_X12_at hn hg w (by omega) (by omega) (by omega) (by omega)) (fun v16_42 pv16_42 => ?_)
      have pv16_42_9 := pv16_42
      try dsimp only at pv16_42_9
      try rw [t_cv w ta0 rfl]
      refine jok_b (S_X12_of hn hg w ta0 (by omega) (by omega) (by omega) (by omega)) (fun v24_44 pv24_44 => ?_)
      have pv24_44_9 := pv24_44
      try dsimp only at pv24_44_9
      try rw [t_cv w ta0 rfl]
      refine jok_b (S_X12_byLaw hn hg w ta0 (by omega) (by omega)) (fun q30_45 wq30_45 => ?_)
      obtain ⟨wq30_45, pq30_45⟩ := wq30_45
      have f47 : ((99 : Int32)).toInt = 99 := rfl
      refine jok_b (t_as wq30_45 tp11_41 rfl (by omega) (by omega) (show jRw g (v16_42).toInt.toNat (if (v24_44 + q30_45.1) < (99 : Int32) then (v24_44 + q30_45.1) else (99 : Int32)) from ⟨⟨by omega, by omega, by omega⟩, Or.inl (by omega)⟩) (fun q => by cases q)) (fun h37_46 wh37_46 => ?_)
      obtain ⟨wh37_46, rh37_46⟩ := wh37_46
      have f48 : ((1 : Int32)).toInt = 1 := rfl
      have f49 : ((x2 + (1 : Int32))).toInt = (x2).toInt + ((1 : Int32)).toInt := jadd (by omega) (by omega)
      exact ih wh37_46 ta0 (by omega) (by omega) (by omega)
set_option maxHeartbeats 1000000 in
theorem S_X12_oneHour {g : jGh} {Γ : Nat → Option Nat} {n : Nat} {a0 : Nat} {x1 : Int32} {h : jH} (hn : 6000 ≤ n) (hg : jgok g) (w : jW (jKd g) Γ h) (ta0 : Γ a0 = some 20) : jok (F_X12_oneHour n a0 x1 h) (fun q => jW (jKd g) Γ q.2 ∧ (fun v : Int32 => True) q.1) := by
  unfold F_X12_oneHour
  have f1 : ((0 : Int32)).toInt = 0 := rfl
  exact S_X12_oneHour_2 hn hg  n w ta0 (by omega) (by omega) (by omega)
set_option maxHeartbeats 1000000 in
theorem S_X12_goesOn_5 {g : jGh} {Γ : Nat → Option Nat} {n : Nat} (hn : 6000 ≤ n) (hg : jgok g)  (k : Nat) : ∀ {a0 : Nat} {x1 : Int32} {x2 : Int32} {x3 : Int32} {x4 : Int32} {h : jH}, jW (jKd g) Γ h → (Γ a0 = some 20) → (0 ≤ x1.toInt) → (x1.toInt ≤ 80) → (0 ≤ x4.toInt) → (x4.toInt ≤ 80) → (80 : Int) - x4.toInt < (k : Int) → jok (F_X12_goesOn_5 n k a0 x1 x2 x3 x4 h) (fun q => jW (jKd g) Γ q.2 ∧ (fun v : Int32 => True) q.1) := by
  induction k with
  | zero =>
    intro a0 x1 x2 x3 x4 h w ta0 lx1 ux1 lx4 ux4 mk
    omega
  | succ k ih =>
    intro a0 x1 x2 x3 x4 h w ta0 lx1 ux1 lx4 ux4 mk
    show jok (F_X12_goesOn_5_b n (F_X12_goesOn_5 n k) a0 x1 x2 x3 x4 h) _
    unfold F_X12_goesOn_5_b
    refine jok_le (fun c1 => ?_) (fun c1 => ?_)
    · exact jok_s ⟨w, trivial⟩
    · try rw [t_cv w ta0 rfl]
      refine jok_b (S_X12_oneHour hn hg w ta0) (fun q14_2 wq14_2 => ?_)
      obtain ⟨wq14_2, pq14_2⟩ := wq14_2
      have f3 : ((1 : Int32)).toInt = 1 := rfl
      have f4 : ((x4 + (1 : Int32))).toInt = (x4).toInt + ((1 : Int32)).toInt := jadd (by omega) (by omega)
      exact ih wq14_2 ta0 (by omega) (by omega) (by omega) (by omega) (by omega)
set_option maxHeartbeats 1000000 in
theorem S_X12_goesOn {g : jGh} {Γ : Nat → Option Nat} {n : Nat} {a0 : Nat} {x1 : Int32} {x2 : Int32} {h : jH} (hn : 6000 ≤ n) (hg : jgok g) (w : jW (jKd g) Γ h) (ta0 : Γ a0 = some 20) (lx1 : 0 ≤ x1.toInt) (ux1 : x1.toInt ≤ 80) : jok (F_X12_goesOn n a0 x1 x2 h) (fun q => jW (jKd g) Γ q.2 ∧ (fun v : Int32 => True) q.1) := by
  unfold F_X12_goesOn
  have f1 : ((0 : Int32)).toInt = 0 := rfl
  exact S_X12_goesOn_5 hn hg  n w ta0 (by omega) (by omega) (by omega) (by omega) (by omega)
def jgF (n a0 : Nat) (x2 x3 : Int32) (h : jH) (b r : Int) : Prop := ∀ (y u : Int32), b ≤ y.toInt → y.toInt < r → F_X12_has n x3 y h = some u → ¬ u.toInt = 0 → jgood n a0 x2 h y
theorem jok_u {α : Type} {o : Option α} {P : α → Prop} {v : α} (h : jok o P) (e : o = some v) : P v := by
  obtain ⟨w, e2, hw⟩ := h
  cases e2.symm.trans e
  exact hw
theorem has_0 {n : Nat} {y u : Int32} {h : jH} (e : F_X12_has n 0 y h = some u) : u.toInt = 0 := by
  unfold F_X12_has at e
  have e9 : ((0 : Int32) >>> (y &&& 31)) &&& (1 : Int32) = 0 := by
    rw [show (0 : Int32) >>> (y &&& 31) = 0 from by simp]
    rfl
  rw [e9, if_neg (by decide)] at e
  cases e
  rfl
theorem jal_pf {t p ci a k : Nat} {j : Int32} {v : Value} {h h1 : jH} (e : jpf ci h a k v = some h1) : jal t h1 p j = jal t h p j := by
  obtain ⟨fs, e1, -, rfl⟩ := jpf_o e
  unfold jal
  show (match (if p = a then some _ else h.2 p) with | some (.inr (.inl x)) => if x.1 = t ∧ ¬ (j < 0 ∨ x.2.1 ≤ j.toNatClampNeg) then some (x.2.2 j.toNatClampNeg) else none | _ => none) = _
  by_cases q : p = a
  · subst q
    rw [if_pos rfl, e1]
  · rw [if_neg q]
    rfl
theorem jgR_pf {ci a k b k2 c : Nat} {v : Value} {h h1 : jH} (e : jpf ci h a k v = some h1) (hk : k2 ≠ k) : jgR c h1 b k2 = jgR c h b k2 := by
  obtain ⟨fs, e1, -, rfl⟩ := jpf_o e
  unfold jgR
  rw [jfr_up e1 c b k2 (Or.inr hk)]
theorem of_pf {n a0 a : Nat} {y : Int32} {v : Value} {h h1 : jH} (e : jpf 10 h a 18 v = some h1) : F_X12_of n a0 y (0 : Int32) h1 = F_X12_of n a0 y (0 : Int32) h := by
  unfold F_X12_of
  rw [jgR_pf e (by decide)]
  cases jgR 10 h a0 1 with
  | none => rfl
  | some p =>
    show (jal 0 h1 p _).bind _ = (jal 0 h p _).bind _
    rw [jal_pf e]
theorem rings_pf {n a0 a : Nat} {v : Value} {h h1 : jH} (e : jpf 10 h a 18 v = some h1) : F_X12_rings n a0 h1 = F_X12_rings n a0 h := by
  unfold F_X12_rings
  rw [jgR_pf e (by decide)]
  cases jgR 10 h a0 1 with
  | none => rfl
  | some p =>
    show (jal 0 h1 p _).bind _ = (jal 0 h p _).bind _
    rw [jal_pf e]
theorem goes_in {n a0 : Nat} {x2 v3 : Int32} {h : jH} (p : v3.toInt = 0 ∨ ∀ r, F_X12_rings n a0 h = some r → jgo n a0 x2 v3 h r.toInt) : ∀ r, F_X12_rings n a0 h = some r → jgF n a0 x2 v3 h (0 : Int32).toInt r.toInt := by
  intro r er y u h0 h1 eu hu
  rcases p with p | p
  · have e : v3 = 0 := Int32.toInt_inj.mp p
    rw [e] at eu
    exact absurd (has_0 eu) hu
  · exact p r er y u h0 h1 eu hu
theorem goes_gd {n a0 p32 : Nat} {x2 x3 x4 v13 v22 v38 v42 : Int32} {h : jH} (hv : ∀ r, F_X12_rings n a0 h = some r → jgF n a0 x2 x3 h x4.toInt r.toInt) (e13 : F_X12_rings n a0 h = some v13) (hlt : x4.toInt < v13.toInt) (e22 : F_X12_has n x3 x4 h = some v22) (hne : ¬ v22.toInt = 0) (ep : jgR 10 h a0 1 = some p32) (e38 : F_X12_at n x4 (0 : Int32) h = some v38) (e42 : jal 0 h p32 v38 = some v42) : (x2 = 0 → 1 ≤ v42.toInt) ∧ (¬ x2.toInt = 0 → v42.toInt ≤ 30) := by
  refine hv v13 e13 x4 v22 (Int.le_refl _) hlt e22 hne v42 ?_
  unfold F_X12_of
  simp only [ep, e38, e42, Option.bind_some]
theorem goes_nx1 {n a0 : Nat} {x2 x3 x4 : Int32} {h : jH} (hv : ∀ r, F_X12_rings n a0 h = some r → jgF n a0 x2 x3 h x4.toInt r.toInt) (fx : (x4 + (1 : Int32)).toInt = x4.toInt + 1) : ∀ r, F_X12_rings n a0 h = some r → jgF n a0 x2 x3 h (x4 + (1 : Int32)).toInt r.toInt := by
  intro r er y u h0 h1 eu hu
  exact hv r er y u (by omega) h1 eu hu
theorem goes_nx2 {n a0 p32 : Nat} {x2 x3 x4 v38 x : Int32} {v : Value} {h h53 h75 : jH} (hv : ∀ r, F_X12_rings n a0 h = some r → jgF n a0 x2 x3 h x4.toInt r.toInt) (ep : jgR 10 h a0 1 = some p32) (e53 : jas 0 h p32 v38 x = some h53) (e75 : jpf 10 h53 a0 18 v = some h75) (p38 : v38.toInt = 11 + 8 * x4.toInt) (b0 : 0 ≤ x4.toInt) (b1 : x4.toInt ≤ 7) (fx : (x4 + (1 : Int32)).toInt = x4.toInt + 1) (hr : ∀ r, F_X12_rings n a0 h75 = some r → r.toInt ≤ 8) : ∀ r, F_X12_rings n a0 h75 = some r → jgF n a0 x2 x3 h75 (x4 + (1 : Int32)).toInt r.toInt := by
  intro r er y u h0 h1 eu hu p ep9
  have hr8 := hr r er
  have hi : v38.toNatClampNeg = v38.toInt.toNat := rfl
  have h00 : (0 : Int32).toNatClampNeg = 0 := rfl
  rw [rings_pf e75, rings_as ep e53 (by omega)] at er
  have l11 : (11 : Int32).toInt = 11 := rfl
  have l0 : (0 : Int32).toInt = 0 := rfl
  have f1 : ((8 : Int32) * y).toInt = 8 * y.toInt := jmulL (c := 8) rfl (by omega) (by omega)
  have f2 : ((11 : Int32) + ((8 : Int32) * y)).toInt = (11 : Int32).toInt + ((8 : Int32) * y).toInt := jadd (by omega) (by omega)
  have f3 : (((11 : Int32) + ((8 : Int32) * y)) + (0 : Int32)).toInt = ((11 : Int32) + ((8 : Int32) * y)).toInt + (0 : Int32).toInt := jadd (by omega) (by omega)
  have hj : (((11 : Int32) + ((8 : Int32) * y)) + (0 : Int32)).toNatClampNeg = (((11 : Int32) + ((8 : Int32) * y)) + (0 : Int32)).toInt.toNat := rfl
  rw [of_pf e75, of_as ep e53 (by omega)] at ep9
  exact hv r er y u (by omega) h1 eu hu p ep9
set_option maxHeartbeats 1000000 in
theorem S_X12_goesOne_10 {g : jGh} {Γ : Nat → Option Nat} {n : Nat} (hn : 6000 ≤ n) (hg : jgok g)  (k : Nat) : ∀ {a0 : Nat} {x2 : Int32} {x3 : Int32} {x4 : Int32} {h : jH}, jW (jKd g) Γ h → (Γ a0 = some 20) → (0 ≤ x4.toInt) → (x4.toInt ≤ 8) → (8 : Int) - x4.toInt < (k : Int) → (∀ r, F_X12_rings n a0 h = some r → jgF n a0 x2 x3 h x4.toInt r.toInt) → jok (F_X12_goesOne_10 n k a0 x2 x3 x4 h) (fun q => jW (jKd g) Γ q.2 ∧ (fun v : Int32 => 0 ≤ v.toInt ∧ v.toInt ≤ 1) q.1) := by
  induction k with
  | zero =>
    intro a0 x2 x3 x4 h w ta0 lx4 ux4 mk hv
    omega
  | succ k ih =>
    intro a0 x2 x3 x4 h w ta0 lx4 ux4 mk hv
    show jok (F_X12_goesOne_10_b n (F_X12_goesOne_10 n k) a0 x2 x3 x4 h) _
    unfold F_X12_goesOne_10_b
    try rw [t_cv w ta0 rfl]
    refine jok_b2 (S_X12_rings hn hg w ta0) (fun v13_1 ev13_1 pv13_1 => ?_)
    obtain ⟨lv13_1, uv13_1⟩ := pv13_1
    refine jok_le (fun c2 => ?_) (fun c2 => ?_)
    · have f3 : ((0 : Int32)).toInt = 0 := rfl
      refine jok_eq (fun c4 d4 => ?_) (fun c4 => ?_)
      · exact jok_s ⟨w, (show jI 0 1 (0 : Int32) from ⟨by omega, by omega⟩)⟩
      · have f5 : ((1 : Int32)).toInt = 1 := rfl
        exact jok_s ⟨w, (show jI 0 1 (1 : Int32) from ⟨by omega, by omega⟩)⟩
    · refine jok_b2 (S_X12_has hn hg w) (fun v22_6 ev22_6 pv22_6 => ?_)
      obtain ⟨lv22_6, uv22_6⟩ := pv22_6
      have f7 : ((0 : Int32)).toInt = 0 := rfl
      refine jok_eq (fun c8 d8 => ?_) (fun c8 => ?_)
      · have f9 : ((1 : Int32)).toInt = 1 := rfl
        have f10 : ((x4 + (1 : Int32))).toInt = (x4).toInt + ((1 : Int32)).toInt := jadd (by omega) (by omega)
        exact ih w ta0 (by omega) (by omega) (by omega) (goes_nx1 hv (by omega))
      · refine jok_b2 (t_gR w ta0 rfl rfl) (fun p32_11 ep32_11 tp32_11 => ?_)
        refine jok_b2 (S_X12_at hn hg w (by omega) (by omega) (by omega) (by omega)) (fun v38_12 ev38_12 pv38_12 => ?_)
        have pv38_12_9 := pv38_12
        try dsimp only at pv38_12_9
        refine jok_b2 (t_al w tp32_11 rfl (by omega) (by omega)) (fun v42_13 ev42_13 pv42_13 => ?_)
        have ov42_13 := pv42_13.1.2.2
        have bv42_13 : 0 ≤ (v42_13).toInt ∧ (v42_13).toInt ≤ 31 := by omega
        obtain ⟨lv42_13, uv42_13⟩ := bv42_13
        have gd := goes_gd hv ev13_1 (by omega) ev22_6 (by omega) ep32_11 ev38_12 ev42_13
        refine jok_eq (fun c14 d14 => ?_) (fun c14 => ?_)
        · unfold F_X12_goesOne_52
          have gd2 : 1 ≤ (v42_13).toInt := gd.1 (by assumption)
          obtain ⟨y16, hy16⟩ : ∃ y : Int32, y = (v42_13 + (-1 : Int32)) := ⟨_, rfl⟩
          have fy16 : (y16).toInt = (v42_13).toInt - 1 := by rw [hy16]; exact jaddN rfl (by omega) (by omega)
          try rw [← hy16]
          refine jok_b2 (t_as w tp32_11 rfl (by omega) (by omega) (show jRw g (v38_12).toInt.toNat y16 from ⟨⟨by omega, by omega, by omega⟩, Or.inl (by omega)⟩) (fun q => by cases q)) (fun h53_15 eh53_15 wh53_15 => ?_)
          obtain ⟨wh53_15, rh53_15⟩ := wh53_15
          refine jok_b2 (t_gI wh53_15 ta0 rfl rfl) (fun v56_17 ev56_17 pv56_17 => ?_)
          try rw [t_cv wh53_15 ta0 rfl]
          have f19 : ((3 : Int32)).toInt = 3 := rfl
          refine jok_b (S_X12_is hn hg wh53_15 ta0 (by omega) (by omega) (by omega) (by omega)) (fun v63_18 pv63_18 => ?_)
          obtain ⟨lv63_18, uv63_18⟩ := pv63_18
          refine jok_eq (fun c20 d20 => ?_) (fun c20 => ?_)
          · have f22 : ((1 : Int32)).toInt = 1 := rfl
            refine jok_b2 (t_pI wh53_15 ta0 rfl rfl trivial) (fun h75_21 eh75_21 wh75_21 => ?_)
            obtain ⟨wh75_21, jh75_21, rh75_21⟩ := wh75_21
            have f23 : ((x4 + (1 : Int32))).toInt = (x4).toInt + ((1 : Int32)).toInt := jadd (by omega) (by omega)
            exact ih wh75_21 ta0 (by omega) (by omega) (by omega) (goes_nx2 hv ep32_11 eh53_15 eh75_21 (by omega) (by omega) (by omega) (by omega) (fun r er => (jok_u (S_X12_rings hn hg wh75_21 ta0) er).2))
          · refine jok_b2 (t_pI wh53_15 ta0 rfl rfl trivial) (fun h75_24 eh75_24 wh75_24 => ?_)
            obtain ⟨wh75_24, jh75_24, rh75_24⟩ := wh75_24
            have f25 : ((1 : Int32)).toInt = 1 := rfl
            have f26 : ((x4 + (1 : Int32))).toInt = (x4).toInt + ((1 : Int32)).toInt := jadd (by omega) (by omega)
            exact ih wh75_24 ta0 (by omega) (by omega) (by omega) (goes_nx2 hv ep32_11 eh53_15 eh75_24 (by omega) (by omega) (by omega) (by omega) (fun r er => (jok_u (S_X12_rings hn hg wh75_24 ta0) er).2))
        · unfold F_X12_goesOne_52
          have gd2 : (v42_13).toInt ≤ 30 := gd.2 (by omega)
          have f28 : ((1 : Int32)).toInt = 1 := rfl
          have f29 : ((v42_13 + (1 : Int32))).toInt = (v42_13).toInt + ((1 : Int32)).toInt := jadd (by omega) (by omega)
          refine jok_b2 (t_as w tp32_11 rfl (by omega) (by omega) (show jRw g (v38_12).toInt.toNat (v42_13 + (1 : Int32)) from ⟨⟨by omega, by omega, by omega⟩, Or.inl (by omega)⟩) (fun q => by cases q)) (fun h53_27 eh53_27 wh53_27 => ?_)
          obtain ⟨wh53_27, rh53_27⟩ := wh53_27
          refine jok_b2 (t_gI wh53_27 ta0 rfl rfl) (fun v56_30 ev56_30 pv56_30 => ?_)
          try rw [t_cv wh53_27 ta0 rfl]
          have f32 : ((3 : Int32)).toInt = 3 := rfl
          refine jok_b (S_X12_is hn hg wh53_27 ta0 (by omega) (by omega) (by omega) (by omega)) (fun v63_31 pv63_31 => ?_)
          obtain ⟨lv63_31, uv63_31⟩ := pv63_31
          refine jok_eq (fun c33 d33 => ?_) (fun c33 => ?_)
          · refine jok_b2 (t_pI wh53_27 ta0 rfl rfl trivial) (fun h75_34 eh75_34 wh75_34 => ?_)
            obtain ⟨wh75_34, jh75_34, rh75_34⟩ := wh75_34
            have f35 : ((x4 + (1 : Int32))).toInt = (x4).toInt + ((1 : Int32)).toInt := jadd (by omega) (by omega)
            exact ih wh75_34 ta0 (by omega) (by omega) (by omega) (goes_nx2 hv ep32_11 eh53_27 eh75_34 (by omega) (by omega) (by omega) (by omega) (fun r er => (jok_u (S_X12_rings hn hg wh75_34 ta0) er).2))
          · refine jok_b2 (t_pI wh53_27 ta0 rfl rfl trivial) (fun h75_36 eh75_36 wh75_36 => ?_)
            obtain ⟨wh75_36, jh75_36, rh75_36⟩ := wh75_36
            have f37 : ((x4 + (1 : Int32))).toInt = (x4).toInt + ((1 : Int32)).toInt := jadd (by omega) (by omega)
            exact ih wh75_36 ta0 (by omega) (by omega) (by omega) (goes_nx2 hv ep32_11 eh53_27 eh75_36 (by omega) (by omega) (by omega) (by omega) (fun r er => (jok_u (S_X12_rings hn hg wh75_36 ta0) er).2))
set_option maxHeartbeats 1000000 in
theorem S_X12_goesOne {g : jGh} {Γ : Nat → Option Nat} {n : Nat} {a0 : Nat} {x1 : Int32} {x2 : Int32} {h : jH} (hn : 6000 ≤ n) (hg : jgok g) (w : jW (jKd g) Γ h) (ta0 : Γ a0 = some 20) (lx1 : -128 ≤ x1.toInt) (ux1 : x1.toInt ≤ 127) : jok (F_X12_goesOne n a0 x1 x2 h) (fun q => jW (jKd g) Γ q.2 ∧ (fun v : Int32 => 0 ≤ v.toInt ∧ v.toInt ≤ 1) q.1) := by
  unfold F_X12_goesOne
  try rw [t_cv w ta0 rfl]
  refine jok_b2 (S_X12_goingBy hn hg w ta0 (by omega) (by omega)) (fun v3_1 ev3_1 pv3_1 => ?_)
  have pv3_1_9 := pv3_1
  try dsimp only at pv3_1_9
  have f2 : ((0 : Int32)).toInt = 0 := rfl
  exact S_X12_goesOne_10 hn hg  n w ta0 (by omega) (by omega) (by omega) (goes_in pv3_1_9)
set_option maxHeartbeats 1000000 in
theorem S_X12_pulls_8 {g : jGh} {Γ : Nat → Option Nat} {n : Nat} (hn : 6000 ≤ n) (hg : jgok g)  (k : Nat) : ∀ {a0 : Nat} {x1 : Int32} {x2 : Int32} {x3 : Int32} {x4 : Int32} {h : jH}, jW (jKd g) Γ h → (Γ a0 = some 20) → (-128 ≤ x1.toInt) → (x1.toInt ≤ 127) → (-128 ≤ x3.toInt) → (x3.toInt ≤ 127) → (0 ≤ x4.toInt) → (x4.toInt ≤ 127) → (127 : Int) - x4.toInt < (k : Int) → (x4.toInt ≤ x3.toInt ∨ x4.toInt = 0) → jok (F_X12_pulls_8 n k a0 x1 x2 x3 x4 h) (fun q => jW (jKd g) Γ q.2 ∧ (fun v : Int32 => 0 ≤ v.toInt ∧ (v.toInt ≤ x3.toInt ∨ v.toInt = 0)) q.1) := by
  induction k with
  | zero =>
    intro a0 x1 x2 x3 x4 h w ta0 lx1 ux1 lx3 ux3 lx4 ux4 mk hv
    omega
  | succ k ih =>
    intro a0 x1 x2 x3 x4 h w ta0 lx1 ux1 lx3 ux3 lx4 ux4 mk hv
    show jok (F_X12_pulls_8_b n (F_X12_pulls_8 n k) a0 x1 x2 x3 x4 h) _
    unfold F_X12_pulls_8_b
    refine jok_le (fun c1 => ?_) (fun c1 => ?_)
    · unfold F_X12_pulls_29
      refine jok_b (t_gR w ta0 rfl rfl) (fun p30_2 tp30_2 => ?_)
      refine jok_b (t_gR w ta0 rfl rfl) (fun p39_3 tp39_3 => ?_)
      have f5 : ((8 : Int32)).toInt = 8 := rfl
      refine jok_b (t_al w tp39_3 rfl (by omega) (by omega)) (fun v44_4 pv44_4 => ?_)
      refine jok_b2 (t_gI w ta0 rfl rfl) (fun v46_6 ev46_6 pv46_6 => ?_)
      have f8 : ((9999 : Int32)).toInt = 9999 := rfl
      refine jok_b (t_as w tp30_2 rfl (by omega) (by omega) (show jRw g ((8 : Int32)).toInt.toNat (if (v44_4 + v46_6) < (9999 : Int32) then (v44_4 + v46_6) else (9999 : Int32)) from ⟨⟨by omega, by omega, by omega⟩, Or.inl (by omega)⟩) (fun q => by cases q)) (fun h53_7 wh53_7 => ?_)
      obtain ⟨wh53_7, rh53_7⟩ := wh53_7
      exact jok_s ⟨wh53_7, (show 0 ≤ x4.toInt ∧ (x4.toInt ≤ x3.toInt ∨ x4.toInt = 0) from by omega)⟩
    · try rw [t_cv w ta0 rfl]
      refine jok_b (S_X12_goesOne hn hg w ta0 (by omega) (by omega)) (fun q17_9 wq17_9 => ?_)
      obtain ⟨wq17_9, pq17_9⟩ := wq17_9
      obtain ⟨lq17_9, uq17_9⟩ := pq17_9
      have f10 : ((0 : Int32)).toInt = 0 := rfl
      refine jok_eq (fun c11 d11 => ?_) (fun c11 => ?_)
      · unfold F_X12_pulls_29
        refine jok_b (t_gR wq17_9 ta0 rfl rfl) (fun p30_12 tp30_12 => ?_)
        refine jok_b (t_gR wq17_9 ta0 rfl rfl) (fun p39_13 tp39_13 => ?_)
        have f15 : ((8 : Int32)).toInt = 8 := rfl
        refine jok_b (t_al wq17_9 tp39_13 rfl (by omega) (by omega)) (fun v44_14 pv44_14 => ?_)
        refine jok_b2 (t_gI wq17_9 ta0 rfl rfl) (fun v46_16 ev46_16 pv46_16 => ?_)
        have f18 : ((9999 : Int32)).toInt = 9999 := rfl
        refine jok_b (t_as wq17_9 tp30_12 rfl (by omega) (by omega) (show jRw g ((8 : Int32)).toInt.toNat (if (v44_14 + v46_16) < (9999 : Int32) then (v44_14 + v46_16) else (9999 : Int32)) from ⟨⟨by omega, by omega, by omega⟩, Or.inl (by omega)⟩) (fun q => by cases q)) (fun h53_17 wh53_17 => ?_)
        obtain ⟨wh53_17, rh53_17⟩ := wh53_17
        exact jok_s ⟨wh53_17, (show 0 ≤ x4.toInt ∧ (x4.toInt ≤ x3.toInt ∨ x4.toInt = 0) from by omega)⟩
      · have f19 : ((1 : Int32)).toInt = 1 := rfl
        have f20 : ((x4 + (1 : Int32))).toInt = (x4).toInt + ((1 : Int32)).toInt := jadd (by omega) (by omega)
        exact jok_w (ih wq17_9 ta0 (by omega) (by omega) (by omega) (by omega) (by omega) (by omega) (by omega) (by omega)) (fun v q => (by first | omega | (dsimp only at q ⊢; omega)))
set_option maxHeartbeats 1000000 in
theorem S_X12_pulls {g : jGh} {Γ : Nat → Option Nat} {n : Nat} {a0 : Nat} {x1 : Int32} {x2 : Int32} {x3 : Int32} {h : jH} (hn : 6000 ≤ n) (hg : jgok g) (w : jW (jKd g) Γ h) (ta0 : Γ a0 = some 20) (lx1 : -128 ≤ x1.toInt) (ux1 : x1.toInt ≤ 127) (lx3 : -128 ≤ x3.toInt) (ux3 : x3.toInt ≤ 127) : jok (F_X12_pulls n a0 x1 x2 x3 h) (fun q => jW (jKd g) Γ q.2 ∧ (fun v : Int32 => 0 ≤ v.toInt ∧ (v.toInt ≤ x3.toInt ∨ v.toInt = 0)) q.1) := by
  unfold F_X12_pulls
  have f2 : ((0 : Int32)).toInt = 0 := rfl
  refine jok_b (t_pI w ta0 rfl rfl trivial) (fun h2_1 wh2_1 => ?_)
  obtain ⟨wh2_1, jh2_1, rh2_1⟩ := wh2_1
  exact jok_w (S_X12_pulls_8 hn hg  n wh2_1 ta0 (by omega) (by omega) (by omega) (by omega) (by omega) (by omega) (by omega) (by omega)) (fun v q => (by first | omega | (dsimp only at q ⊢; omega)))
set_option maxHeartbeats 1000000 in
theorem S_X12_wentWith {g : jGh} {Γ : Nat → Option Nat} {n : Nat} {a0 : Nat} {x1 : Int32} {x2 : Int32} {x3 : Int32} {x4 : Int32} {h : jH} (hn : 6000 ≤ n) (hg : jgok g) (w : jW (jKd g) Γ h) (ta0 : Γ a0 = some 20) (lx2 : -128 ≤ x2.toInt) (ux2 : x2.toInt ≤ 127) (lx4 : -128 ≤ x4.toInt) (ux4 : x4.toInt ≤ 127) : jok (F_X12_wentWith n a0 x1 x2 x3 x4 h) (fun q => jW (jKd g) Γ q.2 ∧ (fun v : Int32 => 0 ≤ v.toInt ∧ (v.toInt ≤ x4.toInt ∨ v.toInt = 0)) q.1) := by
  unfold F_X12_wentWith
  try rw [t_cv w ta0 rfl]
  refine jok_b (S_X12_keepsAll hn hg w ta0) (fun h1_1 wh1_1 => ?_)
  try rw [t_cv wh1_1 ta0 rfl]
  refine jok_b (S_X12_areCaught hn hg wh1_1 ta0) (fun h6_2 wh6_2 => ?_)
  try rw [t_cv wh6_2 ta0 rfl]
  refine jok_b (S_X12_pulls hn hg wh6_2 ta0 (by omega) (by omega) (by omega) (by omega)) (fun q14_3 wq14_3 => ?_)
  obtain ⟨wq14_3, pq14_3⟩ := wq14_3
  have pq14_3_9 := pq14_3
  try dsimp only at pq14_3_9
  try rw [t_cv wq14_3 ta0 rfl]
  refine jok_b (S_X12_bringsBack hn hg wq14_3 ta0) (fun h20_4 wh20_4 => ?_)
  exact jok_s ⟨wh20_4, (show 0 ≤ q14_3.1.toInt ∧ (q14_3.1.toInt ≤ x4.toInt ∨ q14_3.1.toInt = 0) from by omega)⟩
set_option maxHeartbeats 1000000 in
theorem S_X12_shadesAll {g : jGh} {Γ : Nat → Option Nat} {n : Nat} {a0 : Nat} {x1 : Int32} {h : jH} (hn : 6000 ≤ n) (hg : jgok g) (w : jW (jKd g) Γ h) (ta0 : Γ a0 = some 20) : jok (F_X12_shadesAll n a0 x1 h) (fun v => 0 ≤ v.toInt ∧ v.toInt ≤ 1) := by
  unfold F_X12_shadesAll
  try rw [t_cv w ta0 rfl]
  refine jok_b (S_X12_shadeNow hn hg w ta0) (fun v2_1 pv2_1 => ?_)
  have f2 : ((0 : Int32)).toInt = 0 := rfl
  refine jok_eq (fun c3 d3 => ?_) (fun c3 => ?_)
  · have f4 : ((1 : Int32)).toInt = 1 := rfl
    exact jok_s (show jI 0 1 (1 : Int32) from ⟨by omega, by omega⟩)
  · exact jok_s (show jI 0 1 (0 : Int32) from ⟨by omega, by omega⟩)
set_option maxHeartbeats 1000000 in
theorem S_X12_stepsTo_15 {g : jGh} {Γ : Nat → Option Nat} {n : Nat} (hn : 6000 ≤ n) (hg : jgok g)  (k : Nat) : ∀ {a0 : Nat} {x1 : Int32} {x2 : Int32} {x3 : Int32} {x4 : Int32} {x5 : Int32} {x6 : Int32} {h : jH}, jW (jKd g) Γ h → (Γ a0 = some 20) → (0 ≤ x2.toInt) → (x2.toInt ≤ 7) → (1 ≤ x6.toInt) → (x6.toInt ≤ 32) → (32 : Int) - x6.toInt < (k : Int) → jok (F_X12_stepsTo_15 n k a0 x1 x2 x3 x4 x5 x6 h) (fun q => jW (jKd g) Γ q.2 ∧ (fun v : Int32 => True) q.1) := by
  induction k with
  | zero =>
    intro a0 x1 x2 x3 x4 x5 x6 h w ta0 lx2 ux2 lx6 ux6 mk
    omega
  | succ k ih =>
    intro a0 x1 x2 x3 x4 x5 x6 h w ta0 lx2 ux2 lx6 ux6 mk
    show jok (F_X12_stepsTo_15_b n (F_X12_stepsTo_15 n k) a0 x1 x2 x3 x4 x5 x6 h) _
    unfold F_X12_stepsTo_15_b
    have f1 : ((31 : Int32)).toInt = 31 := rfl
    refine jok_lt (fun c2 => ?_) (fun c2 => ?_)
    · unfold F_X12_stepsTo_72
      try rw [t_cv w ta0 rfl]
      refine jok_b (S_X12_bringsBack hn hg w ta0) (fun h73_3 wh73_3 => ?_)
      exact jok_s ⟨wh73_3, trivial⟩
    · have f4 : ((0 : Int32)).toInt = 0 := rfl
      refine jok_eq (fun c5 d5 => ?_) (fun c5 => ?_)
      · unfold F_X12_stepsTo_72
        try rw [t_cv w ta0 rfl]
        refine jok_b (S_X12_bringsBack hn hg w ta0) (fun h73_6 wh73_6 => ?_)
        exact jok_s ⟨wh73_6, trivial⟩
      · have f7 : ((1000000 : Int32)).toInt = 1000000 := rfl
        refine jok_eq (fun c8 d8 => ?_) (fun c8 => ?_)
        · try rw [t_cv w ta0 rfl]
          refine jok_b (S_X12_goesOne hn hg w ta0 (by omega) (by omega)) (fun q38_9 wq38_9 => ?_)
          obtain ⟨wq38_9, pq38_9⟩ := wq38_9
          obtain ⟨lq38_9, uq38_9⟩ := pq38_9
          refine jok_eq (fun c10 d10 => ?_) (fun c10 => ?_)
          · have f11 : ((1 : Int32)).toInt = 1 := rfl
            have f12 : ((x6 + (1 : Int32))).toInt = (x6).toInt + ((1 : Int32)).toInt := jadd (by omega) (by omega)
            exact ih wq38_9 ta0 (by omega) (by omega) (by omega) (by omega) (by omega)
          · try rw [t_cv wq38_9 ta0 rfl]
            refine jok_b (S_X12_shadesAll hn hg wq38_9 ta0) (fun v50_13 pv50_13 => ?_)
            obtain ⟨lv50_13, uv50_13⟩ := pv50_13
            refine jok_eq (fun c14 d14 => ?_) (fun c14 => ?_)
            · have f15 : ((1 : Int32)).toInt = 1 := rfl
              have f16 : ((x6 + (1 : Int32))).toInt = (x6).toInt + ((1 : Int32)).toInt := jadd (by omega) (by omega)
              exact ih wq38_9 ta0 (by omega) (by omega) (by omega) (by omega) (by omega)
            · have f17 : ((1 : Int32)).toInt = 1 := rfl
              have f18 : ((x6 + (1 : Int32))).toInt = (x6).toInt + ((1 : Int32)).toInt := jadd (by omega) (by omega)
              exact ih wq38_9 ta0 (by omega) (by omega) (by omega) (by omega) (by omega)
        · unfold F_X12_stepsTo_72
          try rw [t_cv w ta0 rfl]
          refine jok_b (S_X12_bringsBack hn hg w ta0) (fun h73_19 wh73_19 => ?_)
          exact jok_s ⟨wh73_19, trivial⟩
set_option maxHeartbeats 1000000 in
theorem S_X12_stepsTo {g : jGh} {Γ : Nat → Option Nat} {n : Nat} {a0 : Nat} {x1 : Int32} {x2 : Int32} {x3 : Int32} {h : jH} (hn : 6000 ≤ n) (hg : jgok g) (w : jW (jKd g) Γ h) (ta0 : Γ a0 = some 20) (lx2 : 0 ≤ x2.toInt) (ux2 : x2.toInt ≤ 7) : jok (F_X12_stepsTo n a0 x1 x2 x3 h) (fun q => jW (jKd g) Γ q.2 ∧ (fun v : Int32 => True) q.1) := by
  unfold F_X12_stepsTo
  try rw [t_cv w ta0 rfl]
  refine jok_b (S_X12_keepsAll hn hg w ta0) (fun h9_1 wh9_1 => ?_)
  have f2 : ((1 : Int32)).toInt = 1 := rfl
  exact S_X12_stepsTo_15 hn hg  n wh9_1 ta0 (by omega) (by omega) (by omega) (by omega) (by omega)
set_option maxHeartbeats 1000000 in
theorem S_X12_fewestTo_10 {g : jGh} {Γ : Nat → Option Nat} {n : Nat} (hn : 6000 ≤ n) (hg : jgok g)  (k : Nat) : ∀ {a0 : Nat} {x1 : Int32} {x2 : Int32} {x3 : Int32} {x4 : Int32} {x5 : Int32} {h : jH}, jW (jKd g) Γ h → (Γ a0 = some 20) → (0 ≤ x5.toInt) → (x5.toInt ≤ 16) → (16 : Int) - x5.toInt < (k : Int) → jok (F_X12_fewestTo_10 n k a0 x1 x2 x3 x4 x5 h) (fun q => jW (jKd g) Γ q.2 ∧ (fun v : Int32 => True) q.1) := by
  induction k with
  | zero =>
    intro a0 x1 x2 x3 x4 x5 h w ta0 lx5 ux5 mk
    omega
  | succ k ih =>
    intro a0 x1 x2 x3 x4 x5 h w ta0 lx5 ux5 mk
    show jok (F_X12_fewestTo_10_b n (F_X12_fewestTo_10 n k) a0 x1 x2 x3 x4 x5 h) _
    unfold F_X12_fewestTo_10_b
    try rw [t_cv w ta0 rfl]
    refine jok_b2 (S_X12_rings hn hg w ta0) (fun v14_1 ev14_1 pv14_1 => ?_)
    obtain ⟨lv14_1, uv14_1⟩ := pv14_1
    have f2 : ((2 : Int32)).toInt = 2 := rfl
    have f3 : (((2 : Int32) * v14_1)).toInt = 2 * (v14_1).toInt := jmulL (c := 2) (by omega) (by omega) (by omega)
    refine jok_le (fun c4 => ?_) (fun c4 => ?_)
    · have f5 : ((0 : Int32)).toInt = 0 := rfl
      refine jok_eq (fun c6 d6 => ?_) (fun c6 => ?_)
      · have f7 : ((-1 : Int32)).toInt = -1 := rfl
        refine jok_eq (fun c8 d8 => ?_) (fun c8 => ?_)
        · exact jok_s ⟨w, trivial⟩
        · exact jok_s ⟨w, trivial⟩
      · exact jok_s ⟨w, trivial⟩
    · have f9 : ((x5 / (2 : Int32))).toInt = (x5).toInt / 2 := jdivL (c := 2) (by omega) rfl (by decide)
      have f10 : (((x5 / (2 : Int32)) * (2 : Int32))).toInt = 2 * ((x5 / (2 : Int32))).toInt := jmulR (c := 2) (by omega) (by omega) (by omega)
      have f11 : ((x5 - ((x5 / (2 : Int32)) * (2 : Int32)))).toInt = (x5).toInt - (((x5 / (2 : Int32)) * (2 : Int32))).toInt := jsub (by omega) (by omega)
      have f12 : ((1 : Int32)).toInt = 1 := rfl
      refine jok_eq (fun c13 d13 => ?_) (fun c13 => ?_)
      · unfold F_X12_fewestTo_40
        try rw [t_cv w ta0 rfl]
        refine jok_b (S_X12_stepsTo hn hg w ta0 (by omega) (by omega)) (fun q40_14 wq40_14 => ?_)
        obtain ⟨wq40_14, pq40_14⟩ := wq40_14
        refine jok_le (fun c15 => ?_) (fun c15 => ?_)
        · unfold F_X12_fewestTo_58
          have f16 : ((x5 + (1 : Int32))).toInt = (x5).toInt + ((1 : Int32)).toInt := jadd (by omega) (by omega)
          exact ih wq40_14 ta0 (by omega) (by omega) (by omega)
        · unfold F_X12_fewestTo_58
          have f17 : ((x5 + (1 : Int32))).toInt = (x5).toInt + ((1 : Int32)).toInt := jadd (by omega) (by omega)
          exact ih wq40_14 ta0 (by omega) (by omega) (by omega)
      · unfold F_X12_fewestTo_40
        try rw [t_cv w ta0 rfl]
        refine jok_b (S_X12_stepsTo hn hg w ta0 (by omega) (by omega)) (fun q40_18 wq40_18 => ?_)
        obtain ⟨wq40_18, pq40_18⟩ := wq40_18
        refine jok_le (fun c19 => ?_) (fun c19 => ?_)
        · unfold F_X12_fewestTo_58
          have f20 : ((x5 + (1 : Int32))).toInt = (x5).toInt + ((1 : Int32)).toInt := jadd (by omega) (by omega)
          exact ih wq40_18 ta0 (by omega) (by omega) (by omega)
        · unfold F_X12_fewestTo_58
          have f21 : ((x5 + (1 : Int32))).toInt = (x5).toInt + ((1 : Int32)).toInt := jadd (by omega) (by omega)
          exact ih wq40_18 ta0 (by omega) (by omega) (by omega)
set_option maxHeartbeats 1000000 in
theorem S_X12_fewestTo {g : jGh} {Γ : Nat → Option Nat} {n : Nat} {a0 : Nat} {x1 : Int32} {x2 : Int32} {h : jH} (hn : 6000 ≤ n) (hg : jgok g) (w : jW (jKd g) Γ h) (ta0 : Γ a0 = some 20) : jok (F_X12_fewestTo n a0 x1 x2 h) (fun q => jW (jKd g) Γ q.2 ∧ (fun v : Int32 => True) q.1) := by
  unfold F_X12_fewestTo
  have f1 : ((0 : Int32)).toInt = 0 := rfl
  exact S_X12_fewestTo_10 hn hg  n w ta0 (by omega) (by omega) (by omega)
end
