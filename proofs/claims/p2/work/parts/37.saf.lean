set_option maxHeartbeats 1000000 in
theorem S_X11_span_13 {g : jGh} {Γ : Nat → Option Nat} {n : Nat} (hn : 6000 ≤ n) (hg : jgok g)  (k : Nat) : ∀ {a0 : Nat} {x1 : Int32} {x2 : Int32} {x3 : Int32} {x4 : Int32} {h : jH}, jW (jKd g) Γ h → (Γ a0 = some 19) → (0 ≤ x1.toInt) → (x1.toInt ≤ 80) → (0 ≤ x4.toInt) → (x4.toInt ≤ 7) → (7 : Int) - x4.toInt < (k : Int) → jok (F_X11_span_13 n k a0 x1 x2 x3 x4 h) (fun q => jW (jKd g) Γ q.2 ∧ jXok [0] (fun v => True) q.1) := by
  induction k with
  | zero =>
    intro a0 x1 x2 x3 x4 h w ta0 lx1 ux1 lx4 ux4 mk
    omega
  | succ k ih =>
    intro a0 x1 x2 x3 x4 h w ta0 lx1 ux1 lx4 ux4 mk
    show jok (F_X11_span_13_b n (F_X11_span_13 n k) a0 x1 x2 x3 x4 h) _
    unfold F_X11_span_13_b
    have f1 : ((6 : Int32)).toInt = 6 := rfl
    refine jok_lt (fun c2 => ?_) (fun c2 => ?_)
    · exact jok_s ⟨w, jX_l trivial⟩
    · refine jok_b (t_gR w ta0 rfl rfl) (fun p21_3 tp21_3 => ?_)
      refine jok_b (t_gR w ta0 rfl rfl) (fun p25_4 tp25_4 => ?_)
      try rw [t_cv w tp21_3 rfl]
      refine jok_b (S_X1_tryHours hn hg w tp21_3 tp25_4 (by omega) (by omega)) (fun h31_5 wh31_5 => ?_)
      refine jok_b (t_gR wh31_5 ta0 rfl rfl) (fun p35_6 tp35_6 => ?_)
      refine jok_b2 (t_gI wh31_5 tp35_6 rfl rfl) (fun v38_7 ev38_7 pv38_7 => ?_)
      refine jok_b (S_J6_bitCount_0f7a4 hn hg wh31_5) (fun v41_8 pv41_8 => ?_)
      refine jok_b (t_gR wh31_5 ta0 rfl rfl) (fun p45_9 tp45_9 => ?_)
      try rw [t_cv wh31_5 tp45_9 rfl]
      refine jok_b (S_X8_unhooked hn hg wh31_5 tp45_9) (fun v48_10 pv48_10 => ?_)
      refine jok_b (S_J6_bitCount_0f7a4 hn hg wh31_5) (fun v51_11 pv51_11 => ?_)
      have f12 : ((-1 : Int32)).toInt = -1 := rfl
      refine jok_eq (fun c13 d13 => ?_) (fun c13 => ?_)
      · have f14 : ((1 : Int32)).toInt = 1 := rfl
        have f15 : ((x4 + (1 : Int32))).toInt = (x4).toInt + ((1 : Int32)).toInt := jadd (by omega) (by omega)
        exact ih wh31_5 ta0 (by omega) (by omega) (by omega) (by omega) (by omega)
      · have f16 : ((0 : Int32)).toInt = 0 := rfl
        refine jok_eq (fun c17 d17 => ?_) (fun c17 => ?_)
        · refine jok_le (fun c18 => ?_) (fun c18 => ?_)
          · have f19 : ((1 : Int32)).toInt = 1 := rfl
            have f20 : ((x4 + (1 : Int32))).toInt = (x4).toInt + ((1 : Int32)).toInt := jadd (by omega) (by omega)
            exact ih wh31_5 ta0 (by omega) (by omega) (by omega) (by omega) (by omega)
          · have f21 : ((1 : Int32)).toInt = 1 := rfl
            have f22 : ((x4 + (1 : Int32))).toInt = (x4).toInt + ((1 : Int32)).toInt := jadd (by omega) (by omega)
            exact ih wh31_5 ta0 (by omega) (by omega) (by omega) (by omega) (by omega)
        · refine jok_le (fun c23 => ?_) (fun c23 => ?_)
          · have f24 : ((1 : Int32)).toInt = 1 := rfl
            have f25 : ((x4 + (1 : Int32))).toInt = (x4).toInt + ((1 : Int32)).toInt := jadd (by omega) (by omega)
            exact ih wh31_5 ta0 (by omega) (by omega) (by omega) (by omega) (by omega)
          · have f26 : ((1 : Int32)).toInt = 1 := rfl
            have f27 : ((x4 + (1 : Int32))).toInt = (x4).toInt + ((1 : Int32)).toInt := jadd (by omega) (by omega)
            exact ih wh31_5 ta0 (by omega) (by omega) (by omega) (by omega) (by omega)
set_option maxHeartbeats 1000000 in
theorem S_X11_span {g : jGh} {Γ : Nat → Option Nat} {n : Nat} {a0 : Nat} {x1 : Int32} {x2 : Int32} {h : jH} (hn : 6000 ≤ n) (hg : jgok g) (w : jW (jKd g) Γ h) (ta0 : Γ a0 = some 19) : jok (F_X11_span n a0 x1 x2 h) (fun q => jW (jKd g) Γ q.2 ∧ jXok [0] (fun v => True) q.1) := by
  unfold F_X11_span
  try rw [t_cv w ta0 rfl]
  refine jok_b (S_X11_requireNumber hn hg w ta0) (fun q5_1 wq5_1 => ?_)
  obtain ⟨wq5_1, pq5_1⟩ := wq5_1
  refine jok_t pq5_1 (fun k9 q9 => ⟨wq5_1, jX_r (jsub9 q9 (by decide))⟩) (fun r5_2 pr5_2 => ?_)
  have f3 : ((0 : Int32)).toInt = 0 := rfl
  have f4 : ((80 : Int32)).toInt = 80 := rfl
  have pr5_2_9 := pr5_2
  try dsimp only at pr5_2_9
  have f5 : ((1 : Int32)).toInt = 1 := rfl
  exact S_X11_span_13 hn hg  n wq5_1 ta0 (by omega) (by omega) (by omega) (by omega) (by omega)
set_option maxHeartbeats 1000000 in
theorem S_X11_led {g : jGh} {Γ : Nat → Option Nat} {n : Nat} {a0 : Nat} {x1 : Int32} {x2 : Int32} {h : jH} (hn : 6000 ≤ n) (hg : jgok g) (w : jW (jKd g) Γ h) (ta0 : Γ a0 = some 19) : jok (F_X11_led n a0 x1 x2 h) (fun q => jW (jKd g) Γ q.2 ∧ jXok [2] (fun v => True) q.1) := by
  unfold F_X11_led
  try rw [t_cv w ta0 rfl]
  refine jok_b (S_X11_requireRing hn hg w ta0) (fun q2_1 wq2_1 => ?_)
  obtain ⟨wq2_1, pq2_1⟩ := wq2_1
  refine jok_t pq2_1 (fun k9 q9 => ⟨wq2_1, jX_r (jsub9 q9 (by decide))⟩) (fun r2_2 pr2_2 => ?_)
  have pr2_2_9 := pr2_2
  try dsimp only at pr2_2_9
  have f3 : ((0 : Int32)).toInt = 0 := rfl
  refine jok_eq (fun c4 d4 => ?_) (fun c4 => ?_)
  · refine jok_b (t_gR wq2_1 ta0 rfl rfl) (fun p24_5 tp24_5 => ?_)
    refine jok_b (t_gR wq2_1 tp24_5 rfl rfl) (fun p27_6 tp27_6 => ?_)
    try rw [t_cv wq2_1 tp27_6 rfl]
    refine jok_b (S_X5_rowsOf hn hg wq2_1 tp27_6) (fun v31_7 pv31_7 => ?_)
    exact jok_s ⟨wq2_1, jX_l trivial⟩
  · refine jok_b (t_gR wq2_1 ta0 rfl rfl) (fun p10_8 tp10_8 => ?_)
    refine jok_b (t_gR wq2_1 tp10_8 rfl rfl) (fun p13_9 tp13_9 => ?_)
    try rw [t_cv wq2_1 tp13_9 rfl]
    refine jok_b (S_X5_latestPlace hn hg wq2_1 tp13_9) (fun v17_10 pv17_10 => ?_)
    exact jok_s ⟨wq2_1, jX_l trivial⟩
set_option maxHeartbeats 1000000 in
theorem S_X11_log {g : jGh} {Γ : Nat → Option Nat} {n : Nat} {a0 : Nat} {x1 : Int32} {x2 : Int32} {h : jH} (hn : 6000 ≤ n) (hg : jgok g) (w : jW (jKd g) Γ h) (ta0 : Γ a0 = some 19) : jok (F_X11_log n a0 x1 x2 h) (fun q => jW (jKd g) Γ q.2 ∧ jXok [4] (fun v => True) q.1) := by
  unfold F_X11_log
  have f1 : ((0 : Int32)).toInt = 0 := rfl
  refine jok_lt (fun c2 => ?_) (fun c2 => ?_)
  · exact jok_s ⟨w, jX_r (by decide)⟩
  · have f3 : ((6 : Int32)).toInt = 6 := rfl
    refine jok_lt (fun c4 => ?_) (fun c4 => ?_)
    · refine jok_b (t_gR w ta0 rfl rfl) (fun p22_5 tp22_5 => ?_)
      refine jok_b (t_gR w tp22_5 rfl rfl) (fun p25_6 tp25_6 => ?_)
      try rw [t_cv w tp25_6 rfl]
      refine jok_b (S_X5_read hn hg w tp25_6) (fun v30_7 pv30_7 => ?_)
      exact jok_s ⟨w, jX_l trivial⟩
    · exact jok_s ⟨w, jX_r (by decide)⟩
