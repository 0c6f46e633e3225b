set_option maxHeartbeats 1000000 in
theorem S_X11_pull {g : jGh} {Γ : Nat → Option Nat} {n : Nat} {a0 : Nat} {x1 : Int32} {x2 : Int32} {x3 : Int32} {h : jH} (hn : 6000 ≤ n) (hg : jgok g) (w : jW (jKd g) Γ h) (ta0 : Γ a0 = some 19) : jok (F_X11_pull n a0 x1 x2 x3 h) (fun q => ∃ Γ2, jle Γ Γ2 ∧ jW (jKd g) Γ2 q.2 ∧ jXok [2, 0] (fun v => True) q.1) := by
  unfold F_X11_pull
  try rw [t_cv w ta0 rfl]
  refine jok_b (S_X11_requireRing hn hg w ta0) (fun q2_1 wq2_1 => ?_)
  obtain ⟨wq2_1, pq2_1⟩ := wq2_1
  refine jok_t pq2_1 (fun k9 q9 => ⟨Γ, jle_rfl, ⟨wq2_1, jX_r (jsub9 q9 (by decide))⟩⟩) (fun r2_2 pr2_2 => ?_)
  have pr2_2_9 := pr2_2
  try dsimp only at pr2_2_9
  try rw [t_cv wq2_1 ta0 rfl]
  refine jok_b (S_X11_requireNumber hn hg wq2_1 ta0) (fun q10_3 wq10_3 => ?_)
  obtain ⟨wq10_3, pq10_3⟩ := wq10_3
  refine jok_t pq10_3 (fun k9 q9 => ⟨Γ, jle_rfl, ⟨wq10_3, jX_r (jsub9 q9 (by decide))⟩⟩) (fun r10_4 pr10_4 => ?_)
  have f5 : ((1 : Int32)).toInt = 1 := rfl
  have f6 : ((31 : Int32)).toInt = 31 := rfl
  have pr10_4_9 := pr10_4
  try dsimp only at pr10_4_9
  refine jok_b (t_gR wq10_3 ta0 rfl rfl) (fun p14_7 tp14_7 => ?_)
  refine jok_b (t_gR wq10_3 ta0 rfl rfl) (fun p18_8 tp18_8 => ?_)
  try rw [t_cv wq10_3 tp14_7 rfl]
  refine jok_b (S_X0_remember hn hg wq10_3 tp14_7 tp18_8) (fun h21_9 wh21_9 => ?_)
  obtain ⟨Γ10, leh21_9, wh21_9⟩ := wh21_9
  replace ta0 := leh21_9.1 _ _ ta0
  replace tp14_7 := leh21_9.1 _ _ tp14_7
  replace tp18_8 := leh21_9.1 _ _ tp18_8
  refine jok_b (t_gR wh21_9 ta0 rfl rfl) (fun p25_11 tp25_11 => ?_)
  try rw [t_cv wh21_9 tp25_11 rfl]
  refine jok_b (S_X8_move hn hg wh21_9 tp25_11 (by omega) (by omega) (by omega) (by omega)) (fun q31_12 wq31_12 => ?_)
  obtain ⟨wq31_12, pq31_12⟩ := wq31_12
  obtain ⟨lq31_12, uq31_12⟩ := pq31_12
  refine jok_b (t_gR wq31_12 ta0 rfl rfl) (fun p37_13 tp37_13 => ?_)
  refine jok_b (t_gR wq31_12 tp37_13 rfl rfl) (fun p40_14 tp40_14 => ?_)
  refine jok_b (t_gR wq31_12 ta0 rfl rfl) (fun p44_15 tp44_15 => ?_)
  try rw [t_cv wq31_12 tp40_14 rfl]
  refine jok_b (S_X5_add hn hg wq31_12 tp40_14 tp44_15 (by omega) (by omega)) (fun h51_16 wh51_16 => ?_)
  exact jok_s ⟨Γ10, leh21_9, ⟨wh51_16, jX_l trivial⟩⟩
set_option maxHeartbeats 1000000 in
theorem S_X11_free {g : jGh} {Γ : Nat → Option Nat} {n : Nat} {a0 : Nat} {x1 : Int32} {h : jH} (hn : 6000 ≤ n) (hg : jgok g) (w : jW (jKd g) Γ h) (ta0 : Γ a0 = some 19) : jok (F_X11_free n a0 x1 h) (fun q => ∃ Γ2, jle Γ Γ2 ∧ jW (jKd g) Γ2 q.2 ∧ jXok [2, 1] (fun v => True) q.1) := by
  unfold F_X11_free
  try rw [t_cv w ta0 rfl]
  refine jok_b (S_X11_requireRing hn hg w ta0) (fun q2_1 wq2_1 => ?_)
  obtain ⟨wq2_1, pq2_1⟩ := wq2_1
  refine jok_t pq2_1 (fun k9 q9 => ⟨Γ, jle_rfl, ⟨wq2_1, jX_r (jsub9 q9 (by decide))⟩⟩) (fun r2_2 pr2_2 => ?_)
  have pr2_2_9 := pr2_2
  try dsimp only at pr2_2_9
  refine jok_b (t_gR wq2_1 ta0 rfl rfl) (fun p6_3 tp6_3 => ?_)
  refine jok_b2 (t_gI wq2_1 tp6_3 rfl rfl) (fun v9_4 ev9_4 pv9_4 => ?_)
  refine jok_b (S_X11_bit hn hg wq2_1) (fun v13_5 pv13_5 => ?_)
  obtain ⟨lv13_5, uv13_5⟩ := pv13_5
  have f6 : ((0 : Int32)).toInt = 0 := rfl
  refine jok_eq (fun c7 d7 => ?_) (fun c7 => ?_)
  · exact jok_s ⟨Γ, jle_rfl, ⟨wq2_1, jX_r (by decide)⟩⟩
  · refine jok_b (t_gR wq2_1 ta0 rfl rfl) (fun p30_8 tp30_8 => ?_)
    refine jok_b (t_gR wq2_1 ta0 rfl rfl) (fun p34_9 tp34_9 => ?_)
    try rw [t_cv wq2_1 tp30_8 rfl]
    refine jok_b (S_X0_remember hn hg wq2_1 tp30_8 tp34_9) (fun h37_10 wh37_10 => ?_)
    obtain ⟨Γ11, leh37_10, wh37_10⟩ := wh37_10
    replace ta0 := leh37_10.1 _ _ ta0
    replace tp6_3 := leh37_10.1 _ _ tp6_3
    replace tp30_8 := leh37_10.1 _ _ tp30_8
    replace tp34_9 := leh37_10.1 _ _ tp34_9
    refine jok_b (t_gR wh37_10 ta0 rfl rfl) (fun p41_12 tp41_12 => ?_)
    refine jok_b (t_gR wh37_10 ta0 rfl rfl) (fun p45_13 tp45_13 => ?_)
    refine jok_b2 (t_gI wh37_10 tp45_13 rfl rfl) (fun v48_14 ev48_14 pv48_14 => ?_)
    refine jok_b (S_X11_withBit hn hg wh37_10) (fun v53_15 pv53_15 => ?_)
    refine jok_b (t_pI wh37_10 tp41_12 rfl rfl trivial) (fun h56_16 wh56_16 => ?_)
    obtain ⟨wh56_16, jh56_16, rh56_16⟩ := wh56_16
    refine jok_b (t_gR wh56_16 ta0 rfl rfl) (fun p60_17 tp60_17 => ?_)
    try rw [t_cv wh56_16 tp60_17 rfl]
    refine jok_b (S_X8_gap hn hg wh56_16 tp60_17) (fun v65_18 pv65_18 => ?_)
    exact jok_s ⟨Γ11, leh37_10, ⟨wh56_16, jX_l trivial⟩⟩
set_option maxHeartbeats 1000000 in
theorem S_X11_snag {g : jGh} {Γ : Nat → Option Nat} {n : Nat} {a0 : Nat} {x1 : Int32} {h : jH} (hn : 6000 ≤ n) (hg : jgok g) (w : jW (jKd g) Γ h) (ta0 : Γ a0 = some 19) : jok (F_X11_snag n a0 x1 h) (fun q => ∃ Γ2, jle Γ Γ2 ∧ jW (jKd g) Γ2 q.2 ∧ jXok [2, 1] (fun v => True) q.1) := by
  unfold F_X11_snag
  try rw [t_cv w ta0 rfl]
  refine jok_b (S_X11_requireRing hn hg w ta0) (fun q2_1 wq2_1 => ?_)
  obtain ⟨wq2_1, pq2_1⟩ := wq2_1
  refine jok_t pq2_1 (fun k9 q9 => ⟨Γ, jle_rfl, ⟨wq2_1, jX_r (jsub9 q9 (by decide))⟩⟩) (fun r2_2 pr2_2 => ?_)
  have pr2_2_9 := pr2_2
  try dsimp only at pr2_2_9
  refine jok_b (t_gR wq2_1 ta0 rfl rfl) (fun p7_3 tp7_3 => ?_)
  refine jok_b2 (t_gI wq2_1 tp7_3 rfl rfl) (fun v10_4 ev10_4 pv10_4 => ?_)
  obtain ⟨lv10_4, uv10_4⟩ := pv10_4
  have f5 : ((1 : Int32)).toInt = 1 := rfl
  have f6 : ((v10_4 - (1 : Int32))).toInt = (v10_4).toInt - ((1 : Int32)).toInt := jsub (by omega) (by omega)
  refine jok_eq (fun c7 d7 => ?_) (fun c7 => ?_)
  · exact jok_s ⟨Γ, jle_rfl, ⟨wq2_1, jX_r (by decide)⟩⟩
  · refine jok_b (t_gR wq2_1 ta0 rfl rfl) (fun p19_8 tp19_8 => ?_)
    refine jok_b2 (t_gI wq2_1 tp19_8 rfl rfl) (fun v22_9 ev22_9 pv22_9 => ?_)
    refine jok_b (S_X11_bit hn hg wq2_1) (fun v26_10 pv26_10 => ?_)
    obtain ⟨lv26_10, uv26_10⟩ := pv26_10
    refine jok_eq (fun c11 d11 => ?_) (fun c11 => ?_)
    · exact jok_s ⟨Γ, jle_rfl, ⟨wq2_1, jX_r (by decide)⟩⟩
    · refine jok_b (t_gR wq2_1 ta0 rfl rfl) (fun p44_12 tp44_12 => ?_)
      refine jok_b (t_gR wq2_1 ta0 rfl rfl) (fun p48_13 tp48_13 => ?_)
      try rw [t_cv wq2_1 tp44_12 rfl]
      refine jok_b (S_X0_remember hn hg wq2_1 tp44_12 tp48_13) (fun h51_14 wh51_14 => ?_)
      obtain ⟨Γ15, leh51_14, wh51_14⟩ := wh51_14
      replace ta0 := leh51_14.1 _ _ ta0
      replace tp7_3 := leh51_14.1 _ _ tp7_3
      replace tp19_8 := leh51_14.1 _ _ tp19_8
      replace tp44_12 := leh51_14.1 _ _ tp44_12
      replace tp48_13 := leh51_14.1 _ _ tp48_13
      refine jok_b (t_gR wh51_14 ta0 rfl rfl) (fun p55_16 tp55_16 => ?_)
      refine jok_b (t_gR wh51_14 ta0 rfl rfl) (fun p59_17 tp59_17 => ?_)
      refine jok_b2 (t_gI wh51_14 tp59_17 rfl rfl) (fun v62_18 ev62_18 pv62_18 => ?_)
      refine jok_b (S_X11_withBit hn hg wh51_14) (fun v67_19 pv67_19 => ?_)
      refine jok_b (t_pI wh51_14 tp55_16 rfl rfl trivial) (fun h70_20 wh70_20 => ?_)
      obtain ⟨wh70_20, jh70_20, rh70_20⟩ := wh70_20
      refine jok_b (t_gR wh70_20 ta0 rfl rfl) (fun p74_21 tp74_21 => ?_)
      try rw [t_cv wh70_20 tp74_21 rfl]
      refine jok_b (S_X8_gap hn hg wh70_20 tp74_21) (fun v79_22 pv79_22 => ?_)
      exact jok_s ⟨Γ15, leh51_14, ⟨wh70_20, jX_l trivial⟩⟩
set_option maxHeartbeats 1000000 in
theorem S_X11_hook {g : jGh} {Γ : Nat → Option Nat} {n : Nat} {a0 : Nat} {x1 : Int32} {x2 : Int32} {h : jH} (hn : 6000 ≤ n) (hg : jgok g) (w : jW (jKd g) Γ h) (ta0 : Γ a0 = some 19) : jok (F_X11_hook n a0 x1 x2 h) (fun q => ∃ Γ2, jle Γ Γ2 ∧ jW (jKd g) Γ2 q.2 ∧ jXok [2] (fun v => 0 ≤ v.toInt ∧ v.toInt ≤ 1) q.1) := by
  unfold F_X11_hook
  try rw [t_cv w ta0 rfl]
  refine jok_b (S_X11_requireRing hn hg w ta0) (fun q2_1 wq2_1 => ?_)
  obtain ⟨wq2_1, pq2_1⟩ := wq2_1
  refine jok_t pq2_1 (fun k9 q9 => ⟨Γ, jle_rfl, ⟨wq2_1, jX_r (jsub9 q9 (by decide))⟩⟩) (fun r2_2 pr2_2 => ?_)
  have pr2_2_9 := pr2_2
  try dsimp only at pr2_2_9
  refine jok_b (t_gR wq2_1 ta0 rfl rfl) (fun p6_3 tp6_3 => ?_)
  refine jok_b (t_gR wq2_1 ta0 rfl rfl) (fun p10_4 tp10_4 => ?_)
  try rw [t_cv wq2_1 tp6_3 rfl]
  refine jok_b (S_X0_remember hn hg wq2_1 tp6_3 tp10_4) (fun h13_5 wh13_5 => ?_)
  obtain ⟨Γ6, leh13_5, wh13_5⟩ := wh13_5
  replace ta0 := leh13_5.1 _ _ ta0
  replace tp6_3 := leh13_5.1 _ _ tp6_3
  replace tp10_4 := leh13_5.1 _ _ tp10_4
  refine jok_b (t_gR wh13_5 ta0 rfl rfl) (fun p17_7 tp17_7 => ?_)
  refine jok_b2 (t_gI wh13_5 tp17_7 rfl rfl) (fun v20_8 ev20_8 pv20_8 => ?_)
  refine jok_b (t_gR wh13_5 ta0 rfl rfl) (fun p25_9 tp25_9 => ?_)
  refine jok_b (S_X11_withBit hn hg wh13_5) (fun v31_10 pv31_10 => ?_)
  refine jok_b (t_pI wh13_5 tp25_9 rfl rfl trivial) (fun h34_11 wh34_11 => ?_)
  obtain ⟨wh34_11, jh34_11, rh34_11⟩ := wh34_11
  refine jok_b (t_gR wh34_11 ta0 rfl rfl) (fun p38_12 tp38_12 => ?_)
  refine jok_b2 (t_gI wh34_11 tp38_12 rfl rfl) (fun v41_13 ev41_13 pv41_13 => ?_)
  refine jok_eq (fun c14 d14 => ?_) (fun c14 => ?_)
  · have f15 : ((0 : Int32)).toInt = 0 := rfl
    exact jok_s ⟨Γ6, leh13_5, ⟨wh34_11, jX_l (show jI 0 1 (0 : Int32) from ⟨by omega, by omega⟩)⟩⟩
  · have f16 : ((1 : Int32)).toInt = 1 := rfl
    exact jok_s ⟨Γ6, leh13_5, ⟨wh34_11, jX_l (show jI 0 1 (1 : Int32) from ⟨by omega, by omega⟩)⟩⟩
set_option maxHeartbeats 1000000 in
theorem S_X11_sew {g : jGh} {Γ : Nat → Option Nat} {n : Nat} {a0 : Nat} {x1 : Int32} {x2 : Int32} {h : jH} (hn : 6000 ≤ n) (hg : jgok g) (w : jW (jKd g) Γ h) (ta0 : Γ a0 = some 19) : jok (F_X11_sew n a0 x1 x2 h) (fun q => ∃ Γ2, jle Γ Γ2 ∧ jW (jKd g) Γ2 q.2 ∧ jXok [2, 0, 1] (fun v => True) q.1) := by
  unfold F_X11_sew
  try rw [t_cv w ta0 rfl]
  refine jok_b (S_X11_requirePlace hn hg w ta0) (fun q2_1 wq2_1 => ?_)
  obtain ⟨wq2_1, pq2_1⟩ := wq2_1
  refine jok_t pq2_1 (fun k9 q9 => ⟨Γ, jle_rfl, ⟨wq2_1, jX_r (jsub9 q9 (by decide))⟩⟩) (fun r2_2 pr2_2 => ?_)
  try rw [t_cv wq2_1 ta0 rfl]
  refine jok_b (S_X11_requireNumber hn hg wq2_1 ta0) (fun q10_3 wq10_3 => ?_)
  obtain ⟨wq10_3, pq10_3⟩ := wq10_3
  refine jok_t pq10_3 (fun k9 q9 => ⟨Γ, jle_rfl, ⟨wq10_3, jX_r (jsub9 q9 (by decide))⟩⟩) (fun r10_4 pr10_4 => ?_)
  have f5 : ((1 : Int32)).toInt = 1 := rfl
  have f6 : ((9 : Int32)).toInt = 9 := rfl
  have pr10_4_9 := pr10_4
  try dsimp only at pr10_4_9
  refine jok_b (t_gR wq10_3 ta0 rfl rfl) (fun p14_7 tp14_7 => ?_)
  refine jok_b2 (t_gI wq10_3 tp14_7 rfl rfl) (fun v17_8 ev17_8 pv17_8 => ?_)
  obtain ⟨lv17_8, uv17_8⟩ := pv17_8
  have f9 : ((8 : Int32)).toInt = 8 := rfl
  refine jok_le (fun c10 => ?_) (fun c10 => ?_)
  · exact jok_s ⟨Γ, jle_rfl, ⟨wq10_3, jX_r (by decide)⟩⟩
  · refine jok_b (t_gR wq10_3 ta0 rfl rfl) (fun p27_11 tp27_11 => ?_)
    try rw [t_cv wq10_3 tp27_11 rfl]
    refine jok_b (S_X8_nearestNew hn hg wq10_3 tp27_11) (fun v30_12 pv30_12 => ?_)
    refine jok_lt (fun c13 => ?_) (fun c13 => ?_)
    · exact jok_s ⟨Γ, jle_rfl, ⟨wq10_3, jX_r (by decide)⟩⟩
    · refine jok_b (t_gR wq10_3 ta0 rfl rfl) (fun p38_14 tp38_14 => ?_)
      try rw [t_cv wq10_3 tp38_14 rfl]
      refine jok_b (S_X8_farthestNew hn hg wq10_3 tp38_14) (fun v41_15 pv41_15 => ?_)
      refine jok_le (fun c16 => ?_) (fun c16 => ?_)
      · refine jok_b (t_gR wq10_3 ta0 rfl rfl) (fun p58_17 tp58_17 => ?_)
        refine jok_b (t_gR wq10_3 ta0 rfl rfl) (fun p62_18 tp62_18 => ?_)
        try rw [t_cv wq10_3 tp58_17 rfl]
        refine jok_b (S_X0_remember hn hg wq10_3 tp58_17 tp62_18) (fun h65_19 wh65_19 => ?_)
        obtain ⟨Γ20, leh65_19, wh65_19⟩ := wh65_19
        replace ta0 := leh65_19.1 _ _ ta0
        replace tp14_7 := leh65_19.1 _ _ tp14_7
        replace tp27_11 := leh65_19.1 _ _ tp27_11
        replace tp38_14 := leh65_19.1 _ _ tp38_14
        replace tp58_17 := leh65_19.1 _ _ tp58_17
        replace tp62_18 := leh65_19.1 _ _ tp62_18
        refine jok_b (t_gR wh65_19 ta0 rfl rfl) (fun p69_21 tp69_21 => ?_)
        try rw [t_cv wh65_19 tp69_21 rfl]
        refine jok_b (S_X8_add hn hg wh65_19 tp69_21) (fun h74_22 wh74_22 => ?_)
        refine jok_b (t_gR wh74_22 ta0 rfl rfl) (fun p78_23 tp78_23 => ?_)
        refine jok_b2 (t_gI wh74_22 tp78_23 rfl rfl) (fun v81_24 ev81_24 pv81_24 => ?_)
        obtain ⟨lv81_24, uv81_24⟩ := pv81_24
        exact jok_s ⟨Γ20, leh65_19, ⟨wh74_22, jX_l trivial⟩⟩
      · exact jok_s ⟨Γ, jle_rfl, ⟨wq10_3, jX_r (by decide)⟩⟩
set_option maxHeartbeats 1000000 in
theorem S_X11_let {g : jGh} {Γ : Nat → Option Nat} {n : Nat} {a0 : Nat} {x1 : Int32} {x2 : Int32} {h : jH} (hn : 6000 ≤ n) (hg : jgok g) (w : jW (jKd g) Γ h) (ta0 : Γ a0 = some 19) : jok (F_X11_let n a0 x1 x2 h) (fun q => ∃ Γ2, jle Γ Γ2 ∧ jW (jKd g) Γ2 q.2 ∧ jXok [2, 0] (fun v => True) q.1) := by
  unfold F_X11_let
  try rw [t_cv w ta0 rfl]
  refine jok_b (S_X11_requireRing hn hg w ta0) (fun q2_1 wq2_1 => ?_)
  obtain ⟨wq2_1, pq2_1⟩ := wq2_1
  refine jok_t pq2_1 (fun k9 q9 => ⟨Γ, jle_rfl, ⟨wq2_1, jX_r (jsub9 q9 (by decide))⟩⟩) (fun r2_2 pr2_2 => ?_)
  have pr2_2_9 := pr2_2
  try dsimp only at pr2_2_9
  try rw [t_cv wq2_1 ta0 rfl]
  refine jok_b (S_X11_requireNumber hn hg wq2_1 ta0) (fun q10_3 wq10_3 => ?_)
  obtain ⟨wq10_3, pq10_3⟩ := wq10_3
  refine jok_t pq10_3 (fun k9 q9 => ⟨Γ, jle_rfl, ⟨wq10_3, jX_r (jsub9 q9 (by decide))⟩⟩) (fun r10_4 pr10_4 => ?_)
  have f5 : ((0 : Int32)).toInt = 0 := rfl
  have f6 : ((9 : Int32)).toInt = 9 := rfl
  have pr10_4_9 := pr10_4
  try dsimp only at pr10_4_9
  refine jok_b (t_gR wq10_3 ta0 rfl rfl) (fun p14_7 tp14_7 => ?_)
  refine jok_b (t_gR wq10_3 ta0 rfl rfl) (fun p18_8 tp18_8 => ?_)
  try rw [t_cv wq10_3 tp14_7 rfl]
  refine jok_b (S_X0_remember hn hg wq10_3 tp14_7 tp18_8) (fun h21_9 wh21_9 => ?_)
  obtain ⟨Γ10, leh21_9, wh21_9⟩ := wh21_9
  replace ta0 := leh21_9.1 _ _ ta0
  replace tp14_7 := leh21_9.1 _ _ tp14_7
  replace tp18_8 := leh21_9.1 _ _ tp18_8
  refine jok_b (t_gR wh21_9 ta0 rfl rfl) (fun p25_11 tp25_11 => ?_)
  refine jok_b (t_gR wh21_9 tp25_11 rfl rfl) (fun p28_12 tp28_12 => ?_)
  refine jok_b (t_al wh21_9 tp28_12 rfl (by omega) (by omega)) (fun v32_13 pv32_13 => ?_)
  refine jok_b (t_gR wh21_9 ta0 rfl rfl) (fun p35_14 tp35_14 => ?_)
  refine jok_b (t_gR wh21_9 tp35_14 rfl rfl) (fun p38_15 tp38_15 => ?_)
  refine jok_b (t_as wh21_9 tp38_15 rfl (by omega) (by omega) trivial (fun q => by cases q)) (fun h43_16 wh43_16 => ?_)
  obtain ⟨wh43_16, rh43_16⟩ := wh43_16
  exact jok_s ⟨Γ10, leh21_9, ⟨wh43_16, jX_l trivial⟩⟩
set_option maxHeartbeats 1000000 in
theorem S_X11_chair {g : jGh} {Γ : Nat → Option Nat} {n : Nat} {a0 : Nat} {x1 : Int32} {x2 : Int32} {h : jH} (hn : 6000 ≤ n) (hg : jgok g) (w : jW (jKd g) Γ h) (ta0 : Γ a0 = some 19) : jok (F_X11_chair n a0 x1 x2 h) (fun q => ∃ Γ2, jle Γ Γ2 ∧ jW (jKd g) Γ2 q.2 ∧ jXok [2] (fun v => 0 ≤ v.toInt ∧ v.toInt ≤ 1) q.1) := by
  unfold F_X11_chair
  try rw [t_cv w ta0 rfl]
  refine jok_b (S_X11_requirePlace hn hg w ta0) (fun q2_1 wq2_1 => ?_)
  obtain ⟨wq2_1, pq2_1⟩ := wq2_1
  refine jok_t pq2_1 (fun k9 q9 => ⟨Γ, jle_rfl, ⟨wq2_1, jX_r (jsub9 q9 (by decide))⟩⟩) (fun r2_2 pr2_2 => ?_)
  refine jok_b (t_gR wq2_1 ta0 rfl rfl) (fun p6_3 tp6_3 => ?_)
  refine jok_b (t_gR wq2_1 ta0 rfl rfl) (fun p10_4 tp10_4 => ?_)
  try rw [t_cv wq2_1 tp6_3 rfl]
  refine jok_b (S_X0_remember hn hg wq2_1 tp6_3 tp10_4) (fun h13_5 wh13_5 => ?_)
  obtain ⟨Γ6, leh13_5, wh13_5⟩ := wh13_5
  replace ta0 := leh13_5.1 _ _ ta0
  replace tp6_3 := leh13_5.1 _ _ tp6_3
  replace tp10_4 := leh13_5.1 _ _ tp10_4
  refine jok_b (t_gR wh13_5 ta0 rfl rfl) (fun p17_7 tp17_7 => ?_)
  refine jok_b2 (t_gI wh13_5 tp17_7 rfl rfl) (fun v20_8 ev20_8 pv20_8 => ?_)
  refine jok_b (t_gR wh13_5 ta0 rfl rfl) (fun p25_9 tp25_9 => ?_)
  refine jok_b (S_X11_withBit hn hg wh13_5) (fun v31_10 pv31_10 => ?_)
  refine jok_b (t_pI wh13_5 tp25_9 rfl rfl trivial) (fun h34_11 wh34_11 => ?_)
  obtain ⟨wh34_11, jh34_11, rh34_11⟩ := wh34_11
  refine jok_b (t_gR wh34_11 ta0 rfl rfl) (fun p38_12 tp38_12 => ?_)
  refine jok_b2 (t_gI wh34_11 tp38_12 rfl rfl) (fun v41_13 ev41_13 pv41_13 => ?_)
  refine jok_eq (fun c14 d14 => ?_) (fun c14 => ?_)
  · have f15 : ((0 : Int32)).toInt = 0 := rfl
    exact jok_s ⟨Γ6, leh13_5, ⟨wh34_11, jX_l (show jI 0 1 (0 : Int32) from ⟨by omega, by omega⟩)⟩⟩
  · have f16 : ((1 : Int32)).toInt = 1 := rfl
    exact jok_s ⟨Γ6, leh13_5, ⟨wh34_11, jX_l (show jI 0 1 (1 : Int32) from ⟨by omega, by omega⟩)⟩⟩
set_option maxHeartbeats 1000000 in
theorem S_X11_hours {g : jGh} {Γ : Nat → Option Nat} {n : Nat} {a0 : Nat} {x1 : Int32} {h : jH} (hn : 6000 ≤ n) (hg : jgok g) (w : jW (jKd g) Γ h) (ta0 : Γ a0 = some 19) : jok (F_X11_hours n a0 x1 h) (fun q => ∃ Γ2, jle Γ Γ2 ∧ jW (jKd g) Γ2 q.2 ∧ jXok [0] (fun v => True) q.1) := by
  unfold F_X11_hours
  try rw [t_cv w ta0 rfl]
  refine jok_b (S_X11_requireNumber hn hg w ta0) (fun q5_1 wq5_1 => ?_)
  obtain ⟨wq5_1, pq5_1⟩ := wq5_1
  refine jok_t pq5_1 (fun k9 q9 => ⟨Γ, jle_rfl, ⟨wq5_1, jX_r (jsub9 q9 (by decide))⟩⟩) (fun r5_2 pr5_2 => ?_)
  have f3 : ((1 : Int32)).toInt = 1 := rfl
  have f4 : ((80 : Int32)).toInt = 80 := rfl
  have pr5_2_9 := pr5_2
  try dsimp only at pr5_2_9
  refine jok_b (t_gR wq5_1 ta0 rfl rfl) (fun p9_5 tp9_5 => ?_)
  refine jok_b (t_gR wq5_1 ta0 rfl rfl) (fun p13_6 tp13_6 => ?_)
  try rw [t_cv wq5_1 tp9_5 rfl]
  refine jok_b (S_X0_remember hn hg wq5_1 tp9_5 tp13_6) (fun h16_7 wh16_7 => ?_)
  obtain ⟨Γ8, leh16_7, wh16_7⟩ := wh16_7
  replace ta0 := leh16_7.1 _ _ ta0
  replace tp9_5 := leh16_7.1 _ _ tp9_5
  replace tp13_6 := leh16_7.1 _ _ tp13_6
  refine jok_b (t_gR wh16_7 ta0 rfl rfl) (fun p20_9 tp20_9 => ?_)
  refine jok_b (t_gR wh16_7 ta0 rfl rfl) (fun p24_10 tp24_10 => ?_)
  try rw [t_cv wh16_7 tp20_9 rfl]
  refine jok_b (S_X1_run hn hg wh16_7 tp20_9 tp24_10 (by omega) (by omega)) (fun q28_11 wq28_11 => ?_)
  obtain ⟨wq28_11, pq28_11⟩ := wq28_11
  exact jok_s ⟨Γ8, leh16_7, ⟨wq28_11, jX_l trivial⟩⟩
