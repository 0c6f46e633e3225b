section
set_option maxHeartbeats 1000000 in
theorem S_X11_pull {g : jGh} {Γ : Nat → Option Nat} {n : Nat} {a0 : Nat} {x1 : Int32} {x2 : Int32} {x3 : Int32} {h : jH} (hn : 6000 ≤ n) (hg : jgok g) (w : jW (jKd g) Γ h) (ta0 : Γ a0 = some 19) : jok (F_X11_pull n a0 x1 x2 x3 h) (fun q => ∃ Γ2, jle Γ Γ2 ∧ jW (jKd g) Γ2 q.2 ∧ jXok [2, 0] (fun v => True) q.1) := by
  unfold F_X11_pull
  try rw [t_cv w ta0 rfl]
  refine jok_b (S_X11_requireRing hn hg w ta0) (fun q2_1 wq2_1 => ?_)
  obtain ⟨wq2_1, pq2_1⟩ := wq2_1
  refine jok_t pq2_1 (fun k9 q9 => ⟨Γ, jle_rfl, ⟨wq2_1, jX_r (jsub9 q9 (by decide))⟩⟩) (fun r2_2 pr2_2 => ?_)
  have pr2_2_9 := pr2_2
  try dsimp only at pr2_2_9
  try rw [t_cv wq2_1 ta0 rfl]
  refine jok_b (S_X11_requireNumber hn hg wq2_1 ta0) (fun q10_3 wq10_3 => ?_)
  obtain ⟨wq10_3, pq10_3⟩ := wq10_3
  refine jok_t pq10_3 (fun k9 q9 => ⟨Γ, jle_rfl, ⟨wq10_3, jX_r (jsub9 q9 (by decide))⟩⟩) (fun r10_4 pr10_4 => ?_)
  have f5 : ((1 : Int32)).toInt = 1 := rfl
  have f6 : ((31 : Int32)).toInt = 31 := rfl
  have pr10_4_9 := pr10_4
  try dsimp only at pr10_4_9
  refine jok_b (t_gR wq10_3 ta0 rfl rfl) (fun p14_7 tp14_7 => ?_)
  refine jok_b (t_gR wq10_3 ta0 rfl rfl) (fun p18_8 tp18_8 => ?_)
  try rw [t_cv wq10_3 tp14_7 rfl]
  refine jok_b (S_X0_remember hn hg wq10_3 tp14_7 tp18_8) (fun h21_9 wh21_9 => ?_)
  obtain ⟨Γ10, leh21_9, wh21_9⟩ := wh21_9
  replace ta0 := leh21_9.1 _ _ ta0
  replace tp14_7 := leh21_9.1 _ _ tp14_7
  replace tp18_8 := leh21_9.1 _ _ tp18_8
  refine jok_b (t_gR wh21_9 ta0 rfl rfl) (fun p25_11 tp25_11 => ?_)
  try rw [t_cv wh21_9 tp25_11 rfl]
  refine jok_b (S_X8_move hn hg wh21_9 tp25_11 (by omega) (by omega) (by omega) (by omega)) (fun q31_12 wq31_12 => ?_)
  obtain ⟨wq31_12, pq31_12⟩ := wq31_12
  obtain ⟨lq31_12, uq31_12⟩ := pq31_12
  refine jok_b (t_gR wq31_12 ta0 rfl rfl) (fun p37_13 tp37_13 => ?_)
  refine jok_b (t_gR wq31_12 tp37_13 rfl rfl) (fun p40_14 tp40_14 => ?_)
  refine jok_b (t_gR wq31_12 ta0 rfl rfl) (fun p44_15 tp44_15 => ?_)
  try rw [t_cv wq31_12 tp40_14 rfl]
  refine jok_b (S_X5_add hn hg wq31_12 tp40_14 tp44_15 (by omega) (by omega)) (fun h51_16 wh51_16 => ?_)
  exact jok_s ⟨Γ10, leh21_9, ⟨wh51_16, jX_l trivial⟩⟩
set_option maxHeartbeats 1000000 in
theorem S_X11_free {g : jGh} {Γ : Nat → Option Nat} {n : Nat} {a0 : Nat} {x1 : Int32} {h : jH} (hn : 6000 ≤ n) (hg : jgok g) (w : jW (jKd g) Γ h) (ta0 : Γ a0 = some 19) : jok (F_X11_free n a0 x1 h) (fun q => ∃ Γ2, jle Γ Γ2 ∧ jW (jKd g) Γ2 q.2 ∧ jXok [2, 1] (fun v => True) q.1) := by
  unfold F_X11_free
  try rw [t_cv w ta0 rfl]
  refine jok_b (S_X11_requireRing hn hg w ta0) (fun q2_1 wq2_1 => ?_)
  obtain ⟨wq2_1, pq2_1⟩ := wq2_1
  refine jok_t pq2_1 (fun k9 q9 => ⟨Γ, jle_rfl, ⟨wq2_1, jX_r (jsub9 q9 (by decide))⟩⟩) (fun r2_2 pr2_2 => ?_)
  have pr2_2_9 := pr2_2
  try dsimp only at pr2_2_9
  refine jok_b (t_gR wq2_1 ta0 rfl rfl) (fun p6_3 tp6_3 => ?_)
  refine jok_b2 (t_gI wq2_1 tp6_3 rfl rfl) (fun v9_4 ev9_4 pv9_4 => ?_)
  refine jok_b (S_X11_bit hn hg wq2_1) (fun v13_5 pv13_5 => ?_)
  obtain ⟨lv13_5, uv13_5⟩ := pv13_5
  have f6 : ((0 : Int32)).toInt = 0 := rfl
  refine jok_eq (fun c7 d7 => ?_) (fun c7 => ?_)
  · exact jok_s ⟨Γ, jle_rfl, ⟨wq2_1, jX_r (by decide)⟩⟩
  · refine jok_b (t_gR wq2_1 ta0 rfl rfl) (fun p30_8 tp30_8 => ?_)
    refine jok_b (t_gR wq2_1 ta0 rfl rfl) (fun p34_9 tp34_9 => ?_)
    try rw [t_cv wq2_1 tp30_8 rfl]
    refine jok_b (S_X0_remember hn hg wq2_1 tp30_8 tp34_9) (fun h37_10 wh37_10 => ?_)
    obtain ⟨Γ11, leh37_10, wh37_10⟩ := wh37_10
    replace ta0 := leh37_10.1 _ _ ta0
    replace tp6_3 := leh37_10.1 _ _ tp6_3
    replace tp30_8 := leh37_10.1 _ _ tp30_8
    replace tp34_9 := leh37_10.1 _ _ tp34_9
    refine jok_b (t_gR wh37_10 ta0 rfl rfl) (fun p41_12 tp41_12 => ?_)
    refine jok_b (t_gR wh37_10 ta0 rfl rfl) (fun p45_13 tp45_13 => ?_)
    refine jok_b2 (t_gI wh37_10 tp45_13 rfl rfl) (fun v48_14 ev48_14 pv48_14 => ?_)
    refine jok_b (S_X11_withBit hn hg wh37_10) (fun v53_15 pv53_15 => ?_)
    refine jok_b (t_pI wh37_10 tp41_12 rfl rfl trivial) (fun h56_16 wh56_16 => ?_)
    obtain ⟨wh56_16, jh56_16, rh56_16⟩ := wh56_16
    refine jok_b (t_gR wh56_16 ta0 rfl rfl) (fun p60_17 tp60_17 => ?_)
    try rw [t_cv wh56_16 tp60_17 rfl]
    refine jok_b (S_X8_gap hn hg wh56_16 tp60_17) (fun v65_18 pv65_18 => ?_)
    exact jok_s ⟨Γ11, leh37_10, ⟨wh56_16, jX_l trivial⟩⟩
set_option maxHeartbeats 1000000 in
theorem S_X11_snag {g : jGh} {Γ : Nat → Option Nat} {n : Nat} {a0 : Nat} {x1 : Int32} {h : jH} (hn : 6000 ≤ n) (hg : jgok g) (w : jW (jKd g) Γ h) (ta0 : Γ a0 = some 19) : jok (F_X11_snag n a0 x1 h) (fun q => ∃ Γ2, jle Γ Γ2 ∧ jW (jKd g) Γ2 q.2 ∧ jXok [2, 1] (fun v => True) q.1) := by
  unfold F_X11_snag
  try rw [t_cv w ta0 rfl]
  refine jok_b (S_X11_requireRing hn hg w ta0) (fun q2_1 wq2_1 => ?_)
  obtain ⟨wq2_1, pq2_1⟩ := wq2_1
  refine jok_t pq2_1 (fun k9 q9 => ⟨Γ, jle_rfl, ⟨wq2_1, jX_r (jsub9 q9 (by decide))⟩⟩) (fun r2_2 pr2_2 => ?_)
  have pr2_2_9 := pr2_2
  try dsimp only at pr2_2_9
  refine jok_b (t_gR wq2_1 ta0 rfl rfl) (fun p7_3 tp7_3 => ?_)
  refine jok_b2 (t_gI wq2_1 tp7_3 rfl rfl) (fun v10_4 ev10_4 pv10_4 => ?_)
  obtain ⟨lv10_4, uv10_4⟩ := pv10_4
  have f5 : ((1 : Int32)).toInt = 1 := rfl
  have f6 : ((v10_4 - (1 : Int32))).toInt = (v10_4).toInt - ((1 : Int32)).toInt := jsub (by omega) (by omega)
  refine jok_eq (fun c7 d7 => ?_) (fun c7 => ?_)
  · exact jok_s ⟨Γ, jle_rfl, ⟨wq2_1, jX_r (by decide)⟩⟩
  · refine jok_b (t_gR wq2_1 ta0 rfl rfl) (fun p19_8 tp19_8 => ?_)
    refine jok_b2 (t_gI wq2_1 tp19_8 rfl rfl) (fun v22_9 ev22_9 pv22_9 => ?_)
    refine jok_b (S_X11_bit hn hg wq2_1) (fun v26_10 pv26_10 => ?_)
    obtain ⟨lv26_10, uv26_10⟩ := pv26_10
    refine jok_eq (fun c11 d11 => ?_) (fun c11 => ?_)
    · exact jok_s ⟨Γ, jle_rfl, ⟨wq2_1, jX_r (by decide)⟩⟩
    · refine jok_b (t_gR wq2_1 ta0 rfl rfl) (fun p44_12 tp44_12 => ?_)
      refine jok_b (t_gR wq2_1 ta0 rfl rfl) (fun p48_13 tp48_13 => ?_)
      try rw [t_cv wq2_1 tp44_12 rfl]
      refine jok_b (S_X0_remember hn hg wq2_1 tp44_12 tp48_13) (fun h51_14 wh51_14 => ?_)
      obtain ⟨Γ15, leh51_14, wh51_14⟩ := wh51_14
      replace ta0 := leh51_14.1 _ _ ta0
      replace tp7_3 := leh51_14.1 _ _ tp7_3
      replace tp19_8 := leh51_14.1 _ _ tp19_8
      replace tp44_12 := leh51_14.1 _ _ tp44_12
      replace tp48_13 := leh51_14.1 _ _ tp48_13
      refine jok_b (t_gR wh51_14 ta0 rfl rfl) (fun p55_16 tp55_16 => ?_)
      refine jok_b (t_gR wh51_14 ta0 rfl rfl) (fun p59_17 tp59_17 => ?_)
      refine jok_b2 (t_gI wh51_14 tp59_17 rfl rfl) (fun v62_18 ev62_18 pv62_18 => ?_)
      refine jok_b (S_X11_withBit hn hg wh51_14) (fun v67_19 pv67_19 => ?_)
      refine jok_b (t_pI wh51_14 tp55_16 rfl rfl trivial) (fun h70_20 wh70_20 => ?_)
      obtain ⟨wh70_20, jh70_20, rh70_20⟩ := wh70_20
      refine jok_b (t_gR wh70_20 ta0 rfl rfl) (fun p74_21 tp74_21 => ?_)
      try rw [t_cv wh70_20 tp74_21 rfl]
      refine jok_b (S_X8_gap hn hg wh70_20 tp74_21) (fun v79_22 pv79_22 => ?_)
      exact jok_s ⟨Γ15, leh51_14, ⟨wh70_20, jX_l trivial⟩⟩
set_option maxHeartbeats 1000000 in
theorem S_X11_hook {g : jGh} {Γ : Nat → Option Nat} {n : Nat} {a0 : Nat} {x1 : Int32} {x2 : Int32} {h : jH} (hn : 6000 ≤ n) (hg : jgok g) (w : jW (jKd g) Γ h) (ta0 : Γ a0 = some 19) : jok (F_X11_hook n a0 x1 x2 h) (fun q => ∃ Γ2, jle Γ Γ2 ∧ jW (jKd g) Γ2 q.2 ∧ jXok [2] (fun v => 0 ≤ v.toInt ∧ v.toInt ≤ 1) q.1) := by
  unfold F_X11_hook
  try rw [t_cv w ta0 rfl]
  refine jok_b (S_X11_requireRing hn hg w ta0) (fun q2_1 wq2_1 => ?_)
  obtain ⟨wq2_1, pq2_1⟩ := wq2_1
  refine jok_t pq2_1 (fun k9 q9 => ⟨Γ, jle_rfl, ⟨wq2_1, jX_r (jsub9 q9 (by decide))⟩⟩) (fun r2_2 pr2_2 => ?_)
  have pr2_2_9 := pr2_2
  try dsimp only at pr2_2_9
  refine jok_b (t_gR wq2_1 ta0 rfl rfl) (fun p6_3 tp6_3 => ?_)
  refine jok_b (t_gR wq2_1 ta0 rfl rfl) (fun p10_4 tp10_4 => ?_)
  try rw [t_cv wq2_1 tp6_3 rfl]
  refine jok_b (S_X0_remember hn hg wq2_1 tp6_3 tp10_4) (fun h13_5 wh13_5 => ?_)
  obtain ⟨Γ6, leh13_5, wh13_5⟩ := wh13_5
  replace ta0 := leh13_5.1 _ _ ta0
  replace tp6_3 := leh13_5.1 _ _ tp6_3
  replace tp10_4 := leh13_5.1 _ _ tp10_4
  refine jok_b (t_gR wh13_5 ta0 rfl rfl) (fun p17_7 tp17_7 => ?_)
  refine jok_b2 (t_gI wh13_5 tp17_7 rfl rfl) (fun v20_8 ev20_8 pv20_8 => ?_)
  refine jok_b (t_gR wh13_5 ta0 rfl rfl) (fun p25_9 tp25_9 => ?_)
  refine jok_b (S_X11_withBit hn hg wh13_5) (fun v31_10 pv31_10 => ?_)
  refine jok_b (t_pI wh13_5 tp25_9 rfl rfl trivial) (fun h34_11 wh34_11 => ?_)
  obtain ⟨wh34_11, jh34_11, rh34_11⟩ := wh34_11
  refine jok_b (t_gR wh34_11 ta0 rfl rfl) (fun p38_12 tp38_12 => ?_)
  refine jok_b2 (t_gI wh34_11 tp38_12 rfl rfl) (fun v41_13 ev41_13 pv41_13 => ?_)
  refine jok_eq (fun c14 d14 => ?_) (fun c14 => ?_)
  · have f15 : ((0 : Int32)).toInt = 0 := rfl
    exact jok_s ⟨Γ6, leh13_5, ⟨wh34_11, jX_l (show jI 0 1 (0 : Int32) from ⟨by omega, by omega⟩)⟩⟩
  · have f16 : ((1 : Int32)).toInt = 1 := rfl
    exact jok_s ⟨Γ6, leh13_5, ⟨wh34_11, jX_l (show jI 0 1 (1 : Int32) from ⟨by omega, by omega⟩)⟩⟩
set_option maxHeartbeats 1000000 in
theorem S_X11_sew {g : jGh} {Γ : Nat → Option Nat} {n : Nat} {a0 : Nat} {x1 : Int32} {x2 : Int32} {h : jH} (hn : 6000 ≤ n) (hg : jgok g) (w : jW (jKd g) Γ h) (ta0 : Γ a0 = some 19) : jok (F_X11_sew n a0 x1 x2 h) (fun q => ∃ Γ2, jle Γ Γ2 ∧ jW (jKd g) Γ2 q.2 ∧ jXok [2, 0, 1] (fun v => True) q.1) := by
  unfold F_X11_sew
  try rw [t_cv w ta0 rfl]
  refine jok_b (S_X11_requirePlace hn hg w ta0) (fun q2_1 wq2_1 => ?_)
  obtain ⟨wq2_1, pq2_1⟩ := wq2_1
  refine jok_t pq2_1 (fun k9 q9 => ⟨Γ, jle_rfl, ⟨wq2_1, jX_r (jsub9 q9 (by decide))⟩⟩) (fun r2_2 pr2_2 => ?_)
  try rw [t_cv wq2_1 ta0 rfl]
  refine jok_b (S_X11_requireNumber hn hg wq2_1 ta0) (fun q10_3 wq10_3 => ?_)
  obtain ⟨wq10_3, pq10_3⟩ := wq10_3
  refine jok_t pq10_3 (fun k9 q9 => ⟨Γ, jle_rfl, ⟨wq10_3, jX_r (jsub9 q9 (by decide))⟩⟩) (fun r10_4 pr10_4 => ?_)
  have f5 : ((1 : Int32)).toInt = 1 := rfl
  have f6 : ((9 : Int32)).toInt = 9 := rfl
  have pr10_4_9 := pr10_4
  try dsimp only at pr10_4_9
  refine jok_b (t_gR wq10_3 ta0 rfl rfl) (fun p14_7 tp14_7 => ?_)
  refine jok_b2 (t_gI wq10_3 tp14_7 rfl rfl) (fun v17_8 ev17_8 pv17_8 => ?_)
  obtain ⟨lv17_8, uv17_8⟩ := pv17_8
  have f9 : ((8 : Int32)).toInt = 8 := rfl
  refine jok_le (fun c10 => ?_) (fun c10 => ?_)
  · exact jok_s ⟨Γ, jle_rfl, ⟨wq10_3, jX_r (by decide)⟩⟩
  · refine jok_b (t_gR wq10_3 ta0 rfl rfl) (fun p27_11 tp27_11 => ?_)
    try rw [t_cv wq10_3 tp27_11 rfl]
    refine jok_b (S_X8_nearestNew hn hg wq10_3 tp27_11) (fun v30_12 pv30_12 => ?_)
    refine jok_lt (fun c13 => ?_) (fun c13 => ?_)
    · exact jok_s ⟨Γ, jle_rfl, ⟨wq10_3, jX_r (by decide)⟩⟩
    · refine jok_b (t_gR wq10_3 ta0 rfl rfl) (fun p38_14 tp38_14 => ?_)
      try rw [t_cv wq10_3 tp38_14 rfl]
      refine jok_b (S_X8_farthestNew hn hg wq10_3 tp38_14) (fun v41_15 pv41_15 => ?_)
      refine jok_le (fun c16 => ?_) (fun c16 => ?_)
      · refine jok_b (t_gR wq10_3 ta0 rfl rfl) (fun p58_17 tp58_17 => ?_)
        refine jok_b (t_gR wq10_3 ta0 rfl rfl) (fun p62_18 tp62_18 => ?_)
        try rw [t_cv wq10_3 tp58_17 rfl]
        refine jok_b (S_X0_remember hn hg wq10_3 tp58_17 tp62_18) (fun h65_19 wh65_19 => ?_)
        obtain ⟨Γ20, leh65_19, wh65_19⟩ := wh65_19
        replace ta0 := leh65_19.1 _ _ ta0
        replace tp14_7 := leh65_19.1 _ _ tp14_7
        replace tp27_11 := leh65_19.1 _ _ tp27_11
        replace tp38_14 := leh65_19.1 _ _ tp38_14
        replace tp58_17 := leh65_19.1 _ _ tp58_17
        replace tp62_18 := leh65_19.1 _ _ tp62_18
        refine jok_b (t_gR wh65_19 ta0 rfl rfl) (fun p69_21 tp69_21 => ?_)
        try rw [t_cv wh65_19 tp69_21 rfl]
        refine jok_b (S_X8_add hn hg wh65_19 tp69_21) (fun h74_22 wh74_22 => ?_)
        refine jok_b (t_gR wh74_22 ta0 rfl rfl) (fun p78_23 tp78_23 => ?_)
        refine jok_b2 (t_gI wh74_22 tp78_23 rfl rfl) (fun v81_24 ev81_24 pv81_24 => ?_)
        obtain ⟨lv81_24, uv81_24⟩ := pv81_24
        exact jok_s ⟨Γ20, leh65_19, ⟨wh74_22, jX_l trivial⟩⟩
      · exact jok_s ⟨Γ, jle_rfl, ⟨wq10_3, jX_r (by decide)⟩⟩
set_option maxHeartbeats 1000000 in
theorem S_X11_let {g : jGh} {Γ : Nat → Option Nat} {n : Nat} {a0 : Nat} {x1 : Int32} {x2 : Int32} {h : jH} (hn : 6000 ≤ n) (hg : jgok g) (w : jW (jKd g) Γ h) (ta0 : Γ a0 = some 19) : jok (F_X11_let n a0 x1 x2 h) (fun q => ∃ Γ2, jle Γ Γ2 ∧ jW (jKd g) Γ2 q.2 ∧ jXok [2, 0] (fun v => True) q.1) := by
  unfold F_X11_let
  try rw [t_cv w ta0 rfl]
  refine jok_b (S_X11_requireRing hn hg w ta0) (fun q2_1 wq2_1 => ?_)
  obtain ⟨wq2_1, pq2_1⟩ := wq2_1
  refine jok_t pq2_1 (fun k9 q9 => ⟨Γ, jle_rfl, ⟨wq2_1, jX_r (jsub9 q9 (by decide))⟩⟩) (fun r2_2 pr2_2 => ?_)
  have pr2_2_9 := pr2_2
  try dsimp only at pr2_2_9
  try rw [t_cv wq2_1 ta0 rfl]
  refine jok_b (S_X11_requireNumber hn hg wq2_1 ta0) (fun q10_3 wq10_3 => ?_)
  obtain ⟨wq10_3, pq10_3⟩ := wq10_3
  refine jok_t pq10_3 (fun k9 q9 => ⟨Γ, jle_rfl, ⟨wq10_3, jX_r (jsub9 q9 (by decide))⟩⟩) (fun r10_4 pr10_4 => ?_)
  have f5 : ((0 : Int32)).toInt = 0 := rfl
  have f6 : ((9 : Int32)).toInt = 9 := rfl
  have pr10_4_9 := pr10_4
  try dsimp only at pr10_4_9
  refine jok_b (t_gR wq10_3 ta0 rfl rfl) (fun p14_7 tp14_7 => ?_)
  refine jok_b (t_gR wq10_3 ta0 rfl rfl) (fun p18_8 tp18_8 => ?_)
  try rw [t_cv wq10_3 tp14_7 rfl]
  refine jok_b (S_X0_remember hn hg wq10_3 tp14_7 tp18_8) (fun h21_9 wh21_9 => ?_)
  obtain ⟨Γ10, leh21_9, wh21_9⟩ := wh21_9
  replace ta0 := leh21_9.1 _ _ ta0
  replace tp14_7 := leh21_9.1 _ _ tp14_7
  replace tp18_8 := leh21_9.1 _ _ tp18_8
  refine jok_b (t_gR wh21_9 ta0 rfl rfl) (fun p25_11 tp25_11 => ?_)
  refine jok_b (t_gR wh21_9 tp25_11 rfl rfl) (fun p28_12 tp28_12 => ?_)
  refine jok_b (t_al wh21_9 tp28_12 rfl (by omega) (by omega)) (fun v32_13 pv32_13 => ?_)
  refine jok_b (t_gR wh21_9 ta0 rfl rfl) (fun p35_14 tp35_14 => ?_)
  refine jok_b (t_gR wh21_9 tp35_14 rfl rfl) (fun p38_15 tp38_15 => ?_)
  refine jok_b (t_as wh21_9 tp38_15 rfl (by omega) (by omega) trivial (fun q => by cases q)) (fun h43_16 wh43_16 => ?_)
  obtain ⟨wh43_16, rh43_16⟩ := wh43_16
  exact jok_s ⟨Γ10, leh21_9, ⟨wh43_16, jX_l trivial⟩⟩
set_option maxHeartbeats 1000000 in
theorem S_X11_chair {g : jGh} {Γ : Nat → Option Nat} {n : Nat} {a0 : Nat} {x1 : Int32} {x2 : Int32} {h : jH} (hn : 6000 ≤ n) (hg : jgok g) (w : jW (jKd g) Γ h) (ta0 : Γ a0 = some 19) : jok (F_X11_chair n a0 x1 x2 h) (fun q => ∃ Γ2, jle Γ Γ2 ∧ jW (jKd g) Γ2 q.2 ∧ jXok [2] (fun v => 0 ≤ v.toInt ∧ v.toInt ≤ 1) q.1) := by
  unfold F_X11_chair
  try rw [t_cv w ta0 rfl]
  refine jok_b (S_X11_requirePlace hn hg w ta0) (fun q2_1 wq2_1 => ?_)
  obtain ⟨wq2_1, pq2_1⟩ := wq2_1
  refine jok_t pq2_1 (fun k9 q9 => ⟨Γ, jle_rfl, ⟨wq2_1, jX_r (jsub9 q9 (by decide))⟩⟩) (fun r2_2 pr2_2 => ?_)
  refine jok_b (t_gR wq2_1 ta0 rfl rfl) (fun p6_3 tp6_3 => ?_)
  refine jok_b (t_gR wq2_1 ta0 rfl rfl) (fun p10_4 tp10_4 => ?_)
  try rw [t_cv wq2_1 tp6_3 rfl]
  refine jok_b (S_X0_remember hn hg wq2_1 tp6_3 tp10_4) (fun h13_5 wh13_5 => ?_)
  obtain ⟨Γ6, leh13_5, wh13_5⟩ := wh13_5
  replace ta0 := leh13_5.1 _ _ ta0
  replace tp6_3 := leh13_5.1 _ _ tp6_3
  replace tp10_4 := leh13_5.1 _ _ tp10_4
  refine jok_b (t_gR wh13_5 ta0 rfl rfl) (fun p17_7 tp17_7 => ?_)
  refine jok_b2 (t_gI wh13_5 tp17_7 rfl rfl) (fun v20_8 ev20_8 pv20_8 => ?_)
  refine jok_b (t_gR wh13_5 ta0 rfl rfl) (fun p25_9 tp25_9 => ?_)
  refine jok_b (S_X11_withBit hn hg wh13_5) (fun v31_10 pv31_10 => ?_)
  refine jok_b (t_pI wh13_5 tp25_9 rfl rfl trivial) (fun h34_11 wh34_11 => ?_)
  obtain ⟨wh34_11, jh34_11, rh34_11⟩ := wh34_11
  refine jok_b (t_gR wh34_11 ta0 rfl rfl) (fun p38_12 tp38_12 => ?_)
  refine jok_b2 (t_gI wh34_11 tp38_12 rfl rfl) (fun v41_13 ev41_13 pv41_13 => ?_)
  refine jok_eq (fun c14 d14 => ?_) (fun c14 => ?_)
  · have f15 : ((0 : Int32)).toInt = 0 := rfl
    exact jok_s ⟨Γ6, leh13_5, ⟨wh34_11, jX_l (show jI 0 1 (0 : Int32) from ⟨by omega, by omega⟩)⟩⟩
  · have f16 : ((1 : Int32)).toInt = 1 := rfl
    exact jok_s ⟨Γ6, leh13_5, ⟨wh34_11, jX_l (show jI 0 1 (1 : Int32) from ⟨by omega, by omega⟩)⟩⟩
set_option maxHeartbeats 1000000 in
theorem S_X11_hours {g : jGh} {Γ : Nat → Option Nat} {n : Nat} {a0 : Nat} {x1 : Int32} {h : jH} (hn : 6000 ≤ n) (hg : jgok g) (w : jW (jKd g) Γ h) (ta0 : Γ a0 = some 19) : jok (F_X11_hours n a0 x1 h) (fun q => ∃ Γ2, jle Γ Γ2 ∧ jW (jKd g) Γ2 q.2 ∧ jXok [0] (fun v => True) q.1) := by
  unfold F_X11_hours
  try rw [t_cv w ta0 rfl]
  refine jok_b (S_X11_requireNumber hn hg w ta0) (fun q5_1 wq5_1 => ?_)
  obtain ⟨wq5_1, pq5_1⟩ := wq5_1
  refine jok_t pq5_1 (fun k9 q9 => ⟨Γ, jle_rfl, ⟨wq5_1, jX_r (jsub9 q9 (by decide))⟩⟩) (fun r5_2 pr5_2 => ?_)
  have f3 : ((1 : Int32)).toInt = 1 := rfl
  have f4 : ((80 : Int32)).toInt = 80 := rfl
  have pr5_2_9 := pr5_2
  try dsimp only at pr5_2_9
  refine jok_b (t_gR wq5_1 ta0 rfl rfl) (fun p9_5 tp9_5 => ?_)
  refine jok_b (t_gR wq5_1 ta0 rfl rfl) (fun p13_6 tp13_6 => ?_)
  try rw [t_cv wq5_1 tp9_5 rfl]
  refine jok_b (S_X0_remember hn hg wq5_1 tp9_5 tp13_6) (fun h16_7 wh16_7 => ?_)
  obtain ⟨Γ8, leh16_7, wh16_7⟩ := wh16_7
  replace ta0 := leh16_7.1 _ _ ta0
  replace tp9_5 := leh16_7.1 _ _ tp9_5
  replace tp13_6 := leh16_7.1 _ _ tp13_6
  refine jok_b (t_gR wh16_7 ta0 rfl rfl) (fun p20_9 tp20_9 => ?_)
  refine jok_b (t_gR wh16_7 ta0 rfl rfl) (fun p24_10 tp24_10 => ?_)
  try rw [t_cv wh16_7 tp20_9 rfl]
  refine jok_b (S_X1_run hn hg wh16_7 tp20_9 tp24_10 (by omega) (by omega)) (fun q28_11 wq28_11 => ?_)
  obtain ⟨wq28_11, pq28_11⟩ := wq28_11
  exact jok_s ⟨Γ8, leh16_7, ⟨wq28_11, jX_l trivial⟩⟩
end
section
/-! the reference: the tape's length anew -/
theorem jKd_L2 {g : jGh} {x : Int} {c : Nat} (hc : c ≠ 20) : jKd (g.1, g.2.1, x, g.2.2.2) c = jKd g c := by
  unfold jKd
  split <;> first | rfl | exact absurd rfl hc
theorem t_pL2 {g : jGh} {Γ : Nat → Option Nat} {h : jH} {a : Nat} {x : Int32} (w : jW (jKd g) Γ h) (hu : ∀ a b c, 9 ≤ c → Γ a = some c → Γ b = some c → a = b) (ha : Γ a = some 20) : jok (jpf 10 h a 9 (.int x)) (fun h1 => jW (jKd (g.1, g.2.1, x.toInt, g.2.2.2)) Γ h1 ∧ jgf 10 h1 a 9 = some (.int x) ∧ jfr h h1 a 9) := by
  obtain ⟨vs, e1, e2, e3⟩ := t_obj w ha rfl
  have hlt : 9 < vs.length := by rw [e2]; exact Nat.le_of_ble_eq_true rfl
  refine ⟨jup h a (.inl (10, vs.set 9 (.int x))), ?_, ?_, ?_, jfr_up e1⟩
  · unfold jpf
    rw [e1]
    dsimp only
    rw [if_pos ⟨rfl, hlt⟩]
  · intro b c hb
    refine ⟨(w b c hb).1, ?_⟩
    show okE Γ (jKd (g.1, g.2.1, x.toInt, g.2.2.2) c) (if b = a then some _ else h.2 b)
    by_cases hq : b = a
    · subst hq
      cases ha.symm.trans hb
      rw [if_pos rfl]
      refine ⟨_, rfl, by rw [List.length_set]; exact e2, fun j F9 hj => ?_⟩
      by_cases hq : j = 9
      · subst hq
        cases hj
        exact ⟨.int x, by rw [List.getElem?_set_self hlt], x, rfl, rfl⟩
      · have hj2 : (match jKd g 20 with | .inr (.inr q) => q.2 | _ => [])[j]? = some F9 := by
          match j, hq, hj with
          | 0, _, hj => exact hj
          | 1, _, hj => exact hj
          | 2, _, hj => exact hj
          | 3, _, hj => exact hj
          | 4, _, hj => exact hj
          | 5, _, hj => exact hj
          | 6, _, hj => exact hj
          | 7, _, hj => exact hj
          | 8, _, hj => exact hj
          | 10, _, hj => exact hj
          | 11, _, hj => exact hj
          | 12, _, hj => exact hj
          | 13, _, hj => exact hj
          | 14, _, hj => exact hj
          | 15, _, hj => exact hj
          | 16, _, hj => exact hj
          | 17, _, hj => exact hj
          | 18, _, hj => exact hj
          | 19, _, hj => exact hj
          | 20, _, hj => exact hj
          | 21, _, hj => exact hj
          | j + 22, _, hj => cases hj
        obtain ⟨v9, f1, f2⟩ := e3 j F9 hj2
        exact ⟨v9, by rw [List.getElem?_set_ne (Ne.symm hq)]; exact f1, f2⟩
    · rw [if_neg hq]
      have hc : c ≠ 20 := fun q => hq (hu b a 20 (by decide) (by rw [hb, q]) ha)
      rw [jKd_L2 hc]
      exact (w b c hb).2
  · unfold jgf
    show (match (if a = a then some _ else h.2 a) with | some (.inl o) => if o.1 = 10 then o.2[9]? else none | _ => none) = _
    rw [if_pos rfl]
    dsimp only
    rw [if_pos rfl, List.getElem?_set_self hlt]
theorem S_X12_uses {g : jGh} {Γ : Nat → Option Nat} {n a0 : Nat} {h : jH} (hg : jgok g) (w : jW (jKd g) Γ h) (ta0 : Γ a0 = some 20) (hu : ∀ a b c, 9 ≤ c → Γ a = some c → Γ b = some c → a = b) : jok (F_X12_uses n a0 h) (fun q => jW (jKd (g.1, g.2.1, (0 : Int32).toInt, g.2.2.2)) Γ q) := by
  obtain ⟨-, q0, q4, -⟩ := id hg
  unfold F_X12_uses
  refine jok_b (t_pI w ta0 rfl rfl trivial) (fun h2 w2 => ?_)
  obtain ⟨w2, -, -⟩ := w2
  refine jok_b (t_gI w2 ta0 rfl rfl) (fun v7 l7 => ?_)
  have l7 : v7.toInt = g.2.2.1 := l7
  refine jok_b (t_pI w2 ta0 rfl rfl (by constructor <;> omega)) (fun h10 w10 => ?_)
  obtain ⟨w10, -, -⟩ := w10
  refine jok_b (t_pL2 w10 hu ta0) (fun h15 w15 => ?_)
  obtain ⟨w15, -, -⟩ := w15
  refine jok_b (t_pI w15 ta0 rfl rfl (by constructor <;> decide)) (fun h20 w20 => ?_)
  exact jok_s w20.1
theorem S_X12_end {g : jGh} {Γ : Nat → Option Nat} {n a0 : Nat} {x1 : Int32} {h : jH} (w : jW (jKd g) Γ h) (ta0 : Γ a0 = some 20) (hu : ∀ a b c, 9 ≤ c → Γ a = some c → Γ b = some c → a = b) : jok (F_X12_end n a0 x1 h) (fun q => jW (jKd (g.1, g.2.1, if 0 ≤ x1.toInt ∧ x1.toInt ≤ g.2.2.1 then x1.toInt else g.2.2.1, g.2.2.2)) Γ q.2 ∧ q.1 = (if 0 ≤ x1.toInt ∧ x1.toInt ≤ g.2.2.1 then 1 else 0)) := by
  have ez : (0 : Int32).toInt = 0 := rfl
  unfold F_X12_end
  refine jok_b (t_pI w ta0 rfl rfl trivial) (fun h2 w2 => ?_)
  obtain ⟨w2, -, -⟩ := w2
  refine jok_lt (fun c => ?_) (fun c => ?_)
  · rw [if_neg (by omega), if_neg (by omega)]
    exact jok_s ⟨w2, rfl⟩
  refine jok_b (t_gI w2 ta0 rfl rfl) (fun v11 l11 => ?_)
  have l11 : v11.toInt = g.2.2.1 := l11
  refine jok_le (fun d => ?_) (fun d => ?_)
  · rw [if_pos (by omega), if_pos (by omega)]
    refine jok_b (t_pL2 w2 hu ta0) (fun h21 w21 => ?_)
    exact jok_s ⟨w21.1, rfl⟩
  · rw [if_neg (by omega), if_neg (by omega)]
    exact jok_s ⟨w2, rfl⟩
theorem jbyte (x : Int32) : jI (-128) 127 (jnar 1 (x.toInt8.toInt32)) := by
  have h : ∀ y : Int8, jI (-128) 127 y.toInt32 := fun y => by
    have e : y.toInt32.toInt = y.toInt := Int8.toInt_toInt32 y
    have h1 := Int8.le_toInt y
    have h2 := Int8.toInt_le y
    exact ⟨by rw [e]; exact h1, by rw [e]; exact h2⟩
  exact h _
theorem S_X12_feed_60 {Γ : Nat → Option Nat} {n : Nat} (hn : 6000 ≤ n) (hu : ∀ a b c, 9 ≤ c → Γ a = some c → Γ b = some c → a = b) : ∀ (k : Nat) {g : jGh} {a0 : Nat} {x6 : Int32} {h : jH}, jW (jKd g) Γ h → Γ a0 = some 20 → 0 ≤ g.2.2.1 → g.2.2.1 ≤ 380 → 0 ≤ x6.toInt → x6.toInt ≤ 20 → 20 - x6.toInt < k → jok (F_X12_feed_60 n k a0 x6 h) (fun q => jW (jKd (g.1, g.2.1, g.2.2.1 + 20, g.2.2.2)) Γ q.2 ∧ q.1.toInt = g.2.2.1 + 20)
  | 0, g, a0, x6, h, w, ta, h0, h4, l0, l1, hk => by omega
  | k + 1, g, a0, x6, h, w, ta, h0, h4, l0, l1, hk => by
    show jok (F_X12_feed_60_b n (F_X12_feed_60 n k) a0 x6 h) _
    unfold F_X12_feed_60_b
    have e20 : (20 : Int32).toInt = 20 := rfl
    have e4 : (4 : Int32).toInt = 4 := rfl
    have e1 : (1 : Int32).toInt = 1 := rfl
    refine jok_le (fun c => ?_) (fun c => ?_)
    · refine jok_b (t_gI w ta rfl rfl) (fun v108 l108 => ?_)
      have l108 : v108.toInt = g.2.2.1 := l108
      refine jok_b (t_pL2 w hu ta) (fun h114 w114 => ?_)
      obtain ⟨w114, -, -⟩ := w114
      have ea : (v108 + (20 : Int32)).toInt = g.2.2.1 + 20 := by rw [jadd (by omega) (by omega), l108, e20]
      rw [ea] at w114
      refine jok_b (t_gI w114 ta rfl rfl) (fun v118 l118 => ?_)
      exact jok_s ⟨w114, l118⟩
    · refine jok_b (t_gR w ta rfl rfl) (fun p68 t68 => ?_)
      refine jok_b (t_gI w ta rfl rfl) (fun v72 l72 => ?_)
      have l72 : v72.toInt = g.2.2.1 := l72
      refine jok_b (t_gR w ta rfl rfl) (fun p79 t79 => ?_)
      have ed : (x6 / (4 : Int32)).toInt = x6.toInt / 4 := jdivL l0 e4 (by decide)
      refine jok_b (t_al w t79 rfl (by omega) (by omega)) (fun v86 l86 => ?_)
      have ea : (v72 + x6).toInt = v72.toInt + x6.toInt := jadd (by omega) (by omega)
      refine jok_b (t_as w t68 rfl (by omega) (by omega) ?_ (fun q => by cases q)) (fun h99 w99 => ?_)
      · exact jbyte _
      obtain ⟨w99, -⟩ := w99
      have es : (x6 + (1 : Int32)).toInt = x6.toInt + 1 := by rw [jadd (by omega) (by omega), e1]
      exact S_X12_feed_60 hn hu k w99 ta h0 h4 (by omega) (by omega) (by omega)
theorem S_X12_feed {g : jGh} {Γ : Nat → Option Nat} {n a0 : Nat} {x1 x2 x3 x4 x5 : Int32} {h : jH} (hn : 6000 ≤ n) (hg : jgok g) (w : jW (jKd g) Γ h) (ta0 : Γ a0 = some 20) (hu : ∀ a b c, 9 ≤ c → Γ a = some c → Γ b = some c → a = b) : jok (F_X12_feed n a0 x1 x2 x3 x4 x5 h) (fun q => jW (jKd (g.1, g.2.1, if 380 < g.2.2.1 then g.2.2.1 else g.2.2.1 + 20, g.2.2.2)) Γ q.2 ∧ q.1.toInt = (if 380 < g.2.2.1 then -1 else g.2.2.1 + 20)) := by
  obtain ⟨-, q0, q4, -⟩ := id hg
  have e400 : (400 : Int32).toInt = 400 := rfl
  have e20 : (20 : Int32).toInt = 20 := rfl
  unfold F_X12_feed
  refine jok_b (t_pI w ta0 rfl rfl trivial) (fun h2 w2 => ?_)
  obtain ⟨w2, -, -⟩ := w2
  refine jok_b (t_gI w2 ta0 rfl rfl) (fun v6 l6 => ?_)
  have l6 : v6.toInt = g.2.2.1 := l6
  have ea : (v6 + (20 : Int32)).toInt = v6.toInt + 20 := by rw [jadd (by omega) (by omega), e20]
  refine jok_le (fun c => ?_) (fun c => ?_)
  · rw [if_neg (by omega), if_neg (by omega)]
    refine jok_b (t_gR w2 ta0 rfl rfl) (fun p21 t21 => ?_)
    refine jok_b (t_as w2 t21 rfl (by decide) (by decide) trivial (fun q => by cases q)) (fun h26 w26 => ?_)
    obtain ⟨w26, -⟩ := w26
    refine jok_b (t_gR w26 ta0 rfl rfl) (fun p28 t28 => ?_)
    refine jok_b (t_as w26 t28 rfl (by decide) (by decide) trivial (fun q => by cases q)) (fun h33 w33 => ?_)
    obtain ⟨w33, -⟩ := w33
    refine jok_b (t_gR w33 ta0 rfl rfl) (fun p35 t35 => ?_)
    refine jok_b (t_as w33 t35 rfl (by decide) (by decide) trivial (fun q => by cases q)) (fun h40 w40 => ?_)
    obtain ⟨w40, -⟩ := w40
    refine jok_b (t_gR w40 ta0 rfl rfl) (fun p42 t42 => ?_)
    refine jok_b (t_as w40 t42 rfl (by decide) (by decide) trivial (fun q => by cases q)) (fun h48 w48 => ?_)
    obtain ⟨w48, -⟩ := w48
    refine jok_b (t_gR w48 ta0 rfl rfl) (fun p50 t50 => ?_)
    refine jok_b (t_as w48 t50 rfl (by decide) (by decide) trivial (fun q => by cases q)) (fun h56 w56 => ?_)
    obtain ⟨w56, -⟩ := w56
    exact S_X12_feed_60 hn hu n w56 ta0 q0 (by omega) (by decide) (by decide) (by show 20 - (0 : Int) < _; omega)
  · rw [if_pos (by omega), if_pos (by omega)]
    exact jok_s ⟨w2, rfl⟩
end
section
/-! sewing: the number of rings is not changed by what is remembered -/
theorem rings_as2 {n a0 p p1 t : Nat} {i x : Int32} {h h1 : jH} (ep : jgR 10 h a0 1 = some p1) (hne : p ≠ p1) (e : jas t h p i x = some h1) : F_X12_rings n a0 h1 = F_X12_rings n a0 h := by
  unfold F_X12_rings
  rw [jgR_as e, ep]
  show (jal 0 h1 p1 _).bind _ = (jal 0 h p1 _).bind _
  have e9 : jal 0 h1 p1 (0 : Int32) = jal 0 h p1 (0 : Int32) := by
    obtain ⟨N, f, e1, -, -, rfl⟩ := jas_o e
    unfold jal
    show (match (if p1 = p then some _ else h.2 p1) with | some (.inr (.inl x)) => if x.1 = 0 ∧ ¬ ((0 : Int32) < 0 ∨ x.2.1 ≤ (0 : Int32).toNatClampNeg) then some (x.2.2 (0 : Int32).toNatClampNeg) else none | _ => none) = _
    rw [if_neg (Ne.symm hne)]
    rfl
  rw [e9]
theorem Q_remembers_55 {n a0 p5 p1 : Nat} (hne : p5 ≠ p1) : ∀ (k : Nat) {x1 : Int32} {h q : jH}, F_X12_remembers_55 n k a0 x1 h = some q → jgR 10 h a0 5 = some p5 → jgR 10 h a0 1 = some p1 → F_X12_rings n a0 q = F_X12_rings n a0 h
  | 0, x1, h, q, e, e5, e1 => by cases e
  | k + 1, x1, h, q, e, e5, e1 => by
    have e : F_X12_remembers_55_b n (F_X12_remembers_55 n k) a0 x1 h = some q := e
    unfold F_X12_remembers_55_b at e
    split at e
    · cases e; rfl
    · obtain ⟨p63, q1, e⟩ := jbind e
      cases e5.symm.trans q1
      obtain ⟨v70, q2, e⟩ := jbind e
      obtain ⟨p79, q3, e⟩ := jbind e
      obtain ⟨v83, q4, e⟩ := jbind e
      obtain ⟨h84, q5, e⟩ := jbind e
      rw [Q_remembers_55 hne k e (by rw [jgR_as q5]; exact e5) (by rw [jgR_as q5]; exact e1)]
      exact rings_as2 e1 hne q5
theorem Q_remembers_11 {n a0 p5 p1 : Nat} (hne : p5 ≠ p1) : ∀ (k : Nat) {x1 : Int32} {h q : jH}, F_X12_remembers_11 n k a0 x1 h = some q → jgR 10 h a0 5 = some p5 → jgR 10 h a0 1 = some p1 → F_X12_rings n a0 q = F_X12_rings n a0 h
  | 0, x1, h, q, e, e5, e1 => by cases e
  | k + 1, x1, h, q, e, e5, e1 => by
    have e : F_X12_remembers_11_b n (F_X12_remembers_11 n k) a0 x1 h = some q := e
    unfold F_X12_remembers_11_b at e
    split at e
    · exact Q_remembers_55 hne n e e5 e1
    · obtain ⟨p19, q1, e⟩ := jbind e
      cases e5.symm.trans q1
      obtain ⟨p24, q2, e⟩ := jbind e
      obtain ⟨v32, q3, e⟩ := jbind e
      obtain ⟨h33, q5, e⟩ := jbind e
      rw [Q_remembers_11 hne k e (by rw [jgR_as q5]; exact e5) (by rw [jgR_as q5]; exact e1)]
      exact rings_as2 e1 hne q5
theorem rings_pf2 {n a0 k : Nat} {v : Value} {h h1 : jH} (hk : k ≠ 1) (e : jpf 10 h a0 k v = some h1) : F_X12_rings n a0 h1 = F_X12_rings n a0 h := by
  obtain ⟨fs, e1, -, rfl⟩ := jpf_o e
  unfold F_X12_rings
  have er : jgR 10 (jup h a0 (.inl (10, fs.set k v))) a0 1 = jgR 10 h a0 1 := by
    unfold jgR
    rw [jfr_up e1 10 a0 1 (Or.inr (Ne.symm hk))]
  rw [er]
  congr 1
  funext p
  have e9 : jal 0 (jup h a0 (.inl (10, fs.set k v))) p (0 : Int32) = jal 0 h p (0 : Int32) := by
    unfold jal
    show (match (if p = a0 then some _ else h.2 p) with | some (.inr (.inl x)) => if x.1 = 0 ∧ ¬ ((0 : Int32) < 0 ∨ x.2.1 ≤ (0 : Int32).toNatClampNeg) then some (x.2.2 (0 : Int32).toNatClampNeg) else none | _ => none) = _
    by_cases q : p = a0
    · subst q
      rw [if_pos rfl, e1]
    · rw [if_neg q]
      rfl
  rw [e9]
theorem Q_remembers {g : jGh} {Γ : Nat → Option Nat} {n a0 : Nat} {h q : jH} (w : jW (jKd g) Γ h) (ta0 : Γ a0 = some 20) (e : F_X12_remembers n a0 h = some q) : F_X12_rings n a0 q = F_X12_rings n a0 h := by
  obtain ⟨p5, e5, t5⟩ := t_gR (k := 5) w ta0 rfl rfl
  obtain ⟨p1, e1, t1⟩ := t_gR (k := 1) w ta0 rfl rfl
  have hne : p5 ≠ p1 := jneq t5 t1 (by decide)
  unfold F_X12_remembers at e
  obtain ⟨v1, q1, e⟩ := jbind e
  split at e
  · exact Q_remembers_11 hne n e e5 e1
  · obtain ⟨v45, q2, e⟩ := jbind e
    obtain ⟨h50, q3, e⟩ := jbind e
    have er : ∀ k, k ≠ 7 → jgR 10 h50 a0 k = jgR 10 h a0 k := fun k hk => by
      obtain ⟨fs, z1, -, rfl⟩ := jpf_o q3
      unfold jgR
      rw [jfr_up z1 10 a0 k (Or.inr hk)]
    rw [Q_remembers_55 hne n e (by rw [er 5 (by decide)]; exact e5) (by rw [er 1 (by decide)]; exact e1)]
    exact rings_pf2 (by decide) q3
theorem jat_ne {v : Int32} (h : 11 ≤ v.toInt) : ¬ (0 : Int32).toNatClampNeg = v.toNatClampNeg := by
  have h9 : v.toNatClampNeg = v.toInt.toNat := rfl
  have h8 : (0 : Int32).toNatClampNeg = 0 := rfl
  omega
theorem S_X12_hangs_8 {g : jGh} {Γ : Nat → Option Nat} {n : Nat} (hn : 6000 ≤ n) (hg : jgok g) : ∀ (k : Nat) {a0 : Nat} {x1 x2 x3 x4 : Int32} {h : jH}, jW (jKd g) Γ h → Γ a0 = some 20 → 0 ≤ x1.toInt → x1.toInt ≤ 31 → 0 ≤ x3.toInt → x3.toInt ≤ 7 → 0 ≤ x4.toInt → x4.toInt ≤ 8 → 8 - x4.toInt < k → (∀ r, F_X12_rings n a0 h = some r → 0 ≤ r.toInt ∧ r.toInt ≤ 7) → jok (F_X12_hangs_8 n k a0 x1 x2 x3 x4 h) (fun q => jW (jKd g) Γ q)
  | 0, a0, x1, x2, x3, x4, h, w, ta, l1, u1, l3, u3, l4, u4, hk, hr => by omega
  | k + 1, a0, x1, x2, x3, x4, h, w, ta, l1, u1, l3, u3, l4, u4, hk, hr => by
    show jok (F_X12_hangs_8_b n (F_X12_hangs_8 n k) a0 x1 x2 x3 x4 h) _
    unfold F_X12_hangs_8_b
    have e0 : (0 : Int32).toInt = 0 := rfl
    have e1 : (1 : Int32).toInt = 1 := rfl
    have e6 : (6 : Int32).toInt = 6 := rfl
    have e8 : (8 : Int32).toInt = 8 := rfl
    obtain ⟨p, ep, tp⟩ := t_gR (k := 1) w ta rfl rfl
    refine jok_le (fun c => ?_) (fun c => ?_)
    · refine jok_r ep ?_
      refine jok_b (S_X12_at hn hg w (by omega) (by omega) (by omega) (by omega)) (fun v39 l39 => ?_)
      refine jok_b2 (t_as w tp rfl (by omega) (by omega) (show jRw g v39.toInt.toNat x1 from ⟨⟨by omega, by omega, by omega⟩, Or.inl (by omega)⟩) (fun q => by cases q)) (fun h43 q43 w43 => ?_)
      obtain ⟨w43, -⟩ := w43
      have r43 := rings_as (n := n) ep q43 (jat_ne (by omega))
      have ep43 : jgR 10 h43 a0 1 = some p := by rw [jgR_as q43]; exact ep
      refine jok_r ep43 ?_
      refine jok_b (S_X12_at hn hg w43 (by omega) (by omega) (by omega) (by omega)) (fun v50 l50 => ?_)
      refine jok_b2 (t_as w43 tp rfl (by omega) (by omega) (show jRw g v50.toInt.toNat x2 from ⟨⟨by omega, by omega, by omega⟩, Or.inl (by omega)⟩) (fun q => by cases q)) (fun h54 q54 w54 => ?_)
      obtain ⟨w54, -⟩ := w54
      have r54 := rings_as (n := n) ep43 q54 (jat_ne (by omega))
      have ep54 : jgR 10 h54 a0 1 = some p := by rw [jgR_as q54]; exact ep43
      refine jok_r ep54 ?_
      refine jok_b (S_X12_at hn hg w54 (by omega) (by omega) (by omega) (by omega)) (fun v62 l62 => ?_)
      refine jok_b2 (t_as w54 tp rfl (by omega) (by omega) (show jRw g v62.toInt.toNat 1 from ⟨⟨by omega, by omega, by omega⟩, Or.inl (by omega)⟩) (fun q => by cases q)) (fun h66 q66 w66 => ?_)
      obtain ⟨w66, -⟩ := w66
      have r66 := rings_as (n := n) ep54 q66 (jat_ne (by omega))
      have ep66 : jgR 10 h66 a0 1 = some p := by rw [jgR_as q66]; exact ep54
      refine jok_r ep66 ?_
      refine jok_b2 (t_al w66 tp rfl (by omega) (by omega)) (fun v73 q73 l73 => ?_)
      have er : F_X12_rings n a0 h66 = some v73 := by
        unfold F_X12_rings
        rw [ep66]
        show (jal 0 h66 p (0 : Int32)).bind _ = _
        rw [q73]
        rfl
      have hb := hr v73 (by rw [← r43, ← r54, ← r66]; exact er)
      have ea : (v73 + (1 : Int32)).toInt = v73.toInt + 1 := by rw [jadd (by omega) (by omega), e1]
      refine jok_b (t_as w66 tp rfl (by omega) (by omega) (show jRw g (0 : Int32).toInt.toNat (v73 + (1 : Int32)) from ⟨⟨by omega, by omega, by omega⟩, Or.inl (by omega)⟩) (fun q => by cases q)) (fun h76 w76 => ?_)
      exact jok_s w76.1
    · refine jok_r ep ?_
      refine jok_b (S_X12_at hn hg w (by omega) (by omega) (by omega) (by omega)) (fun v22 l22 => ?_)
      refine jok_b2 (t_as w tp rfl (by omega) (by omega) (show jRw g v22.toInt.toNat 0 from ⟨⟨by omega, by omega, by omega⟩, Or.inl (by omega)⟩) (fun q => by cases q)) (fun h26 q26 w26 => ?_)
      obtain ⟨w26, -⟩ := w26
      have r26 := rings_as (n := n) ep q26 (jat_ne (by omega))
      have ea : (x4 + (1 : Int32)).toInt = x4.toInt + 1 := by rw [jadd (by omega) (by omega), e1]
      exact S_X12_hangs_8 hn hg k w26 ta l1 u1 l3 u3 (by omega) (by omega) (by omega) (by rw [r26]; exact hr)
theorem S_X12_hangs {g : jGh} {Γ : Nat → Option Nat} {n a0 : Nat} {x1 x2 : Int32} {h : jH} (hn : 6000 ≤ n) (hg : jgok g) (w : jW (jKd g) Γ h) (ta0 : Γ a0 = some 20) (l1 : 0 ≤ x1.toInt) (u1 : x1.toInt ≤ 31) (hr : ∀ r, F_X12_rings n a0 h = some r → 0 ≤ r.toInt ∧ r.toInt ≤ 7) : jok (F_X12_hangs n a0 x1 x2 h) (fun q => jW (jKd g) Γ q) := by
  unfold F_X12_hangs
  rw [t_cv w ta0 rfl]
  refine jok_b2 (S_X12_rings hn hg w ta0) (fun v1 q1 _ => ?_)
  obtain ⟨l, u⟩ := hr v1 q1
  exact S_X12_hangs_8 hn hg n w ta0 l1 u1 l u (by decide) (by decide) (by show 8 - (0 : Int) < _; omega) hr
theorem jthr0 {n a0 : Nat} {x2 : Int32} {h : jH} {q : Int32 × jH} (e : F_X12_throwsIf n a0 0 x2 h = some q) : q.2 = h := by
  unfold F_X12_throwsIf at e
  rw [if_pos rfl, if_pos (Or.inl rfl)] at e
  cases e
  rfl
theorem jthr1 {n a0 : Nat} {x2 : Int32} {h : jH} {q : Int32 × jH} (e : F_X12_throwsIf n a0 1 x2 h = some q) : q.1 = 1 := by
  unfold F_X12_throwsIf at e
  rw [if_neg (by decide)] at e
  obtain ⟨h6, -, e⟩ := jbind e
  rw [if_pos (Or.inr rfl)] at e
  cases e
  rfl
theorem S_X12_sew_70 {g : jGh} {Γ : Nat → Option Nat} {n a0 : Nat} {x1 x2 s1 : Int32} {h : jH} (hn : 6000 ≤ n) (hg : jgok g) (w : jW (jKd g) Γ h) (ta0 : Γ a0 = some 20) (hs : s1 = 1 ∨ (s1 = 0 ∧ 0 ≤ x1.toInt ∧ x1.toInt ≤ 31 ∧ ∀ r, F_X12_rings n a0 h = some r → 0 ≤ r.toInt ∧ r.toInt ≤ 7)) : jok (F_X12_sew_70 n a0 x1 x2 a0 s1 h) (fun q => jW (jKd g) Γ q.2) := by
  unfold F_X12_sew_70
  rw [t_cv w ta0 rfl]
  have hb : 0 ≤ s1.toInt ∧ s1.toInt ≤ 1 := by rcases hs with rfl | ⟨rfl, -⟩ <;> decide
  refine jok_b2 (S_X12_throwsIf hn hg w ta0 hb.1 hb.2) (fun q71 e71 w71 => ?_)
  obtain ⟨w71, -⟩ := w71
  rcases hs with rfl | ⟨rfl, l1, u1, hr⟩
  · rw [if_neg (by rw [jthr1 e71]; decide)]
    exact jok_s w71
  · have eh := jthr0 e71
    obtain ⟨r71, h71⟩ := q71
    have eh : h71 = h := eh
    subst eh
    dsimp only
    by_cases c : r71 = 0
    · rw [if_pos c, t_cv w71 ta0 rfl]
      refine jok_b2 (S_X12_remembers hn hg w71 ta0) (fun h80 e80 w80 => ?_)
      have r80 := Q_remembers w71 ta0 e80
      rw [t_cv w80 ta0 rfl]
      refine jok_b (S_X12_hangs hn hg w80 ta0 l1 u1 (by rw [r80]; exact hr)) (fun h86 w86 => ?_)
      rw [t_cv w86 ta0 rfl]
      refine jok_b (S_X12_lastRing hn hg w86 ta0) (fun v90 _ => ?_)
      exact jok_s w86
    · rw [if_neg c]
      exact jok_s w71
theorem S_X12_sew_33 {g : jGh} {Γ : Nat → Option Nat} {n a0 : Nat} {x1 x2 s1 : Int32} {h : jH} (hn : 6000 ≤ n) (hg : jgok g) (w : jW (jKd g) Γ h) (ta0 : Γ a0 = some 20) (hs : s1 = 0 ∨ s1 = 1) (l1 : 0 ≤ x1.toInt) (u1 : x1.toInt ≤ 31) : jok (F_X12_sew_33 n a0 x1 x2 a0 s1 h) (fun q => jW (jKd g) Γ q.2) := by
  unfold F_X12_sew_33
  rw [t_cv w ta0 rfl]
  have hb : 0 ≤ s1.toInt ∧ s1.toInt ≤ 1 := by rcases hs with rfl | rfl <;> decide
  have e8 : (8 : Int32).toInt = 8 := rfl
  refine jok_b (S_X12_throwsIf hn hg w ta0 hb.1 hb.2) (fun q34 w34 => ?_)
  obtain ⟨w34, -⟩ := w34
  refine jok_eq (fun _ _ => ?_) (fun _ => jok_s w34)
  rw [t_cv w34 ta0 rfl]
  refine jok_b2 (S_X12_rings hn hg w34 ta0) (fun v42 e42 l42 => ?_)
  refine jok_eq (fun _ _ => S_X12_sew_70 hn hg w34 ta0 (Or.inl rfl)) (fun c => ?_)
  have hr : ∀ r, F_X12_rings n a0 q34.2 = some r → 0 ≤ r.toInt ∧ r.toInt ≤ 7 := fun r er => by
    cases e42.symm.trans er
    omega
  rw [t_cv w34 ta0 rfl]
  refine jok_b (S_X12_leastPlace hn hg w34 ta0) (fun v52 _ => ?_)
  rw [t_cv w34 ta0 rfl]
  refine jok_b (S_X12_mostPlace hn hg w34 ta0) (fun v56 _ => ?_)
  refine jok_b (S_X12_in hn hg w34) (fun v59 _ => ?_)
  exact jok_eq (fun _ _ => S_X12_sew_70 hn hg w34 ta0 (Or.inl rfl)) (fun _ => S_X12_sew_70 hn hg w34 ta0 (Or.inr ⟨rfl, l1, u1, hr⟩))
theorem S_X12_sew {g : jGh} {Γ : Nat → Option Nat} {n a0 : Nat} {x1 x2 : Int32} {h : jH} (hn : 6000 ≤ n) (hg : jgok g) (w : jW (jKd g) Γ h) (ta0 : Γ a0 = some 20) : jok (F_X12_sew n a0 x1 x2 h) (fun q => jW (jKd g) Γ q.2) := by
  have ez : (0 : Int32).toInt = 0 := rfl
  unfold F_X12_sew
  refine jok_b (t_pI w ta0 rfl rfl trivial) (fun h2 w2 => ?_)
  obtain ⟨w2, -, -⟩ := w2
  refine jok_b (S_X12_noPlace hn hg w2) (fun v7 l7 => ?_)
  rw [t_cv w2 ta0 rfl]
  refine jok_b (S_X12_throwsIf hn hg w2 ta0 (by omega) (by omega)) (fun q11 w11 => ?_)
  obtain ⟨w11, l11⟩ := w11
  have l11 : q11.1.toInt = v7.toInt := l11
  refine jok_eq (fun c _ => ?_) (fun _ => jok_s w11)
  rw [ez] at c
  refine jok_b (S_X12_in hn hg w11) (fun v22 _ => ?_)
  exact jok_eq (fun _ _ => S_X12_sew_33 hn hg w11 ta0 (Or.inr rfl) (by omega) (by omega)) (fun _ => S_X12_sew_33 hn hg w11 ta0 (Or.inl rfl) (by omega) (by omega))
end
section
theorem S_X12_lets_48 {g : jGh} {Γ : Nat → Option Nat} {n : Nat} (hn : 6000 ≤ n) (hg : jgok g) : ∀ (k : Nat) {a0 : Nat} {x1 x2 x3 x4 r : Int32} {h : jH}, jW (jKd g) Γ h → Γ a0 = some 20 → 0 ≤ x4.toInt → x4.toInt ≤ 8 → 8 - x4.toInt < k → F_X12_rings n a0 h = some r → 1 ≤ r.toInt → jok (F_X12_lets_48 n k a0 x1 x2 x3 x4 h) (fun q => jW (jKd g) Γ q.2)
  | 0, a0, x1, x2, x3, x4, r, h, w, ta, l4, u4, hk, er, hr => by omega
  | k + 1, a0, x1, x2, x3, x4, r, h, w, ta, l4, u4, hk, er, hr => by
    show jok (F_X12_lets_48_b n (F_X12_lets_48 n k) a0 x1 x2 x3 x4 h) _
    unfold F_X12_lets_48_b
    have e1 : (1 : Int32).toInt = 1 := rfl
    have e5 : (5 : Int32).toInt = 5 := rfl
    obtain ⟨r2, er2, l2⟩ := S_X12_rings hn hg w ta
    cases er.symm.trans er2
    have hz : ¬ r = 0 := fun q => by rw [q] at hr; exact absurd hr (by decide)
    rw [t_cv w ta rfl]
    refine jok_r er (jok_le (fun c => ?_) (fun c => ?_))
    · try rw [t_cv w ta rfl]
      refine jok_r er ?_
      rw [if_neg hz]
      try rw [t_cv w ta rfl]
      refine jok_r er ?_
      rw [if_neg hz]
      have hl : ∀ {a b c d e : Int32}, jok (F_X12_lets_103 n a b c d e h) (fun q => jW (jKd g) Γ q.2) := by
        intro a b c d e
        unfold F_X12_lets_103
        exact jok_if (fun _ => jok_if (fun _ => jok_s w) (fun _ => jok_s w)) (fun _ => jok_s w)
      exact jok_if (fun _ => hl) (fun _ => hl)
    · rw [t_cv w ta rfl]
      refine jok_b (S_X12_of hn hg w ta (by omega) (by omega) (by omega) (by omega)) (fun v62 _ => ?_)
      have ea : (x4 + (1 : Int32)).toInt = x4.toInt + 1 := by rw [jadd (by omega) (by omega), e1]
      exact S_X12_lets_48 hn hg k w ta (by omega) (by omega) (by omega) er hr
theorem S_X12_lets_34 {g : jGh} {Γ : Nat → Option Nat} {n a0 : Nat} {x1 x2 s1 r : Int32} {h : jH} (hn : 6000 ≤ n) (hg : jgok g) (w : jW (jKd g) Γ h) (ta0 : Γ a0 = some 20) (hs : s1 = 0 ∨ s1 = 1) (er : F_X12_rings n a0 h = some r) (hr : 1 ≤ r.toInt) : jok (F_X12_lets_34 n a0 x1 x2 a0 s1 h) (fun q => jW (jKd g) Γ q.2) := by
  unfold F_X12_lets_34
  rw [t_cv w ta0 rfl]
  have hb : 0 ≤ s1.toInt ∧ s1.toInt ≤ 1 := by rcases hs with rfl | rfl <;> decide
  refine jok_b2 (S_X12_throwsIf hn hg w ta0 hb.1 hb.2) (fun q35 e35 w35 => ?_)
  obtain ⟨w35, -⟩ := w35
  rcases hs with rfl | rfl
  · have eh := jthr0 e35
    obtain ⟨r35, h35⟩ := q35
    have eh : h35 = h := eh
    subst eh
    exact jok_if (fun _ => S_X12_lets_48 hn hg n w35 ta0 (by decide) (by decide) (by show 8 - (0 : Int) < _; omega) er hr) (fun _ => jok_s w35)
  · rw [if_neg (by rw [jthr1 e35]; decide)]
    exact jok_s w35
theorem S_X12_lets {g : jGh} {Γ : Nat → Option Nat} {n a0 : Nat} {x1 x2 : Int32} {h : jH} (hn : 6000 ≤ n) (hg : jgok g) (w : jW (jKd g) Γ h) (ta0 : Γ a0 = some 20) : jok (F_X12_lets n a0 x1 x2 h) (fun q => jW (jKd g) Γ q.2) := by
  have ez : (0 : Int32).toInt = 0 := rfl
  have eo : (1 : Int32).toInt = 1 := rfl
  unfold F_X12_lets
  refine jok_b (t_pI w ta0 rfl rfl trivial) (fun h2 w2 => ?_)
  obtain ⟨w2, -, -⟩ := w2
  rw [t_cv w2 ta0 rfl]
  refine jok_b2 (S_X12_noRing hn hg w2 ta0) (fun v8 e8 l8 => ?_)
  rw [t_cv w2 ta0 rfl]
  refine jok_b2 (S_X12_throwsIf hn hg w2 ta0 (by omega) (by omega)) (fun q12 e12 w12 => ?_)
  obtain ⟨w12, l12⟩ := w12
  have l12 : q12.1.toInt = v8.toInt := l12
  refine jok_eq (fun c _ => ?_) (fun _ => jok_s w12)
  rw [ez] at c
  have z8 : v8 = 0 := Int32.toInt_inj.mp (by omega)
  subst z8
  have eh := jthr0 e12
  obtain ⟨r12, h12⟩ := q12
  have eh : h12 = h2 := eh
  subst eh
  -- there is a ring
  obtain ⟨r, er, lr⟩ := S_X12_rings hn hg w12 ta0
  have hr : 1 ≤ r.toInt := by
    unfold F_X12_noRing F_X12_lastRing at e8
    rw [t_cv w12 ta0 rfl, t_cv w12 ta0 rfl, er] at e8
    have e8 : ((F_X12_in n x1 0 (r - 1) h12).bind fun v6 => if v6 = 0 then some (1 : Int32) else some 0) = some 0 := e8
    obtain ⟨v6, q6, e8⟩ := jbind e8
    obtain ⟨v9, q9, l9⟩ := S_X12_in (x0 := x1) (x1 := 0) (x2 := r - 1) hn hg w12
    cases q6.symm.trans q9
    have es : (r - (1 : Int32)).toInt = r.toInt - 1 := by rw [jsub (by omega) (by omega), eo]
    by_cases c6 : v6 = 0
    · rw [if_pos c6] at e8
      cases e8
    · have : v6.toInt ≠ 0 := fun q => c6 (Int32.toInt_inj.mp (by rw [q]; rfl))
      omega
  refine jok_b (S_X12_in hn hg w12) (fun v23 _ => ?_)
  exact jok_if (fun _ => S_X12_lets_34 hn hg w12 ta0 (Or.inr rfl) er hr) (fun _ => S_X12_lets_34 hn hg w12 ta0 (Or.inl rfl) er hr)
set_option maxHeartbeats 1000000 in
theorem S_X12_snags_36 {g : jGh} {Γ : Nat → Option Nat} {n : Nat} (hn : 6000 ≤ n) (hg : jgok g)  (k : Nat) : ∀ {a0 : Nat} {x1 : Int32} {x2 : Int32} {x3 : Int32} {x4 : Int32} {h : jH}, jW (jKd g) Γ h → (Γ a0 = some 20) → (0 ≤ x4.toInt) → (x4.toInt ≤ 128) → (128 : Int) - x4.toInt < (k : Int) → jok (F_X12_snags_36 n k a0 x1 x2 x3 x4 h) (fun q => jW (jKd g) Γ q.2 ∧ (fun v : Int32 => True) q.1) := by
  induction k with
  | zero =>
    intro a0 x1 x2 x3 x4 h w ta0 lx4 ux4 mk
    omega
  | succ k ih =>
    intro a0 x1 x2 x3 x4 h w ta0 lx4 ux4 mk
    show jok (F_X12_snags_36_b n (F_X12_snags_36 n k) a0 x1 x2 x3 x4 h) _
    unfold F_X12_snags_36_b
    try rw [t_cv w ta0 rfl]
    refine jok_b (S_X12_thatCanCatch hn hg w ta0) (fun v39_1 pv39_1 => ?_)
    obtain ⟨lv39_1, uv39_1⟩ := pv39_1
    refine jok_lt (fun c2 => ?_) (fun c2 => ?_)
    · have f3 : ((0 : Int32)).toInt = 0 := rfl
      refine jok_eq (fun c4 d4 => ?_) (fun c4 => ?_)
      · exact jok_s ⟨w, trivial⟩
      · refine jok_eq (fun c5 d5 => ?_) (fun c5 => ?_)
        · exact jok_s ⟨w, trivial⟩
        · exact jok_s ⟨w, trivial⟩
    · try rw [t_cv w ta0 rfl]
      refine jok_b (S_X12_fits hn hg w ta0) (fun q48_6 wq48_6 => ?_)
      obtain ⟨wq48_6, pq48_6⟩ := wq48_6
      obtain ⟨lq48_6, uq48_6⟩ := pq48_6
      have f7 : ((0 : Int32)).toInt = 0 := rfl
      refine jok_eq (fun c8 d8 => ?_) (fun c8 => ?_)
      · have f9 : ((1 : Int32)).toInt = 1 := rfl
        have f10 : ((x4 + (1 : Int32))).toInt = (x4).toInt + ((1 : Int32)).toInt := jadd (by omega) (by omega)
        exact ih wq48_6 ta0 (by omega) (by omega) (by omega)
      · have f11 : ((1 : Int32)).toInt = 1 := rfl
        have f12 : ((x4 + (1 : Int32))).toInt = (x4).toInt + ((1 : Int32)).toInt := jadd (by omega) (by omega)
        exact ih wq48_6 ta0 (by omega) (by omega) (by omega)
set_option maxHeartbeats 1000000 in
theorem S_X12_snags {g : jGh} {Γ : Nat → Option Nat} {n : Nat} {a0 : Nat} {x1 : Int32} {h : jH} (hn : 6000 ≤ n) (hg : jgok g) (w : jW (jKd g) Γ h) (ta0 : Γ a0 = some 20) (hu : ∀ a b c, 9 ≤ c → Γ a = some c → Γ b = some c → a = b) : jok (F_X12_snags n a0 x1 h) (fun q => jW (jKd (g.1, g.2.1, (0 : Int32).toInt, g.2.2.2)) Γ q.2 ∧ (fun v : Int32 => True) q.1) := by
  unfold F_X12_snags
  try rw [t_cv w ta0 rfl]
  refine jok_b (S_X12_uses hg w ta0 hu) (fun h1_1 wh1_1 => ?_)
  have hgh1_1 : jgok (g.1, g.2.1, (0 : Int32).toInt, g.2.2.2) := ⟨hg.1, by show (0 : Int) ≤ (0 : Int32).toInt; decide, by show (0 : Int32).toInt ≤ 400; decide, hg.2.2.2⟩
  try rw [t_cv wh1_1 ta0 rfl]
  refine jok_b (S_X12_isTold hn hgh1_1 wh1_1 ta0) (fun v6_2 pv6_2 => ?_)
  obtain ⟨lv6_2, uv6_2⟩ := pv6_2
  have f3 : ((0 : Int32)).toInt = 0 := rfl
  refine jok_eq (fun c4 d4 => ?_) (fun c4 => ?_)
  · unfold F_X12_snags_17
    try rw [t_cv wh1_1 ta0 rfl]
    have f6 : ((1 : Int32)).toInt = 1 := rfl
    refine jok_b (S_X12_throwsIf hn hgh1_1 wh1_1 ta0 (by omega) (by omega)) (fun q18_5 wq18_5 => ?_)
    obtain ⟨wq18_5, pq18_5⟩ := wq18_5
    have pq18_5_9 := pq18_5
    try dsimp only at pq18_5_9
    refine jok_eq (fun c7 d7 => ?_) (fun c7 => ?_)
    · try rw [t_cv wq18_5 ta0 rfl]
      refine jok_b (S_X12_thatCanCatch hn hgh1_1 wq18_5 ta0) (fun v29_8 pv29_8 => ?_)
      obtain ⟨lv29_8, uv29_8⟩ := pv29_8
      exact S_X12_snags_36 hn hgh1_1  n wq18_5 ta0 (by omega) (by omega) (by omega)
    · exact jok_s ⟨wq18_5, trivial⟩
  · unfold F_X12_snags_17
    try rw [t_cv wh1_1 ta0 rfl]
    refine jok_b (S_X12_throwsIf hn hgh1_1 wh1_1 ta0 (by omega) (by omega)) (fun q18_9 wq18_9 => ?_)
    obtain ⟨wq18_9, pq18_9⟩ := wq18_9
    have f10 : ((1 : Int32)).toInt = 1 := rfl
    have pq18_9_9 := pq18_9
    try dsimp only at pq18_9_9
    refine jok_eq (fun c11 d11 => ?_) (fun c11 => ?_)
    · try rw [t_cv wq18_9 ta0 rfl]
      refine jok_b (S_X12_thatCanCatch hn hgh1_1 wq18_9 ta0) (fun v29_12 pv29_12 => ?_)
      obtain ⟨lv29_12, uv29_12⟩ := pv29_12
      exact S_X12_snags_36 hn hgh1_1  n wq18_9 ta0 (by omega) (by omega) (by omega)
    · exact jok_s ⟨wq18_9, trivial⟩
set_option maxHeartbeats 1000000 in
theorem S_X12_tries_81 {g : jGh} {Γ : Nat → Option Nat} {n : Nat} (hn : 6000 ≤ n) (hg : jgok g)  (k : Nat) : ∀ {a0 : Nat} {x1 : Int32} {x2 : Int32} {x3 : Int32} {x4 : Int32} {h : jH}, jW (jKd g) Γ h → (Γ a0 = some 20) → (0 ≤ x4.toInt) → (x4.toInt ≤ 16) → (16 : Int) - x4.toInt < (k : Int) → jok (F_X12_tries_81 n k a0 x1 x2 x3 x4 h) (fun q => jW (jKd g) Γ q.2 ∧ (fun v : Int32 => True) q.1) := by
  induction k with
  | zero =>
    intro a0 x1 x2 x3 x4 h w ta0 lx4 ux4 mk
    omega
  | succ k ih =>
    intro a0 x1 x2 x3 x4 h w ta0 lx4 ux4 mk
    show jok (F_X12_tries_81_b n (F_X12_tries_81 n k) a0 x1 x2 x3 x4 h) _
    unfold F_X12_tries_81_b
    try rw [t_cv w ta0 rfl]
    refine jok_b2 (S_X12_rings hn hg w ta0) (fun v85_1 ev85_1 pv85_1 => ?_)
    obtain ⟨lv85_1, uv85_1⟩ := pv85_1
    have f2 : ((2 : Int32)).toInt = 2 := rfl
    have f3 : (((2 : Int32) * v85_1)).toInt = 2 * (v85_1).toInt := jmulL (c := 2) (by omega) (by omega) (by omega)
    refine jok_le (fun c4 => ?_) (fun c4 => ?_)
    · exact jok_s ⟨w, trivial⟩
    · have f5 : ((1 : Int32)).toInt = 1 := rfl
      refine jok_le (fun c6 => ?_) (fun c6 => ?_)
      · exact jok_s ⟨w, trivial⟩
      · have f7 : ((x4 / (2 : Int32))).toInt = (x4).toInt / 2 := jdivL (c := 2) (by omega) rfl (by decide)
        have f8 : (((x4 / (2 : Int32)) * (2 : Int32))).toInt = 2 * ((x4 / (2 : Int32))).toInt := jmulR (c := 2) (by omega) (by omega) (by omega)
        have f9 : ((x4 - ((x4 / (2 : Int32)) * (2 : Int32)))).toInt = (x4).toInt - (((x4 / (2 : Int32)) * (2 : Int32))).toInt := jsub (by omega) (by omega)
        refine jok_eq (fun c10 d10 => ?_) (fun c10 => ?_)
        · unfold F_X12_tries_115
          try rw [t_cv w ta0 rfl]
          refine jok_b (S_X12_partBy hn hg w ta0 (by omega) (by omega)) (fun q115_11 wq115_11 => ?_)
          obtain ⟨wq115_11, pq115_11⟩ := wq115_11
          refine jok_le (fun c12 => ?_) (fun c12 => ?_)
          · unfold F_X12_tries_132
            have f13 : ((x4 + (1 : Int32))).toInt = (x4).toInt + ((1 : Int32)).toInt := jadd (by omega) (by omega)
            exact ih wq115_11 ta0 (by omega) (by omega) (by omega)
          · unfold F_X12_tries_132
            have f14 : ((x4 + (1 : Int32))).toInt = (x4).toInt + ((1 : Int32)).toInt := jadd (by omega) (by omega)
            exact ih wq115_11 ta0 (by omega) (by omega) (by omega)
        · unfold F_X12_tries_115
          try rw [t_cv w ta0 rfl]
          refine jok_b (S_X12_partBy hn hg w ta0 (by omega) (by omega)) (fun q115_15 wq115_15 => ?_)
          obtain ⟨wq115_15, pq115_15⟩ := wq115_15
          refine jok_le (fun c16 => ?_) (fun c16 => ?_)
          · unfold F_X12_tries_132
            have f17 : ((x4 + (1 : Int32))).toInt = (x4).toInt + ((1 : Int32)).toInt := jadd (by omega) (by omega)
            exact ih wq115_15 ta0 (by omega) (by omega) (by omega)
          · unfold F_X12_tries_132
            have f18 : ((x4 + (1 : Int32))).toInt = (x4).toInt + ((1 : Int32)).toInt := jadd (by omega) (by omega)
            exact ih wq115_15 ta0 (by omega) (by omega) (by omega)
set_option maxHeartbeats 1000000 in
theorem S_X12_tries_30 {g : jGh} {Γ : Nat → Option Nat} {n : Nat} (hn : 6000 ≤ n) (hg : jgok g)  (k : Nat) : ∀ {a0 : Nat} {x1 : Int32} {x2 : Int32} {h : jH}, jW (jKd g) Γ h → (Γ a0 = some 20) → (0 ≤ x2.toInt) → (x2.toInt ≤ 128) → (128 : Int) - x2.toInt < (k : Int) → jok (F_X12_tries_30 n k a0 x1 x2 h) (fun q => jW (jKd g) Γ q.2 ∧ (fun v : Int32 => True) q.1) := by
  induction k with
  | zero =>
    intro a0 x1 x2 h w ta0 lx2 ux2 mk
    omega
  | succ k ih =>
    intro a0 x1 x2 h w ta0 lx2 ux2 mk
    show jok (F_X12_tries_30_b n (F_X12_tries_30 n k) a0 x1 x2 h) _
    unfold F_X12_tries_30_b
    try rw [t_cv w ta0 rfl]
    refine jok_b (S_X12_thatCanCatch hn hg w ta0) (fun v32_1 pv32_1 => ?_)
    obtain ⟨lv32_1, uv32_1⟩ := pv32_1
    refine jok_lt (fun c2 => ?_) (fun c2 => ?_)
    · have f3 : ((0 : Int32)).toInt = 0 := rfl
      exact S_X12_tries_81 hn hg  n w ta0 (by omega) (by omega) (by omega)
    · refine jok_b (t_gR w ta0 rfl rfl) (fun p39_4 tp39_4 => ?_)
      try rw [t_cv w ta0 rfl]
      refine jok_b (S_X12_fits hn hg w ta0) (fun q45_5 wq45_5 => ?_)
      obtain ⟨wq45_5, pq45_5⟩ := wq45_5
      obtain ⟨lq45_5, uq45_5⟩ := pq45_5
      refine jok_b (t_as wq45_5 tp39_4 rfl (by omega) (by omega) trivial (fun _ => j01 (by omega) (by omega))) (fun h48_6 wh48_6 => ?_)
      obtain ⟨wh48_6, rh48_6⟩ := wh48_6
      refine jok_b (t_gR wh48_6 ta0 rfl rfl) (fun p51_7 tp51_7 => ?_)
      refine jok_b (t_al wh48_6 tp51_7 rfl (by omega) (by omega)) (fun v55_8 pv55_8 => ?_)
      have f9 : ((0 : Int32)).toInt = 0 := rfl
      refine jok_eq (fun c10 d10 => ?_) (fun c10 => ?_)
      · have f11 : ((1 : Int32)).toInt = 1 := rfl
        have f12 : ((x2 + (1 : Int32))).toInt = (x2).toInt + ((1 : Int32)).toInt := jadd (by omega) (by omega)
        exact ih wh48_6 ta0 (by omega) (by omega) (by omega)
      · have f13 : ((1 : Int32)).toInt = 1 := rfl
        have f14 : ((x2 + (1 : Int32))).toInt = (x2).toInt + ((1 : Int32)).toInt := jadd (by omega) (by omega)
        exact ih wh48_6 ta0 (by omega) (by omega) (by omega)
set_option maxHeartbeats 1000000 in
theorem S_X12_tries {g : jGh} {Γ : Nat → Option Nat} {n : Nat} {a0 : Nat} {h : jH} (hn : 6000 ≤ n) (hg : jgok g) (w : jW (jKd g) Γ h) (ta0 : Γ a0 = some 20) (hu : ∀ a b c, 9 ≤ c → Γ a = some c → Γ b = some c → a = b) : jok (F_X12_tries n a0 h) (fun q => jW (jKd (g.1, g.2.1, (0 : Int32).toInt, g.2.2.2)) Γ q.2 ∧ (fun v : Int32 => True) q.1) := by
  unfold F_X12_tries
  try rw [t_cv w ta0 rfl]
  refine jok_b (S_X12_uses hg w ta0 hu) (fun h1_1 wh1_1 => ?_)
  have hgh1_1 : jgok (g.1, g.2.1, (0 : Int32).toInt, g.2.2.2) := ⟨hg.1, by show (0 : Int) ≤ (0 : Int32).toInt; decide, by show (0 : Int32).toInt ≤ 400; decide, hg.2.2.2⟩
  try rw [t_cv wh1_1 ta0 rfl]
  refine jok_b (S_X12_isTold hn hgh1_1 wh1_1 ta0) (fun v6_2 pv6_2 => ?_)
  obtain ⟨lv6_2, uv6_2⟩ := pv6_2
  have f3 : ((0 : Int32)).toInt = 0 := rfl
  refine jok_eq (fun c4 d4 => ?_) (fun c4 => ?_)
  · unfold F_X12_tries_17
    try rw [t_cv wh1_1 ta0 rfl]
    have f6 : ((1 : Int32)).toInt = 1 := rfl
    refine jok_b (S_X12_throwsIf hn hgh1_1 wh1_1 ta0 (by omega) (by omega)) (fun q18_5 wq18_5 => ?_)
    obtain ⟨wq18_5, pq18_5⟩ := wq18_5
    have pq18_5_9 := pq18_5
    try dsimp only at pq18_5_9
    refine jok_eq (fun c7 d7 => ?_) (fun c7 => ?_)
    · exact S_X12_tries_30 hn hgh1_1  n wq18_5 ta0 (by omega) (by omega) (by omega)
    · exact jok_s ⟨wq18_5, trivial⟩
  · unfold F_X12_tries_17
    try rw [t_cv wh1_1 ta0 rfl]
    refine jok_b (S_X12_throwsIf hn hgh1_1 wh1_1 ta0 (by omega) (by omega)) (fun q18_8 wq18_8 => ?_)
    obtain ⟨wq18_8, pq18_8⟩ := wq18_8
    have f9 : ((1 : Int32)).toInt = 1 := rfl
    have pq18_8_9 := pq18_8
    try dsimp only at pq18_8_9
    refine jok_eq (fun c10 d10 => ?_) (fun c10 => ?_)
    · exact S_X12_tries_30 hn hgh1_1  n wq18_8 ta0 (by omega) (by omega) (by omega)
    · exact jok_s ⟨wq18_8, trivial⟩
end
section
/-! the reference reads a text -/
theorem S_X12_isAt {g : jGh} {Γ : Nat → Option Nat} {n a0 : Nat} {x1 x2 : Int32} {h : jH} (w : jW (jKd g) Γ h) (ta0 : Γ a0 = some 20) : jok (F_X12_isAt n a0 x1 x2 h) (fun v => (v = 0 ∨ v = 1) ∧ (¬ v.toInt = 0 → ∀ u, jgI 10 h a0 10 = some u → u.toInt ≤ 399)) := by
  unfold F_X12_isAt
  have ez : (0 : Int32).toInt = 0 := rfl
  obtain ⟨v1, e1, l1⟩ := t_gI (k := 10) w ta0 rfl rfl
  obtain ⟨v5, e5, l5⟩ := t_gI (k := 11) w ta0 rfl rfl
  have l1 : 0 ≤ v1.toInt ∧ v1.toInt ≤ 400 := l1
  have l5 : 0 ≤ v5.toInt ∧ v5.toInt ≤ 400 := l5
  obtain ⟨p, ep, tp⟩ := t_gR (k := 8) w ta0 rfl rfl
  have hz : ∀ {P : Prop}, ¬ (0 : Int32).toInt = 0 → P := fun q => absurd rfl q
  refine jok_r e1 (jok_r e5 (jok_le (fun _ => jok_s ⟨Or.inl rfl, hz⟩) (fun c => ?_)))
  refine jok_r ep (jok_r e1 ?_)
  obtain ⟨v, ev, -⟩ := t_al (i := v1) w tp rfl (by omega) (by omega)
  refine jok_r ev (jok_lt (fun _ => jok_s ⟨Or.inl rfl, hz⟩) (fun _ => ?_))
  refine jok_r ep (jok_r e1 (jok_r ev (jok_lt (fun _ => jok_s ⟨Or.inl rfl, hz⟩) (fun _ => ?_))))
  refine jok_s ⟨Or.inr rfl, fun _ u eu => ?_⟩
  have qz : v1 = u := Option.some.inj (e1.symm.trans eu)
  subst qz
  omega
/-- where the reading stands -/
def jrd (g : jGh) (Γ : Nat → Option Nat) (n a0 : Nat) (h q : jH) : Prop := jW (jKd g) Γ q ∧ F_X12_rings n a0 q = F_X12_rings n a0 h
theorem jrd_tr {g : jGh} {Γ : Nat → Option Nat} {n a0 : Nat} {h h1 h2 : jH} (a : jrd g Γ n a0 h h1) (b : jrd g Γ n a0 h1 h2) : jrd g Γ n a0 h h2 := ⟨b.1, b.2.trans a.2⟩
/-- a write of the place where the reading stands -/
theorem t_rdp {g : jGh} {Γ : Nat → Option Nat} {n a0 k : Nat} {x : Int32} {h : jH} (w : jW (jKd g) Γ h) (ta0 : Γ a0 = some 20) (hk : k = 10 ∨ k = 12) (l0 : 0 ≤ x.toInt) (l4 : x.toInt ≤ 400) : jok (jpf 10 h a0 k (.int x)) (fun h1 => jrd g Γ n a0 h h1 ∧ jgf 10 h1 a0 k = some (.int x) ∧ jfr h h1 a0 k) := by
  rcases hk with rfl | rfl
  · obtain ⟨h1, e, w1⟩ := t_pI (k := 10) w ta0 rfl rfl (show jI 0 400 x from ⟨l0, l4⟩)
    exact ⟨h1, e, ⟨w1.1, rings_pf2 (by decide) e⟩, w1.2⟩
  · obtain ⟨h1, e, w1⟩ := t_pI (k := 12) w ta0 rfl rfl (show jI 0 400 x from ⟨l0, l4⟩)
    exact ⟨h1, e, ⟨w1.1, rings_pf2 (by decide) e⟩, w1.2⟩
theorem S_X12_blanks_0 {g : jGh} {Γ : Nat → Option Nat} {n : Nat} : ∀ (k : Nat) {a0 : Nat} {u : Int32} {h : jH}, jW (jKd g) Γ h → Γ a0 = some 20 → jgI 10 h a0 10 = some u → 400 - u.toInt < k → jok (F_X12_blanks_0 n k a0 h) (fun q => jrd g Γ n a0 h q)
  | 0, a0, u, h, w, ta, eu, hk => by
    obtain ⟨v1, e1, l1⟩ := t_gI (k := 10) w ta rfl rfl
    have l1 : 0 ≤ v1.toInt ∧ v1.toInt ≤ 400 := l1
    have qz : v1 = u := Option.some.inj (e1.symm.trans eu)
    subst qz
    omega
  | k + 1, a0, u, h, w, ta, eu, hk => by
    show jok (F_X12_blanks_0_b n (F_X12_blanks_0 n k) a0 h) _
    unfold F_X12_blanks_0_b
    obtain ⟨v1, e1, l1⟩ := t_gI (k := 10) w ta rfl rfl
    have l1 : 0 ≤ v1.toInt ∧ v1.toInt ≤ 400 := l1
    have qz : v1 = u := Option.some.inj (e1.symm.trans eu)
    subst qz
    have eo : (1 : Int32).toInt = 1 := rfl
    rw [t_cv w ta rfl]
    refine jok_b (S_X12_isAt w ta) (fun v5 l5 => ?_)
    refine jok_eq (fun _ _ => ?_) (fun c => ?_)
    · refine jok_r e1 (jok_b (t_rdp (n := n) w ta (Or.inr rfl) l1.1 l1.2) (fun h29 w29 => ?_))
      exact jok_s w29.1
    · have hp := l5.2 c _ e1
      have ea : (v1 + (1 : Int32)).toInt = v1.toInt + 1 := by rw [jadd (by omega) (by omega), eo]
      refine jok_r e1 (jok_b (t_rdp (n := n) w ta (Or.inl rfl) (by omega) (by omega)) (fun h18 w18 => ?_))
      obtain ⟨w18, q18, -⟩ := w18
      exact jok_w (S_X12_blanks_0 k w18.1 ta (fJ q18) (by omega)) (fun q wq => jrd_tr w18 wq)
theorem S_X12_blanks {g : jGh} {Γ : Nat → Option Nat} {n a0 : Nat} {h : jH} (hn : 6000 ≤ n) (w : jW (jKd g) Γ h) (ta0 : Γ a0 = some 20) : jok (F_X12_blanks n a0 h) (fun q => jrd g Γ n a0 h q) := by
  obtain ⟨v1, e1, l1⟩ := t_gI (k := 10) w ta0 rfl rfl
  have l1 : 0 ≤ v1.toInt ∧ v1.toInt ≤ 400 := l1
  unfold F_X12_blanks
  exact S_X12_blanks_0 n w ta0 e1 (by omega)
theorem S_X12_letters_4 {g : jGh} {Γ : Nat → Option Nat} {n : Nat} : ∀ (k : Nat) {a0 : Nat} {u : Int32} {h : jH}, jW (jKd g) Γ h → Γ a0 = some 20 → jgI 10 h a0 10 = some u → 400 - u.toInt < k → jok (F_X12_letters_4 n k a0 h) (fun q => jrd g Γ n a0 h q)
  | 0, a0, u, h, w, ta, eu, hk => by
    obtain ⟨v1, e1, l1⟩ := t_gI (k := 10) w ta rfl rfl
    have l1 : 0 ≤ v1.toInt ∧ v1.toInt ≤ 400 := l1
    have qz : v1 = u := Option.some.inj (e1.symm.trans eu)
    subst qz
    omega
  | k + 1, a0, u, h, w, ta, eu, hk => by
    show jok (F_X12_letters_4_b n (F_X12_letters_4 n k) a0 h) _
    unfold F_X12_letters_4_b
    obtain ⟨v1, e1, l1⟩ := t_gI (k := 10) w ta rfl rfl
    have l1 : 0 ≤ v1.toInt ∧ v1.toInt ≤ 400 := l1
    have qz : v1 = u := Option.some.inj (e1.symm.trans eu)
    subst qz
    have eo : (1 : Int32).toInt = 1 := rfl
    rw [t_cv w ta rfl]
    refine jok_b (S_X12_isAt w ta) (fun v5 l5 => ?_)
    refine jok_eq (fun _ _ => jok_s ⟨w, rfl⟩) (fun c => ?_)
    have hp := l5.2 c _ e1
    have ea : (v1 + (1 : Int32)).toInt = v1.toInt + 1 := by rw [jadd (by omega) (by omega), eo]
    refine jok_r e1 (jok_b (t_rdp (n := n) w ta (Or.inl rfl) (by omega) (by omega)) (fun h18 w18 => ?_))
    obtain ⟨w18, q18, -⟩ := w18
    exact jok_w (S_X12_letters_4 k w18.1 ta (fJ q18) (by omega)) (fun q wq => jrd_tr w18 wq)
theorem S_X12_letters {g : jGh} {Γ : Nat → Option Nat} {n a0 : Nat} {h : jH} (hn : 6000 ≤ n) (w : jW (jKd g) Γ h) (ta0 : Γ a0 = some 20) : jok (F_X12_letters n a0 h) (fun q => jrd g Γ n a0 h q) := by
  unfold F_X12_letters
  rw [t_cv w ta0 rfl]
  refine jok_b (S_X12_blanks hn w ta0) (fun h1 w1 => ?_)
  obtain ⟨v1, e1, l1⟩ := t_gI (k := 10) w1.1 ta0 rfl rfl
  have l1 : 0 ≤ v1.toInt ∧ v1.toInt ≤ 400 := l1
  exact jok_w (S_X12_letters_4 n w1.1 ta0 e1 (by omega)) (fun q wq => jrd_tr w1 wq)
theorem jtb_lt : ∀ t, t < 36 → (jtb t).length < 1000 := by decide +kernel
theorem S_X12_isWord_24 {g : jGh} {Γ : Nat → Option Nat} {n : Nat} : ∀ (k : Nat) {a0 t1 : Nat} {x2 x3 : Int32} {h : jH}, jW (jKd g) Γ h → Γ a0 = some 20 → t1 < 36 → (x2 = 0 ∨ (x2 = 1 ∧ ∀ s, jgI 10 h a0 12 = some s → s.toInt + ((jtb t1).length : Int) ≤ 400)) → 0 ≤ x3.toInt → x3.toInt ≤ 1000 → 1000 - x3.toInt < k → jok (F_X12_isWord_24 n k a0 t1 x2 x3 h) (fun v => v = 0 ∨ v = 1)
  | 0, a0, t1, x2, x3, h, w, ta, ht, hx, l3, u3, hk => by omega
  | k + 1, a0, t1, x2, x3, h, w, ta, ht, hx, l3, u3, hk => by
    show jok (F_X12_isWord_24_b n (F_X12_isWord_24 n k) a0 t1 x2 x3 h) _
    unfold F_X12_isWord_24_b
    have eo : (1 : Int32).toInt = 1 := rfl
    have hl := jtb_lt t1 ht
    rcases hx with rfl | ⟨rfl, hs⟩
    · rw [if_pos rfl, if_pos (Or.inl rfl)]
      exact jok_s (Or.inl rfl)
    · rw [if_neg (by decide)]
      refine jok_b (t_tl ht ⟨rfl, hl⟩) (fun v30 l30 => ?_)
      refine jok_le (fun _ => ?_) (fun c => ?_)
      · rw [if_pos (Or.inr rfl)]
        exact jok_s (Or.inr rfl)
      · refine jok_b (t_gR w ta rfl rfl) (fun p37 t37 => ?_)
        obtain ⟨s, es, ls⟩ := t_gI (k := 12) w ta rfl rfl
        have ls : 0 ≤ s.toInt ∧ s.toInt ≤ 400 := ls
        have hs1 := hs s es
        have ea : (s + x3).toInt = s.toInt + x3.toInt := jadd (by omega) (by omega)
        refine jok_r es (jok_b (t_al w t37 rfl (by omega) (by omega)) (fun v46 _ => ?_))
        refine jok_b (t_tc rfl (by omega) (by omega)) (fun v49 _ => ?_)
        have e3 : (x3 + (1 : Int32)).toInt = x3.toInt + 1 := by rw [jadd (by omega) (by omega), eo]
        exact jok_if (fun _ => S_X12_isWord_24 k w ta ht (Or.inr ⟨rfl, hs⟩) (by omega) (by omega) (by omega)) (fun _ => S_X12_isWord_24 k w ta ht (Or.inl rfl) (by omega) (by omega) (by omega))
theorem S_X12_isWord {g : jGh} {Γ : Nat → Option Nat} {n a0 t1 : Nat} {h : jH} (hn : 6000 ≤ n) (w : jW (jKd g) Γ h) (ta0 : Γ a0 = some 20) (ht : t1 < 36) : jok (F_X12_isWord n a0 t1 h) (fun v => v = 0 ∨ v = 1) := by
  unfold F_X12_isWord
  have hl := jtb_lt t1 ht
  obtain ⟨v1, e1, l1⟩ := t_gI (k := 10) w ta0 rfl rfl
  have l1 : 0 ≤ v1.toInt ∧ v1.toInt ≤ 400 := l1
  obtain ⟨v5, e5, l5⟩ := t_gI (k := 12) w ta0 rfl rfl
  have l5 : 0 ≤ v5.toInt ∧ v5.toInt ≤ 400 := l5
  refine jok_r e1 (jok_r e5 (jok_b (t_tl ht ⟨rfl, hl⟩) (fun v10 l10 => ?_)))
  have es : (v1 - v5).toInt = v1.toInt - v5.toInt := jsub (by omega) (by omega)
  have z0 : (0 : Int32).toInt = 0 := rfl
  refine jok_eq (fun c _ => ?_) (fun _ => S_X12_isWord_24 n w ta0 ht (Or.inl rfl) (by decide) (by decide) (by omega))
  refine S_X12_isWord_24 n w ta0 ht (Or.inr ⟨rfl, fun s q => ?_⟩) (by decide) (by decide) (by omega)
  cases e5.symm.trans q
  omega
theorem S_X12_passes {g : jGh} {Γ : Nat → Option Nat} {n a0 t1 : Nat} {h : jH} (hn : 6000 ≤ n) (w : jW (jKd g) Γ h) (ta0 : Γ a0 = some 20) (ht : t1 < 36) : jok (F_X12_passes n a0 t1 h) (fun q => jrd g Γ n a0 h q.2) := by
  unfold F_X12_passes
  rw [t_cv w ta0 rfl]
  refine jok_b (S_X12_letters hn w ta0) (fun h1 w1 => ?_)
  rw [t_cv w1.1 ta0 rfl]
  refine jok_b (S_X12_isWord hn w1.1 ta0 ht) (fun v6 _ => ?_)
  refine jok_if (fun _ => ?_) (fun _ => jok_s w1)
  refine jok_b (t_gI w1.1 ta0 rfl rfl) (fun v16 l16 => ?_)
  refine jok_b (t_rdp (n := n) w1.1 ta0 (Or.inl rfl) l16.1 l16.2) (fun h19 w19 => ?_)
  exact jok_s (jrd_tr w1 w19.1)
theorem S_X12_sign {g : jGh} {Γ : Nat → Option Nat} {n a0 : Nat} {x1 : Int32} {h : jH} (hn : 6000 ≤ n) (w : jW (jKd g) Γ h) (ta0 : Γ a0 = some 20) : jok (F_X12_sign n a0 x1 h) (fun q => jrd g Γ n a0 h q.2) := by
  unfold F_X12_sign
  have eo : (1 : Int32).toInt = 1 := rfl
  rw [t_cv w ta0 rfl]
  refine jok_b (S_X12_blanks hn w ta0) (fun h1 w1 => ?_)
  rw [t_cv w1.1 ta0 rfl]
  refine jok_b (S_X12_isAt w1.1 ta0) (fun v7 l7 => ?_)
  refine jok_eq (fun _ _ => jok_s w1) (fun c => ?_)
  obtain ⟨v17, e17, l17⟩ := t_gI (k := 10) w1.1 ta0 rfl rfl
  have l17 : 0 ≤ v17.toInt ∧ v17.toInt ≤ 400 := l17
  have hp := l7.2 c _ e17
  have ea : (v17 + (1 : Int32)).toInt = v17.toInt + 1 := by rw [jadd (by omega) (by omega), eo]
  refine jok_r e17 (jok_b (t_rdp (n := n) w1.1 ta0 (Or.inl rfl) (by omega) (by omega)) (fun h22 w22 => ?_))
  exact jok_s (jrd_tr w1 w22.1)
theorem S_X12_number_6 {g : jGh} {Γ : Nat → Option Nat} {n : Nat} : ∀ (k : Nat) {a0 : Nat} {x1 x2 x3 u : Int32} {h : jH}, jW (jKd g) Γ h → Γ a0 = some 20 → jgI 10 h a0 10 = some u → 400 - u.toInt < k → jok (F_X12_number_6 n k a0 x1 x2 x3 h) (fun q => jrd g Γ n a0 h q.2 ∧ (q.1 = -1 ∨ (x1.toInt ≤ q.1.toInt ∧ q.1.toInt ≤ x2.toInt)))
  | 0, a0, x1, x2, x3, u, h, w, ta, eu, hk => by
    obtain ⟨v1, e1, l1⟩ := t_gI (k := 10) w ta rfl rfl
    have l1 : 0 ≤ v1.toInt ∧ v1.toInt ≤ 400 := l1
    have qz : v1 = u := Option.some.inj (e1.symm.trans eu)
    subst qz
    omega
  | k + 1, a0, x1, x2, x3, u, h, w, ta, eu, hk => by
    show jok (F_X12_number_6_b n (F_X12_number_6 n k) a0 x1 x2 x3 h) _
    unfold F_X12_number_6_b
    obtain ⟨v1, e1, l1⟩ := t_gI (k := 10) w ta rfl rfl
    have l1 : 0 ≤ v1.toInt ∧ v1.toInt ≤ 400 := l1
    have qz : v1 = u := Option.some.inj (e1.symm.trans eu)
    subst qz
    obtain ⟨s, es, ls⟩ := t_gI (k := 12) w ta rfl rfl
    have eo : (1 : Int32).toInt = 1 := rfl
    rw [t_cv w ta rfl]
    have hm : ∀ {P : Prop}, ((-1 : Int32) = -1 ∨ P) := Or.inl rfl
    refine jok_b (S_X12_isAt w ta) (fun v5 l5 => ?_)
    refine jok_eq (fun _ _ => ?_) (fun c => ?_)
    · refine jok_r e1 (jok_r es (jok_if (fun _ => jok_s ⟨⟨w, rfl⟩, hm⟩) (fun _ => ?_)))
      refine jok_r e1 (jok_r es (jok_if (fun _ => jok_s ⟨⟨w, rfl⟩, hm⟩) (fun _ => ?_)))
      refine jok_lt (fun _ => jok_s ⟨⟨w, rfl⟩, hm⟩) (fun c1 => jok_le (fun c2 => jok_s ⟨⟨w, rfl⟩, Or.inr ⟨c1, c2⟩⟩) (fun _ => jok_s ⟨⟨w, rfl⟩, hm⟩))
    · have hp := l5.2 c _ e1
      have ea : (v1 + (1 : Int32)).toInt = v1.toInt + 1 := by rw [jadd (by omega) (by omega), eo]
      have hn9 : ∀ {x : Int32}, jok ((jpf 10 h a0 10 (.int (v1 + (1 : Int32)))).bind fun h59 => F_X12_number_6 n k a0 x1 x2 x h59) (fun q => jrd g Γ n a0 h q.2 ∧ (q.1 = -1 ∨ (x1.toInt ≤ q.1.toInt ∧ q.1.toInt ≤ x2.toInt))) := by
        intro x
        refine jok_b (t_rdp (n := n) w ta (Or.inl rfl) (by omega) (by omega)) (fun h18 w18 => ?_)
        obtain ⟨w18, q18, -⟩ := w18
        exact jok_w (S_X12_number_6 k w18.1 ta (fJ q18) (by omega)) (fun q wq => ⟨jrd_tr w18 wq.1, wq.2⟩)
      refine jok_r e1 (jok_r es (jok_if (fun _ => jok_r e1 hn9) (fun _ => ?_)))
      refine jok_b (t_gR w ta rfl rfl) (fun p35 t35 => ?_)
      refine jok_r e1 (jok_b (t_al w t35 rfl (by omega) (by omega)) (fun v42 _ => jok_r e1 hn9))
theorem S_X12_number {g : jGh} {Γ : Nat → Option Nat} {n a0 : Nat} {x1 x2 : Int32} {h : jH} (hn : 6000 ≤ n) (w : jW (jKd g) Γ h) (ta0 : Γ a0 = some 20) : jok (F_X12_number n a0 x1 x2 h) (fun q => jrd g Γ n a0 h q.2 ∧ (q.1 = -1 ∨ (x1.toInt ≤ q.1.toInt ∧ q.1.toInt ≤ x2.toInt))) := by
  unfold F_X12_number
  rw [t_cv w ta0 rfl]
  refine jok_b (S_X12_blanks hn w ta0) (fun h1 w1 => ?_)
  obtain ⟨v1, e1, l1⟩ := t_gI (k := 10) w1.1 ta0 rfl rfl
  have l1 : 0 ≤ v1.toInt ∧ v1.toInt ≤ 400 := l1
  exact jok_w (S_X12_number_6 n w1.1 ta0 e1 (by omega)) (fun q wq => ⟨jrd_tr w1 wq.1, wq.2⟩)
theorem S_X12_after {g : jGh} {Γ : Nat → Option Nat} {n a0 t1 : Nat} {x2 x3 : Int32} {h : jH} (hn : 6000 ≤ n) (w : jW (jKd g) Γ h) (ta0 : Γ a0 = some 20) (ht : t1 < 36) : jok (F_X12_after n a0 t1 x2 x3 h) (fun q => jrd g Γ n a0 h q.2 ∧ (q.1 = -1 ∨ (x2.toInt ≤ q.1.toInt ∧ q.1.toInt ≤ x3.toInt))) := by
  unfold F_X12_after
  rw [t_cv w ta0 rfl]
  refine jok_b (S_X12_letters hn w ta0) (fun h1 w1 => ?_)
  rw [t_cv w1.1 ta0 rfl]
  refine jok_b (S_X12_isWord hn w1.1 ta0 ht) (fun v6 _ => ?_)
  refine jok_if (fun _ => jok_s ⟨w1, Or.inl rfl⟩) (fun _ => ?_)
  rw [t_cv w1.1 ta0 rfl]
  refine jok_b (S_X12_number hn w1.1 ta0) (fun q15 w15 => ?_)
  exact jok_s ⟨jrd_tr w1 w15.1, w15.2⟩
end
