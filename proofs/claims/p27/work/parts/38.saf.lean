section
set_option maxHeartbeats 1000000 in
theorem S_X12_best_34 {g : jGh} {Γ : Nat → Option Nat} {n : Nat} (hn : 6000 ≤ n) (hg : jgok g) {k14 : Nat} {rc14 : Nat → Int32 → Int32 → Int32 → jH → Option (Int32 × jH)} (k : Nat) : ∀ {a0 : Nat} {x1 : Int32} {x2 : Int32} {x3 : Int32} {x4 : Int32} {x5 : Int32} {h : jH}, jW (jKd g) Γ h → (Γ a0 = some 20) → (0 ≤ x3.toInt) → (x3.toInt ≤ 15) → (1 ≤ x5.toInt) → (x5.toInt ≤ 32) → (32 : Int) - x5.toInt < (k : Int) → (∀ {a0 : Nat} {x1 : Int32} {x2 : Int32} {x3 : Int32} {h : jH}, jW (jKd g) Γ h → (Γ a0 = some 20) → (0 ≤ x3.toInt) → (x3.toInt ≤ 16) → (16 : Int) - x3.toInt < (k14 : Int) → jok (rc14 a0 x1 x2 x3 h) (fun q => jW (jKd g) Γ q.2 ∧ (fun v : Int32 => True) q.1)) → ((16 : Int) - x3.toInt ≤ (k14 : Int)) → jok (F_X12_best_34 n rc14 k a0 x1 x2 x3 x4 x5 h) (fun q => jW (jKd g) Γ q.2 ∧ (fun v : Int32 => True) q.1) := by
  induction k with
  | zero =>
    intro a0 x1 x2 x3 x4 x5 h w ta0 lx3 ux3 lx5 ux5 mk hrc14 m14
    omega
  | succ k ih =>
    intro a0 x1 x2 x3 x4 x5 h w ta0 lx3 ux3 lx5 ux5 mk hrc14 m14
    show jok (F_X12_best_34_b n rc14 (F_X12_best_34 n rc14 k) a0 x1 x2 x3 x4 x5 h) _
    unfold F_X12_best_34_b
    have f1 : ((31 : Int32)).toInt = 31 := rfl
    refine jok_lt (fun c2 => ?_) (fun c2 => ?_)
    · unfold F_X12_best_113
      try rw [t_cv w ta0 rfl]
      refine jok_b (S_X12_bringsBack hn hg w ta0) (fun h114_3 wh114_3 => ?_)
      have f4 : ((1 : Int32)).toInt = 1 := rfl
      have f5 : ((x3 + (1 : Int32))).toInt = (x3).toInt + ((1 : Int32)).toInt := jadd (by omega) (by omega)
      exact hrc14 wh114_3 ta0 (by omega) (by omega) (by omega)
    · have f6 : ((0 : Int32)).toInt = 0 := rfl
      refine jok_eq (fun c7 d7 => ?_) (fun c7 => ?_)
      · unfold F_X12_best_113
        try rw [t_cv w ta0 rfl]
        refine jok_b (S_X12_bringsBack hn hg w ta0) (fun h114_8 wh114_8 => ?_)
        have f9 : ((1 : Int32)).toInt = 1 := rfl
        have f10 : ((x3 + (1 : Int32))).toInt = (x3).toInt + ((1 : Int32)).toInt := jadd (by omega) (by omega)
        exact hrc14 wh114_8 ta0 (by omega) (by omega) (by omega)
      · have f11 : ((2 : Int32)).toInt = 2 := rfl
        have f12 : ((x3 / (2 : Int32))).toInt = (x3).toInt / 2 := jdivL (c := 2) (by omega) rfl (by decide)
        have f13 : (((x3 / (2 : Int32)) * (2 : Int32))).toInt = 2 * ((x3 / (2 : Int32))).toInt := jmulR (c := 2) (by omega) (by omega) (by omega)
        have f14 : ((x3 - ((x3 / (2 : Int32)) * (2 : Int32)))).toInt = (x3).toInt - (((x3 / (2 : Int32)) * (2 : Int32))).toInt := jsub (by omega) (by omega)
        have f15 : ((1 : Int32)).toInt = 1 := rfl
        refine jok_eq (fun c16 d16 => ?_) (fun c16 => ?_)
        · unfold F_X12_best_62
          try rw [t_cv w ta0 rfl]
          refine jok_b (S_X12_goesOne hn hg w ta0 (by omega) (by omega)) (fun q62_17 wq62_17 => ?_)
          obtain ⟨wq62_17, pq62_17⟩ := wq62_17
          obtain ⟨lq62_17, uq62_17⟩ := pq62_17
          refine jok_eq (fun c18 d18 => ?_) (fun c18 => ?_)
          · refine jok_le (fun c19 => ?_) (fun c19 => ?_)
            · unfold F_X12_best_99
              have f20 : ((x5 + (1 : Int32))).toInt = (x5).toInt + ((1 : Int32)).toInt := jadd (by omega) (by omega)
              exact ih wq62_17 ta0 (by omega) (by omega) (by omega) (by omega) (by omega) hrc14 (by omega)
            · unfold F_X12_best_99
              have f21 : ((x5 + (1 : Int32))).toInt = (x5).toInt + ((1 : Int32)).toInt := jadd (by omega) (by omega)
              exact ih wq62_17 ta0 (by omega) (by omega) (by omega) (by omega) (by omega) hrc14 (by omega)
          · try rw [t_cv wq62_17 ta0 rfl]
            refine jok_b (S_X12_darkNow hn hg wq62_17 ta0) (fun v73_22 pv73_22 => ?_)
            refine jok_le (fun c23 => ?_) (fun c23 => ?_)
            · unfold F_X12_best_99
              have f24 : ((x5 + (1 : Int32))).toInt = (x5).toInt + ((1 : Int32)).toInt := jadd (by omega) (by omega)
              exact ih wq62_17 ta0 (by omega) (by omega) (by omega) (by omega) (by omega) hrc14 (by omega)
            · unfold F_X12_best_99
              have f25 : ((x5 + (1 : Int32))).toInt = (x5).toInt + ((1 : Int32)).toInt := jadd (by omega) (by omega)
              exact ih wq62_17 ta0 (by omega) (by omega) (by omega) (by omega) (by omega) hrc14 (by omega)
        · unfold F_X12_best_62
          try rw [t_cv w ta0 rfl]
          refine jok_b (S_X12_goesOne hn hg w ta0 (by omega) (by omega)) (fun q62_26 wq62_26 => ?_)
          obtain ⟨wq62_26, pq62_26⟩ := wq62_26
          obtain ⟨lq62_26, uq62_26⟩ := pq62_26
          refine jok_eq (fun c27 d27 => ?_) (fun c27 => ?_)
          · refine jok_le (fun c28 => ?_) (fun c28 => ?_)
            · unfold F_X12_best_99
              have f29 : ((x5 + (1 : Int32))).toInt = (x5).toInt + ((1 : Int32)).toInt := jadd (by omega) (by omega)
              exact ih wq62_26 ta0 (by omega) (by omega) (by omega) (by omega) (by omega) hrc14 (by omega)
            · unfold F_X12_best_99
              have f30 : ((x5 + (1 : Int32))).toInt = (x5).toInt + ((1 : Int32)).toInt := jadd (by omega) (by omega)
              exact ih wq62_26 ta0 (by omega) (by omega) (by omega) (by omega) (by omega) hrc14 (by omega)
          · try rw [t_cv wq62_26 ta0 rfl]
            refine jok_b (S_X12_darkNow hn hg wq62_26 ta0) (fun v73_31 pv73_31 => ?_)
            refine jok_le (fun c32 => ?_) (fun c32 => ?_)
            · unfold F_X12_best_99
              have f33 : ((x5 + (1 : Int32))).toInt = (x5).toInt + ((1 : Int32)).toInt := jadd (by omega) (by omega)
              exact ih wq62_26 ta0 (by omega) (by omega) (by omega) (by omega) (by omega) hrc14 (by omega)
            · unfold F_X12_best_99
              have f34 : ((x5 + (1 : Int32))).toInt = (x5).toInt + ((1 : Int32)).toInt := jadd (by omega) (by omega)
              exact ih wq62_26 ta0 (by omega) (by omega) (by omega) (by omega) (by omega) hrc14 (by omega)
set_option maxHeartbeats 1000000 in
theorem S_X12_best_14 {g : jGh} {Γ : Nat → Option Nat} {n : Nat} (hn : 6000 ≤ n) (hg : jgok g)  (k : Nat) : ∀ {a0 : Nat} {x1 : Int32} {x2 : Int32} {x3 : Int32} {h : jH}, jW (jKd g) Γ h → (Γ a0 = some 20) → (0 ≤ x3.toInt) → (x3.toInt ≤ 16) → (16 : Int) - x3.toInt < (k : Int) → jok (F_X12_best_14 n k a0 x1 x2 x3 h) (fun q => jW (jKd g) Γ q.2 ∧ (fun v : Int32 => True) q.1) := by
  induction k with
  | zero =>
    intro a0 x1 x2 x3 h w ta0 lx3 ux3 mk
    omega
  | succ k ih =>
    intro a0 x1 x2 x3 h w ta0 lx3 ux3 mk
    show jok (F_X12_best_14_b n (F_X12_best_14 n k) a0 x1 x2 x3 h) _
    unfold F_X12_best_14_b
    try rw [t_cv w ta0 rfl]
    refine jok_b2 (S_X12_rings hn hg w ta0) (fun v17_1 ev17_1 pv17_1 => ?_)
    obtain ⟨lv17_1, uv17_1⟩ := pv17_1
    have f2 : ((2 : Int32)).toInt = 2 := rfl
    have f3 : (((2 : Int32) * v17_1)).toInt = 2 * (v17_1).toInt := jmulL (c := 2) (by omega) (by omega) (by omega)
    refine jok_le (fun c4 => ?_) (fun c4 => ?_)
    · exact jok_s ⟨w, trivial⟩
    · try rw [t_cv w ta0 rfl]
      refine jok_b (S_X12_keepsAll hn hg w ta0) (fun h28_5 wh28_5 => ?_)
      have f6 : ((1 : Int32)).toInt = 1 := rfl
      exact S_X12_best_34 hn hg  n wh28_5 ta0 (by omega) (by omega) (by omega) (by omega) (by omega) ih (by omega)
set_option maxHeartbeats 1000000 in
theorem S_X12_best {g : jGh} {Γ : Nat → Option Nat} {n : Nat} {a0 : Nat} {h : jH} (hn : 6000 ≤ n) (hg : jgok g) (w : jW (jKd g) Γ h) (ta0 : Γ a0 = some 20) : jok (F_X12_best n a0 h) (fun q => jW (jKd g) Γ q.2 ∧ (fun v : Int32 => True) q.1) := by
  unfold F_X12_best
  have f2 : ((0 : Int32)).toInt = 0 := rfl
  refine jok_b (t_pI w ta0 rfl rfl trivial) (fun h2_1 wh2_1 => ?_)
  obtain ⟨wh2_1, jh2_1, rh2_1⟩ := wh2_1
  try rw [t_cv wh2_1 ta0 rfl]
  refine jok_b (S_X12_darkNow hn hg wh2_1 ta0) (fun v8_3 pv8_3 => ?_)
  exact S_X12_best_14 hn hg  n wh2_1 ta0 (by omega) (by omega) (by omega)
set_option maxHeartbeats 1000000 in
theorem S_X12_fewest {g : jGh} {Γ : Nat → Option Nat} {n : Nat} {a0 : Nat} {x1 : Int32} {h : jH} (hn : 6000 ≤ n) (hg : jgok g) (w : jW (jKd g) Γ h) (ta0 : Γ a0 = some 20) : jok (F_X12_fewest n a0 x1 h) (fun q => jW (jKd g) Γ q.2 ∧ (fun v : Int32 => True) q.1) := by
  unfold F_X12_fewest
  have f2 : ((0 : Int32)).toInt = 0 := rfl
  refine jok_b (t_pI w ta0 rfl rfl trivial) (fun h2_1 wh2_1 => ?_)
  obtain ⟨wh2_1, jh2_1, rh2_1⟩ := wh2_1
  try rw [t_cv wh2_1 ta0 rfl]
  refine jok_b (S_X12_shadesAll hn hg wh2_1 ta0) (fun v7_3 pv7_3 => ?_)
  obtain ⟨lv7_3, uv7_3⟩ := pv7_3
  refine jok_eq (fun c4 d4 => ?_) (fun c4 => ?_)
  · try rw [t_cv wh2_1 ta0 rfl]
    refine jok_b (S_X12_fewestTo hn hg wh2_1 ta0) (fun q20_5 wq20_5 => ?_)
    obtain ⟨wq20_5, pq20_5⟩ := wq20_5
    exact jok_s ⟨wq20_5, trivial⟩
  · exact jok_s ⟨wh2_1, trivial⟩
set_option maxHeartbeats 1000000 in
theorem S_X12_first {g : jGh} {Γ : Nat → Option Nat} {n : Nat} {a0 : Nat} {x1 : Int32} {h : jH} (hn : 6000 ≤ n) (hg : jgok g) (w : jW (jKd g) Γ h) (ta0 : Γ a0 = some 20) : jok (F_X12_first n a0 x1 h) (fun q => jW (jKd g) Γ q.2 ∧ (fun v : Int32 => True) q.1) := by
  unfold F_X12_first
  have f2 : ((0 : Int32)).toInt = 0 := rfl
  refine jok_b (t_pI w ta0 rfl rfl trivial) (fun h2_1 wh2_1 => ?_)
  obtain ⟨wh2_1, jh2_1, rh2_1⟩ := wh2_1
  try rw [t_cv wh2_1 ta0 rfl]
  refine jok_b (S_X12_shadesAll hn hg wh2_1 ta0) (fun v7_3 pv7_3 => ?_)
  obtain ⟨lv7_3, uv7_3⟩ := pv7_3
  refine jok_eq (fun c4 d4 => ?_) (fun c4 => ?_)
  · try rw [t_cv wh2_1 ta0 rfl]
    refine jok_b (S_X12_fewestTo hn hg wh2_1 ta0) (fun q20_5 wq20_5 => ?_)
    obtain ⟨wq20_5, pq20_5⟩ := wq20_5
    exact jok_s ⟨wq20_5, trivial⟩
  · exact jok_s ⟨wh2_1, trivial⟩
set_option maxHeartbeats 1000000 in
theorem S_X12_goes {g : jGh} {Γ : Nat → Option Nat} {n : Nat} {a0 : Nat} {x1 : Int32} {x2 : Int32} {h : jH} (hn : 6000 ≤ n) (hg : jgok g) (w : jW (jKd g) Γ h) (ta0 : Γ a0 = some 20) : jok (F_X12_goes n a0 x1 x2 h) (fun q => jW (jKd g) Γ q.2 ∧ (fun v : Int32 => True) q.1) := by
  unfold F_X12_goes
  have f2 : ((0 : Int32)).toInt = 0 := rfl
  refine jok_b (t_pI w ta0 rfl rfl trivial) (fun h2_1 wh2_1 => ?_)
  obtain ⟨wh2_1, jh2_1, rh2_1⟩ := wh2_1
  try rw [t_cv wh2_1 ta0 rfl]
  refine jok_b (S_X12_noRing hn hg wh2_1 ta0) (fun v8_3 pv8_3 => ?_)
  have pv8_3_9 := pv8_3
  try dsimp only at pv8_3_9
  try rw [t_cv wh2_1 ta0 rfl]
  refine jok_b (S_X12_throwsIf hn hg wh2_1 ta0 (by omega) (by omega)) (fun q12_4 wq12_4 => ?_)
  obtain ⟨wq12_4, pq12_4⟩ := wq12_4
  have f5 : ((1 : Int32)).toInt = 1 := rfl
  have pq12_4_9 := pq12_4
  try dsimp only at pq12_4_9
  refine jok_eq (fun c6 d6 => ?_) (fun c6 => ?_)
  · try rw [t_cv wq12_4 ta0 rfl]
    refine jok_b (S_X12_keepsAll hn hg wq12_4 ta0) (fun h21_7 wh21_7 => ?_)
    try rw [t_cv wh21_7 ta0 rfl]
    have f9 : ((31 : Int32)).toInt = 31 := rfl
    refine jok_b (S_X12_pulls hn hg wh21_7 ta0 (by omega) (by omega) (by omega) (by omega)) (fun q29_8 wq29_8 => ?_)
    obtain ⟨wq29_8, pq29_8⟩ := wq29_8
    have pq29_8_9 := pq29_8
    try dsimp only at pq29_8_9
    try rw [t_cv wq29_8 ta0 rfl]
    refine jok_b (S_X12_bringsBack hn hg wq29_8 ta0) (fun h34_10 wh34_10 => ?_)
    exact jok_s ⟨wh34_10, trivial⟩
  · exact jok_s ⟨wq12_4, trivial⟩
set_option maxHeartbeats 1000000 in
theorem S_X12_with {g : jGh} {Γ : Nat → Option Nat} {n : Nat} {a0 : Nat} {x1 : Int32} {x2 : Int32} {h : jH} (hn : 6000 ≤ n) (hg : jgok g) (w : jW (jKd g) Γ h) (ta0 : Γ a0 = some 20) : jok (F_X12_with n a0 x1 x2 h) (fun q => jW (jKd g) Γ q.2 ∧ (fun v : Int32 => True) q.1) := by
  unfold F_X12_with
  have f2 : ((0 : Int32)).toInt = 0 := rfl
  refine jok_b (t_pI w ta0 rfl rfl trivial) (fun h2_1 wh2_1 => ?_)
  obtain ⟨wh2_1, jh2_1, rh2_1⟩ := wh2_1
  try rw [t_cv wh2_1 ta0 rfl]
  refine jok_b (S_X12_noRing hn hg wh2_1 ta0) (fun v8_3 pv8_3 => ?_)
  have pv8_3_9 := pv8_3
  try dsimp only at pv8_3_9
  try rw [t_cv wh2_1 ta0 rfl]
  refine jok_b (S_X12_throwsIf hn hg wh2_1 ta0 (by omega) (by omega)) (fun q12_4 wq12_4 => ?_)
  obtain ⟨wq12_4, pq12_4⟩ := wq12_4
  have f5 : ((1 : Int32)).toInt = 1 := rfl
  have pq12_4_9 := pq12_4
  try dsimp only at pq12_4_9
  refine jok_eq (fun c6 d6 => ?_) (fun c6 => ?_)
  · try rw [t_cv wq12_4 ta0 rfl]
    refine jok_b (S_X12_goingBy hn hg wq12_4 ta0 (by omega) (by omega)) (fun v25_7 pv25_7 => ?_)
    have pv25_7_9 := pv25_7
    try dsimp only at pv25_7_9
    exact jok_s ⟨wq12_4, trivial⟩
  · exact jok_s ⟨wq12_4, trivial⟩
set_option maxHeartbeats 1000000 in
theorem S_X12_would {g : jGh} {Γ : Nat → Option Nat} {n : Nat} {a0 : Nat} {x1 : Int32} {x2 : Int32} {x3 : Int32} {x4 : Int32} {h : jH} (hn : 6000 ≤ n) (hg : jgok g) (w : jW (jKd g) Γ h) (ta0 : Γ a0 = some 20) : jok (F_X12_would n a0 x1 x2 x3 x4 h) (fun q => jW (jKd g) Γ q.2 ∧ (fun v : Int32 => True) q.1) := by
  unfold F_X12_would
  have f2 : ((0 : Int32)).toInt = 0 := rfl
  refine jok_b (t_pI w ta0 rfl rfl trivial) (fun h2_1 wh2_1 => ?_)
  obtain ⟨wh2_1, jh2_1, rh2_1⟩ := wh2_1
  try rw [t_cv wh2_1 ta0 rfl]
  refine jok_b (S_X12_noRing hn hg wh2_1 ta0) (fun v8_3 pv8_3 => ?_)
  have pv8_3_9 := pv8_3
  try dsimp only at pv8_3_9
  try rw [t_cv wh2_1 ta0 rfl]
  refine jok_b (S_X12_throwsIf hn hg wh2_1 ta0 (by omega) (by omega)) (fun q12_4 wq12_4 => ?_)
  obtain ⟨wq12_4, pq12_4⟩ := wq12_4
  have f5 : ((1 : Int32)).toInt = 1 := rfl
  have pq12_4_9 := pq12_4
  try dsimp only at pq12_4_9
  refine jok_eq (fun c6 d6 => ?_) (fun c6 => ?_)
  · refine jok_b (S_X12_noSteps hn hg wq12_4) (fun v20_7 pv20_7 => ?_)
    have pv20_7_9 := pv20_7
    try dsimp only at pv20_7_9
    try rw [t_cv wq12_4 ta0 rfl]
    refine jok_b (S_X12_throwsIf hn hg wq12_4 ta0 (by omega) (by omega)) (fun q24_8 wq24_8 => ?_)
    obtain ⟨wq24_8, pq24_8⟩ := wq24_8
    have f9 : ((2 : Int32)).toInt = 2 := rfl
    have pq24_8_9 := pq24_8
    try dsimp only at pq24_8_9
    refine jok_eq (fun c10 d10 => ?_) (fun c10 => ?_)
    · try rw [t_cv wq24_8 ta0 rfl]
      refine jok_b (S_X12_keepsAll hn hg wq24_8 ta0) (fun h33_11 wh33_11 => ?_)
      try rw [t_cv wh33_11 ta0 rfl]
      refine jok_b (S_X12_pulls hn hg wh33_11 ta0 (by omega) (by omega) (by omega) (by omega)) (fun q40_12 wq40_12 => ?_)
      obtain ⟨wq40_12, pq40_12⟩ := wq40_12
      have pq40_12_9 := pq40_12
      try dsimp only at pq40_12_9
      refine jok_eq (fun c13 d13 => ?_) (fun c13 => ?_)
      · try rw [t_cv wq40_12 ta0 rfl]
        refine jok_b (S_X12_darkNow hn hg wq40_12 ta0) (fun v57_14 pv57_14 => ?_)
        unfold F_X12_would_60
        try rw [t_cv wq40_12 ta0 rfl]
        refine jok_b (S_X12_bringsBack hn hg wq40_12 ta0) (fun h63_15 wh63_15 => ?_)
        exact jok_s ⟨wh63_15, trivial⟩
      · refine jok_b2 (t_gI wq40_12 ta0 rfl rfl) (fun v50_16 ev50_16 pv50_16 => ?_)
        unfold F_X12_would_60
        try rw [t_cv wq40_12 ta0 rfl]
        refine jok_b (S_X12_bringsBack hn hg wq40_12 ta0) (fun h63_17 wh63_17 => ?_)
        exact jok_s ⟨wh63_17, trivial⟩
    · exact jok_s ⟨wq24_8, trivial⟩
  · exact jok_s ⟨wq12_4, trivial⟩
set_option maxHeartbeats 1000000 in
theorem S_X12_loosen_51 {g : jGh} {Γ : Nat → Option Nat} {n : Nat} (hn : 6000 ≤ n) (hg : jgok g)  (k : Nat) : ∀ {a0 : Nat} {x1 : Int32} {x2 : Int32} {x3 : Int32} {x4 : Int32} {x5 : Int32} {x6 : Int32} {x7 : Int32} {h : jH}, jW (jKd g) Γ h → (Γ a0 = some 20) → (0 ≤ x1.toInt) → (x1.toInt ≤ 7) → (1 ≤ x3.toInt) → (x3.toInt ≤ 31) → (0 ≤ x4.toInt) → (x4.toInt ≤ 255) → (0 ≤ x7.toInt) → (x7.toInt ≤ 256) → (256 : Int) - x7.toInt < (k : Int) → jok (F_X12_loosen_51 n k a0 x1 x2 x3 x4 x5 x6 x7 h) (fun q => jW (jKd g) Γ q.2 ∧ (fun v : Int32 => True) q.1) := by
  induction k with
  | zero =>
    intro a0 x1 x2 x3 x4 x5 x6 x7 h w ta0 lx1 ux1 lx3 ux3 lx4 ux4 lx7 ux7 mk
    omega
  | succ k ih =>
    intro a0 x1 x2 x3 x4 x5 x6 x7 h w ta0 lx1 ux1 lx3 ux3 lx4 ux4 lx7 ux7 mk
    show jok (F_X12_loosen_51_b n (F_X12_loosen_51 n k) a0 x1 x2 x3 x4 x5 x6 x7 h) _
    unfold F_X12_loosen_51_b
    refine jok_lt (fun c1 => ?_) (fun c1 => ?_)
    · exact jok_s ⟨w, trivial⟩
    · have f2 : ((0 : Int32)).toInt = 0 := rfl
      refine jok_eq (fun c3 d3 => ?_) (fun c3 => ?_)
      · refine jok_b (S_J6_bitCount_0f7a4 hn hg w) (fun v70_4 pv70_4 => ?_)
        refine jok_le (fun c5 => ?_) (fun c5 => ?_)
        · have f6 : ((1 : Int32)).toInt = 1 := rfl
          have f7 : ((x7 + (1 : Int32))).toInt = (x7).toInt + ((1 : Int32)).toInt := jadd (by omega) (by omega)
          exact ih w ta0 (by omega) (by omega) (by omega) (by omega) (by omega) (by omega) (by omega) (by omega) (by omega)
        · try rw [t_cv w ta0 rfl]
          refine jok_b (S_X12_wentWith hn hg w ta0 (by omega) (by omega) (by omega) (by omega)) (fun q89_8 wq89_8 => ?_)
          obtain ⟨wq89_8, pq89_8⟩ := wq89_8
          have pq89_8_9 := pq89_8
          try dsimp only at pq89_8_9
          refine jok_le (fun c9 => ?_) (fun c9 => ?_)
          · refine jok_b (S_J6_bitCount_0f7a4 hn hg wq89_8) (fun v105_10 pv105_10 => ?_)
            have f11 : ((1 : Int32)).toInt = 1 := rfl
            have f12 : ((x7 + (1 : Int32))).toInt = (x7).toInt + ((1 : Int32)).toInt := jadd (by omega) (by omega)
            exact ih wq89_8 ta0 (by omega) (by omega) (by omega) (by omega) (by omega) (by omega) (by omega) (by omega) (by omega)
          · have f13 : ((1 : Int32)).toInt = 1 := rfl
            have f14 : ((x7 + (1 : Int32))).toInt = (x7).toInt + ((1 : Int32)).toInt := jadd (by omega) (by omega)
            exact ih wq89_8 ta0 (by omega) (by omega) (by omega) (by omega) (by omega) (by omega) (by omega) (by omega) (by omega)
      · have f15 : ((1 : Int32)).toInt = 1 := rfl
        have f16 : ((x7 + (1 : Int32))).toInt = (x7).toInt + ((1 : Int32)).toInt := jadd (by omega) (by omega)
        exact ih w ta0 (by omega) (by omega) (by omega) (by omega) (by omega) (by omega) (by omega) (by omega) (by omega)
set_option maxHeartbeats 1000000 in
theorem S_X12_loosen {g : jGh} {Γ : Nat → Option Nat} {n : Nat} {a0 : Nat} {x1 : Int32} {x2 : Int32} {x3 : Int32} {h : jH} (hn : 6000 ≤ n) (hg : jgok g) (w : jW (jKd g) Γ h) (ta0 : Γ a0 = some 20) : jok (F_X12_loosen n a0 x1 x2 x3 h) (fun q => jW (jKd g) Γ q.2 ∧ (fun v : Int32 => True) q.1) := by
  unfold F_X12_loosen
  have f2 : ((0 : Int32)).toInt = 0 := rfl
  refine jok_b (t_pI w ta0 rfl rfl trivial) (fun h2_1 wh2_1 => ?_)
  obtain ⟨wh2_1, jh2_1, rh2_1⟩ := wh2_1
  try rw [t_cv wh2_1 ta0 rfl]
  refine jok_b (S_X12_noRing hn hg wh2_1 ta0) (fun v8_3 pv8_3 => ?_)
  have pv8_3_9 := pv8_3
  try dsimp only at pv8_3_9
  try rw [t_cv wh2_1 ta0 rfl]
  refine jok_b (S_X12_throwsIf hn hg wh2_1 ta0 (by omega) (by omega)) (fun q12_4 wq12_4 => ?_)
  obtain ⟨wq12_4, pq12_4⟩ := wq12_4
  have f5 : ((1 : Int32)).toInt = 1 := rfl
  have pq12_4_9 := pq12_4
  try dsimp only at pq12_4_9
  refine jok_eq (fun c6 d6 => ?_) (fun c6 => ?_)
  · refine jok_b (S_X12_noSteps hn hg wq12_4) (fun v20_7 pv20_7 => ?_)
    have pv20_7_9 := pv20_7
    try dsimp only at pv20_7_9
    try rw [t_cv wq12_4 ta0 rfl]
    refine jok_b (S_X12_throwsIf hn hg wq12_4 ta0 (by omega) (by omega)) (fun q24_8 wq24_8 => ?_)
    obtain ⟨wq24_8, pq24_8⟩ := wq24_8
    have f9 : ((2 : Int32)).toInt = 2 := rfl
    have pq24_8_9 := pq24_8
    try dsimp only at pq24_8_9
    refine jok_eq (fun c10 d10 => ?_) (fun c10 => ?_)
    · try rw [t_cv wq24_8 ta0 rfl]
      have f12 : ((7 : Int32)).toInt = 7 := rfl
      refine jok_b (S_X12_ringsThat hn hg wq24_8 ta0 (by omega) (by omega)) (fun v35_11 pv35_11 => ?_)
      obtain ⟨lv35_11, uv35_11⟩ := pv35_11
      exact S_X12_loosen_51 hn hg  n wq24_8 ta0 (by omega) (by omega) (by omega) (by omega) (by omega) (by omega) (by omega) (by omega) (by omega)
    · exact jok_s ⟨wq24_8, trivial⟩
  · exact jok_s ⟨wq12_4, trivial⟩
set_option maxHeartbeats 1000000 in
theorem S_X12_order_26 {g : jGh} {Γ : Nat → Option Nat} {n : Nat} (hn : 6000 ≤ n) (hg : jgok g) {k9 : Nat} {rc9 : Nat → Int32 → Int32 → jH → Option (Int32 × jH)} (k : Nat) : ∀ {a0 : Nat} {x1 : Int32} {x2 : Int32} {x3 : Int32} {h : jH}, jW (jKd g) Γ h → (Γ a0 = some 20) → (0 ≤ x2.toInt) → (x2.toInt ≤ 7) → (0 ≤ x3.toInt) → (x3.toInt ≤ 8) → (8 : Int) - x3.toInt < (k : Int) → (∀ {a0 : Nat} {x1 : Int32} {x2 : Int32} {h : jH}, jW (jKd g) Γ h → (Γ a0 = some 20) → (0 ≤ x2.toInt) → (x2.toInt ≤ 8) → (8 : Int) - x2.toInt < (k9 : Int) → jok (rc9 a0 x1 x2 h) (fun q => jW (jKd g) Γ q.2 ∧ (fun v : Int32 => True) q.1)) → ((8 : Int) - x2.toInt ≤ (k9 : Int)) → jok (F_X12_order_26 n rc9 k a0 x1 x2 x3 h) (fun q => jW (jKd g) Γ q.2 ∧ (fun v : Int32 => True) q.1) := by
  induction k with
  | zero =>
    intro a0 x1 x2 x3 h w ta0 lx2 ux2 lx3 ux3 mk hrc9 m9
    omega
  | succ k ih =>
    intro a0 x1 x2 x3 h w ta0 lx2 ux2 lx3 ux3 mk hrc9 m9
    show jok (F_X12_order_26_b n rc9 (F_X12_order_26 n rc9 k) a0 x1 x2 x3 h) _
    unfold F_X12_order_26_b
    refine jok_le (fun c1 => ?_) (fun c1 => ?_)
    · refine jok_b (t_gR w ta0 rfl rfl) (fun p86_2 tp86_2 => ?_)
      refine jok_b (t_al w tp86_2 rfl (by omega) (by omega)) (fun v90_3 pv90_3 => ?_)
      have f4 : ((1 : Int32)).toInt = 1 := rfl
      have f5 : ((x2 + (1 : Int32))).toInt = (x2).toInt + ((1 : Int32)).toInt := jadd (by omega) (by omega)
      exact hrc9 w ta0 (by omega) (by omega) (by omega)
    · refine jok_b (t_gR w ta0 rfl rfl) (fun p32_6 tp32_6 => ?_)
      try rw [t_cv w ta0 rfl]
      have f8 : ((4 : Int32)).toInt = 4 := rfl
      refine jok_b (S_X12_of hn hg w ta0 (by omega) (by omega) (by omega) (by omega)) (fun v39_7 pv39_7 => ?_)
      have pv39_7_9 := pv39_7
      try dsimp only at pv39_7_9
      try rw [t_cv w ta0 rfl]
      refine jok_b (S_X12_of hn hg w ta0 (by omega) (by omega) (by omega) (by omega)) (fun v45_9 pv45_9 => ?_)
      have pv45_9_9 := pv45_9
      try dsimp only at pv45_9_9
      refine jok_lt (fun c10 => ?_) (fun c10 => ?_)
      · refine jok_b (t_gR w ta0 rfl rfl) (fun p72_11 tp72_11 => ?_)
        refine jok_b (t_al w tp72_11 rfl (by omega) (by omega)) (fun v76_12 pv76_12 => ?_)
        refine jok_b (t_as w tp32_6 rfl (by omega) (by omega) trivial (fun q => by cases q)) (fun h77_13 wh77_13 => ?_)
        obtain ⟨wh77_13, rh77_13⟩ := wh77_13
        have f14 : ((1 : Int32)).toInt = 1 := rfl
        have f15 : ((x3 + (1 : Int32))).toInt = (x3).toInt + ((1 : Int32)).toInt := jadd (by omega) (by omega)
        exact ih wh77_13 ta0 (by omega) (by omega) (by omega) (by omega) (by omega) hrc9 (by omega)
      · refine jok_b (t_gR w ta0 rfl rfl) (fun p52_16 tp52_16 => ?_)
        refine jok_b (t_al w tp52_16 rfl (by omega) (by omega)) (fun v56_17 pv56_17 => ?_)
        refine jok_b (t_gR w ta0 rfl rfl) (fun p58_18 tp58_18 => ?_)
        refine jok_b (t_al w tp58_18 rfl (by omega) (by omega)) (fun v62_19 pv62_19 => ?_)
        have f21 : ((1 : Int32)).toInt = 1 := rfl
        refine jok_b (t_as w tp32_6 rfl (by omega) (by omega) trivial (fun q => by cases q)) (fun h77_20 wh77_20 => ?_)
        obtain ⟨wh77_20, rh77_20⟩ := wh77_20
        have f22 : ((x3 + (1 : Int32))).toInt = (x3).toInt + ((1 : Int32)).toInt := jadd (by omega) (by omega)
        exact ih wh77_20 ta0 (by omega) (by omega) (by omega) (by omega) (by omega) hrc9 (by omega)
set_option maxHeartbeats 1000000 in
theorem S_X12_order_9 {g : jGh} {Γ : Nat → Option Nat} {n : Nat} (hn : 6000 ≤ n) (hg : jgok g)  (k : Nat) : ∀ {a0 : Nat} {x1 : Int32} {x2 : Int32} {h : jH}, jW (jKd g) Γ h → (Γ a0 = some 20) → (0 ≤ x2.toInt) → (x2.toInt ≤ 8) → (8 : Int) - x2.toInt < (k : Int) → jok (F_X12_order_9 n k a0 x1 x2 h) (fun q => jW (jKd g) Γ q.2 ∧ (fun v : Int32 => True) q.1) := by
  induction k with
  | zero =>
    intro a0 x1 x2 h w ta0 lx2 ux2 mk
    omega
  | succ k ih =>
    intro a0 x1 x2 h w ta0 lx2 ux2 mk
    show jok (F_X12_order_9_b n (F_X12_order_9 n k) a0 x1 x2 h) _
    unfold F_X12_order_9_b
    try rw [t_cv w ta0 rfl]
    refine jok_b2 (S_X12_rings hn hg w ta0) (fun v11_1 ev11_1 pv11_1 => ?_)
    obtain ⟨lv11_1, uv11_1⟩ := pv11_1
    refine jok_le (fun c2 => ?_) (fun c2 => ?_)
    · try rw [t_cv w ta0 rfl]
      refine jok_r ev11_1 ?_
      exact jok_s ⟨w, trivial⟩
    · refine jok_b (t_gR w ta0 rfl rfl) (fun p18_4 tp18_4 => ?_)
      have f6 : ((1 : Int32)).toInt = 1 := rfl
      refine jok_b (t_as w tp18_4 rfl (by omega) (by omega) trivial (fun q => by cases q)) (fun h23_5 wh23_5 => ?_)
      obtain ⟨wh23_5, rh23_5⟩ := wh23_5
      have f7 : ((0 : Int32)).toInt = 0 := rfl
      exact S_X12_order_26 hn hg  n wh23_5 ta0 (by omega) (by omega) (by omega) (by omega) (by omega) ih (by omega)
set_option maxHeartbeats 1000000 in
theorem S_X12_order {g : jGh} {Γ : Nat → Option Nat} {n : Nat} {a0 : Nat} {h : jH} (hn : 6000 ≤ n) (hg : jgok g) (w : jW (jKd g) Γ h) (ta0 : Γ a0 = some 20) : jok (F_X12_order n a0 h) (fun q => jW (jKd g) Γ q.2 ∧ (fun v : Int32 => True) q.1) := by
  unfold F_X12_order
  have f2 : ((0 : Int32)).toInt = 0 := rfl
  refine jok_b (t_pI w ta0 rfl rfl trivial) (fun h2_1 wh2_1 => ?_)
  obtain ⟨wh2_1, jh2_1, rh2_1⟩ := wh2_1
  exact S_X12_order_9 hn hg  n wh2_1 ta0 (by omega) (by omega) (by omega)
set_option maxHeartbeats 1000000 in
theorem S_X12_tight_39 {g : jGh} {Γ : Nat → Option Nat} {n : Nat} (hn : 6000 ≤ n) (hg : jgok g)  (k : Nat) : ∀ {a0 : Nat} {x1 : Int32} {x2 : Int32} {x3 : Int32} {x4 : Int32} {h : jH}, jW (jKd g) Γ h → (Γ a0 = some 20) → (2 ≤ x1.toInt) → (x1.toInt ≤ 8) → (0 ≤ x4.toInt) → (x4.toInt ≤ 8) → (8 : Int) - x4.toInt < (k : Int) → jok (F_X12_tight_39 n k a0 x1 x2 x3 x4 h) (fun q => jW (jKd g) Γ q.2 ∧ (fun v : Int32 => True) q.1) := by
  induction k with
  | zero =>
    intro a0 x1 x2 x3 x4 h w ta0 lx1 ux1 lx4 ux4 mk
    omega
  | succ k ih =>
    intro a0 x1 x2 x3 x4 h w ta0 lx1 ux1 lx4 ux4 mk
    show jok (F_X12_tight_39_b n (F_X12_tight_39 n k) a0 x1 x2 x3 x4 h) _
    unfold F_X12_tight_39_b
    try rw [t_cv w ta0 rfl]
    refine jok_b2 (S_X12_rings hn hg w ta0) (fun v44_1 ev44_1 pv44_1 => ?_)
    obtain ⟨lv44_1, uv44_1⟩ := pv44_1
    have f2 : ((x4 + x1)).toInt = (x4).toInt + (x1).toInt := jadd (by omega) (by omega)
    refine jok_lt (fun c3 => ?_) (fun c3 => ?_)
    · exact jok_s ⟨w, trivial⟩
    · try rw [t_cv w ta0 rfl]
      have f5 : ((1 : Int32)).toInt = 1 := rfl
      have f6 : (((x4 + x1) - (1 : Int32))).toInt = ((x4 + x1)).toInt - ((1 : Int32)).toInt := jsub (by omega) (by omega)
      have f7 : ((0 : Int32)).toInt = 0 := rfl
      refine jok_b (S_X12_of hn hg w ta0 (by omega) (by omega) (by omega) (by omega)) (fun v58_4 pv58_4 => ?_)
      have pv58_4_9 := pv58_4
      try dsimp only at pv58_4_9
      try rw [t_cv w ta0 rfl]
      refine jok_b (S_X12_of hn hg w ta0 (by omega) (by omega) (by omega) (by omega)) (fun v65_8 pv65_8 => ?_)
      have pv65_8_9 := pv65_8
      try dsimp only at pv65_8_9
      refine jok_le (fun c9 => ?_) (fun c9 => ?_)
      · unfold F_X12_tight_83
        have f10 : ((x4 + (1 : Int32))).toInt = (x4).toInt + ((1 : Int32)).toInt := jadd (by omega) (by omega)
        exact ih w ta0 (by omega) (by omega) (by omega) (by omega) (by omega)
      · unfold F_X12_tight_83
        have f11 : ((x4 + (1 : Int32))).toInt = (x4).toInt + ((1 : Int32)).toInt := jadd (by omega) (by omega)
        exact ih w ta0 (by omega) (by omega) (by omega) (by omega) (by omega)
set_option maxHeartbeats 1000000 in
theorem S_X12_tight {g : jGh} {Γ : Nat → Option Nat} {n : Nat} {a0 : Nat} {x1 : Int32} {h : jH} (hn : 6000 ≤ n) (hg : jgok g) (w : jW (jKd g) Γ h) (ta0 : Γ a0 = some 20) : jok (F_X12_tight n a0 x1 h) (fun q => jW (jKd g) Γ q.2 ∧ (fun v : Int32 => True) q.1) := by
  unfold F_X12_tight
  have f2 : ((0 : Int32)).toInt = 0 := rfl
  refine jok_b (t_pI w ta0 rfl rfl trivial) (fun h2_1 wh2_1 => ?_)
  obtain ⟨wh2_1, jh2_1, rh2_1⟩ := wh2_1
  refine jok_b (S_X12_in hn hg wh2_1) (fun v10_3 pv10_3 => ?_)
  have f4 : ((2 : Int32)).toInt = 2 := rfl
  have f5 : ((8 : Int32)).toInt = 8 := rfl
  have pv10_3_9 := pv10_3
  try dsimp only at pv10_3_9
  refine jok_eq (fun c6 d6 => ?_) (fun c6 => ?_)
  · unfold F_X12_tight_21
    try rw [t_cv wh2_1 ta0 rfl]
    have f8 : ((1 : Int32)).toInt = 1 := rfl
    refine jok_b (S_X12_throwsIf hn hg wh2_1 ta0 (by omega) (by omega)) (fun q22_7 wq22_7 => ?_)
    obtain ⟨wq22_7, pq22_7⟩ := wq22_7
    have pq22_7_9 := pq22_7
    try dsimp only at pq22_7_9
    refine jok_eq (fun c9 d9 => ?_) (fun c9 => ?_)
    · exact S_X12_tight_39 hn hg  n wq22_7 ta0 (by omega) (by omega) (by omega) (by omega) (by omega)
    · exact jok_s ⟨wq22_7, trivial⟩
  · unfold F_X12_tight_21
    try rw [t_cv wh2_1 ta0 rfl]
    refine jok_b (S_X12_throwsIf hn hg wh2_1 ta0 (by omega) (by omega)) (fun q22_10 wq22_10 => ?_)
    obtain ⟨wq22_10, pq22_10⟩ := wq22_10
    have f11 : ((1 : Int32)).toInt = 1 := rfl
    have pq22_10_9 := pq22_10
    try dsimp only at pq22_10_9
    refine jok_eq (fun c12 d12 => ?_) (fun c12 => ?_)
    · exact S_X12_tight_39 hn hg  n wq22_10 ta0 (by omega) (by omega) (by omega) (by omega) (by omega)
    · exact jok_s ⟨wq22_10, trivial⟩
set_option maxHeartbeats 1000000 in
theorem S_X12_lit {g : jGh} {Γ : Nat → Option Nat} {n : Nat} {a0 : Nat} {x1 : Int32} {h : jH} (hn : 6000 ≤ n) (hg : jgok g) (w : jW (jKd g) Γ h) (ta0 : Γ a0 = some 20) : jok (F_X12_lit n a0 x1 h) (fun q => jW (jKd g) Γ q.2 ∧ (fun v : Int32 => True) q.1) := by
  unfold F_X12_lit
  have f2 : ((0 : Int32)).toInt = 0 := rfl
  refine jok_b (t_pI w ta0 rfl rfl trivial) (fun h2_1 wh2_1 => ?_)
  obtain ⟨wh2_1, jh2_1, rh2_1⟩ := wh2_1
  refine jok_b (S_X12_in hn hg wh2_1) (fun v10_3 pv10_3 => ?_)
  have f4 : ((7 : Int32)).toInt = 7 := rfl
  have pv10_3_9 := pv10_3
  try dsimp only at pv10_3_9
  refine jok_eq (fun c5 d5 => ?_) (fun c5 => ?_)
  · unfold F_X12_lit_21
    try rw [t_cv wh2_1 ta0 rfl]
    have f7 : ((1 : Int32)).toInt = 1 := rfl
    refine jok_b (S_X12_throwsIf hn hg wh2_1 ta0 (by omega) (by omega)) (fun q22_6 wq22_6 => ?_)
    obtain ⟨wq22_6, pq22_6⟩ := wq22_6
    have pq22_6_9 := pq22_6
    try dsimp only at pq22_6_9
    refine jok_eq (fun c8 d8 => ?_) (fun c8 => ?_)
    · try rw [t_cv wq22_6 ta0 rfl]
      refine jok_b (S_X12_litIn hn hg wq22_6 ta0) (fun v34_9 pv34_9 => ?_)
      exact jok_s ⟨wq22_6, trivial⟩
    · exact jok_s ⟨wq22_6, trivial⟩
  · unfold F_X12_lit_21
    try rw [t_cv wh2_1 ta0 rfl]
    refine jok_b (S_X12_throwsIf hn hg wh2_1 ta0 (by omega) (by omega)) (fun q22_10 wq22_10 => ?_)
    obtain ⟨wq22_10, pq22_10⟩ := wq22_10
    have f11 : ((1 : Int32)).toInt = 1 := rfl
    have pq22_10_9 := pq22_10
    try dsimp only at pq22_10_9
    refine jok_eq (fun c12 d12 => ?_) (fun c12 => ?_)
    · try rw [t_cv wq22_10 ta0 rfl]
      refine jok_b (S_X12_litIn hn hg wq22_10 ta0) (fun v34_13 pv34_13 => ?_)
      exact jok_s ⟨wq22_10, trivial⟩
    · exact jok_s ⟨wq22_10, trivial⟩
set_option maxHeartbeats 1000000 in
theorem S_X12_sunny_25 {g : jGh} {Γ : Nat → Option Nat} {n : Nat} (hn : 6000 ≤ n) (hg : jgok g) {k11 : Nat} {rc11 : Nat → Int32 → Int32 → Int32 → jH → Option (Int32 × jH)} (k : Nat) : ∀ {a0 : Nat} {x1 : Int32} {x2 : Int32} {x3 : Int32} {x4 : Int32} {x5 : Int32} {h : jH}, jW (jKd g) Γ h → (Γ a0 = some 20) → (0 ≤ x3.toInt) → (x3.toInt ≤ 7) → (0 ≤ x5.toInt) → (x5.toInt ≤ 8) → (8 : Int) - x5.toInt < (k : Int) → (∀ {a0 : Nat} {x1 : Int32} {x2 : Int32} {x3 : Int32} {h : jH}, jW (jKd g) Γ h → (Γ a0 = some 20) → (0 ≤ x3.toInt) → (x3.toInt ≤ 8) → (8 : Int) - x3.toInt < (k11 : Int) → jok (rc11 a0 x1 x2 x3 h) (fun q => jW (jKd g) Γ q.2 ∧ (fun v : Int32 => True) q.1)) → ((8 : Int) - x3.toInt ≤ (k11 : Int)) → jok (F_X12_sunny_25 n rc11 k a0 x1 x2 x3 x4 x5 h) (fun q => jW (jKd g) Γ q.2 ∧ (fun v : Int32 => True) q.1) := by
  induction k with
  | zero =>
    intro a0 x1 x2 x3 x4 x5 h w ta0 lx3 ux3 lx5 ux5 mk hrc11 m11
    omega
  | succ k ih =>
    intro a0 x1 x2 x3 x4 x5 h w ta0 lx3 ux3 lx5 ux5 mk hrc11 m11
    show jok (F_X12_sunny_25_b n rc11 (F_X12_sunny_25 n rc11 k) a0 x1 x2 x3 x4 x5 h) _
    unfold F_X12_sunny_25_b
    have f1 : ((8 : Int32)).toInt = 8 := rfl
    refine jok_le (fun c2 => ?_) (fun c2 => ?_)
    · refine jok_le (fun c3 => ?_) (fun c3 => ?_)
      · unfold F_X12_sunny_69
        have f4 : ((1 : Int32)).toInt = 1 := rfl
        have f5 : ((x3 + (1 : Int32))).toInt = (x3).toInt + ((1 : Int32)).toInt := jadd (by omega) (by omega)
        exact hrc11 w ta0 (by omega) (by omega) (by omega)
      · unfold F_X12_sunny_69
        have f6 : ((1 : Int32)).toInt = 1 := rfl
        have f7 : ((x3 + (1 : Int32))).toInt = (x3).toInt + ((1 : Int32)).toInt := jadd (by omega) (by omega)
        exact hrc11 w ta0 (by omega) (by omega) (by omega)
    · try rw [t_cv w ta0 rfl]
      refine jok_b (S_X12_isLit hn hg w ta0 (by omega) (by omega)) (fun v38_8 pv38_8 => ?_)
      obtain ⟨lv38_8, uv38_8⟩ := pv38_8
      have f9 : ((0 : Int32)).toInt = 0 := rfl
      refine jok_eq (fun c10 d10 => ?_) (fun c10 => ?_)
      · have f11 : ((1 : Int32)).toInt = 1 := rfl
        have f12 : ((x5 + (1 : Int32))).toInt = (x5).toInt + ((1 : Int32)).toInt := jadd (by omega) (by omega)
        exact ih w ta0 (by omega) (by omega) (by omega) (by omega) (by omega) hrc11 (by omega)
      · have f13 : ((1 : Int32)).toInt = 1 := rfl
        have f14 : ((x5 + (1 : Int32))).toInt = (x5).toInt + ((1 : Int32)).toInt := jadd (by omega) (by omega)
        exact ih w ta0 (by omega) (by omega) (by omega) (by omega) (by omega) hrc11 (by omega)
set_option maxHeartbeats 1000000 in
theorem S_X12_sunny_11 {g : jGh} {Γ : Nat → Option Nat} {n : Nat} (hn : 6000 ≤ n) (hg : jgok g)  (k : Nat) : ∀ {a0 : Nat} {x1 : Int32} {x2 : Int32} {x3 : Int32} {h : jH}, jW (jKd g) Γ h → (Γ a0 = some 20) → (0 ≤ x3.toInt) → (x3.toInt ≤ 8) → (8 : Int) - x3.toInt < (k : Int) → jok (F_X12_sunny_11 n k a0 x1 x2 x3 h) (fun q => jW (jKd g) Γ q.2 ∧ (fun v : Int32 => True) q.1) := by
  induction k with
  | zero =>
    intro a0 x1 x2 x3 h w ta0 lx3 ux3 mk
    omega
  | succ k ih =>
    intro a0 x1 x2 x3 h w ta0 lx3 ux3 mk
    show jok (F_X12_sunny_11_b n (F_X12_sunny_11 n k) a0 x1 x2 x3 h) _
    unfold F_X12_sunny_11_b
    try rw [t_cv w ta0 rfl]
    refine jok_b2 (S_X12_rings hn hg w ta0) (fun v13_1 ev13_1 pv13_1 => ?_)
    obtain ⟨lv13_1, uv13_1⟩ := pv13_1
    refine jok_le (fun c2 => ?_) (fun c2 => ?_)
    · exact jok_s ⟨w, trivial⟩
    · have f3 : ((0 : Int32)).toInt = 0 := rfl
      exact S_X12_sunny_25 hn hg  n w ta0 (by omega) (by omega) (by omega) (by omega) (by omega) ih (by omega)
set_option maxHeartbeats 1000000 in
theorem S_X12_sunny {g : jGh} {Γ : Nat → Option Nat} {n : Nat} {a0 : Nat} {h : jH} (hn : 6000 ≤ n) (hg : jgok g) (w : jW (jKd g) Γ h) (ta0 : Γ a0 = some 20) : jok (F_X12_sunny n a0 h) (fun q => jW (jKd g) Γ q.2 ∧ (fun v : Int32 => True) q.1) := by
  unfold F_X12_sunny
  have f2 : ((0 : Int32)).toInt = 0 := rfl
  refine jok_b (t_pI w ta0 rfl rfl trivial) (fun h2_1 wh2_1 => ?_)
  obtain ⟨wh2_1, jh2_1, rh2_1⟩ := wh2_1
  exact S_X12_sunny_11 hn hg  n wh2_1 ta0 (by omega) (by omega) (by omega)
set_option maxHeartbeats 1000000 in
theorem S_X12_envy_9 {g : jGh} {Γ : Nat → Option Nat} {n : Nat} (hn : 6000 ≤ n) (hg : jgok g)  (k : Nat) : ∀ {a0 : Nat} {x1 : Int32} {x2 : Int32} {h : jH}, jW (jKd g) Γ h → (Γ a0 = some 20) → (0 ≤ x2.toInt) → (x2.toInt ≤ 7) → (7 : Int) - x2.toInt < (k : Int) → jok (F_X12_envy_9 n k a0 x1 x2 h) (fun q => jW (jKd g) Γ q.2 ∧ (fun v : Int32 => True) q.1) := by
  induction k with
  | zero =>
    intro a0 x1 x2 h w ta0 lx2 ux2 mk
    omega
  | succ k ih =>
    intro a0 x1 x2 h w ta0 lx2 ux2 mk
    show jok (F_X12_envy_9_b n (F_X12_envy_9 n k) a0 x1 x2 h) _
    unfold F_X12_envy_9_b
    try rw [t_cv w ta0 rfl]
    refine jok_b2 (S_X12_lastRing hn hg w ta0) (fun v11_1 ev11_1 pv11_1 => ?_)
    obtain ⟨lv11_1, uv11_1⟩ := pv11_1
    refine jok_le (fun c2 => ?_) (fun c2 => ?_)
    · exact jok_s ⟨w, trivial⟩
    · try rw [t_cv w ta0 rfl]
      have f4 : ((5 : Int32)).toInt = 5 := rfl
      refine jok_b (S_X12_of hn hg w ta0 (by omega) (by omega) (by omega) (by omega)) (fun v21_3 pv21_3 => ?_)
      have pv21_3_9 := pv21_3
      try dsimp only at pv21_3_9
      try rw [t_cv w ta0 rfl]
      have f6 : ((1 : Int32)).toInt = 1 := rfl
      have f7 : ((x2 + (1 : Int32))).toInt = (x2).toInt + ((1 : Int32)).toInt := jadd (by omega) (by omega)
      refine jok_b (S_X12_of hn hg w ta0 (by omega) (by omega) (by omega) (by omega)) (fun v29_5 pv29_5 => ?_)
      have pv29_5_9 := pv29_5
      try dsimp only at pv29_5_9
      have f8 : ((0 : Int32)).toInt = 0 := rfl
      refine jok_le (fun c9 => ?_) (fun c9 => ?_)
      · exact ih w ta0 (by omega) (by omega) (by omega)
      · exact ih w ta0 (by omega) (by omega) (by omega)
set_option maxHeartbeats 1000000 in
theorem S_X12_envy {g : jGh} {Γ : Nat → Option Nat} {n : Nat} {a0 : Nat} {h : jH} (hn : 6000 ≤ n) (hg : jgok g) (w : jW (jKd g) Γ h) (ta0 : Γ a0 = some 20) : jok (F_X12_envy n a0 h) (fun q => jW (jKd g) Γ q.2 ∧ (fun v : Int32 => True) q.1) := by
  unfold F_X12_envy
  have f2 : ((0 : Int32)).toInt = 0 := rfl
  refine jok_b (t_pI w ta0 rfl rfl trivial) (fun h2_1 wh2_1 => ?_)
  obtain ⟨wh2_1, jh2_1, rh2_1⟩ := wh2_1
  exact S_X12_envy_9 hn hg  n wh2_1 ta0 (by omega) (by omega) (by omega)
set_option maxHeartbeats 1000000 in
theorem S_X12_rests_42 {g : jGh} {Γ : Nat → Option Nat} {n : Nat} (hn : 6000 ≤ n) (hg : jgok g) {k34 : Nat} {rc34 : Nat → Int32 → Int32 → Int32 → jH → Option (Int32 × jH)} (k : Nat) : ∀ {a0 : Nat} {x1 : Int32} {x2 : Int32} {x3 : Int32} {x4 : Int32} {h : jH}, jW (jKd g) Γ h → (Γ a0 = some 20) → (0 ≤ x1.toInt) → (x1.toInt ≤ 7) → (0 ≤ x3.toInt) → (x3.toInt ≤ 1) → (0 ≤ x4.toInt) → (x4.toInt ≤ 2) → (2 : Int) - x4.toInt < (k : Int) → (∀ {a0 : Nat} {x1 : Int32} {x2 : Int32} {x3 : Int32} {h : jH}, jW (jKd g) Γ h → (Γ a0 = some 20) → (0 ≤ x1.toInt) → (x1.toInt ≤ 7) → (0 ≤ x3.toInt) → (x3.toInt ≤ 2) → (2 : Int) - x3.toInt < (k34 : Int) → jok (rc34 a0 x1 x2 x3 h) (fun q => jW (jKd g) Γ q.2 ∧ (fun v : Int32 => True) q.1)) → ((2 : Int) - x3.toInt ≤ (k34 : Int)) → jok (F_X12_rests_42 n rc34 k a0 x1 x2 x3 x4 h) (fun q => jW (jKd g) Γ q.2 ∧ (fun v : Int32 => True) q.1) := by
  induction k with
  | zero =>
    intro a0 x1 x2 x3 x4 h w ta0 lx1 ux1 lx3 ux3 lx4 ux4 mk hrc34 m34
    omega
  | succ k ih =>
    intro a0 x1 x2 x3 x4 h w ta0 lx1 ux1 lx3 ux3 lx4 ux4 mk hrc34 m34
    show jok (F_X12_rests_42_b n rc34 (F_X12_rests_42 n rc34 k) a0 x1 x2 x3 x4 h) _
    unfold F_X12_rests_42_b
    have f1 : ((2 : Int32)).toInt = 2 := rfl
    refine jok_le (fun c2 => ?_) (fun c2 => ?_)
    · have f3 : ((1 : Int32)).toInt = 1 := rfl
      have f4 : ((x3 + (1 : Int32))).toInt = (x3).toInt + ((1 : Int32)).toInt := jadd (by omega) (by omega)
      exact hrc34 w ta0 (by omega) (by omega) (by omega) (by omega) (by omega)
    · try rw [t_cv w ta0 rfl]
      refine jok_b (S_X12_eachHas hn hg w ta0 (by omega) (by omega)) (fun v54_5 pv54_5 => ?_)
      try rw [t_cv w ta0 rfl]
      refine jok_b (S_X12_eachHas hn hg w ta0 (by omega) (by omega)) (fun v64_6 pv64_6 => ?_)
      refine jok_lt (fun c7 => ?_) (fun c7 => ?_)
      · have f8 : ((1 : Int32)).toInt = 1 := rfl
        have f9 : ((x4 + (1 : Int32))).toInt = (x4).toInt + ((1 : Int32)).toInt := jadd (by omega) (by omega)
        exact ih w ta0 (by omega) (by omega) (by omega) (by omega) (by omega) (by omega) (by omega) hrc34 (by omega)
      · try rw [t_cv w ta0 rfl]
        refine jok_b (S_X12_eachHas hn hg w ta0 (by omega) (by omega)) (fun v75_10 pv75_10 => ?_)
        try rw [t_cv w ta0 rfl]
        refine jok_b (S_X12_eachHas hn hg w ta0 (by omega) (by omega)) (fun v85_11 pv85_11 => ?_)
        refine jok_lt (fun c12 => ?_) (fun c12 => ?_)
        · have f13 : ((1 : Int32)).toInt = 1 := rfl
          have f14 : ((x4 + (1 : Int32))).toInt = (x4).toInt + ((1 : Int32)).toInt := jadd (by omega) (by omega)
          exact ih w ta0 (by omega) (by omega) (by omega) (by omega) (by omega) (by omega) (by omega) hrc34 (by omega)
        · have f15 : ((1 : Int32)).toInt = 1 := rfl
          have f16 : ((x4 + (1 : Int32))).toInt = (x4).toInt + ((1 : Int32)).toInt := jadd (by omega) (by omega)
          exact ih w ta0 (by omega) (by omega) (by omega) (by omega) (by omega) (by omega) (by omega) hrc34 (by omega)
set_option maxHeartbeats 1000000 in
theorem S_X12_rests_34 {g : jGh} {Γ : Nat → Option Nat} {n : Nat} (hn : 6000 ≤ n) (hg : jgok g)  (k : Nat) : ∀ {a0 : Nat} {x1 : Int32} {x2 : Int32} {x3 : Int32} {h : jH}, jW (jKd g) Γ h → (Γ a0 = some 20) → (0 ≤ x1.toInt) → (x1.toInt ≤ 7) → (0 ≤ x3.toInt) → (x3.toInt ≤ 2) → (2 : Int) - x3.toInt < (k : Int) → jok (F_X12_rests_34 n k a0 x1 x2 x3 h) (fun q => jW (jKd g) Γ q.2 ∧ (fun v : Int32 => True) q.1) := by
  induction k with
  | zero =>
    intro a0 x1 x2 x3 h w ta0 lx1 ux1 lx3 ux3 mk
    omega
  | succ k ih =>
    intro a0 x1 x2 x3 h w ta0 lx1 ux1 lx3 ux3 mk
    show jok (F_X12_rests_34_b n (F_X12_rests_34 n k) a0 x1 x2 x3 h) _
    unfold F_X12_rests_34_b
    have f1 : ((2 : Int32)).toInt = 2 := rfl
    refine jok_le (fun c2 => ?_) (fun c2 => ?_)
    · exact jok_s ⟨w, trivial⟩
    · have f3 : ((0 : Int32)).toInt = 0 := rfl
      exact S_X12_rests_42 hn hg  n w ta0 (by omega) (by omega) (by omega) (by omega) (by omega) (by omega) (by omega) ih (by omega)
set_option maxHeartbeats 1000000 in
theorem S_X12_rests {g : jGh} {Γ : Nat → Option Nat} {n : Nat} {a0 : Nat} {x1 : Int32} {h : jH} (hn : 6000 ≤ n) (hg : jgok g) (w : jW (jKd g) Γ h) (ta0 : Γ a0 = some 20) : jok (F_X12_rests n a0 x1 h) (fun q => jW (jKd g) Γ q.2 ∧ (fun v : Int32 => True) q.1) := by
  unfold F_X12_rests
  have f2 : ((0 : Int32)).toInt = 0 := rfl
  refine jok_b (t_pI w ta0 rfl rfl trivial) (fun h2_1 wh2_1 => ?_)
  obtain ⟨wh2_1, jh2_1, rh2_1⟩ := wh2_1
  try rw [t_cv wh2_1 ta0 rfl]
  refine jok_b (S_X12_noRing hn hg wh2_1 ta0) (fun v8_3 pv8_3 => ?_)
  have pv8_3_9 := pv8_3
  try dsimp only at pv8_3_9
  try rw [t_cv wh2_1 ta0 rfl]
  refine jok_b (S_X12_throwsIf hn hg wh2_1 ta0 (by omega) (by omega)) (fun q12_4 wq12_4 => ?_)
  obtain ⟨wq12_4, pq12_4⟩ := wq12_4
  have f5 : ((1 : Int32)).toInt = 1 := rfl
  have pq12_4_9 := pq12_4
  try dsimp only at pq12_4_9
  refine jok_eq (fun c6 d6 => ?_) (fun c6 => ?_)
  · try rw [t_cv wq12_4 ta0 rfl]
    refine jok_b2 (S_X12_lastRing hn hg wq12_4 ta0) (fun v22_7 ev22_7 pv22_7 => ?_)
    obtain ⟨lv22_7, uv22_7⟩ := pv22_7
    refine jok_eq (fun c8 d8 => ?_) (fun c8 => ?_)
    · exact jok_s ⟨wq12_4, trivial⟩
    · exact S_X12_rests_34 hn hg  n wq12_4 ta0 (by omega) (by omega) (by omega) (by omega) (by omega)
  · exact jok_s ⟨wq12_4, trivial⟩
set_option maxHeartbeats 1000000 in
theorem S_X12_bunch_11 {g : jGh} {Γ : Nat → Option Nat} {n : Nat} (hn : 6000 ≤ n) (hg : jgok g)  (k : Nat) : ∀ {a0 : Nat} {x1 : Int32} {x2 : Int32} {x3 : Int32} {h : jH}, jW (jKd g) Γ h → (Γ a0 = some 20) → (0 ≤ x3.toInt) → (x3.toInt ≤ 8) → (8 : Int) - x3.toInt < (k : Int) → jok (F_X12_bunch_11 n k a0 x1 x2 x3 h) (fun q => jW (jKd g) Γ q.2 ∧ (fun v : Int32 => True) q.1) := by
  induction k with
  | zero =>
    intro a0 x1 x2 x3 h w ta0 lx3 ux3 mk
    omega
  | succ k ih =>
    intro a0 x1 x2 x3 h w ta0 lx3 ux3 mk
    show jok (F_X12_bunch_11_b n (F_X12_bunch_11 n k) a0 x1 x2 x3 h) _
    unfold F_X12_bunch_11_b
    try rw [t_cv w ta0 rfl]
    refine jok_b2 (S_X12_rings hn hg w ta0) (fun v13_1 ev13_1 pv13_1 => ?_)
    obtain ⟨lv13_1, uv13_1⟩ := pv13_1
    refine jok_le (fun c2 => ?_) (fun c2 => ?_)
    · exact jok_s ⟨w, trivial⟩
    · have f3 : ((0 : Int32)).toInt = 0 := rfl
      refine jok_le (fun c4 => ?_) (fun c4 => ?_)
      · unfold F_X12_bunch_41
        have f5 : ((1 : Int32)).toInt = 1 := rfl
        have f6 : ((x3 + (1 : Int32))).toInt = (x3).toInt + ((1 : Int32)).toInt := jadd (by omega) (by omega)
        exact ih w ta0 (by omega) (by omega) (by omega)
      · try rw [t_cv w ta0 rfl]
        have f8 : ((1 : Int32)).toInt = 1 := rfl
        have f9 : ((x3 - (1 : Int32))).toInt = (x3).toInt - ((1 : Int32)).toInt := jsub (by omega) (by omega)
        refine jok_b (S_X12_gapOf hn hg w ta0 (by omega) (by omega)) (fun v27_7 pv27_7 => ?_)
        refine jok_eq (fun c10 d10 => ?_) (fun c10 => ?_)
        · unfold F_X12_bunch_41
          have f11 : ((x3 + (1 : Int32))).toInt = (x3).toInt + ((1 : Int32)).toInt := jadd (by omega) (by omega)
          exact ih w ta0 (by omega) (by omega) (by omega)
        · unfold F_X12_bunch_41
          have f12 : ((x3 + (1 : Int32))).toInt = (x3).toInt + ((1 : Int32)).toInt := jadd (by omega) (by omega)
          exact ih w ta0 (by omega) (by omega) (by omega)
set_option maxHeartbeats 1000000 in
theorem S_X12_bunch {g : jGh} {Γ : Nat → Option Nat} {n : Nat} {a0 : Nat} {h : jH} (hn : 6000 ≤ n) (hg : jgok g) (w : jW (jKd g) Γ h) (ta0 : Γ a0 = some 20) : jok (F_X12_bunch n a0 h) (fun q => jW (jKd g) Γ q.2 ∧ (fun v : Int32 => True) q.1) := by
  unfold F_X12_bunch
  have f2 : ((0 : Int32)).toInt = 0 := rfl
  refine jok_b (t_pI w ta0 rfl rfl trivial) (fun h2_1 wh2_1 => ?_)
  obtain ⟨wh2_1, jh2_1, rh2_1⟩ := wh2_1
  exact S_X12_bunch_11 hn hg  n wh2_1 ta0 (by omega) (by omega) (by omega)
set_option maxHeartbeats 1000000 in
theorem S_X12_wooden {g : jGh} {Γ : Nat → Option Nat} {n : Nat} {a0 : Nat} {h : jH} (hn : 6000 ≤ n) (hg : jgok g) (w : jW (jKd g) Γ h) (ta0 : Γ a0 = some 20) : jok (F_X12_wooden n a0 h) (fun q => jW (jKd g) Γ q.2 ∧ (fun v : Int32 => True) q.1) := by
  unfold F_X12_wooden
  have f2 : ((0 : Int32)).toInt = 0 := rfl
  refine jok_b (t_pI w ta0 rfl rfl trivial) (fun h2_1 wh2_1 => ?_)
  obtain ⟨wh2_1, jh2_1, rh2_1⟩ := wh2_1
  try rw [t_cv wh2_1 ta0 rfl]
  have f4 : ((3 : Int32)).toInt = 3 := rfl
  refine jok_b (S_X12_ringsThat hn hg wh2_1 ta0 (by omega) (by omega)) (fun v7_3 pv7_3 => ?_)
  obtain ⟨lv7_3, uv7_3⟩ := pv7_3
  exact jok_s ⟨wh2_1, trivial⟩
set_option maxHeartbeats 1000000 in
theorem S_X12_caught {g : jGh} {Γ : Nat → Option Nat} {n : Nat} {a0 : Nat} {h : jH} (hn : 6000 ≤ n) (hg : jgok g) (w : jW (jKd g) Γ h) (ta0 : Γ a0 = some 20) : jok (F_X12_caught n a0 h) (fun q => jW (jKd g) Γ q.2 ∧ (fun v : Int32 => True) q.1) := by
  unfold F_X12_caught
  have f2 : ((0 : Int32)).toInt = 0 := rfl
  refine jok_b (t_pI w ta0 rfl rfl trivial) (fun h2_1 wh2_1 => ?_)
  obtain ⟨wh2_1, jh2_1, rh2_1⟩ := wh2_1
  try rw [t_cv wh2_1 ta0 rfl]
  have f4 : ((7 : Int32)).toInt = 7 := rfl
  refine jok_b (S_X12_ringsThat hn hg wh2_1 ta0 (by omega) (by omega)) (fun v8_3 pv8_3 => ?_)
  obtain ⟨lv8_3, uv8_3⟩ := pv8_3
  exact jok_s ⟨wh2_1, trivial⟩
set_option maxHeartbeats 1000000 in
theorem S_X12_loose {g : jGh} {Γ : Nat → Option Nat} {n : Nat} {a0 : Nat} {h : jH} (hn : 6000 ≤ n) (hg : jgok g) (w : jW (jKd g) Γ h) (ta0 : Γ a0 = some 20) : jok (F_X12_loose n a0 h) (fun q => jW (jKd g) Γ q.2 ∧ (fun v : Int32 => True) q.1) := by
  unfold F_X12_loose
  have f2 : ((0 : Int32)).toInt = 0 := rfl
  refine jok_b (t_pI w ta0 rfl rfl trivial) (fun h2_1 wh2_1 => ?_)
  obtain ⟨wh2_1, jh2_1, rh2_1⟩ := wh2_1
  try rw [t_cv wh2_1 ta0 rfl]
  refine jok_b (S_X12_looseOnes hn hg wh2_1 ta0) (fun v6_3 pv6_3 => ?_)
  exact jok_s ⟨wh2_1, trivial⟩
set_option maxHeartbeats 1000000 in
theorem S_X12_beyond_9 {g : jGh} {Γ : Nat → Option Nat} {n : Nat} (hn : 6000 ≤ n) (hg : jgok g)  (k : Nat) : ∀ {a0 : Nat} {x1 : Int32} {x2 : Int32} {h : jH}, jW (jKd g) Γ h → (Γ a0 = some 20) → (0 ≤ x2.toInt) → (x2.toInt ≤ 8) → (8 : Int) - x2.toInt < (k : Int) → jok (F_X12_beyond_9 n k a0 x1 x2 h) (fun q => jW (jKd g) Γ q.2 ∧ (fun v : Int32 => True) q.1) := by
  induction k with
  | zero =>
    intro a0 x1 x2 h w ta0 lx2 ux2 mk
    omega
  | succ k ih =>
    intro a0 x1 x2 h w ta0 lx2 ux2 mk
    show jok (F_X12_beyond_9_b n (F_X12_beyond_9 n k) a0 x1 x2 h) _
    unfold F_X12_beyond_9_b
    try rw [t_cv w ta0 rfl]
    refine jok_b2 (S_X12_rings hn hg w ta0) (fun v11_1 ev11_1 pv11_1 => ?_)
    obtain ⟨lv11_1, uv11_1⟩ := pv11_1
    refine jok_le (fun c2 => ?_) (fun c2 => ?_)
    · exact jok_s ⟨w, trivial⟩
    · try rw [t_cv w ta0 rfl]
      have f4 : ((2 : Int32)).toInt = 2 := rfl
      refine jok_b (S_X12_is hn hg w ta0 (by omega) (by omega) (by omega) (by omega)) (fun v21_3 pv21_3 => ?_)
      obtain ⟨lv21_3, uv21_3⟩ := pv21_3
      have f5 : ((0 : Int32)).toInt = 0 := rfl
      refine jok_eq (fun c6 d6 => ?_) (fun c6 => ?_)
      · have f7 : ((1 : Int32)).toInt = 1 := rfl
        have f8 : ((x2 + (1 : Int32))).toInt = (x2).toInt + ((1 : Int32)).toInt := jadd (by omega) (by omega)
        exact ih w ta0 (by omega) (by omega) (by omega)
      · try rw [t_cv w ta0 rfl]
        refine jok_b (S_X12_of hn hg w ta0 (by omega) (by omega) (by omega) (by omega)) (fun v30_9 pv30_9 => ?_)
        have pv30_9_9 := pv30_9
        try dsimp only at pv30_9_9
        refine jok_b (t_gR w ta0 rfl rfl) (fun p34_10 tp34_10 => ?_)
        have f12 : ((5 : Int32)).toInt = 5 := rfl
        refine jok_b (t_al w tp34_10 rfl (by omega) (by omega)) (fun v38_11 pv38_11 => ?_)
        refine jok_lt (fun c13 => ?_) (fun c13 => ?_)
        · have f14 : ((1 : Int32)).toInt = 1 := rfl
          have f15 : ((x2 + (1 : Int32))).toInt = (x2).toInt + ((1 : Int32)).toInt := jadd (by omega) (by omega)
          exact ih w ta0 (by omega) (by omega) (by omega)
        · have f16 : ((1 : Int32)).toInt = 1 := rfl
          have f17 : ((x2 + (1 : Int32))).toInt = (x2).toInt + ((1 : Int32)).toInt := jadd (by omega) (by omega)
          exact ih w ta0 (by omega) (by omega) (by omega)
set_option maxHeartbeats 1000000 in
theorem S_X12_beyond {g : jGh} {Γ : Nat → Option Nat} {n : Nat} {a0 : Nat} {h : jH} (hn : 6000 ≤ n) (hg : jgok g) (w : jW (jKd g) Γ h) (ta0 : Γ a0 = some 20) : jok (F_X12_beyond n a0 h) (fun q => jW (jKd g) Γ q.2 ∧ (fun v : Int32 => True) q.1) := by
  unfold F_X12_beyond
  have f2 : ((0 : Int32)).toInt = 0 := rfl
  refine jok_b (t_pI w ta0 rfl rfl trivial) (fun h2_1 wh2_1 => ?_)
  obtain ⟨wh2_1, jh2_1, rh2_1⟩ := wh2_1
  exact S_X12_beyond_9 hn hg  n wh2_1 ta0 (by omega) (by omega) (by omega)
set_option maxHeartbeats 1000000 in
theorem S_X12_odds_65 {g : jGh} {Γ : Nat → Option Nat} {n : Nat} (hn : 6000 ≤ n) (hg : jgok g)  (k : Nat) : ∀ {x2 : Int32} {x3 : Int32} {x4 : Int32} {x5 : Int32} {h : jH}, jW (jKd g) Γ h → (0 ≤ x2.toInt) → (x2.toInt ≤ 4) → (0 ≤ x5.toInt) → (x5.toInt ≤ 4) → (4 : Int) - x5.toInt < (k : Int) → jok (F_X12_odds_65 n k x2 x3 x4 x5 h) (fun q => jW (jKd g) Γ q.2 ∧ (fun v : Int32 => True) q.1) := by
  induction k with
  | zero =>
    intro x2 x3 x4 x5 h w lx2 ux2 lx5 ux5 mk
    omega
  | succ k ih =>
    intro x2 x3 x4 x5 h w lx2 ux2 lx5 ux5 mk
    show jok (F_X12_odds_65_b n (F_X12_odds_65 n k) x2 x3 x4 x5 h) _
    unfold F_X12_odds_65_b
    refine jok_le (fun c1 => ?_) (fun c1 => ?_)
    · exact jok_s ⟨w, trivial⟩
    · have f2 : ((1 : Int32)).toInt = 1 := rfl
      have f3 : ((x5 + (1 : Int32))).toInt = (x5).toInt + ((1 : Int32)).toInt := jadd (by omega) (by omega)
      exact ih w (by omega) (by omega) (by omega) (by omega) (by omega)
set_option maxHeartbeats 1000000 in
theorem S_X12_odds {g : jGh} {Γ : Nat → Option Nat} {n : Nat} {a0 : Nat} {x1 : Int32} {x2 : Int32} {h : jH} (hn : 6000 ≤ n) (hg : jgok g) (w : jW (jKd g) Γ h) (ta0 : Γ a0 = some 20) : jok (F_X12_odds n a0 x1 x2 h) (fun q => jW (jKd g) Γ q.2 ∧ (fun v : Int32 => True) q.1) := by
  unfold F_X12_odds
  have f2 : ((0 : Int32)).toInt = 0 := rfl
  refine jok_b (t_pI w ta0 rfl rfl trivial) (fun h2_1 wh2_1 => ?_)
  obtain ⟨wh2_1, jh2_1, rh2_1⟩ := wh2_1
  try rw [t_cv wh2_1 ta0 rfl]
  refine jok_b (S_X12_noRing hn hg wh2_1 ta0) (fun v8_3 pv8_3 => ?_)
  have pv8_3_9 := pv8_3
  try dsimp only at pv8_3_9
  try rw [t_cv wh2_1 ta0 rfl]
  refine jok_b (S_X12_throwsIf hn hg wh2_1 ta0 (by omega) (by omega)) (fun q12_4 wq12_4 => ?_)
  obtain ⟨wq12_4, pq12_4⟩ := wq12_4
  have f5 : ((1 : Int32)).toInt = 1 := rfl
  have pq12_4_9 := pq12_4
  try dsimp only at pq12_4_9
  refine jok_eq (fun c6 d6 => ?_) (fun c6 => ?_)
  · refine jok_b (S_X12_in hn hg wq12_4) (fun v22_7 pv22_7 => ?_)
    have f8 : ((4 : Int32)).toInt = 4 := rfl
    have pv22_7_9 := pv22_7
    try dsimp only at pv22_7_9
    refine jok_eq (fun c9 d9 => ?_) (fun c9 => ?_)
    · unfold F_X12_odds_33
      try rw [t_cv wq12_4 ta0 rfl]
      refine jok_b (S_X12_throwsIf hn hg wq12_4 ta0 (by omega) (by omega)) (fun q34_10 wq34_10 => ?_)
      obtain ⟨wq34_10, pq34_10⟩ := wq34_10
      have f11 : ((2 : Int32)).toInt = 2 := rfl
      have pq34_10_9 := pq34_10
      try dsimp only at pq34_10_9
      refine jok_eq (fun c12 d12 => ?_) (fun c12 => ?_)
      · try rw [t_cv wq34_10 ta0 rfl]
        refine jok_b (S_X12_byLaw hn hg wq34_10 ta0 (by omega) (by omega)) (fun q49_13 wq49_13 => ?_)
        obtain ⟨wq49_13, pq49_13⟩ := wq49_13
        exact S_X12_odds_65 hn hg  n wq49_13 (by omega) (by omega) (by omega) (by omega) (by omega)
      · exact jok_s ⟨wq34_10, trivial⟩
    · unfold F_X12_odds_33
      try rw [t_cv wq12_4 ta0 rfl]
      refine jok_b (S_X12_throwsIf hn hg wq12_4 ta0 (by omega) (by omega)) (fun q34_14 wq34_14 => ?_)
      obtain ⟨wq34_14, pq34_14⟩ := wq34_14
      have f15 : ((2 : Int32)).toInt = 2 := rfl
      have pq34_14_9 := pq34_14
      try dsimp only at pq34_14_9
      refine jok_eq (fun c16 d16 => ?_) (fun c16 => ?_)
      · try rw [t_cv wq34_14 ta0 rfl]
        refine jok_b (S_X12_byLaw hn hg wq34_14 ta0 (by omega) (by omega)) (fun q49_17 wq49_17 => ?_)
        obtain ⟨wq49_17, pq49_17⟩ := wq49_17
        exact S_X12_odds_65 hn hg  n wq49_17 (by omega) (by omega) (by omega) (by omega) (by omega)
      · exact jok_s ⟨wq34_14, trivial⟩
  · exact jok_s ⟨wq12_4, trivial⟩
set_option maxHeartbeats 1000000 in
theorem S_X12_twins_19 {g : jGh} {Γ : Nat → Option Nat} {n : Nat} (hn : 6000 ≤ n) (hg : jgok g) {k9 : Nat} {rc9 : Nat → Int32 → Int32 → jH → Option (Int32 × jH)} (k : Nat) : ∀ {a0 : Nat} {x1 : Int32} {x2 : Int32} {x3 : Int32} {h : jH}, jW (jKd g) Γ h → (Γ a0 = some 20) → (0 ≤ x2.toInt) → (x2.toInt ≤ 7) → (0 ≤ x3.toInt) → (x3.toInt ≤ 8) → (8 : Int) - x3.toInt < (k : Int) → (∀ {a0 : Nat} {x1 : Int32} {x2 : Int32} {h : jH}, jW (jKd g) Γ h → (Γ a0 = some 20) → (0 ≤ x2.toInt) → (x2.toInt ≤ 8) → (8 : Int) - x2.toInt < (k9 : Int) → jok (rc9 a0 x1 x2 h) (fun q => jW (jKd g) Γ q.2 ∧ (fun v : Int32 => True) q.1)) → ((8 : Int) - x2.toInt ≤ (k9 : Int)) → jok (F_X12_twins_19 n rc9 k a0 x1 x2 x3 h) (fun q => jW (jKd g) Γ q.2 ∧ (fun v : Int32 => True) q.1) := by
  induction k with
  | zero =>
    intro a0 x1 x2 x3 h w ta0 lx2 ux2 lx3 ux3 mk hrc9 m9
    omega
  | succ k ih =>
    intro a0 x1 x2 x3 h w ta0 lx2 ux2 lx3 ux3 mk hrc9 m9
    show jok (F_X12_twins_19_b n rc9 (F_X12_twins_19 n rc9 k) a0 x1 x2 x3 h) _
    unfold F_X12_twins_19_b
    refine jok_le (fun c1 => ?_) (fun c1 => ?_)
    · have f2 : ((1 : Int32)).toInt = 1 := rfl
      have f3 : ((x2 + (1 : Int32))).toInt = (x2).toInt + ((1 : Int32)).toInt := jadd (by omega) (by omega)
      exact hrc9 w ta0 (by omega) (by omega) (by omega)
    · try rw [t_cv w ta0 rfl]
      refine jok_b (S_X12_likens hn hg w ta0 (by omega) (by omega) (by omega) (by omega)) (fun v28_4 pv28_4 => ?_)
      obtain ⟨lv28_4, uv28_4⟩ := pv28_4
      have f5 : ((0 : Int32)).toInt = 0 := rfl
      refine jok_eq (fun c6 d6 => ?_) (fun c6 => ?_)
      · have f7 : ((1 : Int32)).toInt = 1 := rfl
        have f8 : ((x3 + (1 : Int32))).toInt = (x3).toInt + ((1 : Int32)).toInt := jadd (by omega) (by omega)
        exact ih w ta0 (by omega) (by omega) (by omega) (by omega) (by omega) hrc9 (by omega)
      · have f9 : ((1 : Int32)).toInt = 1 := rfl
        have f10 : ((x3 + (1 : Int32))).toInt = (x3).toInt + ((1 : Int32)).toInt := jadd (by omega) (by omega)
        exact ih w ta0 (by omega) (by omega) (by omega) (by omega) (by omega) hrc9 (by omega)
set_option maxHeartbeats 1000000 in
theorem S_X12_twins_9 {g : jGh} {Γ : Nat → Option Nat} {n : Nat} (hn : 6000 ≤ n) (hg : jgok g)  (k : Nat) : ∀ {a0 : Nat} {x1 : Int32} {x2 : Int32} {h : jH}, jW (jKd g) Γ h → (Γ a0 = some 20) → (0 ≤ x2.toInt) → (x2.toInt ≤ 8) → (8 : Int) - x2.toInt < (k : Int) → jok (F_X12_twins_9 n k a0 x1 x2 h) (fun q => jW (jKd g) Γ q.2 ∧ (fun v : Int32 => True) q.1) := by
  induction k with
  | zero =>
    intro a0 x1 x2 h w ta0 lx2 ux2 mk
    omega
  | succ k ih =>
    intro a0 x1 x2 h w ta0 lx2 ux2 mk
    show jok (F_X12_twins_9_b n (F_X12_twins_9 n k) a0 x1 x2 h) _
    unfold F_X12_twins_9_b
    try rw [t_cv w ta0 rfl]
    refine jok_b2 (S_X12_rings hn hg w ta0) (fun v11_1 ev11_1 pv11_1 => ?_)
    obtain ⟨lv11_1, uv11_1⟩ := pv11_1
    refine jok_le (fun c2 => ?_) (fun c2 => ?_)
    · exact jok_s ⟨w, trivial⟩
    · have f3 : ((0 : Int32)).toInt = 0 := rfl
      exact S_X12_twins_19 hn hg  n w ta0 (by omega) (by omega) (by omega) (by omega) (by omega) ih (by omega)
set_option maxHeartbeats 1000000 in
theorem S_X12_twins {g : jGh} {Γ : Nat → Option Nat} {n : Nat} {a0 : Nat} {h : jH} (hn : 6000 ≤ n) (hg : jgok g) (w : jW (jKd g) Γ h) (ta0 : Γ a0 = some 20) : jok (F_X12_twins n a0 h) (fun q => jW (jKd g) Γ q.2 ∧ (fun v : Int32 => True) q.1) := by
  unfold F_X12_twins
  have f2 : ((0 : Int32)).toInt = 0 := rfl
  refine jok_b (t_pI w ta0 rfl rfl trivial) (fun h2_1 wh2_1 => ?_)
  obtain ⟨wh2_1, jh2_1, rh2_1⟩ := wh2_1
  exact S_X12_twins_9 hn hg  n wh2_1 ta0 (by omega) (by omega) (by omega)
set_option maxHeartbeats 1000000 in
theorem S_X12_ahead {g : jGh} {Γ : Nat → Option Nat} {n : Nat} {a0 : Nat} {x1 : Int32} {x2 : Int32} {h : jH} (hn : 6000 ≤ n) (hg : jgok g) (w : jW (jKd g) Γ h) (ta0 : Γ a0 = some 20) : jok (F_X12_ahead n a0 x1 x2 h) (fun q => jW (jKd g) Γ q.2 ∧ (fun v : Int32 => True) q.1) := by
  unfold F_X12_ahead
  have f2 : ((0 : Int32)).toInt = 0 := rfl
  refine jok_b (t_pI w ta0 rfl rfl trivial) (fun h2_1 wh2_1 => ?_)
  obtain ⟨wh2_1, jh2_1, rh2_1⟩ := wh2_1
  try rw [t_cv wh2_1 ta0 rfl]
  refine jok_b (S_X12_noRing hn hg wh2_1 ta0) (fun v8_3 pv8_3 => ?_)
  have pv8_3_9 := pv8_3
  try dsimp only at pv8_3_9
  try rw [t_cv wh2_1 ta0 rfl]
  refine jok_b (S_X12_throwsIf hn hg wh2_1 ta0 (by omega) (by omega)) (fun q12_4 wq12_4 => ?_)
  obtain ⟨wq12_4, pq12_4⟩ := wq12_4
  have f5 : ((1 : Int32)).toInt = 1 := rfl
  have pq12_4_9 := pq12_4
  try dsimp only at pq12_4_9
  refine jok_eq (fun c6 d6 => ?_) (fun c6 => ?_)
  · refine jok_b (S_X12_noAhead hn hg wq12_4) (fun v20_7 pv20_7 => ?_)
    have pv20_7_9 := pv20_7
    try dsimp only at pv20_7_9
    try rw [t_cv wq12_4 ta0 rfl]
    refine jok_b (S_X12_throwsIf hn hg wq12_4 ta0 (by omega) (by omega)) (fun q24_8 wq24_8 => ?_)
    obtain ⟨wq24_8, pq24_8⟩ := wq24_8
    have f9 : ((2 : Int32)).toInt = 2 := rfl
    have pq24_8_9 := pq24_8
    try dsimp only at pq24_8_9
    refine jok_eq (fun c10 d10 => ?_) (fun c10 => ?_)
    · try rw [t_cv wq24_8 ta0 rfl]
      refine jok_b (S_X12_keepsAll hn hg wq24_8 ta0) (fun h33_11 wh33_11 => ?_)
      try rw [t_cv wh33_11 ta0 rfl]
      refine jok_b (S_X12_goesOn hn hg wh33_11 ta0 (by omega) (by omega)) (fun q39_12 wq39_12 => ?_)
      obtain ⟨wq39_12, pq39_12⟩ := wq39_12
      try rw [t_cv wq39_12 ta0 rfl]
      have f14 : ((4 : Int32)).toInt = 4 := rfl
      refine jok_b (S_X12_of hn hg wq39_12 ta0 (by omega) (by omega) (by omega) (by omega)) (fun v46_13 pv46_13 => ?_)
      have pv46_13_9 := pv46_13
      try dsimp only at pv46_13_9
      try rw [t_cv wq39_12 ta0 rfl]
      refine jok_b (S_X12_bringsBack hn hg wq39_12 ta0) (fun h51_15 wh51_15 => ?_)
      exact jok_s ⟨wh51_15, trivial⟩
    · exact jok_s ⟨wq24_8, trivial⟩
  · exact jok_s ⟨wq12_4, trivial⟩
set_option maxHeartbeats 1000000 in
theorem S_X12_faded {g : jGh} {Γ : Nat → Option Nat} {n : Nat} {a0 : Nat} {x1 : Int32} {h : jH} (hn : 6000 ≤ n) (hg : jgok g) (w : jW (jKd g) Γ h) (ta0 : Γ a0 = some 20) : jok (F_X12_faded n a0 x1 h) (fun q => jW (jKd g) Γ q.2 ∧ (fun v : Int32 => True) q.1) := by
  unfold F_X12_faded
  have f2 : ((0 : Int32)).toInt = 0 := rfl
  refine jok_b (t_pI w ta0 rfl rfl trivial) (fun h2_1 wh2_1 => ?_)
  obtain ⟨wh2_1, jh2_1, rh2_1⟩ := wh2_1
  refine jok_b (S_X12_noAhead hn hg wh2_1) (fun v7_3 pv7_3 => ?_)
  have pv7_3_9 := pv7_3
  try dsimp only at pv7_3_9
  try rw [t_cv wh2_1 ta0 rfl]
  refine jok_b (S_X12_throwsIf hn hg wh2_1 ta0 (by omega) (by omega)) (fun q11_4 wq11_4 => ?_)
  obtain ⟨wq11_4, pq11_4⟩ := wq11_4
  have f5 : ((1 : Int32)).toInt = 1 := rfl
  have pq11_4_9 := pq11_4
  try dsimp only at pq11_4_9
  refine jok_eq (fun c6 d6 => ?_) (fun c6 => ?_)
  · try rw [t_cv wq11_4 ta0 rfl]
    refine jok_b (S_X12_keepsAll hn hg wq11_4 ta0) (fun h20_7 wh20_7 => ?_)
    try rw [t_cv wh20_7 ta0 rfl]
    refine jok_b (S_X12_goesOn hn hg wh20_7 ta0 (by omega) (by omega)) (fun q26_8 wq26_8 => ?_)
    obtain ⟨wq26_8, pq26_8⟩ := wq26_8
    try rw [t_cv wq26_8 ta0 rfl]
    refine jok_b (S_X12_fadesOfAll hn hg wq26_8 ta0) (fun v31_9 pv31_9 => ?_)
    try rw [t_cv wq26_8 ta0 rfl]
    refine jok_b (S_X12_bringsBack hn hg wq26_8 ta0) (fun h36_10 wh36_10 => ?_)
    exact jok_s ⟨wh36_10, trivial⟩
  · exact jok_s ⟨wq11_4, trivial⟩
set_option maxHeartbeats 1000000 in
theorem S_X12_pale_13 {g : jGh} {Γ : Nat → Option Nat} {n : Nat} (hn : 6000 ≤ n) (hg : jgok g)  (k : Nat) : ∀ {a0 : Nat} {x1 : Int32} {x2 : Int32} {h : jH}, jW (jKd g) Γ h → (Γ a0 = some 20) → (0 ≤ x2.toInt) → (x2.toInt ≤ 81) → (81 : Int) - x2.toInt < (k : Int) → jok (F_X12_pale_13 n k a0 x1 x2 h) (fun q => jW (jKd g) Γ q.2 ∧ (fun v : Int32 => True) q.1) := by
  induction k with
  | zero =>
    intro a0 x1 x2 h w ta0 lx2 ux2 mk
    omega
  | succ k ih =>
    intro a0 x1 x2 h w ta0 lx2 ux2 mk
    show jok (F_X12_pale_13_b n (F_X12_pale_13 n k) a0 x1 x2 h) _
    unfold F_X12_pale_13_b
    have f1 : ((80 : Int32)).toInt = 80 := rfl
    refine jok_lt (fun c2 => ?_) (fun c2 => ?_)
    · unfold F_X12_pale_49
      try rw [t_cv w ta0 rfl]
      refine jok_b (S_X12_bringsBack hn hg w ta0) (fun h50_3 wh50_3 => ?_)
      exact jok_s ⟨wh50_3, trivial⟩
    · have f4 : ((-1 : Int32)).toInt = -1 := rfl
      refine jok_eq (fun c5 d5 => ?_) (fun c5 => ?_)
      · try rw [t_cv w ta0 rfl]
        refine jok_b (S_X12_somePale hn hg w ta0) (fun v25_6 pv25_6 => ?_)
        obtain ⟨lv25_6, uv25_6⟩ := pv25_6
        have f7 : ((0 : Int32)).toInt = 0 := rfl
        refine jok_eq (fun c8 d8 => ?_) (fun c8 => ?_)
        · unfold F_X12_pale_36
          try rw [t_cv w ta0 rfl]
          refine jok_b (S_X12_oneHour hn hg w ta0) (fun q39_9 wq39_9 => ?_)
          obtain ⟨wq39_9, pq39_9⟩ := wq39_9
          have f10 : ((1 : Int32)).toInt = 1 := rfl
          have f11 : ((x2 + (1 : Int32))).toInt = (x2).toInt + ((1 : Int32)).toInt := jadd (by omega) (by omega)
          exact ih wq39_9 ta0 (by omega) (by omega) (by omega)
        · unfold F_X12_pale_36
          try rw [t_cv w ta0 rfl]
          refine jok_b (S_X12_oneHour hn hg w ta0) (fun q39_12 wq39_12 => ?_)
          obtain ⟨wq39_12, pq39_12⟩ := wq39_12
          have f13 : ((1 : Int32)).toInt = 1 := rfl
          have f14 : ((x2 + (1 : Int32))).toInt = (x2).toInt + ((1 : Int32)).toInt := jadd (by omega) (by omega)
          exact ih wq39_12 ta0 (by omega) (by omega) (by omega)
      · unfold F_X12_pale_49
        try rw [t_cv w ta0 rfl]
        refine jok_b (S_X12_bringsBack hn hg w ta0) (fun h50_15 wh50_15 => ?_)
        exact jok_s ⟨wh50_15, trivial⟩
set_option maxHeartbeats 1000000 in
theorem S_X12_pale {g : jGh} {Γ : Nat → Option Nat} {n : Nat} {a0 : Nat} {h : jH} (hn : 6000 ≤ n) (hg : jgok g) (w : jW (jKd g) Γ h) (ta0 : Γ a0 = some 20) : jok (F_X12_pale n a0 h) (fun q => jW (jKd g) Γ q.2 ∧ (fun v : Int32 => True) q.1) := by
  unfold F_X12_pale
  have f2 : ((0 : Int32)).toInt = 0 := rfl
  refine jok_b (t_pI w ta0 rfl rfl trivial) (fun h2_1 wh2_1 => ?_)
  obtain ⟨wh2_1, jh2_1, rh2_1⟩ := wh2_1
  try rw [t_cv wh2_1 ta0 rfl]
  refine jok_b (S_X12_keepsAll hn hg wh2_1 ta0) (fun h8_3 wh8_3 => ?_)
  exact S_X12_pale_13 hn hg  n wh8_3 ta0 (by omega) (by omega) (by omega)
set_option maxHeartbeats 1000000 in
theorem S_X12_trial {g : jGh} {Γ : Nat → Option Nat} {n : Nat} {a0 : Nat} {x1 : Int32} {x2 : Int32} {h : jH} (hn : 6000 ≤ n) (hg : jgok g) (w : jW (jKd g) Γ h) (ta0 : Γ a0 = some 20) : jok (F_X12_trial n a0 x1 x2 h) (fun q => jW (jKd g) Γ q.2 ∧ (fun v : Int32 => True) q.1) := by
  unfold F_X12_trial
  have f2 : ((0 : Int32)).toInt = 0 := rfl
  refine jok_b (t_pI w ta0 rfl rfl trivial) (fun h2_1 wh2_1 => ?_)
  obtain ⟨wh2_1, jh2_1, rh2_1⟩ := wh2_1
  refine jok_b (S_X12_noAhead hn hg wh2_1) (fun v7_3 pv7_3 => ?_)
  have pv7_3_9 := pv7_3
  try dsimp only at pv7_3_9
  try rw [t_cv wh2_1 ta0 rfl]
  refine jok_b (S_X12_throwsIf hn hg wh2_1 ta0 (by omega) (by omega)) (fun q11_4 wq11_4 => ?_)
  obtain ⟨wq11_4, pq11_4⟩ := wq11_4
  have f5 : ((1 : Int32)).toInt = 1 := rfl
  have pq11_4_9 := pq11_4
  try dsimp only at pq11_4_9
  refine jok_eq (fun c6 d6 => ?_) (fun c6 => ?_)
  · try rw [t_cv wq11_4 ta0 rfl]
    refine jok_b (S_X12_keepsAll hn hg wq11_4 ta0) (fun h20_7 wh20_7 => ?_)
    try rw [t_cv wh20_7 ta0 rfl]
    refine jok_b (S_X12_goesOn hn hg wh20_7 ta0 (by omega) (by omega)) (fun q26_8 wq26_8 => ?_)
    obtain ⟨wq26_8, pq26_8⟩ := wq26_8
    refine jok_eq (fun c9 d9 => ?_) (fun c9 => ?_)
    · try rw [t_cv wq26_8 ta0 rfl]
      have f11 : ((7 : Int32)).toInt = 7 := rfl
      refine jok_b (S_X12_ringsThat hn hg wq26_8 ta0 (by omega) (by omega)) (fun v44_10 pv44_10 => ?_)
      obtain ⟨lv44_10, uv44_10⟩ := pv44_10
      unfold F_X12_trial_47
      try rw [t_cv wq26_8 ta0 rfl]
      refine jok_b (S_X12_bringsBack hn hg wq26_8 ta0) (fun h49_12 wh49_12 => ?_)
      exact jok_s ⟨wh49_12, trivial⟩
    · try rw [t_cv wq26_8 ta0 rfl]
      refine jok_b (S_X12_looseOnes hn hg wq26_8 ta0) (fun v35_13 pv35_13 => ?_)
      unfold F_X12_trial_47
      try rw [t_cv wq26_8 ta0 rfl]
      refine jok_b (S_X12_bringsBack hn hg wq26_8 ta0) (fun h49_14 wh49_14 => ?_)
      exact jok_s ⟨wh49_14, trivial⟩
  · exact jok_s ⟨wq11_4, trivial⟩
set_option maxHeartbeats 1000000 in
theorem S_X12_span_28 {g : jGh} {Γ : Nat → Option Nat} {n : Nat} (hn : 6000 ≤ n) (hg : jgok g)  (k : Nat) : ∀ {a0 : Nat} {x1 : Int32} {x2 : Int32} {x3 : Int32} {x4 : Int32} {h : jH}, jW (jKd g) Γ h → (Γ a0 = some 20) → (0 ≤ x1.toInt) → (x1.toInt ≤ 80) → (1 ≤ x4.toInt) → (x4.toInt ≤ 7) → (7 : Int) - x4.toInt < (k : Int) → jok (F_X12_span_28 n k a0 x1 x2 x3 x4 h) (fun q => jW (jKd g) Γ q.2 ∧ (fun v : Int32 => True) q.1) := by
  induction k with
  | zero =>
    intro a0 x1 x2 x3 x4 h w ta0 lx1 ux1 lx4 ux4 mk
    omega
  | succ k ih =>
    intro a0 x1 x2 x3 x4 h w ta0 lx1 ux1 lx4 ux4 mk
    show jok (F_X12_span_28_b n (F_X12_span_28 n k) a0 x1 x2 x3 x4 h) _
    unfold F_X12_span_28_b
    have f1 : ((6 : Int32)).toInt = 6 := rfl
    refine jok_lt (fun c2 => ?_) (fun c2 => ?_)
    · exact jok_s ⟨w, trivial⟩
    · refine jok_b (t_gR w ta0 rfl rfl) (fun p36_3 tp36_3 => ?_)
      have f5 : ((10 : Int32)).toInt = 10 := rfl
      refine jok_b (t_as w tp36_3 rfl (by omega) (by omega) (show jRw g ((10 : Int32)).toInt.toNat x4 from ⟨⟨by omega, by omega, by omega⟩, Or.inl (by omega)⟩) (fun q => by cases q)) (fun h43_4 wh43_4 => ?_)
      obtain ⟨wh43_4, rh43_4⟩ := wh43_4
      try rw [t_cv wh43_4 ta0 rfl]
      refine jok_b (S_X12_goesOn hn hg wh43_4 ta0 (by omega) (by omega)) (fun q47_6 wq47_6 => ?_)
      obtain ⟨wq47_6, pq47_6⟩ := wq47_6
      try rw [t_cv wq47_6 ta0 rfl]
      have f8 : ((7 : Int32)).toInt = 7 := rfl
      refine jok_b (S_X12_ringsThat hn hg wq47_6 ta0 (by omega) (by omega)) (fun v54_7 pv54_7 => ?_)
      obtain ⟨lv54_7, uv54_7⟩ := pv54_7
      refine jok_b (S_J6_bitCount_0f7a4 hn hg wq47_6) (fun v57_9 pv57_9 => ?_)
      try rw [t_cv wq47_6 ta0 rfl]
      refine jok_b (S_X12_looseOnes hn hg wq47_6 ta0) (fun v61_10 pv61_10 => ?_)
      refine jok_b (S_J6_bitCount_0f7a4 hn hg wq47_6) (fun v64_11 pv64_11 => ?_)
      try rw [t_cv wq47_6 ta0 rfl]
      refine jok_b (S_X12_bringsBack hn hg wq47_6 ta0) (fun h71_12 wh71_12 => ?_)
      have f13 : ((0 : Int32)).toInt = 0 := rfl
      refine jok_le (fun c14 => ?_) (fun c14 => ?_)
      · refine jok_eq (fun c15 d15 => ?_) (fun c15 => ?_)
        · have f16 : ((1 : Int32)).toInt = 1 := rfl
          have f17 : ((x4 + (1 : Int32))).toInt = (x4).toInt + ((1 : Int32)).toInt := jadd (by omega) (by omega)
          exact ih wh71_12 ta0 (by omega) (by omega) (by omega) (by omega) (by omega)
        · have f18 : ((1 : Int32)).toInt = 1 := rfl
          have f19 : ((x4 + (1 : Int32))).toInt = (x4).toInt + ((1 : Int32)).toInt := jadd (by omega) (by omega)
          exact ih wh71_12 ta0 (by omega) (by omega) (by omega) (by omega) (by omega)
      · have f20 : ((1 : Int32)).toInt = 1 := rfl
        have f21 : ((x4 + (1 : Int32))).toInt = (x4).toInt + ((1 : Int32)).toInt := jadd (by omega) (by omega)
        exact ih wh71_12 ta0 (by omega) (by omega) (by omega) (by omega) (by omega)
set_option maxHeartbeats 1000000 in
theorem S_X12_span {g : jGh} {Γ : Nat → Option Nat} {n : Nat} {a0 : Nat} {x1 : Int32} {x2 : Int32} {h : jH} (hn : 6000 ≤ n) (hg : jgok g) (w : jW (jKd g) Γ h) (ta0 : Γ a0 = some 20) : jok (F_X12_span n a0 x1 x2 h) (fun q => jW (jKd g) Γ q.2 ∧ (fun v : Int32 => True) q.1) := by
  unfold F_X12_span
  have f2 : ((0 : Int32)).toInt = 0 := rfl
  refine jok_b (t_pI w ta0 rfl rfl trivial) (fun h2_1 wh2_1 => ?_)
  obtain ⟨wh2_1, jh2_1, rh2_1⟩ := wh2_1
  refine jok_b (S_X12_noAhead hn hg wh2_1) (fun v7_3 pv7_3 => ?_)
  have pv7_3_9 := pv7_3
  try dsimp only at pv7_3_9
  try rw [t_cv wh2_1 ta0 rfl]
  refine jok_b (S_X12_throwsIf hn hg wh2_1 ta0 (by omega) (by omega)) (fun q11_4 wq11_4 => ?_)
  obtain ⟨wq11_4, pq11_4⟩ := wq11_4
  have f5 : ((1 : Int32)).toInt = 1 := rfl
  have pq11_4_9 := pq11_4
  try dsimp only at pq11_4_9
  refine jok_eq (fun c6 d6 => ?_) (fun c6 => ?_)
  · try rw [t_cv wq11_4 ta0 rfl]
    refine jok_b (S_X12_keepsAll hn hg wq11_4 ta0) (fun h20_7 wh20_7 => ?_)
    exact S_X12_span_28 hn hg  n wh20_7 ta0 (by omega) (by omega) (by omega) (by omega) (by omega)
  · exact jok_s ⟨wq11_4, trivial⟩
set_option maxHeartbeats 1000000 in
theorem S_X12_led_36 {g : jGh} {Γ : Nat → Option Nat} {n : Nat} (hn : 6000 ≤ n) (hg : jgok g)  (k : Nat) : ∀ {a0 : Nat} {x1 : Int32} {x2 : Int32} {x3 : Int32} {x4 : Int32} {x5 : Int32} {h : jH}, jW (jKd g) Γ h → (Γ a0 = some 20) → (-1 ≤ x5.toInt) → (x5.toInt ≤ 59) → x5.toInt - (-1 : Int) < (k : Int) → jok (F_X12_led_36 n k a0 x1 x2 x3 x4 x5 h) (fun q => jW (jKd g) Γ q.2 ∧ (fun v : Int32 => True) q.1) := by
  induction k with
  | zero =>
    intro a0 x1 x2 x3 x4 x5 h w ta0 lx5 ux5 mk
    omega
  | succ k ih =>
    intro a0 x1 x2 x3 x4 x5 h w ta0 lx5 ux5 mk
    show jok (F_X12_led_36_b n (F_X12_led_36 n k) a0 x1 x2 x3 x4 x5 h) _
    unfold F_X12_led_36_b
    have f1 : ((0 : Int32)).toInt = 0 := rfl
    refine jok_lt (fun c2 => ?_) (fun c2 => ?_)
    · refine jok_eq (fun c3 d3 => ?_) (fun c3 => ?_)
      · exact jok_s ⟨w, trivial⟩
      · exact jok_s ⟨w, trivial⟩
    · try rw [t_cv w ta0 rfl]
      have f5 : ((2 : Int32)).toInt = 2 := rfl
      refine jok_b (S_X12_ofLog hn hg w ta0 (by omega) (by omega) (by omega) (by omega)) (fun v45_4 pv45_4 => ?_)
      refine jok_eq (fun c6 d6 => ?_) (fun c6 => ?_)
      · try rw [t_cv w ta0 rfl]
        have f8 : ((5 : Int32)).toInt = 5 := rfl
        refine jok_b (S_X12_ofLog hn hg w ta0 (by omega) (by omega) (by omega) (by omega)) (fun v62_7 pv62_7 => ?_)
        obtain ⟨y9, hy9⟩ : ∃ y : Int32, y = (x5 + (-1 : Int32)) := ⟨_, rfl⟩
        have fy9 : (y9).toInt = (x5).toInt - 1 := by rw [hy9]; exact jaddN rfl (by omega) (by omega)
        try rw [← hy9]
        exact ih w ta0 (by omega) (by omega) (by omega)
      · obtain ⟨y10, hy10⟩ : ∃ y : Int32, y = (x5 + (-1 : Int32)) := ⟨_, rfl⟩
        have fy10 : (y10).toInt = (x5).toInt - 1 := by rw [hy10]; exact jaddN rfl (by omega) (by omega)
        try rw [← hy10]
        exact ih w ta0 (by omega) (by omega) (by omega)
set_option maxHeartbeats 1000000 in
theorem S_X12_led {g : jGh} {Γ : Nat → Option Nat} {n : Nat} {a0 : Nat} {x1 : Int32} {x2 : Int32} {h : jH} (hn : 6000 ≤ n) (hg : jgok g) (w : jW (jKd g) Γ h) (ta0 : Γ a0 = some 20) : jok (F_X12_led n a0 x1 x2 h) (fun q => jW (jKd g) Γ q.2 ∧ (fun v : Int32 => True) q.1) := by
  unfold F_X12_led
  have f2 : ((0 : Int32)).toInt = 0 := rfl
  refine jok_b (t_pI w ta0 rfl rfl trivial) (fun h2_1 wh2_1 => ?_)
  obtain ⟨wh2_1, jh2_1, rh2_1⟩ := wh2_1
  try rw [t_cv wh2_1 ta0 rfl]
  refine jok_b (S_X12_noRing hn hg wh2_1 ta0) (fun v8_3 pv8_3 => ?_)
  have pv8_3_9 := pv8_3
  try dsimp only at pv8_3_9
  try rw [t_cv wh2_1 ta0 rfl]
  refine jok_b (S_X12_throwsIf hn hg wh2_1 ta0 (by omega) (by omega)) (fun q12_4 wq12_4 => ?_)
  obtain ⟨wq12_4, pq12_4⟩ := wq12_4
  have f5 : ((1 : Int32)).toInt = 1 := rfl
  have pq12_4_9 := pq12_4
  try dsimp only at pq12_4_9
  refine jok_eq (fun c6 d6 => ?_) (fun c6 => ?_)
  · refine jok_b (t_gR wq12_4 ta0 rfl rfl) (fun p26_7 tp26_7 => ?_)
    have f9 : ((9 : Int32)).toInt = 9 := rfl
    refine jok_b (t_al wq12_4 tp26_7 rfl (by omega) (by omega)) (fun v31_8 pv31_8 => ?_)
    have bv31_8 : 0 ≤ (v31_8).toInt ∧ (v31_8).toInt ≤ 60 := by rcases pv31_8.1.2.1 with z | z; exact absurd rfl z; exact z
    obtain ⟨lv31_8, uv31_8⟩ := bv31_8
    have f10 : ((v31_8 - (1 : Int32))).toInt = (v31_8).toInt - ((1 : Int32)).toInt := jsub (by omega) (by omega)
    exact S_X12_led_36 hn hg  n wq12_4 ta0 (by omega) (by omega) (by omega)
  · exact jok_s ⟨wq12_4, trivial⟩
set_option maxHeartbeats 1000000 in
theorem S_X12_log {g : jGh} {Γ : Nat → Option Nat} {n : Nat} {a0 : Nat} {x1 : Int32} {x2 : Int32} {h : jH} (hn : 6000 ≤ n) (hg : jgok g) (w : jW (jKd g) Γ h) (ta0 : Γ a0 = some 20) : jok (F_X12_log n a0 x1 x2 h) (fun q => jW (jKd g) Γ q.2 ∧ (fun v : Int32 => True) q.1) := by
  unfold F_X12_log
  have f2 : ((0 : Int32)).toInt = 0 := rfl
  refine jok_b (t_pI w ta0 rfl rfl trivial) (fun h2_1 wh2_1 => ?_)
  obtain ⟨wh2_1, jh2_1, rh2_1⟩ := wh2_1
  refine jok_b (S_X12_in hn hg wh2_1) (fun v9_3 pv9_3 => ?_)
  have f4 : ((5 : Int32)).toInt = 5 := rfl
  have pv9_3_9 := pv9_3
  try dsimp only at pv9_3_9
  refine jok_eq (fun c5 d5 => ?_) (fun c5 => ?_)
  · unfold F_X12_log_20
    try rw [t_cv wh2_1 ta0 rfl]
    have f7 : ((1 : Int32)).toInt = 1 := rfl
    refine jok_b (S_X12_throwsIf hn hg wh2_1 ta0 (by omega) (by omega)) (fun q21_6 wq21_6 => ?_)
    obtain ⟨wq21_6, pq21_6⟩ := wq21_6
    have pq21_6_9 := pq21_6
    try dsimp only at pq21_6_9
    refine jok_eq (fun c8 d8 => ?_) (fun c8 => ?_)
    · refine jok_b (t_gR wq21_6 ta0 rfl rfl) (fun p32_9 tp32_9 => ?_)
      have f11 : ((9 : Int32)).toInt = 9 := rfl
      refine jok_b (t_al wq21_6 tp32_9 rfl (by omega) (by omega)) (fun v37_10 pv37_10 => ?_)
      have bv37_10 : 0 ≤ (v37_10).toInt ∧ (v37_10).toInt ≤ 60 := by rcases pv37_10.1.2.1 with z | z; exact absurd rfl z; exact z
      obtain ⟨lv37_10, uv37_10⟩ := bv37_10
      refine jok_b (S_X12_in hn hg wq21_6) (fun v40_12 pv40_12 => ?_)
      have f13 : ((v37_10 - (1 : Int32))).toInt = (v37_10).toInt - ((1 : Int32)).toInt := jsub (by omega) (by omega)
      have pv40_12_9 := pv40_12
      try dsimp only at pv40_12_9
      refine jok_eq (fun c14 d14 => ?_) (fun c14 => ?_)
      · exact jok_s ⟨wq21_6, trivial⟩
      · try rw [t_cv wq21_6 ta0 rfl]
        refine jok_b (S_X12_ofLog hn hg wq21_6 ta0 (by omega) (by omega) (by omega) (by omega)) (fun v49_15 pv49_15 => ?_)
        exact jok_s ⟨wq21_6, trivial⟩
    · exact jok_s ⟨wq21_6, trivial⟩
  · unfold F_X12_log_20
    try rw [t_cv wh2_1 ta0 rfl]
    refine jok_b (S_X12_throwsIf hn hg wh2_1 ta0 (by omega) (by omega)) (fun q21_16 wq21_16 => ?_)
    obtain ⟨wq21_16, pq21_16⟩ := wq21_16
    have f17 : ((1 : Int32)).toInt = 1 := rfl
    have pq21_16_9 := pq21_16
    try dsimp only at pq21_16_9
    refine jok_eq (fun c18 d18 => ?_) (fun c18 => ?_)
    · refine jok_b (t_gR wq21_16 ta0 rfl rfl) (fun p32_19 tp32_19 => ?_)
      have f21 : ((9 : Int32)).toInt = 9 := rfl
      refine jok_b (t_al wq21_16 tp32_19 rfl (by omega) (by omega)) (fun v37_20 pv37_20 => ?_)
      have bv37_20 : 0 ≤ (v37_20).toInt ∧ (v37_20).toInt ≤ 60 := by rcases pv37_20.1.2.1 with z | z; exact absurd rfl z; exact z
      obtain ⟨lv37_20, uv37_20⟩ := bv37_20
      refine jok_b (S_X12_in hn hg wq21_16) (fun v40_22 pv40_22 => ?_)
      have f23 : ((v37_20 - (1 : Int32))).toInt = (v37_20).toInt - ((1 : Int32)).toInt := jsub (by omega) (by omega)
      have pv40_22_9 := pv40_22
      try dsimp only at pv40_22_9
      refine jok_eq (fun c24 d24 => ?_) (fun c24 => ?_)
      · exact jok_s ⟨wq21_16, trivial⟩
      · try rw [t_cv wq21_16 ta0 rfl]
        refine jok_b (S_X12_ofLog hn hg wq21_16 ta0 (by omega) (by omega) (by omega) (by omega)) (fun v49_25 pv49_25 => ?_)
        exact jok_s ⟨wq21_16, trivial⟩
    · exact jok_s ⟨wq21_16, trivial⟩
set_option maxHeartbeats 1000000 in
theorem S_X12_seed {g : jGh} {Γ : Nat → Option Nat} {n : Nat} {a0 : Nat} {x1 : Int32} {h : jH} (hn : 6000 ≤ n) (hg : jgok g) (w : jW (jKd g) Γ h) (ta0 : Γ a0 = some 20) : jok (F_X12_seed n a0 x1 h) (fun q => jW (jKd g) Γ q.2 ∧ (fun v : Int32 => True) q.1) := by
  unfold F_X12_seed
  have f2 : ((0 : Int32)).toInt = 0 := rfl
  refine jok_b (t_pI w ta0 rfl rfl trivial) (fun h2_1 wh2_1 => ?_)
  obtain ⟨wh2_1, jh2_1, rh2_1⟩ := wh2_1
  refine jok_b (t_gR wh2_1 ta0 rfl rfl) (fun p6_3 tp6_3 => ?_)
  have f5 : ((10 : Int32)).toInt = 10 := rfl
  refine jok_b (t_al wh2_1 tp6_3 rfl (by omega) (by omega)) (fun v11_4 pv11_4 => ?_)
  refine jok_b (t_gR wh2_1 ta0 rfl rfl) (fun p14_6 tp14_6 => ?_)
  refine jok_b (t_as wh2_1 tp14_6 rfl (by omega) (by omega) (show jRw g ((10 : Int32)).toInt.toNat x1 from ⟨⟨by omega, by omega, by omega⟩, Or.inl (by omega)⟩) (fun q => by cases q)) (fun h20_7 wh20_7 => ?_)
  obtain ⟨wh20_7, rh20_7⟩ := wh20_7
  exact jok_s ⟨wh20_7, trivial⟩
set_option maxHeartbeats 1000000 in
theorem S_X12_count {g : jGh} {Γ : Nat → Option Nat} {n : Nat} {a0 : Nat} {x1 : Int32} {h : jH} (hn : 6000 ≤ n) (hg : jgok g) (w : jW (jKd g) Γ h) (ta0 : Γ a0 = some 20) : jok (F_X12_count n a0 x1 h) (fun q => jW (jKd g) Γ q.2 ∧ (fun v : Int32 => True) q.1) := by
  unfold F_X12_count
  have f2 : ((0 : Int32)).toInt = 0 := rfl
  refine jok_b (t_pI w ta0 rfl rfl trivial) (fun h2_1 wh2_1 => ?_)
  obtain ⟨wh2_1, jh2_1, rh2_1⟩ := wh2_1
  have f3 : ((2 : Int32)).toInt = 2 := rfl
  refine jok_eq (fun c4 d4 => ?_) (fun c4 => ?_)
  · refine jok_b (t_gR wh2_1 ta0 rfl rfl) (fun p41_5 tp41_5 => ?_)
    refine jok_b (t_al wh2_1 tp41_5 rfl (by omega) (by omega)) (fun v45_6 pv45_6 => ?_)
    have f7 : ((1 : Int32)).toInt = 1 := rfl
    refine jok_eq (fun c8 d8 => ?_) (fun c8 => ?_)
    · refine jok_b (t_gR wh2_1 ta0 rfl rfl) (fun p51_9 tp51_9 => ?_)
      have f11 : ((435 : Int32)).toInt = 435 := rfl
      refine jok_b (t_al wh2_1 tp51_9 rfl (by omega) (by omega)) (fun v57_10 pv57_10 => ?_)
      have bv57_10 := jw435 hg pv57_10
      obtain ⟨rv57_10, lv57_10, uv57_10⟩ := bv57_10
      exact jok_s ⟨wh2_1, trivial⟩
    · exact jok_s ⟨wh2_1, trivial⟩
  · have f12 : ((9 : Int32)).toInt = 9 := rfl
    refine jok_eq (fun c13 d13 => ?_) (fun c13 => ?_)
    · refine jok_b (t_gR wh2_1 ta0 rfl rfl) (fun p64_14 tp64_14 => ?_)
      refine jok_b (t_al wh2_1 tp64_14 rfl (by omega) (by omega)) (fun v69_15 pv69_15 => ?_)
      have bv69_15 : 0 ≤ (v69_15).toInt ∧ (v69_15).toInt ≤ 60 := by rcases pv69_15.1.2.1 with z | z; exact absurd rfl z; exact z
      obtain ⟨lv69_15, uv69_15⟩ := bv69_15
      exact jok_s ⟨wh2_1, trivial⟩
    · have f16 : ((10 : Int32)).toInt = 10 := rfl
      refine jok_eq (fun c17 d17 => ?_) (fun c17 => ?_)
      · refine jok_b2 (t_gI wh2_1 ta0 rfl rfl) (fun v72_18 ev72_18 pv72_18 => ?_)
        obtain ⟨lv72_18, uv72_18⟩ := pv72_18
        exact jok_s ⟨wh2_1, trivial⟩
      · refine jok_b (S_X12_in hn hg wh2_1) (fun v80_19 pv80_19 => ?_)
        have f20 : ((8 : Int32)).toInt = 8 := rfl
        have pv80_19_9 := pv80_19
        try dsimp only at pv80_19_9
        refine jok_eq (fun c21 d21 => ?_) (fun c21 => ?_)
        · exact jok_s ⟨wh2_1, trivial⟩
        · refine jok_b (t_gR wh2_1 ta0 rfl rfl) (fun p87_22 tp87_22 => ?_)
          refine jok_b (t_al wh2_1 tp87_22 rfl (by omega) (by omega)) (fun v91_23 pv91_23 => ?_)
          exact jok_s ⟨wh2_1, trivial⟩
set_option maxHeartbeats 1000000 in
theorem S_X12_ring {g : jGh} {Γ : Nat → Option Nat} {n : Nat} {a0 : Nat} {x1 : Int32} {x2 : Int32} {h : jH} (hn : 6000 ≤ n) (hg : jgok g) (w : jW (jKd g) Γ h) (ta0 : Γ a0 = some 20) : jok (F_X12_ring n a0 x1 x2 h) (fun q => jW (jKd g) Γ q.2 ∧ (fun v : Int32 => True) q.1) := by
  unfold F_X12_ring
  have f2 : ((0 : Int32)).toInt = 0 := rfl
  refine jok_b (t_pI w ta0 rfl rfl trivial) (fun h2_1 wh2_1 => ?_)
  obtain ⟨wh2_1, jh2_1, rh2_1⟩ := wh2_1
  try rw [t_cv wh2_1 ta0 rfl]
  refine jok_b (S_X12_noRing hn hg wh2_1 ta0) (fun v8_3 pv8_3 => ?_)
  have pv8_3_9 := pv8_3
  try dsimp only at pv8_3_9
  try rw [t_cv wh2_1 ta0 rfl]
  refine jok_b (S_X12_throwsIf hn hg wh2_1 ta0 (by omega) (by omega)) (fun q12_4 wq12_4 => ?_)
  obtain ⟨wq12_4, pq12_4⟩ := wq12_4
  have f5 : ((1 : Int32)).toInt = 1 := rfl
  have pq12_4_9 := pq12_4
  try dsimp only at pq12_4_9
  refine jok_eq (fun c6 d6 => ?_) (fun c6 => ?_)
  · refine jok_b (S_X12_in hn hg wq12_4) (fun v23_7 pv23_7 => ?_)
    have f8 : ((13 : Int32)).toInt = 13 := rfl
    have pv23_7_9 := pv23_7
    try dsimp only at pv23_7_9
    refine jok_eq (fun c9 d9 => ?_) (fun c9 => ?_)
    · unfold F_X12_ring_34
      try rw [t_cv wq12_4 ta0 rfl]
      refine jok_b (S_X12_throwsIf hn hg wq12_4 ta0 (by omega) (by omega)) (fun q35_10 wq35_10 => ?_)
      obtain ⟨wq35_10, pq35_10⟩ := wq35_10
      have f11 : ((2 : Int32)).toInt = 2 := rfl
      have pq35_10_9 := pq35_10
      try dsimp only at pq35_10_9
      refine jok_eq (fun c12 d12 => ?_) (fun c12 => ?_)
      · have f13 : ((8 : Int32)).toInt = 8 := rfl
        refine jok_eq (fun c14 d14 => ?_) (fun c14 => ?_)
        · try rw [t_cv wq35_10 ta0 rfl]
          refine jok_b2 (S_X12_lastRing hn hg wq35_10 ta0) (fun v86_15 ev86_15 pv86_15 => ?_)
          obtain ⟨lv86_15, uv86_15⟩ := pv86_15
          refine jok_eq (fun c16 d16 => ?_) (fun c16 => ?_)
          · exact jok_s ⟨wq35_10, trivial⟩
          · try rw [t_cv wq35_10 ta0 rfl]
            refine jok_b (S_X12_gapOf hn hg wq35_10 ta0 (by omega) (by omega)) (fun v98_17 pv98_17 => ?_)
            exact jok_s ⟨wq35_10, trivial⟩
        · have f18 : ((9 : Int32)).toInt = 9 := rfl
          refine jok_eq (fun c19 d19 => ?_) (fun c19 => ?_)
          · try rw [t_cv wq35_10 ta0 rfl]
            refine jok_b (S_X12_byLaw hn hg wq35_10 ta0 (by omega) (by omega)) (fun q105_20 wq105_20 => ?_)
            obtain ⟨wq105_20, pq105_20⟩ := wq105_20
            exact jok_s ⟨wq105_20, trivial⟩
          · have f21 : ((10 : Int32)).toInt = 10 := rfl
            refine jok_eq (fun c22 d22 => ?_) (fun c22 => ?_)
            · try rw [t_cv wq35_10 ta0 rfl]
              refine jok_b (S_X12_byLaw hn hg wq35_10 ta0 (by omega) (by omega)) (fun q112_23 wq112_23 => ?_)
              obtain ⟨wq112_23, pq112_23⟩ := wq112_23
              exact jok_s ⟨wq112_23, trivial⟩
            · have f24 : ((11 : Int32)).toInt = 11 := rfl
              refine jok_eq (fun c25 d25 => ?_) (fun c25 => ?_)
              · try rw [t_cv wq35_10 ta0 rfl]
                refine jok_b (S_X12_byLaw hn hg wq35_10 ta0 (by omega) (by omega)) (fun q119_26 wq119_26 => ?_)
                obtain ⟨wq119_26, pq119_26⟩ := wq119_26
                exact jok_s ⟨wq119_26, trivial⟩
              · have f27 : ((12 : Int32)).toInt = 12 := rfl
                refine jok_eq (fun c28 d28 => ?_) (fun c28 => ?_)
                · try rw [t_cv wq35_10 ta0 rfl]
                  refine jok_b (S_X12_hangsOn hn hg wq35_10 ta0 (by omega) (by omega)) (fun v125_29 pv125_29 => ?_)
                  exact jok_s ⟨wq35_10, trivial⟩
                · refine jok_eq (fun c30 d30 => ?_) (fun c30 => ?_)
                  · try rw [t_cv wq35_10 ta0 rfl]
                    refine jok_b (S_X12_shareOf hn hg wq35_10 ta0 (by omega) (by omega)) (fun v131_31 pv131_31 => ?_)
                    exact jok_s ⟨wq35_10, trivial⟩
                  · try rw [t_cv wq35_10 ta0 rfl]
                    refine jok_b (S_X12_of hn hg wq35_10 ta0 (by omega) (by omega) (by omega) (by omega)) (fun v138_32 pv138_32 => ?_)
                    have pv138_32_9 := pv138_32
                    try dsimp only at pv138_32_9
                    exact jok_s ⟨wq35_10, trivial⟩
      · exact jok_s ⟨wq35_10, trivial⟩
    · unfold F_X12_ring_34
      try rw [t_cv wq12_4 ta0 rfl]
      refine jok_b (S_X12_throwsIf hn hg wq12_4 ta0 (by omega) (by omega)) (fun q35_33 wq35_33 => ?_)
      obtain ⟨wq35_33, pq35_33⟩ := wq35_33
      have f34 : ((2 : Int32)).toInt = 2 := rfl
      have pq35_33_9 := pq35_33
      try dsimp only at pq35_33_9
      refine jok_eq (fun c35 d35 => ?_) (fun c35 => ?_)
      · have f36 : ((8 : Int32)).toInt = 8 := rfl
        refine jok_eq (fun c37 d37 => ?_) (fun c37 => ?_)
        · try rw [t_cv wq35_33 ta0 rfl]
          refine jok_b2 (S_X12_lastRing hn hg wq35_33 ta0) (fun v86_38 ev86_38 pv86_38 => ?_)
          obtain ⟨lv86_38, uv86_38⟩ := pv86_38
          refine jok_eq (fun c39 d39 => ?_) (fun c39 => ?_)
          · exact jok_s ⟨wq35_33, trivial⟩
          · try rw [t_cv wq35_33 ta0 rfl]
            refine jok_b (S_X12_gapOf hn hg wq35_33 ta0 (by omega) (by omega)) (fun v98_40 pv98_40 => ?_)
            exact jok_s ⟨wq35_33, trivial⟩
        · have f41 : ((9 : Int32)).toInt = 9 := rfl
          refine jok_eq (fun c42 d42 => ?_) (fun c42 => ?_)
          · try rw [t_cv wq35_33 ta0 rfl]
            refine jok_b (S_X12_byLaw hn hg wq35_33 ta0 (by omega) (by omega)) (fun q105_43 wq105_43 => ?_)
            obtain ⟨wq105_43, pq105_43⟩ := wq105_43
            exact jok_s ⟨wq105_43, trivial⟩
          · have f44 : ((10 : Int32)).toInt = 10 := rfl
            refine jok_eq (fun c45 d45 => ?_) (fun c45 => ?_)
            · try rw [t_cv wq35_33 ta0 rfl]
              refine jok_b (S_X12_byLaw hn hg wq35_33 ta0 (by omega) (by omega)) (fun q112_46 wq112_46 => ?_)
              obtain ⟨wq112_46, pq112_46⟩ := wq112_46
              exact jok_s ⟨wq112_46, trivial⟩
            · have f47 : ((11 : Int32)).toInt = 11 := rfl
              refine jok_eq (fun c48 d48 => ?_) (fun c48 => ?_)
              · try rw [t_cv wq35_33 ta0 rfl]
                refine jok_b (S_X12_byLaw hn hg wq35_33 ta0 (by omega) (by omega)) (fun q119_49 wq119_49 => ?_)
                obtain ⟨wq119_49, pq119_49⟩ := wq119_49
                exact jok_s ⟨wq119_49, trivial⟩
              · have f50 : ((12 : Int32)).toInt = 12 := rfl
                refine jok_eq (fun c51 d51 => ?_) (fun c51 => ?_)
                · try rw [t_cv wq35_33 ta0 rfl]
                  refine jok_b (S_X12_hangsOn hn hg wq35_33 ta0 (by omega) (by omega)) (fun v125_52 pv125_52 => ?_)
                  exact jok_s ⟨wq35_33, trivial⟩
                · refine jok_eq (fun c53 d53 => ?_) (fun c53 => ?_)
                  · try rw [t_cv wq35_33 ta0 rfl]
                    refine jok_b (S_X12_shareOf hn hg wq35_33 ta0 (by omega) (by omega)) (fun v131_54 pv131_54 => ?_)
                    exact jok_s ⟨wq35_33, trivial⟩
                  · try rw [t_cv wq35_33 ta0 rfl]
                    refine jok_b (S_X12_of hn hg wq35_33 ta0 (by omega) (by omega) (by omega) (by omega)) (fun v138_55 pv138_55 => ?_)
                    have pv138_55_9 := pv138_55
                    try dsimp only at pv138_55_9
                    exact jok_s ⟨wq35_33, trivial⟩
      · exact jok_s ⟨wq35_33, trivial⟩
  · exact jok_s ⟨wq12_4, trivial⟩
set_option maxHeartbeats 1000000 in
theorem S_X12_remembers_55 {g : jGh} {Γ : Nat → Option Nat} {n : Nat} (hn : 6000 ≤ n) (hg : jgok g)  (k : Nat) : ∀ {a0 : Nat} {x1 : Int32} {h : jH}, jW (jKd g) Γ h → (Γ a0 = some 20) → (0 ≤ x1.toInt) → (x1.toInt ≤ 435) → (435 : Int) - x1.toInt < (k : Int) → (∀ v, jgI 10 h a0 7 = some v → 1 ≤ v.toInt) → jok (F_X12_remembers_55 n k a0 x1 h) (fun q => jW (jKd g) Γ q) := by
  induction k with
  | zero =>
    intro a0 x1 h w ta0 lx1 ux1 mk hr
    omega
  | succ k ih =>
    intro a0 x1 h w ta0 lx1 ux1 mk hr
    show jok (F_X12_remembers_55_b n (F_X12_remembers_55 n k) a0 x1 h) _
    unfold F_X12_remembers_55_b
    have f1 : ((435 : Int32)).toInt = 435 := rfl
    refine jok_le (fun c2 => ?_) (fun c2 => ?_)
    · exact jok_s w
    · refine jok_b (t_gR w ta0 rfl rfl) (fun p63_3 tp63_3 => ?_)
      refine jok_b2 (t_gI w ta0 rfl rfl) (fun v70_4 ev70_4 pv70_4 => ?_)
      obtain ⟨lv70_4, uv70_4⟩ := pv70_4
      have hr9 := hr _ ev70_4
      refine jok_b (t_gR w ta0 rfl rfl) (fun p79_5 tp79_5 => ?_)
      refine jok_b (t_al w tp79_5 rfl (by omega) (by omega)) (fun v83_6 pv83_6 => ?_)
      have f8 : ((1 : Int32)).toInt = 1 := rfl
      have f9 : ((v70_4 - (1 : Int32))).toInt = (v70_4).toInt - ((1 : Int32)).toInt := jsub (by omega) (by omega)
      have f10 : (((435 : Int32) * (v70_4 - (1 : Int32)))).toInt = 435 * ((v70_4 - (1 : Int32))).toInt := jmulL (c := 435) (by omega) (by omega) (by omega)
      have f11 : ((((435 : Int32) * (v70_4 - (1 : Int32))) + x1)).toInt = (((435 : Int32) * (v70_4 - (1 : Int32)))).toInt + (x1).toInt := jadd (by omega) (by omega)
      refine jok_b (t_as w tp63_3 rfl (by omega) (by omega) (by show jR3 _ _; rw [show ((((435 : Int32) * (v70_4 - (1 : Int32))) + x1)).toInt.toNat % 435 = (x1).toInt.toNat by omega]; exact pv83_6.1) (fun q => by cases q)) (fun h84_7 wh84_7 => ?_)
      obtain ⟨wh84_7, rh84_7⟩ := wh84_7
      have f12 : ((x1 + (1 : Int32))).toInt = (x1).toInt + ((1 : Int32)).toInt := jadd (by omega) (by omega)
      exact ih wh84_7 ta0 (by omega) (by omega) (by omega) (fun v q => hr v (fI (rh84_7 _ _ _).symm q))
set_option maxHeartbeats 1000000 in
theorem S_X12_remembers_11 {g : jGh} {Γ : Nat → Option Nat} {n : Nat} (hn : 6000 ≤ n) (hg : jgok g)  (k : Nat) : ∀ {a0 : Nat} {x1 : Int32} {h : jH}, jW (jKd g) Γ h → (Γ a0 = some 20) → (0 ≤ x1.toInt) → (x1.toInt ≤ 4785) → (4785 : Int) - x1.toInt < (k : Int) → (∀ v, jgI 10 h a0 7 = some v → 1 ≤ v.toInt) → jok (F_X12_remembers_11 n k a0 x1 h) (fun q => jW (jKd g) Γ q) := by
  induction k with
  | zero =>
    intro a0 x1 h w ta0 lx1 ux1 mk hr
    omega
  | succ k ih =>
    intro a0 x1 h w ta0 lx1 ux1 mk hr
    show jok (F_X12_remembers_11_b n (F_X12_remembers_11 n k) a0 x1 h) _
    unfold F_X12_remembers_11_b
    have f1 : ((4785 : Int32)).toInt = 4785 := rfl
    refine jok_le (fun c2 => ?_) (fun c2 => ?_)
    · have f3 : ((0 : Int32)).toInt = 0 := rfl
      exact S_X12_remembers_55 hn hg  n w ta0 (by omega) (by omega) (by omega) hr
    · refine jok_b (t_gR w ta0 rfl rfl) (fun p19_4 tp19_4 => ?_)
      refine jok_b (t_gR w ta0 rfl rfl) (fun p24_5 tp24_5 => ?_)
      have f7 : ((435 : Int32)).toInt = 435 := rfl
      have f8 : ((x1 + (435 : Int32))).toInt = (x1).toInt + ((435 : Int32)).toInt := jadd (by omega) (by omega)
      refine jok_b (t_al w tp24_5 rfl (by omega) (by omega)) (fun v32_6 pv32_6 => ?_)
      refine jok_b (t_as w tp19_4 rfl (by omega) (by omega) (by show jR3 _ _; rw [show (x1).toInt.toNat % 435 = ((x1 + (435 : Int32))).toInt.toNat % 435 by omega]; exact pv32_6) (fun q => by cases q)) (fun h33_9 wh33_9 => ?_)
      obtain ⟨wh33_9, rh33_9⟩ := wh33_9
      have f10 : ((1 : Int32)).toInt = 1 := rfl
      have f11 : ((x1 + (1 : Int32))).toInt = (x1).toInt + ((1 : Int32)).toInt := jadd (by omega) (by omega)
      exact ih wh33_9 ta0 (by omega) (by omega) (by omega) (fun v q => hr v (fI (rh33_9 _ _ _).symm q))
set_option maxHeartbeats 1000000 in
theorem S_X12_remembers {g : jGh} {Γ : Nat → Option Nat} {n : Nat} {a0 : Nat} {h : jH} (hn : 6000 ≤ n) (hg : jgok g) (w : jW (jKd g) Γ h) (ta0 : Γ a0 = some 20) : jok (F_X12_remembers n a0 h) (fun q => jW (jKd g) Γ q) := by
  unfold F_X12_remembers
  refine jok_b2 (t_gI w ta0 rfl rfl) (fun v1_1 ev1_1 pv1_1 => ?_)
  obtain ⟨lv1_1, uv1_1⟩ := pv1_1
  have f2 : ((12 : Int32)).toInt = 12 := rfl
  refine jok_eq (fun c3 d3 => ?_) (fun c3 => ?_)
  · have f4 : ((0 : Int32)).toInt = 0 := rfl
    exact S_X12_remembers_11 hn hg  n w ta0 (by omega) (by omega) (by omega) (fun v q => by cases ev1_1.symm.trans q; omega)
  · refine jok_r ev1_1 ?_
    have f7 : ((1 : Int32)).toInt = 1 := rfl
    have f8 : ((v1_1 + (1 : Int32))).toInt = (v1_1).toInt + ((1 : Int32)).toInt := jadd (by omega) (by omega)
    refine jok_b (t_pI w ta0 rfl rfl (show jI 0 12 (v1_1 + (1 : Int32)) from ⟨by omega, by omega⟩)) (fun h50_6 wh50_6 => ?_)
    obtain ⟨wh50_6, jh50_6, rh50_6⟩ := wh50_6
    have f9 : ((0 : Int32)).toInt = 0 := rfl
    exact S_X12_remembers_55 hn hg  n wh50_6 ta0 (by omega) (by omega) (by omega) (fun v q => by cases (fJ jh50_6).symm.trans q; omega)
set_option maxHeartbeats 1000000 in
theorem S_X12_undo_26 {g : jGh} {Γ : Nat → Option Nat} {n : Nat} (hn : 6000 ≤ n) (hg : jgok g)  (k : Nat) : ∀ {a0 : Nat} {x1 : Int32} {h : jH}, jW (jKd g) Γ h → (Γ a0 = some 20) → (0 ≤ x1.toInt) → (x1.toInt ≤ 435) → (435 : Int) - x1.toInt < (k : Int) → (∀ v, jgI 10 h a0 7 = some v → v.toInt ≤ 11) → jok (F_X12_undo_26 n k a0 x1 h) (fun q => jW (jKd g) Γ q.2 ∧ (fun v : Int32 => 0 ≤ v.toInt ∧ v.toInt ≤ 1) q.1) := by
  induction k with
  | zero =>
    intro a0 x1 h w ta0 lx1 ux1 mk hr
    omega
  | succ k ih =>
    intro a0 x1 h w ta0 lx1 ux1 mk hr
    show jok (F_X12_undo_26_b n (F_X12_undo_26 n k) a0 x1 h) _
    unfold F_X12_undo_26_b
    have f1 : ((435 : Int32)).toInt = 435 := rfl
    refine jok_le (fun c2 => ?_) (fun c2 => ?_)
    · have f3 : ((1 : Int32)).toInt = 1 := rfl
      exact jok_s ⟨w, (show jI 0 1 (1 : Int32) from ⟨by omega, by omega⟩)⟩
    · refine jok_b (t_gR w ta0 rfl rfl) (fun p34_4 tp34_4 => ?_)
      refine jok_b (t_gR w ta0 rfl rfl) (fun p39_5 tp39_5 => ?_)
      refine jok_b2 (t_gI w ta0 rfl rfl) (fun v46_6 ev46_6 pv46_6 => ?_)
      obtain ⟨lv46_6, uv46_6⟩ := pv46_6
      have hr9 := hr _ ev46_6
      have f8 : (((435 : Int32) * v46_6)).toInt = 435 * (v46_6).toInt := jmulL (c := 435) (by omega) (by omega) (by omega)
      have f9 : ((((435 : Int32) * v46_6) + x1)).toInt = (((435 : Int32) * v46_6)).toInt + (x1).toInt := jadd (by omega) (by omega)
      refine jok_b (t_al w tp39_5 rfl (by omega) (by omega)) (fun v52_7 pv52_7 => ?_)
      refine jok_b (t_as w tp34_4 rfl (by omega) (by omega) ⟨by show jR3 _ _; rw [show (x1).toInt.toNat = ((((435 : Int32) * v46_6) + x1)).toInt.toNat % 435 by omega]; exact pv52_7, Or.inl (by omega)⟩ (fun q => by cases q)) (fun h53_10 wh53_10 => ?_)
      obtain ⟨wh53_10, rh53_10⟩ := wh53_10
      have f11 : ((1 : Int32)).toInt = 1 := rfl
      have f12 : ((x1 + (1 : Int32))).toInt = (x1).toInt + ((1 : Int32)).toInt := jadd (by omega) (by omega)
      exact ih wh53_10 ta0 (by omega) (by omega) (by omega) (fun v q => hr v (fI (rh53_10 _ _ _).symm q))
set_option maxHeartbeats 1000000 in
theorem S_X12_undo {g : jGh} {Γ : Nat → Option Nat} {n : Nat} {a0 : Nat} {h : jH} (hn : 6000 ≤ n) (hg : jgok g) (w : jW (jKd g) Γ h) (ta0 : Γ a0 = some 20) : jok (F_X12_undo n a0 h) (fun q => jW (jKd g) Γ q.2 ∧ (fun v : Int32 => 0 ≤ v.toInt ∧ v.toInt ≤ 1) q.1) := by
  unfold F_X12_undo
  have f2 : ((0 : Int32)).toInt = 0 := rfl
  refine jok_b (t_pI w ta0 rfl rfl trivial) (fun h2_1 wh2_1 => ?_)
  obtain ⟨wh2_1, jh2_1, rh2_1⟩ := wh2_1
  refine jok_b2 (t_gI wh2_1 ta0 rfl rfl) (fun v6_3 ev6_3 pv6_3 => ?_)
  obtain ⟨lv6_3, uv6_3⟩ := pv6_3
  refine jok_eq (fun c4 d4 => ?_) (fun c4 => ?_)
  · exact jok_s ⟨wh2_1, (show jI 0 1 (0 : Int32) from ⟨by omega, by omega⟩)⟩
  · refine jok_r ev6_3 ?_
    have f7 : ((1 : Int32)).toInt = 1 := rfl
    have f8 : ((v6_3 - (1 : Int32))).toInt = (v6_3).toInt - ((1 : Int32)).toInt := jsub (by omega) (by omega)
    refine jok_b (t_pI wh2_1 ta0 rfl rfl (show jI 0 12 (v6_3 - (1 : Int32)) from ⟨by omega, by omega⟩)) (fun h21_6 wh21_6 => ?_)
    obtain ⟨wh21_6, jh21_6, rh21_6⟩ := wh21_6
    exact S_X12_undo_26 hn hg  n wh21_6 ta0 (by omega) (by omega) (by omega) (fun v q => by cases (fJ jh21_6).symm.trans q; omega)
set_option maxHeartbeats 1000000 in
theorem S_X12_leastPlace {g : jGh} {Γ : Nat → Option Nat} {n : Nat} {a0 : Nat} {h : jH} (hn : 6000 ≤ n) (hg : jgok g) (w : jW (jKd g) Γ h) (ta0 : Γ a0 = some 20) : jok (F_X12_leastPlace n a0 h) (fun v => 0 ≤ v.toInt ∧ v.toInt ≤ 32) := by
  unfold F_X12_leastPlace
  try rw [t_cv w ta0 rfl]
  refine jok_b2 (S_X12_rings hn hg w ta0) (fun v1_1 ev1_1 pv1_1 => ?_)
  obtain ⟨lv1_1, uv1_1⟩ := pv1_1
  have f2 : ((0 : Int32)).toInt = 0 := rfl
  refine jok_eq (fun c3 d3 => ?_) (fun c3 => ?_)
  · exact jok_s (show jI 0 32 (0 : Int32) from ⟨by omega, by omega⟩)
  · try rw [t_cv w ta0 rfl]
    refine jok_r (last_of w ta0 ev1_1) ?_
    have f5 : ((1 : Int32)).toInt = 1 := rfl
    have f6 : ((v1_1 - (1 : Int32))).toInt = (v1_1).toInt - ((1 : Int32)).toInt := jsub (by omega) (by omega)
    try rw [t_cv w ta0 rfl]
    refine jok_b (S_X12_of hn hg w ta0 (by omega) (by omega) (by omega) (by omega)) (fun v17_7 pv17_7 => ?_)
    have pv17_7_9 := pv17_7
    try dsimp only at pv17_7_9
    have f8 : ((v17_7 + (1 : Int32))).toInt = (v17_7).toInt + ((1 : Int32)).toInt := jadd (by omega) (by omega)
    exact jok_s (show jI 0 32 (v17_7 + (1 : Int32)) from ⟨by omega, by omega⟩)
set_option maxHeartbeats 1000000 in
theorem S_X12_mostPlace {g : jGh} {Γ : Nat → Option Nat} {n : Nat} {a0 : Nat} {h : jH} (hn : 6000 ≤ n) (hg : jgok g) (w : jW (jKd g) Γ h) (ta0 : Γ a0 = some 20) : jok (F_X12_mostPlace n a0 h) (fun v => v.toInt ≤ 31) := by
  unfold F_X12_mostPlace
  try rw [t_cv w ta0 rfl]
  refine jok_b2 (S_X12_rings hn hg w ta0) (fun v1_1 ev1_1 pv1_1 => ?_)
  obtain ⟨lv1_1, uv1_1⟩ := pv1_1
  have f2 : ((0 : Int32)).toInt = 0 := rfl
  refine jok_eq (fun c3 d3 => ?_) (fun c3 => ?_)
  · have f4 : ((31 : Int32)).toInt = 31 := rfl
    exact jok_s (show (31 : Int32).toInt ≤ 31 from by omega)
  · try rw [t_cv w ta0 rfl]
    refine jok_r (last_of w ta0 ev1_1) ?_
    have f6 : ((1 : Int32)).toInt = 1 := rfl
    have f7 : ((v1_1 - (1 : Int32))).toInt = (v1_1).toInt - ((1 : Int32)).toInt := jsub (by omega) (by omega)
    try rw [t_cv w ta0 rfl]
    refine jok_b (S_X12_of hn hg w ta0 (by omega) (by omega) (by omega) (by omega)) (fun v20_8 pv20_8 => ?_)
    have pv20_8_9 := pv20_8
    try dsimp only at pv20_8_9
    try rw [t_cv w ta0 rfl]
    refine jok_r (last_of w ta0 ev1_1) ?_
    try rw [t_cv w ta0 rfl]
    refine jok_b (S_X12_of hn hg w ta0 (by omega) (by omega) (by omega) (by omega)) (fun v29_10 pv29_10 => ?_)
    have pv29_10_9 := pv29_10
    try dsimp only at pv29_10_9
    have f11 : ((31 : Int32)).toInt = 31 := rfl
    exact jok_s jmin31
set_option maxHeartbeats 1000000 in
theorem S_X12_let {g : jGh} {Γ : Nat → Option Nat} {n : Nat} {a0 : Nat} {x1 : Int32} {x2 : Int32} {h : jH} (hn : 6000 ≤ n) (hg : jgok g) (w : jW (jKd g) Γ h) (ta0 : Γ a0 = some 20) : jok (F_X12_let n a0 x1 x2 h) (fun q => jW (jKd g) Γ q.2 ∧ (fun v : Int32 => True) q.1) := by
  unfold F_X12_let
  have f2 : ((0 : Int32)).toInt = 0 := rfl
  refine jok_b (t_pI w ta0 rfl rfl trivial) (fun h2_1 wh2_1 => ?_)
  obtain ⟨wh2_1, jh2_1, rh2_1⟩ := wh2_1
  try rw [t_cv wh2_1 ta0 rfl]
  refine jok_b (S_X12_noRing hn hg wh2_1 ta0) (fun v8_3 pv8_3 => ?_)
  have pv8_3_9 := pv8_3
  try dsimp only at pv8_3_9
  try rw [t_cv wh2_1 ta0 rfl]
  refine jok_b (S_X12_throwsIf hn hg wh2_1 ta0 (by omega) (by omega)) (fun q12_4 wq12_4 => ?_)
  obtain ⟨wq12_4, pq12_4⟩ := wq12_4
  have f5 : ((1 : Int32)).toInt = 1 := rfl
  have pq12_4_9 := pq12_4
  try dsimp only at pq12_4_9
  refine jok_eq (fun c6 d6 => ?_) (fun c6 => ?_)
  · refine jok_b (S_X12_in hn hg wq12_4) (fun v23_7 pv23_7 => ?_)
    have f8 : ((9 : Int32)).toInt = 9 := rfl
    have pv23_7_9 := pv23_7
    try dsimp only at pv23_7_9
    refine jok_eq (fun c9 d9 => ?_) (fun c9 => ?_)
    · unfold F_X12_let_34
      try rw [t_cv wq12_4 ta0 rfl]
      refine jok_b (S_X12_throwsIf hn hg wq12_4 ta0 (by omega) (by omega)) (fun q35_10 wq35_10 => ?_)
      obtain ⟨wq35_10, pq35_10⟩ := wq35_10
      have f11 : ((2 : Int32)).toInt = 2 := rfl
      have pq35_10_9 := pq35_10
      try dsimp only at pq35_10_9
      refine jok_eq (fun c12 d12 => ?_) (fun c12 => ?_)
      · try rw [t_cv wq35_10 ta0 rfl]
        refine jok_b (S_X12_remembers hn hg wq35_10 ta0) (fun h44_13 wh44_13 => ?_)
        try rw [t_cv wh44_13 ta0 rfl]
        have f15 : ((5 : Int32)).toInt = 5 := rfl
        refine jok_b (S_X12_of hn hg wh44_13 ta0 (by omega) (by omega) (by omega) (by omega)) (fun v50_14 pv50_14 => ?_)
        have pv50_14_9 := pv50_14
        try dsimp only at pv50_14_9
        refine jok_b (t_gR wh44_13 ta0 rfl rfl) (fun p55_16 tp55_16 => ?_)
        refine jok_b (S_X12_at hn hg wh44_13 (by omega) (by omega) (by omega) (by omega)) (fun v60_17 pv60_17 => ?_)
        have pv60_17_9 := pv60_17
        try dsimp only at pv60_17_9
        refine jok_b (t_as wh44_13 tp55_16 rfl (by omega) (by omega) (show jRw g (v60_17).toInt.toNat x2 from ⟨⟨by omega, by omega, by omega⟩, Or.inl (by omega)⟩) (fun q => by cases q)) (fun h64_18 wh64_18 => ?_)
        obtain ⟨wh64_18, rh64_18⟩ := wh64_18
        exact jok_s ⟨wh64_18, trivial⟩
      · exact jok_s ⟨wq35_10, trivial⟩
    · unfold F_X12_let_34
      try rw [t_cv wq12_4 ta0 rfl]
      refine jok_b (S_X12_throwsIf hn hg wq12_4 ta0 (by omega) (by omega)) (fun q35_19 wq35_19 => ?_)
      obtain ⟨wq35_19, pq35_19⟩ := wq35_19
      have f20 : ((2 : Int32)).toInt = 2 := rfl
      have pq35_19_9 := pq35_19
      try dsimp only at pq35_19_9
      refine jok_eq (fun c21 d21 => ?_) (fun c21 => ?_)
      · try rw [t_cv wq35_19 ta0 rfl]
        refine jok_b (S_X12_remembers hn hg wq35_19 ta0) (fun h44_22 wh44_22 => ?_)
        try rw [t_cv wh44_22 ta0 rfl]
        have f24 : ((5 : Int32)).toInt = 5 := rfl
        refine jok_b (S_X12_of hn hg wh44_22 ta0 (by omega) (by omega) (by omega) (by omega)) (fun v50_23 pv50_23 => ?_)
        have pv50_23_9 := pv50_23
        try dsimp only at pv50_23_9
        refine jok_b (t_gR wh44_22 ta0 rfl rfl) (fun p55_25 tp55_25 => ?_)
        refine jok_b (S_X12_at hn hg wh44_22 (by omega) (by omega) (by omega) (by omega)) (fun v60_26 pv60_26 => ?_)
        have pv60_26_9 := pv60_26
        try dsimp only at pv60_26_9
        refine jok_b (t_as wh44_22 tp55_25 rfl (by omega) (by omega) (show jRw g (v60_26).toInt.toNat x2 from ⟨⟨by omega, by omega, by omega⟩, Or.inl (by omega)⟩) (fun q => by cases q)) (fun h64_27 wh64_27 => ?_)
        obtain ⟨wh64_27, rh64_27⟩ := wh64_27
        exact jok_s ⟨wh64_27, trivial⟩
      · exact jok_s ⟨wq35_19, trivial⟩
  · exact jok_s ⟨wq12_4, trivial⟩
set_option maxHeartbeats 1000000 in
theorem S_X12_chair {g : jGh} {Γ : Nat → Option Nat} {n : Nat} {a0 : Nat} {x1 : Int32} {x2 : Int32} {h : jH} (hn : 6000 ≤ n) (hg : jgok g) (w : jW (jKd g) Γ h) (ta0 : Γ a0 = some 20) : jok (F_X12_chair n a0 x1 x2 h) (fun q => jW (jKd g) Γ q.2 ∧ (fun v : Int32 => 0 ≤ v.toInt ∧ v.toInt ≤ 1) q.1) := by
  unfold F_X12_chair
  have f2 : ((0 : Int32)).toInt = 0 := rfl
  refine jok_b (t_pI w ta0 rfl rfl trivial) (fun h2_1 wh2_1 => ?_)
  obtain ⟨wh2_1, jh2_1, rh2_1⟩ := wh2_1
  refine jok_b (S_X12_noPlace hn hg wh2_1) (fun v7_3 pv7_3 => ?_)
  have pv7_3_9 := pv7_3
  try dsimp only at pv7_3_9
  try rw [t_cv wh2_1 ta0 rfl]
  refine jok_b (S_X12_throwsIf hn hg wh2_1 ta0 (by omega) (by omega)) (fun q11_4 wq11_4 => ?_)
  obtain ⟨wq11_4, pq11_4⟩ := wq11_4
  have f5 : ((1 : Int32)).toInt = 1 := rfl
  have pq11_4_9 := pq11_4
  try dsimp only at pq11_4_9
  refine jok_eq (fun c6 d6 => ?_) (fun c6 => ?_)
  · try rw [t_cv wq11_4 ta0 rfl]
    refine jok_b (S_X12_remembers hn hg wq11_4 ta0) (fun h20_7 wh20_7 => ?_)
    refine jok_b (t_gR wh20_7 ta0 rfl rfl) (fun p24_8 tp24_8 => ?_)
    have f10 : ((7 : Int32)).toInt = 7 := rfl
    refine jok_b (t_al wh20_7 tp24_8 rfl (by omega) (by omega)) (fun v29_9 pv29_9 => ?_)
    refine jok_b (S_X12_has hn hg wh20_7) (fun v31_11 pv31_11 => ?_)
    obtain ⟨lv31_11, uv31_11⟩ := pv31_11
    refine jok_b (t_gR wh20_7 ta0 rfl rfl) (fun p36_12 tp36_12 => ?_)
    refine jok_b (t_al wh20_7 tp36_12 rfl (by omega) (by omega)) (fun v41_13 pv41_13 => ?_)
    refine jok_b (t_gR wh20_7 ta0 rfl rfl) (fun p51_14 tp51_14 => ?_)
    refine jok_eq (fun c15 d15 => ?_) (fun c15 => ?_)
    · refine jok_b (t_as wh20_7 tp51_14 rfl (by omega) (by omega) (show jRw g ((7 : Int32)).toInt.toNat (v41_13 &&& (((1 : Int32) <<< (x1 &&& (31 : Int32))) ^^^ (-1 : Int32))) from ⟨⟨by omega, by omega, by omega⟩, Or.inl (by omega)⟩) (fun q => by cases q)) (fun h71_16 wh71_16 => ?_)
      obtain ⟨wh71_16, rh71_16⟩ := wh71_16
      refine jok_eq (fun c17 d17 => ?_) (fun c17 => ?_)
      · exact jok_s ⟨wh71_16, (show jI 0 1 (0 : Int32) from ⟨by omega, by omega⟩)⟩
      · exact jok_s ⟨wh71_16, (show jI 0 1 (1 : Int32) from ⟨by omega, by omega⟩)⟩
    · refine jok_b (t_as wh20_7 tp51_14 rfl (by omega) (by omega) (show jRw g ((7 : Int32)).toInt.toNat ((v41_13 &&& (((1 : Int32) <<< (x1 &&& (31 : Int32))) ^^^ (-1 : Int32))) ||| ((1 : Int32) <<< (x1 &&& (31 : Int32)))) from ⟨⟨by omega, by omega, by omega⟩, Or.inl (by omega)⟩) (fun q => by cases q)) (fun h71_18 wh71_18 => ?_)
      obtain ⟨wh71_18, rh71_18⟩ := wh71_18
      refine jok_eq (fun c19 d19 => ?_) (fun c19 => ?_)
      · exact jok_s ⟨wh71_18, (show jI 0 1 (0 : Int32) from ⟨by omega, by omega⟩)⟩
      · exact jok_s ⟨wh71_18, (show jI 0 1 (1 : Int32) from ⟨by omega, by omega⟩)⟩
  · exact jok_s ⟨wq11_4, (show jI 0 1 (0 : Int32) from ⟨by omega, by omega⟩)⟩
set_option maxHeartbeats 1000000 in
theorem S_X12_hook {g : jGh} {Γ : Nat → Option Nat} {n : Nat} {a0 : Nat} {x1 : Int32} {x2 : Int32} {h : jH} (hn : 6000 ≤ n) (hg : jgok g) (w : jW (jKd g) Γ h) (ta0 : Γ a0 = some 20) : jok (F_X12_hook n a0 x1 x2 h) (fun q => jW (jKd g) Γ q.2 ∧ (fun v : Int32 => 0 ≤ v.toInt ∧ v.toInt ≤ 1) q.1) := by
  unfold F_X12_hook
  have f2 : ((0 : Int32)).toInt = 0 := rfl
  refine jok_b (t_pI w ta0 rfl rfl trivial) (fun h2_1 wh2_1 => ?_)
  obtain ⟨wh2_1, jh2_1, rh2_1⟩ := wh2_1
  try rw [t_cv wh2_1 ta0 rfl]
  refine jok_b (S_X12_noRing hn hg wh2_1 ta0) (fun v8_3 pv8_3 => ?_)
  have pv8_3_9 := pv8_3
  try dsimp only at pv8_3_9
  try rw [t_cv wh2_1 ta0 rfl]
  refine jok_b (S_X12_throwsIf hn hg wh2_1 ta0 (by omega) (by omega)) (fun q12_4 wq12_4 => ?_)
  obtain ⟨wq12_4, pq12_4⟩ := wq12_4
  have f5 : ((1 : Int32)).toInt = 1 := rfl
  have pq12_4_9 := pq12_4
  try dsimp only at pq12_4_9
  refine jok_eq (fun c6 d6 => ?_) (fun c6 => ?_)
  · try rw [t_cv wq12_4 ta0 rfl]
    refine jok_b (S_X12_remembers hn hg wq12_4 ta0) (fun h21_7 wh21_7 => ?_)
    try rw [t_cv wh21_7 ta0 rfl]
    have f9 : ((6 : Int32)).toInt = 6 := rfl
    refine jok_b (S_X12_is hn hg wh21_7 ta0 (by omega) (by omega) (by omega) (by omega)) (fun v28_8 pv28_8 => ?_)
    obtain ⟨lv28_8, uv28_8⟩ := pv28_8
    refine jok_b (t_gR wh21_7 ta0 rfl rfl) (fun p33_10 tp33_10 => ?_)
    refine jok_b (S_X12_at hn hg wh21_7 (by omega) (by omega) (by omega) (by omega)) (fun v39_11 pv39_11 => ?_)
    have pv39_11_9 := pv39_11
    try dsimp only at pv39_11_9
    refine jok_eq (fun c12 d12 => ?_) (fun c12 => ?_)
    · refine jok_b (t_as wh21_7 tp33_10 rfl (by omega) (by omega) (show jRw g (v39_11).toInt.toNat (0 : Int32) from ⟨⟨by omega, by omega, by omega⟩, Or.inl (by omega)⟩) (fun q => by cases q)) (fun h51_13 wh51_13 => ?_)
      obtain ⟨wh51_13, rh51_13⟩ := wh51_13
      refine jok_eq (fun c14 d14 => ?_) (fun c14 => ?_)
      · exact jok_s ⟨wh51_13, (show jI 0 1 (0 : Int32) from ⟨by omega, by omega⟩)⟩
      · exact jok_s ⟨wh51_13, (show jI 0 1 (1 : Int32) from ⟨by omega, by omega⟩)⟩
    · refine jok_b (t_as wh21_7 tp33_10 rfl (by omega) (by omega) (show jRw g (v39_11).toInt.toNat (1 : Int32) from ⟨⟨by omega, by omega, by omega⟩, Or.inl (by omega)⟩) (fun q => by cases q)) (fun h51_15 wh51_15 => ?_)
      obtain ⟨wh51_15, rh51_15⟩ := wh51_15
      refine jok_eq (fun c16 d16 => ?_) (fun c16 => ?_)
      · exact jok_s ⟨wh51_15, (show jI 0 1 (0 : Int32) from ⟨by omega, by omega⟩)⟩
      · exact jok_s ⟨wh51_15, (show jI 0 1 (1 : Int32) from ⟨by omega, by omega⟩)⟩
  · exact jok_s ⟨wq12_4, (show jI 0 1 (0 : Int32) from ⟨by omega, by omega⟩)⟩
set_option maxHeartbeats 1000000 in
theorem S_X12_snag {g : jGh} {Γ : Nat → Option Nat} {n : Nat} {a0 : Nat} {x1 : Int32} {h : jH} (hn : 6000 ≤ n) (hg : jgok g) (w : jW (jKd g) Γ h) (ta0 : Γ a0 = some 20) : jok (F_X12_snag n a0 x1 h) (fun q => jW (jKd g) Γ q.2 ∧ (fun v : Int32 => True) q.1) := by
  unfold F_X12_snag
  have f2 : ((0 : Int32)).toInt = 0 := rfl
  refine jok_b (t_pI w ta0 rfl rfl trivial) (fun h2_1 wh2_1 => ?_)
  obtain ⟨wh2_1, jh2_1, rh2_1⟩ := wh2_1
  try rw [t_cv wh2_1 ta0 rfl]
  refine jok_b (S_X12_noRing hn hg wh2_1 ta0) (fun v8_3 pv8_3 => ?_)
  have pv8_3_9 := pv8_3
  try dsimp only at pv8_3_9
  try rw [t_cv wh2_1 ta0 rfl]
  refine jok_b (S_X12_throwsIf hn hg wh2_1 ta0 (by omega) (by omega)) (fun q12_4 wq12_4 => ?_)
  obtain ⟨wq12_4, pq12_4⟩ := wq12_4
  have f5 : ((1 : Int32)).toInt = 1 := rfl
  have pq12_4_9 := pq12_4
  try dsimp only at pq12_4_9
  refine jok_eq (fun c6 d6 => ?_) (fun c6 => ?_)
  · try rw [t_cv wq12_4 ta0 rfl]
    refine jok_b2 (S_X12_lastRing hn hg wq12_4 ta0) (fun v21_7 ev21_7 pv21_7 => ?_)
    obtain ⟨lv21_7, uv21_7⟩ := pv21_7
    refine jok_eq (fun c8 d8 => ?_) (fun c8 => ?_)
    · unfold F_X12_snag_42
      try rw [t_cv wq12_4 ta0 rfl]
      refine jok_b (S_X12_throwsIf hn hg wq12_4 ta0 (by omega) (by omega)) (fun q43_9 wq43_9 => ?_)
      obtain ⟨wq43_9, pq43_9⟩ := wq43_9
      have f10 : ((2 : Int32)).toInt = 2 := rfl
      have pq43_9_9 := pq43_9
      try dsimp only at pq43_9_9
      refine jok_eq (fun c11 d11 => ?_) (fun c11 => ?_)
      · try rw [t_cv wq43_9 ta0 rfl]
        refine jok_b (S_X12_remembers hn hg wq43_9 ta0) (fun h52_12 wh52_12 => ?_)
        refine jok_b (t_gR wh52_12 ta0 rfl rfl) (fun p56_13 tp56_13 => ?_)
        have f15 : ((7 : Int32)).toInt = 7 := rfl
        refine jok_b (S_X12_at hn hg wh52_12 (by omega) (by omega) (by omega) (by omega)) (fun v62_14 pv62_14 => ?_)
        have pv62_14_9 := pv62_14
        try dsimp only at pv62_14_9
        refine jok_b (t_as wh52_12 tp56_13 rfl (by omega) (by omega) (show jRw g (v62_14).toInt.toNat (1 : Int32) from ⟨⟨by omega, by omega, by omega⟩, Or.inl (by omega)⟩) (fun q => by cases q)) (fun h66_16 wh66_16 => ?_)
        obtain ⟨wh66_16, rh66_16⟩ := wh66_16
        try rw [t_cv wh66_16 ta0 rfl]
        refine jok_b (S_X12_gapOf hn hg wh66_16 ta0 (by omega) (by omega)) (fun v69_17 pv69_17 => ?_)
        exact jok_s ⟨wh66_16, trivial⟩
      · exact jok_s ⟨wq43_9, trivial⟩
    · try rw [t_cv wq12_4 ta0 rfl]
      have f19 : ((7 : Int32)).toInt = 7 := rfl
      refine jok_b (S_X12_is hn hg wq12_4 ta0 (by omega) (by omega) (by omega) (by omega)) (fun v31_18 pv31_18 => ?_)
      obtain ⟨lv31_18, uv31_18⟩ := pv31_18
      refine jok_eq (fun c20 d20 => ?_) (fun c20 => ?_)
      · unfold F_X12_snag_42
        try rw [t_cv wq12_4 ta0 rfl]
        refine jok_b (S_X12_throwsIf hn hg wq12_4 ta0 (by omega) (by omega)) (fun q43_21 wq43_21 => ?_)
        obtain ⟨wq43_21, pq43_21⟩ := wq43_21
        have f22 : ((2 : Int32)).toInt = 2 := rfl
        have pq43_21_9 := pq43_21
        try dsimp only at pq43_21_9
        refine jok_eq (fun c23 d23 => ?_) (fun c23 => ?_)
        · try rw [t_cv wq43_21 ta0 rfl]
          refine jok_b (S_X12_remembers hn hg wq43_21 ta0) (fun h52_24 wh52_24 => ?_)
          refine jok_b (t_gR wh52_24 ta0 rfl rfl) (fun p56_25 tp56_25 => ?_)
          refine jok_b (S_X12_at hn hg wh52_24 (by omega) (by omega) (by omega) (by omega)) (fun v62_26 pv62_26 => ?_)
          have pv62_26_9 := pv62_26
          try dsimp only at pv62_26_9
          refine jok_b (t_as wh52_24 tp56_25 rfl (by omega) (by omega) (show jRw g (v62_26).toInt.toNat (1 : Int32) from ⟨⟨by omega, by omega, by omega⟩, Or.inl (by omega)⟩) (fun q => by cases q)) (fun h66_27 wh66_27 => ?_)
          obtain ⟨wh66_27, rh66_27⟩ := wh66_27
          try rw [t_cv wh66_27 ta0 rfl]
          refine jok_b (S_X12_gapOf hn hg wh66_27 ta0 (by omega) (by omega)) (fun v69_28 pv69_28 => ?_)
          exact jok_s ⟨wh66_27, trivial⟩
        · exact jok_s ⟨wq43_21, trivial⟩
      · unfold F_X12_snag_42
        try rw [t_cv wq12_4 ta0 rfl]
        refine jok_b (S_X12_throwsIf hn hg wq12_4 ta0 (by omega) (by omega)) (fun q43_29 wq43_29 => ?_)
        obtain ⟨wq43_29, pq43_29⟩ := wq43_29
        have f30 : ((2 : Int32)).toInt = 2 := rfl
        have pq43_29_9 := pq43_29
        try dsimp only at pq43_29_9
        refine jok_eq (fun c31 d31 => ?_) (fun c31 => ?_)
        · try rw [t_cv wq43_29 ta0 rfl]
          refine jok_b (S_X12_remembers hn hg wq43_29 ta0) (fun h52_32 wh52_32 => ?_)
          refine jok_b (t_gR wh52_32 ta0 rfl rfl) (fun p56_33 tp56_33 => ?_)
          refine jok_b (S_X12_at hn hg wh52_32 (by omega) (by omega) (by omega) (by omega)) (fun v62_34 pv62_34 => ?_)
          have pv62_34_9 := pv62_34
          try dsimp only at pv62_34_9
          refine jok_b (t_as wh52_32 tp56_33 rfl (by omega) (by omega) (show jRw g (v62_34).toInt.toNat (1 : Int32) from ⟨⟨by omega, by omega, by omega⟩, Or.inl (by omega)⟩) (fun q => by cases q)) (fun h66_35 wh66_35 => ?_)
          obtain ⟨wh66_35, rh66_35⟩ := wh66_35
          try rw [t_cv wh66_35 ta0 rfl]
          refine jok_b (S_X12_gapOf hn hg wh66_35 ta0 (by omega) (by omega)) (fun v69_36 pv69_36 => ?_)
          exact jok_s ⟨wh66_35, trivial⟩
        · exact jok_s ⟨wq43_29, trivial⟩
  · exact jok_s ⟨wq12_4, trivial⟩
set_option maxHeartbeats 1000000 in
theorem S_X12_free {g : jGh} {Γ : Nat → Option Nat} {n : Nat} {a0 : Nat} {x1 : Int32} {h : jH} (hn : 6000 ≤ n) (hg : jgok g) (w : jW (jKd g) Γ h) (ta0 : Γ a0 = some 20) : jok (F_X12_free n a0 x1 h) (fun q => jW (jKd g) Γ q.2 ∧ (fun v : Int32 => True) q.1) := by
  unfold F_X12_free
  have f2 : ((0 : Int32)).toInt = 0 := rfl
  refine jok_b (t_pI w ta0 rfl rfl trivial) (fun h2_1 wh2_1 => ?_)
  obtain ⟨wh2_1, jh2_1, rh2_1⟩ := wh2_1
  try rw [t_cv wh2_1 ta0 rfl]
  refine jok_b (S_X12_noRing hn hg wh2_1 ta0) (fun v8_3 pv8_3 => ?_)
  have pv8_3_9 := pv8_3
  try dsimp only at pv8_3_9
  try rw [t_cv wh2_1 ta0 rfl]
  refine jok_b (S_X12_throwsIf hn hg wh2_1 ta0 (by omega) (by omega)) (fun q12_4 wq12_4 => ?_)
  obtain ⟨wq12_4, pq12_4⟩ := wq12_4
  have f5 : ((1 : Int32)).toInt = 1 := rfl
  have pq12_4_9 := pq12_4
  try dsimp only at pq12_4_9
  refine jok_eq (fun c6 d6 => ?_) (fun c6 => ?_)
  · try rw [t_cv wq12_4 ta0 rfl]
    have f8 : ((7 : Int32)).toInt = 7 := rfl
    refine jok_b (S_X12_is hn hg wq12_4 ta0 (by omega) (by omega) (by omega) (by omega)) (fun v23_7 pv23_7 => ?_)
    obtain ⟨lv23_7, uv23_7⟩ := pv23_7
    refine jok_eq (fun c9 d9 => ?_) (fun c9 => ?_)
    · unfold F_X12_free_34
      try rw [t_cv wq12_4 ta0 rfl]
      refine jok_b (S_X12_throwsIf hn hg wq12_4 ta0 (by omega) (by omega)) (fun q35_10 wq35_10 => ?_)
      obtain ⟨wq35_10, pq35_10⟩ := wq35_10
      have f11 : ((2 : Int32)).toInt = 2 := rfl
      have pq35_10_9 := pq35_10
      try dsimp only at pq35_10_9
      refine jok_eq (fun c12 d12 => ?_) (fun c12 => ?_)
      · try rw [t_cv wq35_10 ta0 rfl]
        refine jok_b (S_X12_remembers hn hg wq35_10 ta0) (fun h44_13 wh44_13 => ?_)
        refine jok_b (t_gR wh44_13 ta0 rfl rfl) (fun p48_14 tp48_14 => ?_)
        refine jok_b (S_X12_at hn hg wh44_13 (by omega) (by omega) (by omega) (by omega)) (fun v54_15 pv54_15 => ?_)
        have pv54_15_9 := pv54_15
        try dsimp only at pv54_15_9
        refine jok_b (t_as wh44_13 tp48_14 rfl (by omega) (by omega) (show jRw g (v54_15).toInt.toNat (0 : Int32) from ⟨⟨by omega, by omega, by omega⟩, Or.inl (by omega)⟩) (fun q => by cases q)) (fun h58_16 wh58_16 => ?_)
        obtain ⟨wh58_16, rh58_16⟩ := wh58_16
        try rw [t_cv wh58_16 ta0 rfl]
        refine jok_b (S_X12_gapOf hn hg wh58_16 ta0 (by omega) (by omega)) (fun v61_17 pv61_17 => ?_)
        exact jok_s ⟨wh58_16, trivial⟩
      · exact jok_s ⟨wq35_10, trivial⟩
    · unfold F_X12_free_34
      try rw [t_cv wq12_4 ta0 rfl]
      refine jok_b (S_X12_throwsIf hn hg wq12_4 ta0 (by omega) (by omega)) (fun q35_18 wq35_18 => ?_)
      obtain ⟨wq35_18, pq35_18⟩ := wq35_18
      have f19 : ((2 : Int32)).toInt = 2 := rfl
      have pq35_18_9 := pq35_18
      try dsimp only at pq35_18_9
      refine jok_eq (fun c20 d20 => ?_) (fun c20 => ?_)
      · try rw [t_cv wq35_18 ta0 rfl]
        refine jok_b (S_X12_remembers hn hg wq35_18 ta0) (fun h44_21 wh44_21 => ?_)
        refine jok_b (t_gR wh44_21 ta0 rfl rfl) (fun p48_22 tp48_22 => ?_)
        refine jok_b (S_X12_at hn hg wh44_21 (by omega) (by omega) (by omega) (by omega)) (fun v54_23 pv54_23 => ?_)
        have pv54_23_9 := pv54_23
        try dsimp only at pv54_23_9
        refine jok_b (t_as wh44_21 tp48_22 rfl (by omega) (by omega) (show jRw g (v54_23).toInt.toNat (0 : Int32) from ⟨⟨by omega, by omega, by omega⟩, Or.inl (by omega)⟩) (fun q => by cases q)) (fun h58_24 wh58_24 => ?_)
        obtain ⟨wh58_24, rh58_24⟩ := wh58_24
        try rw [t_cv wh58_24 ta0 rfl]
        refine jok_b (S_X12_gapOf hn hg wh58_24 ta0 (by omega) (by omega)) (fun v61_25 pv61_25 => ?_)
        exact jok_s ⟨wh58_24, trivial⟩
      · exact jok_s ⟨wq35_18, trivial⟩
  · exact jok_s ⟨wq12_4, trivial⟩
set_option maxHeartbeats 1000000 in
theorem S_X12_pull {g : jGh} {Γ : Nat → Option Nat} {n : Nat} {a0 : Nat} {x1 : Int32} {x2 : Int32} {x3 : Int32} {h : jH} (hn : 6000 ≤ n) (hg : jgok g) (w : jW (jKd g) Γ h) (ta0 : Γ a0 = some 20) : jok (F_X12_pull n a0 x1 x2 x3 h) (fun q => jW (jKd g) Γ q.2 ∧ (fun v : Int32 => True) q.1) := by
  unfold F_X12_pull
  have f2 : ((0 : Int32)).toInt = 0 := rfl
  refine jok_b (t_pI w ta0 rfl rfl trivial) (fun h2_1 wh2_1 => ?_)
  obtain ⟨wh2_1, jh2_1, rh2_1⟩ := wh2_1
  try rw [t_cv wh2_1 ta0 rfl]
  refine jok_b (S_X12_noRing hn hg wh2_1 ta0) (fun v8_3 pv8_3 => ?_)
  have pv8_3_9 := pv8_3
  try dsimp only at pv8_3_9
  try rw [t_cv wh2_1 ta0 rfl]
  refine jok_b (S_X12_throwsIf hn hg wh2_1 ta0 (by omega) (by omega)) (fun q12_4 wq12_4 => ?_)
  obtain ⟨wq12_4, pq12_4⟩ := wq12_4
  have f5 : ((1 : Int32)).toInt = 1 := rfl
  have pq12_4_9 := pq12_4
  try dsimp only at pq12_4_9
  refine jok_eq (fun c6 d6 => ?_) (fun c6 => ?_)
  · refine jok_b (S_X12_noSteps hn hg wq12_4) (fun v20_7 pv20_7 => ?_)
    have pv20_7_9 := pv20_7
    try dsimp only at pv20_7_9
    try rw [t_cv wq12_4 ta0 rfl]
    refine jok_b (S_X12_throwsIf hn hg wq12_4 ta0 (by omega) (by omega)) (fun q24_8 wq24_8 => ?_)
    obtain ⟨wq24_8, pq24_8⟩ := wq24_8
    have f9 : ((2 : Int32)).toInt = 2 := rfl
    have pq24_8_9 := pq24_8
    try dsimp only at pq24_8_9
    refine jok_eq (fun c10 d10 => ?_) (fun c10 => ?_)
    · try rw [t_cv wq24_8 ta0 rfl]
      refine jok_b (S_X12_remembers hn hg wq24_8 ta0) (fun h33_11 wh33_11 => ?_)
      try rw [t_cv wh33_11 ta0 rfl]
      refine jok_b (S_X12_pulls hn hg wh33_11 ta0 (by omega) (by omega) (by omega) (by omega)) (fun q40_12 wq40_12 => ?_)
      obtain ⟨wq40_12, pq40_12⟩ := wq40_12
      have pq40_12_9 := pq40_12
      try dsimp only at pq40_12_9
      try rw [t_cv wq40_12 ta0 rfl]
      refine jok_b (S_X12_tells hn hg wq40_12 ta0 (by omega) (by omega)) (fun h50_13 wh50_13 => ?_)
      exact jok_s ⟨wh50_13, trivial⟩
    · exact jok_s ⟨wq24_8, trivial⟩
  · exact jok_s ⟨wq12_4, trivial⟩
set_option maxHeartbeats 1000000 in
theorem S_X12_hours {g : jGh} {Γ : Nat → Option Nat} {n : Nat} {a0 : Nat} {x1 : Int32} {h : jH} (hn : 6000 ≤ n) (hg : jgok g) (w : jW (jKd g) Γ h) (ta0 : Γ a0 = some 20) : jok (F_X12_hours n a0 x1 h) (fun q => jW (jKd g) Γ q.2 ∧ (fun v : Int32 => True) q.1) := by
  unfold F_X12_hours
  have f2 : ((0 : Int32)).toInt = 0 := rfl
  refine jok_b (t_pI w ta0 rfl rfl trivial) (fun h2_1 wh2_1 => ?_)
  obtain ⟨wh2_1, jh2_1, rh2_1⟩ := wh2_1
  refine jok_b (S_X12_in hn hg wh2_1) (fun v10_3 pv10_3 => ?_)
  have f4 : ((1 : Int32)).toInt = 1 := rfl
  have f5 : ((80 : Int32)).toInt = 80 := rfl
  have pv10_3_9 := pv10_3
  try dsimp only at pv10_3_9
  refine jok_eq (fun c6 d6 => ?_) (fun c6 => ?_)
  · unfold F_X12_hours_21
    try rw [t_cv wh2_1 ta0 rfl]
    refine jok_b (S_X12_throwsIf hn hg wh2_1 ta0 (by omega) (by omega)) (fun q22_7 wq22_7 => ?_)
    obtain ⟨wq22_7, pq22_7⟩ := wq22_7
    have pq22_7_9 := pq22_7
    try dsimp only at pq22_7_9
    refine jok_eq (fun c8 d8 => ?_) (fun c8 => ?_)
    · try rw [t_cv wq22_7 ta0 rfl]
      refine jok_b (S_X12_remembers hn hg wq22_7 ta0) (fun h31_9 wh31_9 => ?_)
      try rw [t_cv wh31_9 ta0 rfl]
      refine jok_b (S_X12_goesOn hn hg wh31_9 ta0 (by omega) (by omega)) (fun q37_10 wq37_10 => ?_)
      obtain ⟨wq37_10, pq37_10⟩ := wq37_10
      exact jok_s ⟨wq37_10, trivial⟩
    · exact jok_s ⟨wq22_7, trivial⟩
  · unfold F_X12_hours_21
    try rw [t_cv wh2_1 ta0 rfl]
    refine jok_b (S_X12_throwsIf hn hg wh2_1 ta0 (by omega) (by omega)) (fun q22_11 wq22_11 => ?_)
    obtain ⟨wq22_11, pq22_11⟩ := wq22_11
    have pq22_11_9 := pq22_11
    try dsimp only at pq22_11_9
    refine jok_eq (fun c12 d12 => ?_) (fun c12 => ?_)
    · try rw [t_cv wq22_11 ta0 rfl]
      refine jok_b (S_X12_remembers hn hg wq22_11 ta0) (fun h31_13 wh31_13 => ?_)
      try rw [t_cv wh31_13 ta0 rfl]
      refine jok_b (S_X12_goesOn hn hg wh31_13 ta0 (by omega) (by omega)) (fun q37_14 wq37_14 => ?_)
      obtain ⟨wq37_14, pq37_14⟩ := wq37_14
      exact jok_s ⟨wq37_14, trivial⟩
    · exact jok_s ⟨wq22_11, trivial⟩
set_option maxHeartbeats 1000000 in
theorem S_X12_isTold_26 {g : jGh} {Γ : Nat → Option Nat} {n : Nat} (hn : 6000 ≤ n) (hg : jgok g)  (k : Nat) : ∀ {a0 : Nat} {x1 : Int32} {x2 : Int32} {h : jH}, jW (jKd g) Γ h → (Γ a0 = some 20) → (0 ≤ x1.toInt) → (x1.toInt ≤ 1) → (0 ≤ x2.toInt) → (x2.toInt ≤ 400) → (400 : Int) - x2.toInt < (k : Int) → (x2.toInt % 4 = 0) → jok (F_X12_isTold_26 n k a0 x1 x2 h) (fun v => 0 ≤ v.toInt ∧ v.toInt ≤ 1) := by
  induction k with
  | zero =>
    intro a0 x1 x2 h w ta0 lx1 ux1 lx2 ux2 mk hm
    omega
  | succ k ih =>
    intro a0 x1 x2 h w ta0 lx1 ux1 lx2 ux2 mk hm
    show jok (F_X12_isTold_26_b n (F_X12_isTold_26 n k) a0 x1 x2 h) _
    unfold F_X12_isTold_26_b
    refine jok_b2 (t_gI w ta0 rfl rfl) (fun v28_1 ev28_1 pv28_1 => ?_)
    obtain ⟨lv28_1, uv28_1⟩ := pv28_1
    refine jok_le (fun c2 => ?_) (fun c2 => ?_)
    · rw [if_pos (show x1 = 0 ∨ x1 = 1 from j01 (by omega) (by omega))]
      exact jok_s (show jI 0 1 x1 from ⟨by omega, by omega⟩)
    · have f3 : ((0 : Int32)).toInt = 0 := rfl
      refine jok_eq (fun c4 d4 => ?_) (fun c4 => ?_)
      · rw [if_pos (show x1 = 0 ∨ x1 = 1 from j01 (by omega) (by omega))]
        exact jok_s (show jI 0 1 x1 from ⟨by omega, by omega⟩)
      · refine jok_b (t_gR w ta0 rfl rfl) (fun p40_5 tp40_5 => ?_)
        refine jok_b (t_al w tp40_5 rfl (by omega) (by omega)) (fun v44_6 pv44_6 => ?_)
        obtain ⟨lv44_6, uv44_6⟩ := pv44_6
        try rw [t_cv w ta0 rfl]
        refine jok_b (S_X12_noRing hn hg w ta0) (fun v45_7 pv45_7 => ?_)
        have pv45_7_9 := pv45_7
        try dsimp only at pv45_7_9
        refine jok_eq (fun c8 d8 => ?_) (fun c8 => ?_)
        · refine jok_b (t_gR w ta0 rfl rfl) (fun p52_9 tp52_9 => ?_)
          have f11 : ((1 : Int32)).toInt = 1 := rfl
          have f12 : ((x2 + (1 : Int32))).toInt = (x2).toInt + ((1 : Int32)).toInt := jadd (by omega) (by omega)
          refine jok_b (t_al w tp52_9 rfl (by omega) (by omega)) (fun v58_10 pv58_10 => ?_)
          obtain ⟨lv58_10, uv58_10⟩ := pv58_10
          refine jok_b (S_X12_in hn hg w) (fun v61_13 pv61_13 => ?_)
          have pv61_13_9 := pv61_13
          try dsimp only at pv61_13_9
          refine jok_eq (fun c14 d14 => ?_) (fun c14 => ?_)
          · have f15 : ((4 : Int32)).toInt = 4 := rfl
            have f16 : ((x2 + (4 : Int32))).toInt = (x2).toInt + ((4 : Int32)).toInt := jadd (by omega) (by omega)
            exact ih w ta0 (by omega) (by omega) (by omega) (by omega) (by omega) (by omega)
          · refine jok_b (t_gR w ta0 rfl rfl) (fun p68_17 tp68_17 => ?_)
            have f19 : ((2 : Int32)).toInt = 2 := rfl
            have f20 : ((x2 + (2 : Int32))).toInt = (x2).toInt + ((2 : Int32)).toInt := jadd (by omega) (by omega)
            refine jok_b (t_al w tp68_17 rfl (by omega) (by omega)) (fun v74_18 pv74_18 => ?_)
            obtain ⟨lv74_18, uv74_18⟩ := pv74_18
            refine jok_b (S_X12_noSteps hn hg w) (fun v75_21 pv75_21 => ?_)
            have pv75_21_9 := pv75_21
            try dsimp only at pv75_21_9
            refine jok_eq (fun c22 d22 => ?_) (fun c22 => ?_)
            · refine jok_b (t_gR w ta0 rfl rfl) (fun p82_23 tp82_23 => ?_)
              have f25 : ((3 : Int32)).toInt = 3 := rfl
              have f26 : ((x2 + (3 : Int32))).toInt = (x2).toInt + ((3 : Int32)).toInt := jadd (by omega) (by omega)
              refine jok_b (t_al w tp82_23 rfl (by omega) (by omega)) (fun v88_24 pv88_24 => ?_)
              obtain ⟨lv88_24, uv88_24⟩ := pv88_24
              refine jok_b (S_X12_in hn hg w) (fun v92_27 pv92_27 => ?_)
              have f28 : ((31 : Int32)).toInt = 31 := rfl
              have pv92_27_9 := pv92_27
              try dsimp only at pv92_27_9
              refine jok_eq (fun c29 d29 => ?_) (fun c29 => ?_)
              · have f30 : ((4 : Int32)).toInt = 4 := rfl
                have f31 : ((x2 + (4 : Int32))).toInt = (x2).toInt + ((4 : Int32)).toInt := jadd (by omega) (by omega)
                exact ih w ta0 (by omega) (by omega) (by omega) (by omega) (by omega) (by omega)
              · have f32 : ((4 : Int32)).toInt = 4 := rfl
                have f33 : ((x2 + (4 : Int32))).toInt = (x2).toInt + ((4 : Int32)).toInt := jadd (by omega) (by omega)
                exact ih w ta0 (by omega) (by omega) (by omega) (by omega) (by omega) (by omega)
            · have f34 : ((4 : Int32)).toInt = 4 := rfl
              have f35 : ((x2 + (4 : Int32))).toInt = (x2).toInt + ((4 : Int32)).toInt := jadd (by omega) (by omega)
              exact ih w ta0 (by omega) (by omega) (by omega) (by omega) (by omega) (by omega)
        · have f36 : ((4 : Int32)).toInt = 4 := rfl
          have f37 : ((x2 + (4 : Int32))).toInt = (x2).toInt + ((4 : Int32)).toInt := jadd (by omega) (by omega)
          exact ih w ta0 (by omega) (by omega) (by omega) (by omega) (by omega) (by omega)
set_option maxHeartbeats 1000000 in
theorem S_X12_isTold {g : jGh} {Γ : Nat → Option Nat} {n : Nat} {a0 : Nat} {h : jH} (hn : 6000 ≤ n) (hg : jgok g) (w : jW (jKd g) Γ h) (ta0 : Γ a0 = some 20) : jok (F_X12_isTold n a0 h) (fun v => 0 ≤ v.toInt ∧ v.toInt ≤ 1) := by
  unfold F_X12_isTold
  refine jok_b2 (t_gI w ta0 rfl rfl) (fun v1_1 ev1_1 pv1_1 => ?_)
  obtain ⟨lv1_1, uv1_1⟩ := pv1_1
  have f2 : ((4 : Int32)).toInt = 4 := rfl
  have f3 : ((v1_1 / (4 : Int32))).toInt = (v1_1).toInt / 4 := jdivL (c := 4) (by omega) rfl (by decide)
  have f4 : (((v1_1 / (4 : Int32)) * (4 : Int32))).toInt = 4 * ((v1_1 / (4 : Int32))).toInt := jmulR (c := 4) (by omega) (by omega) (by omega)
  have f5 : ((v1_1 - ((v1_1 / (4 : Int32)) * (4 : Int32)))).toInt = (v1_1).toInt - (((v1_1 / (4 : Int32)) * (4 : Int32))).toInt := jsub (by omega) (by omega)
  have f6 : ((0 : Int32)).toInt = 0 := rfl
  refine jok_eq (fun c7 d7 => ?_) (fun c7 => ?_)
  · refine jok_r ev1_1 ?_
    have f9 : ((40 : Int32)).toInt = 40 := rfl
    refine jok_lt (fun c10 => ?_) (fun c10 => ?_)
    · exact S_X12_isTold_26 hn hg  n w ta0 (by omega) (by omega) (by omega) (by omega) (by omega) (by omega)
    · have f11 : ((1 : Int32)).toInt = 1 := rfl
      exact S_X12_isTold_26 hn hg  n w ta0 (by omega) (by omega) (by omega) (by omega) (by omega) (by omega)
  · exact S_X12_isTold_26 hn hg  n w ta0 (by omega) (by omega) (by omega) (by omega) (by omega) (by omega)
set_option maxHeartbeats 1000000 in
theorem S_X12_fits_4 {g : jGh} {Γ : Nat → Option Nat} {n : Nat} (hn : 6000 ≤ n) (hg : jgok g)  (k : Nat) : ∀ {a0 : Nat} {x1 : Int32} {x2 : Int32} {x3 : Int32} {h : jH}, jW (jKd g) Γ h → (Γ a0 = some 20) → (0 ≤ x2.toInt) → (x2.toInt ≤ 1) → (0 ≤ x3.toInt) → (x3.toInt ≤ 400) → (400 : Int) - x3.toInt < (k : Int) → (x3.toInt % 4 = 0) → jok (F_X12_fits_4 n k a0 x1 x2 x3 h) (fun q => jW (jKd g) Γ q.2 ∧ (fun v : Int32 => 0 ≤ v.toInt ∧ v.toInt ≤ 1) q.1) := by
  induction k with
  | zero =>
    intro a0 x1 x2 x3 h w ta0 lx2 ux2 lx3 ux3 mk hm
    omega
  | succ k ih =>
    intro a0 x1 x2 x3 h w ta0 lx2 ux2 lx3 ux3 mk hm
    show jok (F_X12_fits_4_b n (F_X12_fits_4 n k) a0 x1 x2 x3 h) _
    unfold F_X12_fits_4_b
    refine jok_b2 (t_gI w ta0 rfl rfl) (fun v6_1 ev6_1 pv6_1 => ?_)
    obtain ⟨lv6_1, uv6_1⟩ := pv6_1
    refine jok_le (fun c2 => ?_) (fun c2 => ?_)
    · rw [if_pos (show x2 = 0 ∨ x2 = 1 from j01 (by omega) (by omega))]
      exact jok_s ⟨w, (show jI 0 1 x2 from ⟨by omega, by omega⟩)⟩
    · have f3 : ((0 : Int32)).toInt = 0 := rfl
      refine jok_eq (fun c4 d4 => ?_) (fun c4 => ?_)
      · rw [if_pos (show x2 = 0 ∨ x2 = 1 from j01 (by omega) (by omega))]
        exact jok_s ⟨w, (show jI 0 1 x2 from ⟨by omega, by omega⟩)⟩
      · refine jok_b (t_gR w ta0 rfl rfl) (fun p19_5 tp19_5 => ?_)
        refine jok_b (t_al w tp19_5 rfl (by omega) (by omega)) (fun v23_6 pv23_6 => ?_)
        obtain ⟨lv23_6, uv23_6⟩ := pv23_6
        refine jok_b (t_gR w ta0 rfl rfl) (fun p25_7 tp25_7 => ?_)
        have f9 : ((1 : Int32)).toInt = 1 := rfl
        have f10 : ((x3 + (1 : Int32))).toInt = (x3).toInt + ((1 : Int32)).toInt := jadd (by omega) (by omega)
        refine jok_b (t_al w tp25_7 rfl (by omega) (by omega)) (fun v31_8 pv31_8 => ?_)
        obtain ⟨lv31_8, uv31_8⟩ := pv31_8
        refine jok_eq (fun c11 d11 => ?_) (fun c11 => ?_)
        · unfold F_X12_fits_41
          refine jok_b (t_gR w ta0 rfl rfl) (fun p42_12 tp42_12 => ?_)
          have f14 : ((2 : Int32)).toInt = 2 := rfl
          have f15 : ((x3 + (2 : Int32))).toInt = (x3).toInt + ((2 : Int32)).toInt := jadd (by omega) (by omega)
          refine jok_b (t_al w tp42_12 rfl (by omega) (by omega)) (fun v48_13 pv48_13 => ?_)
          obtain ⟨lv48_13, uv48_13⟩ := pv48_13
          try rw [t_cv w ta0 rfl]
          refine jok_b (S_X12_wentWith hn hg w ta0 (by omega) (by omega) (by omega) (by omega)) (fun q49_16 wq49_16 => ?_)
          obtain ⟨wq49_16, pq49_16⟩ := wq49_16
          have pq49_16_9 := pq49_16
          try dsimp only at pq49_16_9
          refine jok_b (t_gR wq49_16 ta0 rfl rfl) (fun p53_17 tp53_17 => ?_)
          have f19 : ((3 : Int32)).toInt = 3 := rfl
          have f20 : ((x3 + (3 : Int32))).toInt = (x3).toInt + ((3 : Int32)).toInt := jadd (by omega) (by omega)
          refine jok_b (t_al wq49_16 tp53_17 rfl (by omega) (by omega)) (fun v59_18 pv59_18 => ?_)
          obtain ⟨lv59_18, uv59_18⟩ := pv59_18
          refine jok_eq (fun c21 d21 => ?_) (fun c21 => ?_)
          · have f22 : ((4 : Int32)).toInt = 4 := rfl
            have f23 : ((x3 + (4 : Int32))).toInt = (x3).toInt + ((4 : Int32)).toInt := jadd (by omega) (by omega)
            exact ih wq49_16 ta0 (by omega) (by omega) (by omega) (by omega) (by omega) (by omega)
          · have f24 : ((4 : Int32)).toInt = 4 := rfl
            have f25 : ((x3 + (4 : Int32))).toInt = (x3).toInt + ((4 : Int32)).toInt := jadd (by omega) (by omega)
            exact ih wq49_16 ta0 (by omega) (by omega) (by omega) (by omega) (by omega) (by omega)
        · unfold F_X12_fits_41
          refine jok_b (t_gR w ta0 rfl rfl) (fun p42_26 tp42_26 => ?_)
          have f28 : ((2 : Int32)).toInt = 2 := rfl
          have f29 : ((x3 + (2 : Int32))).toInt = (x3).toInt + ((2 : Int32)).toInt := jadd (by omega) (by omega)
          refine jok_b (t_al w tp42_26 rfl (by omega) (by omega)) (fun v48_27 pv48_27 => ?_)
          obtain ⟨lv48_27, uv48_27⟩ := pv48_27
          try rw [t_cv w ta0 rfl]
          refine jok_b (S_X12_wentWith hn hg w ta0 (by omega) (by omega) (by omega) (by omega)) (fun q49_30 wq49_30 => ?_)
          obtain ⟨wq49_30, pq49_30⟩ := wq49_30
          have pq49_30_9 := pq49_30
          try dsimp only at pq49_30_9
          refine jok_b (t_gR wq49_30 ta0 rfl rfl) (fun p53_31 tp53_31 => ?_)
          have f33 : ((3 : Int32)).toInt = 3 := rfl
          have f34 : ((x3 + (3 : Int32))).toInt = (x3).toInt + ((3 : Int32)).toInt := jadd (by omega) (by omega)
          refine jok_b (t_al wq49_30 tp53_31 rfl (by omega) (by omega)) (fun v59_32 pv59_32 => ?_)
          obtain ⟨lv59_32, uv59_32⟩ := pv59_32
          refine jok_eq (fun c35 d35 => ?_) (fun c35 => ?_)
          · have f36 : ((4 : Int32)).toInt = 4 := rfl
            have f37 : ((x3 + (4 : Int32))).toInt = (x3).toInt + ((4 : Int32)).toInt := jadd (by omega) (by omega)
            exact ih wq49_30 ta0 (by omega) (by omega) (by omega) (by omega) (by omega) (by omega)
          · have f38 : ((4 : Int32)).toInt = 4 := rfl
            have f39 : ((x3 + (4 : Int32))).toInt = (x3).toInt + ((4 : Int32)).toInt := jadd (by omega) (by omega)
            exact ih wq49_30 ta0 (by omega) (by omega) (by omega) (by omega) (by omega) (by omega)
set_option maxHeartbeats 1000000 in
theorem S_X12_fits {g : jGh} {Γ : Nat → Option Nat} {n : Nat} {a0 : Nat} {x1 : Int32} {h : jH} (hn : 6000 ≤ n) (hg : jgok g) (w : jW (jKd g) Γ h) (ta0 : Γ a0 = some 20) : jok (F_X12_fits n a0 x1 h) (fun q => jW (jKd g) Γ q.2 ∧ (fun v : Int32 => 0 ≤ v.toInt ∧ v.toInt ≤ 1) q.1) := by
  unfold F_X12_fits
  have f1 : ((1 : Int32)).toInt = 1 := rfl
  have f2 : ((0 : Int32)).toInt = 0 := rfl
  exact S_X12_fits_4 hn hg  n w ta0 (by omega) (by omega) (by omega) (by omega) (by omega) (by omega)
set_option maxHeartbeats 1000000 in
theorem S_X12_partBy_29 {g : jGh} {Γ : Nat → Option Nat} {n : Nat} (hn : 6000 ≤ n) (hg : jgok g)  (k : Nat) : ∀ {a0 : Nat} {x1 : Int32} {x2 : Int32} {x3 : Int32} {x4 : Int32} {h : jH}, jW (jKd g) Γ h → (Γ a0 = some 20) → (0 ≤ x1.toInt) → (x1.toInt ≤ 7) → (0 ≤ x4.toInt) → (x4.toInt ≤ 128) → (128 : Int) - x4.toInt < (k : Int) → jok (F_X12_partBy_29 n k a0 x1 x2 x3 x4 h) (fun q => jW (jKd g) Γ q.2 ∧ (fun v : Int32 => True) q.1) := by
  induction k with
  | zero =>
    intro a0 x1 x2 x3 x4 h w ta0 lx1 ux1 lx4 ux4 mk
    omega
  | succ k ih =>
    intro a0 x1 x2 x3 x4 h w ta0 lx1 ux1 lx4 ux4 mk
    show jok (F_X12_partBy_29_b n (F_X12_partBy_29 n k) a0 x1 x2 x3 x4 h) _
    unfold F_X12_partBy_29_b
    try rw [t_cv w ta0 rfl]
    refine jok_b (S_X12_thatCanCatch hn hg w ta0) (fun v32_1 pv32_1 => ?_)
    obtain ⟨lv32_1, uv32_1⟩ := pv32_1
    refine jok_lt (fun c2 => ?_) (fun c2 => ?_)
    · exact jok_s ⟨w, trivial⟩
    · refine jok_b (t_gR w ta0 rfl rfl) (fun p39_3 tp39_3 => ?_)
      refine jok_b (t_al w tp39_3 rfl (by omega) (by omega)) (fun v44_4 pv44_4 => ?_)
      have f5 : ((0 : Int32)).toInt = 0 := rfl
      refine jok_eq (fun c6 d6 => ?_) (fun c6 => ?_)
      · have f7 : ((1 : Int32)).toInt = 1 := rfl
        have f8 : ((x4 + (1 : Int32))).toInt = (x4).toInt + ((1 : Int32)).toInt := jadd (by omega) (by omega)
        exact ih w ta0 (by omega) (by omega) (by omega) (by omega) (by omega)
      · try rw [t_cv w ta0 rfl]
        have f10 : ((31 : Int32)).toInt = 31 := rfl
        refine jok_b (S_X12_wentWith hn hg w ta0 (by omega) (by omega) (by omega) (by omega)) (fun q58_9 wq58_9 => ?_)
        obtain ⟨wq58_9, pq58_9⟩ := wq58_9
        have pq58_9_9 := pq58_9
        try dsimp only at pq58_9_9
        refine jok_b (t_gR wq58_9 ta0 rfl rfl) (fun p64_11 tp64_11 => ?_)
        refine jok_b (t_al wq58_9 tp64_11 rfl (by omega) (by omega)) (fun v70_12 pv70_12 => ?_)
        have f14 : ((1 : Int32)).toInt = 1 := rfl
        refine jok_b (t_as wq58_9 tp64_11 rfl (by omega) (by omega) trivial (fun q => by cases q)) (fun h73_13 wh73_13 => ?_)
        obtain ⟨wh73_13, rh73_13⟩ := wh73_13
        refine jok_b (t_gR wh73_13 ta0 rfl rfl) (fun p76_15 tp76_15 => ?_)
        refine jok_b (t_al wh73_13 tp76_15 rfl (by omega) (by omega)) (fun v81_16 pv81_16 => ?_)
        have f17 : ((x4 + (1 : Int32))).toInt = (x4).toInt + ((1 : Int32)).toInt := jadd (by omega) (by omega)
        exact ih wh73_13 ta0 (by omega) (by omega) (by omega) (by omega) (by omega)
set_option maxHeartbeats 1000000 in
theorem S_X12_partBy_5 {g : jGh} {Γ : Nat → Option Nat} {n : Nat} (hn : 6000 ≤ n) (hg : jgok g)  (k : Nat) : ∀ {a0 : Nat} {x1 : Int32} {x2 : Int32} {x3 : Int32} {x4 : Int32} {h : jH}, jW (jKd g) Γ h → (Γ a0 = some 20) → (0 ≤ x1.toInt) → (x1.toInt ≤ 7) → (0 ≤ x4.toInt) → (x4.toInt ≤ 32) → (32 : Int) - x4.toInt < (k : Int) → jok (F_X12_partBy_5 n k a0 x1 x2 x3 x4 h) (fun q => jW (jKd g) Γ q.2 ∧ (fun v : Int32 => True) q.1) := by
  induction k with
  | zero =>
    intro a0 x1 x2 x3 x4 h w ta0 lx1 ux1 lx4 ux4 mk
    omega
  | succ k ih =>
    intro a0 x1 x2 x3 x4 h w ta0 lx1 ux1 lx4 ux4 mk
    show jok (F_X12_partBy_5_b n (F_X12_partBy_5 n k) a0 x1 x2 x3 x4 h) _
    unfold F_X12_partBy_5_b
    have f1 : ((31 : Int32)).toInt = 31 := rfl
    refine jok_lt (fun c2 => ?_) (fun c2 => ?_)
    · have f3 : ((0 : Int32)).toInt = 0 := rfl
      exact S_X12_partBy_29 hn hg  n w ta0 (by omega) (by omega) (by omega) (by omega) (by omega)
    · refine jok_b (t_gR w ta0 rfl rfl) (fun p13_4 tp13_4 => ?_)
      have f6 : ((0 : Int32)).toInt = 0 := rfl
      refine jok_b (t_as w tp13_4 rfl (by omega) (by omega) trivial (fun q => by cases q)) (fun h19_5 wh19_5 => ?_)
      obtain ⟨wh19_5, rh19_5⟩ := wh19_5
      have f7 : ((1 : Int32)).toInt = 1 := rfl
      have f8 : ((x4 + (1 : Int32))).toInt = (x4).toInt + ((1 : Int32)).toInt := jadd (by omega) (by omega)
      exact ih wh19_5 ta0 (by omega) (by omega) (by omega) (by omega) (by omega)
set_option maxHeartbeats 1000000 in
theorem S_X12_partBy {g : jGh} {Γ : Nat → Option Nat} {n : Nat} {a0 : Nat} {x1 : Int32} {x2 : Int32} {h : jH} (hn : 6000 ≤ n) (hg : jgok g) (w : jW (jKd g) Γ h) (ta0 : Γ a0 = some 20) (lx1 : 0 ≤ x1.toInt) (ux1 : x1.toInt ≤ 7) : jok (F_X12_partBy n a0 x1 x2 h) (fun q => jW (jKd g) Γ q.2 ∧ (fun v : Int32 => True) q.1) := by
  unfold F_X12_partBy
  have f1 : ((0 : Int32)).toInt = 0 := rfl
  exact S_X12_partBy_5 hn hg  n w ta0 (by omega) (by omega) (by omega) (by omega) (by omega)
end
section
/-! what constructors make: entries one behind another from z on -/
def jx (z : Nat) (Es : List jE) (h0 h : jH) : Prop := h.1 = z + Es.length ∧ (∀ b, b < z → h.2 b = h0.2 b) ∧ ∀ (i : Nat) (e : jE), Es[i]? = some e → h.2 (z + i) = some e
theorem jx_one {h : jH} {e : jE} : jx h.1 [e] h (jnew h e) := by
  refine ⟨rfl, fun b hb => ?_, fun i e2 hi => ?_⟩
  · show (if b = h.1 then some e else h.2 b) = _
    rw [if_neg (by omega)]
  · cases i with
    | zero =>
      cases hi
      show (if h.1 + 0 = h.1 then some e else h.2 (h.1 + 0)) = _
      exact if_pos rfl
    | succ i => cases hi
theorem jx_nw {z : Nat} {Es : List jE} {h0 h : jH} (j : jx z Es h0 h) (e : jE) : jx z (Es ++ [e]) h0 (jnew h e) := by
  obtain ⟨j1, j2, j3⟩ := j
  refine ⟨?_, fun b hb => ?_, fun i e2 hi => ?_⟩
  · show h.1 + 1 = _
    rw [List.length_append, j1]
    rfl
  · show (if b = h.1 then some e else h.2 b) = _
    rw [if_neg (by omega)]
    exact j2 b hb
  · show (if z + i = h.1 then some e else h.2 (z + i)) = _
    by_cases q : i < Es.length
    · rw [List.getElem?_append_left q] at hi
      rw [if_neg (by omega)]
      exact j3 i e2 hi
    · rw [List.getElem?_append_right (by omega)] at hi
      have hz : i - Es.length < 1 := (List.getElem?_eq_some_iff.mp hi).1
      rw [if_pos (by omega)]
      rw [show i - Es.length = 0 by omega] at hi
      exact hi
theorem jx_up {z i : Nat} {Es : List jE} {h0 h : jH} (j : jx z Es h0 h) {e e2 : jE} (hi : Es[i]? = some e) : jx z (Es.set i e2) h0 (jup h (z + i) e2) := by
  obtain ⟨j1, j2, j3⟩ := j
  have hlt : i < Es.length := (List.getElem?_eq_some_iff.mp hi).1
  refine ⟨by rw [List.length_set]; exact j1, fun b hb => ?_, fun k e3 hk => ?_⟩
  · show (if b = z + i then some e2 else h.2 b) = _
    rw [if_neg (by omega)]
    exact j2 b hb
  · show (if z + k = z + i then some e2 else h.2 (z + k)) = _
    by_cases q : k = i
    · subst q
      rw [if_pos rfl]
      rw [List.getElem?_set_self hlt] at hk
      exact hk
    · rw [if_neg (by omega)]
      rw [List.getElem?_set_ne (Ne.symm q)] at hk
      exact j3 k e3 hk
theorem jx_pf {z i ci k a : Nat} {Es : List jE} {h0 h : jH} {vs : List Value} {v : Value} (j : jx z Es h0 h) (hi : Es[i]? = some (.inl (ci, vs))) (hk : k < vs.length) (ha : a = z + i) : ∃ h1, jpf ci h a k v = some h1 ∧ jx z (Es.set i (.inl (ci, vs.set k v))) h0 h1 := by
  subst ha
  refine ⟨jup h (z + i) (.inl (ci, vs.set k v)), ?_, jx_up j hi⟩
  unfold jpf
  rw [j.2.2 i _ hi]
  dsimp only
  rw [if_pos ⟨rfl, hk⟩]
theorem jx_as {z i a N : Nat} {Es : List jE} {h0 h : jH} {f : Nat → Int32} {x y : Int32} (j : jx z Es h0 h) (hi : Es[i]? = some (.inr (.inl (0, N, f)))) (h1 : 0 ≤ x.toInt) (h2 : x.toInt < (N : Int)) (ha : a = z + i) : ∃ h1, jas 0 h a x y = some h1 ∧ jx z (Es.set i (.inr (.inl (0, N, upd f x.toNatClampNeg y)))) h0 h1 := by
  subst ha
  refine ⟨jup h (z + i) (.inr (.inl (0, N, upd f x.toNatClampNeg y))), ?_, jx_up j hi⟩
  unfold jas
  rw [j.2.2 i _ hi]
  dsimp only
  rw [if_pos ⟨rfl, jnoob h1 h2, fun q => by cases q⟩]
  rfl
theorem jx_gR {z i ci k a b : Nat} {Es : List jE} {h0 h : jH} {vs : List Value} (j : jx z Es h0 h) (hi : Es[i]? = some (.inl (ci, vs))) (hk : vs[k]? = some (.ref b)) (ha : a = z + i) : jgR ci h a k = some b := by
  subst ha
  have e : jgf ci h (z + i) k = some (.ref b) := by
    unfold jgf
    rw [j.2.2 i _ hi]
    dsimp only
    rw [if_pos rfl]
    exact hk
  unfold jgR
  rw [e]
theorem jx_cat {z : Nat} {Es Fs : List jE} {h0 h q : jH} (j : jx z Es h0 h) (k : jx (z + Es.length) Fs h q) : jx z (Es ++ Fs) h0 q := by
  obtain ⟨j1, j2, j3⟩ := j
  obtain ⟨k1, k2, k3⟩ := k
  refine ⟨by rw [k1, List.length_append]; omega, fun b hb => (k2 b (by omega)).trans (j2 b hb), fun i e hi => ?_⟩
  by_cases q : i < Es.length
  · rw [List.getElem?_append_left q] at hi
    rw [k2 (z + i) (by omega)]
    exact j3 i e hi
  · rw [List.getElem?_append_right (by omega)] at hi
    have := k3 _ _ hi
    rw [show z + Es.length + (i - Es.length) = z + i by omega] at this
    exact this
def eX5_init (z : Nat)  : List jE := [.inl (4, [.ref (z + 1), .int 0, .int 0]), .inr (.inl (0, 60, fun _ => 0))]
set_option maxHeartbeats 1000000 in
theorem I_X5_init {n : Nat}  {h : jH} : jok (F_X5_init n h.1  (jnew h (.inl (4, [.null, .int 0, .int 0])))) (fun q => jx h.1 (eX5_init h.1 ) h q) := by
  unfold F_X5_init
  have j : jx h.1 [.inl (4, [.null, .int 0, .int 0])] h (jnew h (.inl (4, [.null, .int 0, .int 0]))) := jx_one
  generalize jnew h (.inl (4, [.null, .int 0, .int 0])) = h_0 at j ⊢
  obtain ⟨z, hz⟩ : ∃ z, z = h.1 := ⟨_, rfl⟩
  rw [← hz] at j ⊢
  have sz : h_0.1 = z + 1 := j.1
  refine jok_r (rfl : jnw h_0 _ = some (jnew h_0 _)) ?_
  try rw [sz]
  clear sz
  replace j : jx z [.inl (4, [.null, .int 0, .int 0]), .inr (.inl (0, 60, fun _ => 0))] h (jnew h_0 (.inr (.inl (0, 60, fun _ => 0)))) := jx_nw j _
  generalize jnew h_0 (.inr (.inl (0, 60, fun _ => 0))) = h_1 at j ⊢
  obtain ⟨h_2, e9, j9⟩ := jx_pf (i := 0) (ci := 4) (k := 0) (v := .ref (z + 1)) j rfl (by exact Nat.le_of_ble_eq_true rfl) rfl
  refine jok_r e9 ?_
  clear e9 j
  have j : jx z [.inl (4, [.ref (z + 1), .int 0, .int 0]), .inr (.inl (0, 60, fun _ => 0))] h h_2 := j9
  clear j9
  subst hz
  exact jok_s j
def eX8_init (z : Nat)  : List jE := [.inl (6, [.ref (z + 1), .ref (z + 2), .ref (z + 3), .ref (z + 4), .ref (z + 5), .int 0, .int 0, .int 0, .int 0, .int 0, .int 0, .int 16, .int 8, .int 0, .int 0, .int 0, .int 1, .int 0]), .inr (.inl (0, 8, fun _ => 0)), .inr (.inl (0, 8, fun _ => 0)), .inr (.inl (0, 8, fun _ => 0)), .inr (.inl (0, 8, fun _ => 0)), .inl (4, [.ref (z + 6), .int 0, .int 0]), .inr (.inl (0, 60, fun _ => 0))]
set_option maxHeartbeats 1000000 in
theorem I_X8_init {n : Nat}  {h : jH} : jok (F_X8_init n h.1  (jnew h (.inl (6, [.null, .null, .null, .null, .null, .int 0, .int 0, .int 0, .int 0, .int 0, .int 0, .int 0, .int 0, .int 0, .int 0, .int 0, .int 0, .int 0])))) (fun q => jx h.1 (eX8_init h.1 ) h q) := by
  unfold F_X8_init
  have j : jx h.1 [.inl (6, [.null, .null, .null, .null, .null, .int 0, .int 0, .int 0, .int 0, .int 0, .int 0, .int 0, .int 0, .int 0, .int 0, .int 0, .int 0, .int 0])] h (jnew h (.inl (6, [.null, .null, .null, .null, .null, .int 0, .int 0, .int 0, .int 0, .int 0, .int 0, .int 0, .int 0, .int 0, .int 0, .int 0, .int 0, .int 0]))) := jx_one
  generalize jnew h (.inl (6, [.null, .null, .null, .null, .null, .int 0, .int 0, .int 0, .int 0, .int 0, .int 0, .int 0, .int 0, .int 0, .int 0, .int 0, .int 0, .int 0])) = h_0 at j ⊢
  obtain ⟨z, hz⟩ : ∃ z, z = h.1 := ⟨_, rfl⟩
  rw [← hz] at j ⊢
  have sz : h_0.1 = z + 1 := j.1
  refine jok_r (rfl : jnw h_0 _ = some (jnew h_0 _)) ?_
  try rw [sz]
  clear sz
  replace j : jx z [.inl (6, [.null, .null, .null, .null, .null, .int 0, .int 0, .int 0, .int 0, .int 0, .int 0, .int 0, .int 0, .int 0, .int 0, .int 0, .int 0, .int 0]), .inr (.inl (0, 8, fun _ => 0))] h (jnew h_0 (.inr (.inl (0, 8, fun _ => 0)))) := jx_nw j _
  generalize jnew h_0 (.inr (.inl (0, 8, fun _ => 0))) = h_1 at j ⊢
  obtain ⟨h_2, e9, j9⟩ := jx_pf (i := 0) (ci := 6) (k := 0) (v := .ref (z + 1)) j rfl (by exact Nat.le_of_ble_eq_true rfl) rfl
  refine jok_r e9 ?_
  clear e9 j
  have j : jx z [.inl (6, [.ref (z + 1), .null, .null, .null, .null, .int 0, .int 0, .int 0, .int 0, .int 0, .int 0, .int 0, .int 0, .int 0, .int 0, .int 0, .int 0, .int 0]), .inr (.inl (0, 8, fun _ => 0))] h h_2 := j9
  clear j9
  have sz : h_2.1 = z + 2 := j.1
  refine jok_r (rfl : jnw h_2 _ = some (jnew h_2 _)) ?_
  try rw [sz]
  clear sz
  replace j : jx z [.inl (6, [.ref (z + 1), .null, .null, .null, .null, .int 0, .int 0, .int 0, .int 0, .int 0, .int 0, .int 0, .int 0, .int 0, .int 0, .int 0, .int 0, .int 0]), .inr (.inl (0, 8, fun _ => 0)), .inr (.inl (0, 8, fun _ => 0))] h (jnew h_2 (.inr (.inl (0, 8, fun _ => 0)))) := jx_nw j _
  generalize jnew h_2 (.inr (.inl (0, 8, fun _ => 0))) = h_3 at j ⊢
  obtain ⟨h_4, e9, j9⟩ := jx_pf (i := 0) (ci := 6) (k := 1) (v := .ref (z + 2)) j rfl (by exact Nat.le_of_ble_eq_true rfl) rfl
  refine jok_r e9 ?_
  clear e9 j
  have j : jx z [.inl (6, [.ref (z + 1), .ref (z + 2), .null, .null, .null, .int 0, .int 0, .int 0, .int 0, .int 0, .int 0, .int 0, .int 0, .int 0, .int 0, .int 0, .int 0, .int 0]), .inr (.inl (0, 8, fun _ => 0)), .inr (.inl (0, 8, fun _ => 0))] h h_4 := j9
  clear j9
  have sz : h_4.1 = z + 3 := j.1
  refine jok_r (rfl : jnw h_4 _ = some (jnew h_4 _)) ?_
  try rw [sz]
  clear sz
  replace j : jx z [.inl (6, [.ref (z + 1), .ref (z + 2), .null, .null, .null, .int 0, .int 0, .int 0, .int 0, .int 0, .int 0, .int 0, .int 0, .int 0, .int 0, .int 0, .int 0, .int 0]), .inr (.inl (0, 8, fun _ => 0)), .inr (.inl (0, 8, fun _ => 0)), .inr (.inl (0, 8, fun _ => 0))] h (jnew h_4 (.inr (.inl (0, 8, fun _ => 0)))) := jx_nw j _
  generalize jnew h_4 (.inr (.inl (0, 8, fun _ => 0))) = h_5 at j ⊢
  obtain ⟨h_6, e9, j9⟩ := jx_pf (i := 0) (ci := 6) (k := 2) (v := .ref (z + 3)) j rfl (by exact Nat.le_of_ble_eq_true rfl) rfl
  refine jok_r e9 ?_
  clear e9 j
  have j : jx z [.inl (6, [.ref (z + 1), .ref (z + 2), .ref (z + 3), .null, .null, .int 0, .int 0, .int 0, .int 0, .int 0, .int 0, .int 0, .int 0, .int 0, .int 0, .int 0, .int 0, .int 0]), .inr (.inl (0, 8, fun _ => 0)), .inr (.inl (0, 8, fun _ => 0)), .inr (.inl (0, 8, fun _ => 0))] h h_6 := j9
  clear j9
  have sz : h_6.1 = z + 4 := j.1
  refine jok_r (rfl : jnw h_6 _ = some (jnew h_6 _)) ?_
  try rw [sz]
  clear sz
  replace j : jx z [.inl (6, [.ref (z + 1), .ref (z + 2), .ref (z + 3), .null, .null, .int 0, .int 0, .int 0, .int 0, .int 0, .int 0, .int 0, .int 0, .int 0, .int 0, .int 0, .int 0, .int 0]), .inr (.inl (0, 8, fun _ => 0)), .inr (.inl (0, 8, fun _ => 0)), .inr (.inl (0, 8, fun _ => 0)), .inr (.inl (0, 8, fun _ => 0))] h (jnew h_6 (.inr (.inl (0, 8, fun _ => 0)))) := jx_nw j _
  generalize jnew h_6 (.inr (.inl (0, 8, fun _ => 0))) = h_7 at j ⊢
  obtain ⟨h_8, e9, j9⟩ := jx_pf (i := 0) (ci := 6) (k := 3) (v := .ref (z + 4)) j rfl (by exact Nat.le_of_ble_eq_true rfl) rfl
  refine jok_r e9 ?_
  clear e9 j
  have j : jx z [.inl (6, [.ref (z + 1), .ref (z + 2), .ref (z + 3), .ref (z + 4), .null, .int 0, .int 0, .int 0, .int 0, .int 0, .int 0, .int 0, .int 0, .int 0, .int 0, .int 0, .int 0, .int 0]), .inr (.inl (0, 8, fun _ => 0)), .inr (.inl (0, 8, fun _ => 0)), .inr (.inl (0, 8, fun _ => 0)), .inr (.inl (0, 8, fun _ => 0))] h h_8 := j9
  clear j9
  have sz : h_8.1 = z + 5 := j.1
  refine jok_r (rfl : jnw h_8 _ = some (jnew h_8 _)) ?_
  refine jok_b (I_X5_init (h := h_8)) (fun h_9 j9 => ?_)
  rw [sz] at j9
  try rw [sz]
  clear sz
  have j : jx z [.inl (6, [.ref (z + 1), .ref (z + 2), .ref (z + 3), .ref (z + 4), .null, .int 0, .int 0, .int 0, .int 0, .int 0, .int 0, .int 0, .int 0, .int 0, .int 0, .int 0, .int 0, .int 0]), .inr (.inl (0, 8, fun _ => 0)), .inr (.inl (0, 8, fun _ => 0)), .inr (.inl (0, 8, fun _ => 0)), .inr (.inl (0, 8, fun _ => 0)), .inl (4, [.ref (z + 6), .int 0, .int 0]), .inr (.inl (0, 60, fun _ => 0))] h h_9 := jx_cat j j9
  clear j9
  obtain ⟨h_10, e9, j9⟩ := jx_pf (i := 0) (ci := 6) (k := 4) (v := .ref (z + 5)) j rfl (by exact Nat.le_of_ble_eq_true rfl) rfl
  refine jok_r e9 ?_
  clear e9 j
  have j : jx z [.inl (6, [.ref (z + 1), .ref (z + 2), .ref (z + 3), .ref (z + 4), .ref (z + 5), .int 0, .int 0, .int 0, .int 0, .int 0, .int 0, .int 0, .int 0, .int 0, .int 0, .int 0, .int 0, .int 0]), .inr (.inl (0, 8, fun _ => 0)), .inr (.inl (0, 8, fun _ => 0)), .inr (.inl (0, 8, fun _ => 0)), .inr (.inl (0, 8, fun _ => 0)), .inl (4, [.ref (z + 6), .int 0, .int 0]), .inr (.inl (0, 60, fun _ => 0))] h h_10 := j9
  clear j9
  obtain ⟨h_11, e9, j9⟩ := jx_pf (i := 0) (ci := 6) (k := 11) (v := .int 16) j rfl (by exact Nat.le_of_ble_eq_true rfl) rfl
  refine jok_r e9 ?_
  clear e9 j
  have j : jx z [.inl (6, [.ref (z + 1), .ref (z + 2), .ref (z + 3), .ref (z + 4), .ref (z + 5), .int 0, .int 0, .int 0, .int 0, .int 0, .int 0, .int 16, .int 0, .int 0, .int 0, .int 0, .int 0, .int 0]), .inr (.inl (0, 8, fun _ => 0)), .inr (.inl (0, 8, fun _ => 0)), .inr (.inl (0, 8, fun _ => 0)), .inr (.inl (0, 8, fun _ => 0)), .inl (4, [.ref (z + 6), .int 0, .int 0]), .inr (.inl (0, 60, fun _ => 0))] h h_11 := j9
  clear j9
  obtain ⟨h_12, e9, j9⟩ := jx_pf (i := 0) (ci := 6) (k := 12) (v := .int 8) j rfl (by exact Nat.le_of_ble_eq_true rfl) rfl
  refine jok_r e9 ?_
  clear e9 j
  have j : jx z [.inl (6, [.ref (z + 1), .ref (z + 2), .ref (z + 3), .ref (z + 4), .ref (z + 5), .int 0, .int 0, .int 0, .int 0, .int 0, .int 0, .int 16, .int 8, .int 0, .int 0, .int 0, .int 0, .int 0]), .inr (.inl (0, 8, fun _ => 0)), .inr (.inl (0, 8, fun _ => 0)), .inr (.inl (0, 8, fun _ => 0)), .inr (.inl (0, 8, fun _ => 0)), .inl (4, [.ref (z + 6), .int 0, .int 0]), .inr (.inl (0, 60, fun _ => 0))] h h_12 := j9
  clear j9
  obtain ⟨h_13, e9, j9⟩ := jx_pf (i := 0) (ci := 6) (k := 16) (v := .int 1) j rfl (by exact Nat.le_of_ble_eq_true rfl) rfl
  refine jok_r e9 ?_
  clear e9 j
  have j : jx z [.inl (6, [.ref (z + 1), .ref (z + 2), .ref (z + 3), .ref (z + 4), .ref (z + 5), .int 0, .int 0, .int 0, .int 0, .int 0, .int 0, .int 16, .int 8, .int 0, .int 0, .int 0, .int 1, .int 0]), .inr (.inl (0, 8, fun _ => 0)), .inr (.inl (0, 8, fun _ => 0)), .inr (.inl (0, 8, fun _ => 0)), .inr (.inl (0, 8, fun _ => 0)), .inl (4, [.ref (z + 6), .int 0, .int 0]), .inr (.inl (0, 60, fun _ => 0))] h h_13 := j9
  clear j9
  subst hz
  exact jok_s j
def eX2_init (z : Nat)  : List jE := [.inl (2, [.ref (z + 1), .ref (z + 2), .ref (z + 3), .ref (z + 4), .ref (z + 5), .int 0, .int 0, .int 0, .int 0]), .inr (.inl (0, 12, fun _ => 0)), .inr (.inl (0, 12, fun _ => 0)), .inr (.inl (0, 12, fun _ => 0)), .inr (.inl (0, 400, fun _ => 0)), .inr (.inl (0, 24, fun _ => 0))]
set_option maxHeartbeats 1000000 in
theorem I_X2_init {n : Nat}  {h : jH} : jok (F_X2_init n h.1  (jnew h (.inl (2, [.null, .null, .null, .null, .null, .int 0, .int 0, .int 0, .int 0])))) (fun q => jx h.1 (eX2_init h.1 ) h q) := by
  unfold F_X2_init
  have j : jx h.1 [.inl (2, [.null, .null, .null, .null, .null, .int 0, .int 0, .int 0, .int 0])] h (jnew h (.inl (2, [.null, .null, .null, .null, .null, .int 0, .int 0, .int 0, .int 0]))) := jx_one
  generalize jnew h (.inl (2, [.null, .null, .null, .null, .null, .int 0, .int 0, .int 0, .int 0])) = h_0 at j ⊢
  obtain ⟨z, hz⟩ : ∃ z, z = h.1 := ⟨_, rfl⟩
  rw [← hz] at j ⊢
  have sz : h_0.1 = z + 1 := j.1
  refine jok_r (rfl : jnw h_0 _ = some (jnew h_0 _)) ?_
  try rw [sz]
  clear sz
  replace j : jx z [.inl (2, [.null, .null, .null, .null, .null, .int 0, .int 0, .int 0, .int 0]), .inr (.inl (0, 12, fun _ => 0))] h (jnew h_0 (.inr (.inl (0, 12, fun _ => 0)))) := jx_nw j _
  generalize jnew h_0 (.inr (.inl (0, 12, fun _ => 0))) = h_1 at j ⊢
  obtain ⟨h_2, e9, j9⟩ := jx_pf (i := 0) (ci := 2) (k := 0) (v := .ref (z + 1)) j rfl (by exact Nat.le_of_ble_eq_true rfl) rfl
  refine jok_r e9 ?_
  clear e9 j
  have j : jx z [.inl (2, [.ref (z + 1), .null, .null, .null, .null, .int 0, .int 0, .int 0, .int 0]), .inr (.inl (0, 12, fun _ => 0))] h h_2 := j9
  clear j9
  have sz : h_2.1 = z + 2 := j.1
  refine jok_r (rfl : jnw h_2 _ = some (jnew h_2 _)) ?_
  try rw [sz]
  clear sz
  replace j : jx z [.inl (2, [.ref (z + 1), .null, .null, .null, .null, .int 0, .int 0, .int 0, .int 0]), .inr (.inl (0, 12, fun _ => 0)), .inr (.inl (0, 12, fun _ => 0))] h (jnew h_2 (.inr (.inl (0, 12, fun _ => 0)))) := jx_nw j _
  generalize jnew h_2 (.inr (.inl (0, 12, fun _ => 0))) = h_3 at j ⊢
  obtain ⟨h_4, e9, j9⟩ := jx_pf (i := 0) (ci := 2) (k := 1) (v := .ref (z + 2)) j rfl (by exact Nat.le_of_ble_eq_true rfl) rfl
  refine jok_r e9 ?_
  clear e9 j
  have j : jx z [.inl (2, [.ref (z + 1), .ref (z + 2), .null, .null, .null, .int 0, .int 0, .int 0, .int 0]), .inr (.inl (0, 12, fun _ => 0)), .inr (.inl (0, 12, fun _ => 0))] h h_4 := j9
  clear j9
  have sz : h_4.1 = z + 3 := j.1
  refine jok_r (rfl : jnw h_4 _ = some (jnew h_4 _)) ?_
  try rw [sz]
  clear sz
  replace j : jx z [.inl (2, [.ref (z + 1), .ref (z + 2), .null, .null, .null, .int 0, .int 0, .int 0, .int 0]), .inr (.inl (0, 12, fun _ => 0)), .inr (.inl (0, 12, fun _ => 0)), .inr (.inl (0, 12, fun _ => 0))] h (jnew h_4 (.inr (.inl (0, 12, fun _ => 0)))) := jx_nw j _
  generalize jnew h_4 (.inr (.inl (0, 12, fun _ => 0))) = h_5 at j ⊢
  obtain ⟨h_6, e9, j9⟩ := jx_pf (i := 0) (ci := 2) (k := 2) (v := .ref (z + 3)) j rfl (by exact Nat.le_of_ble_eq_true rfl) rfl
  refine jok_r e9 ?_
  clear e9 j
  have j : jx z [.inl (2, [.ref (z + 1), .ref (z + 2), .ref (z + 3), .null, .null, .int 0, .int 0, .int 0, .int 0]), .inr (.inl (0, 12, fun _ => 0)), .inr (.inl (0, 12, fun _ => 0)), .inr (.inl (0, 12, fun _ => 0))] h h_6 := j9
  clear j9
  have sz : h_6.1 = z + 4 := j.1
  refine jok_r (rfl : jnw h_6 _ = some (jnew h_6 _)) ?_
  try rw [sz]
  clear sz
  replace j : jx z [.inl (2, [.ref (z + 1), .ref (z + 2), .ref (z + 3), .null, .null, .int 0, .int 0, .int 0, .int 0]), .inr (.inl (0, 12, fun _ => 0)), .inr (.inl (0, 12, fun _ => 0)), .inr (.inl (0, 12, fun _ => 0)), .inr (.inl (0, 400, fun _ => 0))] h (jnew h_6 (.inr (.inl (0, 400, fun _ => 0)))) := jx_nw j _
  generalize jnew h_6 (.inr (.inl (0, 400, fun _ => 0))) = h_7 at j ⊢
  obtain ⟨h_8, e9, j9⟩ := jx_pf (i := 0) (ci := 2) (k := 3) (v := .ref (z + 4)) j rfl (by exact Nat.le_of_ble_eq_true rfl) rfl
  refine jok_r e9 ?_
  clear e9 j
  have j : jx z [.inl (2, [.ref (z + 1), .ref (z + 2), .ref (z + 3), .ref (z + 4), .null, .int 0, .int 0, .int 0, .int 0]), .inr (.inl (0, 12, fun _ => 0)), .inr (.inl (0, 12, fun _ => 0)), .inr (.inl (0, 12, fun _ => 0)), .inr (.inl (0, 400, fun _ => 0))] h h_8 := j9
  clear j9
  have sz : h_8.1 = z + 5 := j.1
  refine jok_r (rfl : jnw h_8 _ = some (jnew h_8 _)) ?_
  try rw [sz]
  clear sz
  replace j : jx z [.inl (2, [.ref (z + 1), .ref (z + 2), .ref (z + 3), .ref (z + 4), .null, .int 0, .int 0, .int 0, .int 0]), .inr (.inl (0, 12, fun _ => 0)), .inr (.inl (0, 12, fun _ => 0)), .inr (.inl (0, 12, fun _ => 0)), .inr (.inl (0, 400, fun _ => 0)), .inr (.inl (0, 24, fun _ => 0))] h (jnew h_8 (.inr (.inl (0, 24, fun _ => 0)))) := jx_nw j _
  generalize jnew h_8 (.inr (.inl (0, 24, fun _ => 0))) = h_9 at j ⊢
  obtain ⟨h_10, e9, j9⟩ := jx_pf (i := 0) (ci := 2) (k := 4) (v := .ref (z + 5)) j rfl (by exact Nat.le_of_ble_eq_true rfl) rfl
  refine jok_r e9 ?_
  clear e9 j
  have j : jx z [.inl (2, [.ref (z + 1), .ref (z + 2), .ref (z + 3), .ref (z + 4), .ref (z + 5), .int 0, .int 0, .int 0, .int 0]), .inr (.inl (0, 12, fun _ => 0)), .inr (.inl (0, 12, fun _ => 0)), .inr (.inl (0, 12, fun _ => 0)), .inr (.inl (0, 400, fun _ => 0)), .inr (.inl (0, 24, fun _ => 0))] h h_10 := j9
  clear j9
  subst hz
  exact jok_s j
def eX0_init (z : Nat)  : List jE := [.inl (0, [.ref (z + 1), .int 0, .int 0]), .inr (.inr (.inl (12, fun _ => none)))]
set_option maxHeartbeats 1000000 in
theorem I_X0_init {n : Nat}  {h : jH} : jok (F_X0_init n h.1  (jnew h (.inl (0, [.null, .int 0, .int 0])))) (fun q => jx h.1 (eX0_init h.1 ) h q) := by
  unfold F_X0_init
  have j : jx h.1 [.inl (0, [.null, .int 0, .int 0])] h (jnew h (.inl (0, [.null, .int 0, .int 0]))) := jx_one
  generalize jnew h (.inl (0, [.null, .int 0, .int 0])) = h_0 at j ⊢
  obtain ⟨z, hz⟩ : ∃ z, z = h.1 := ⟨_, rfl⟩
  rw [← hz] at j ⊢
  have sz : h_0.1 = z + 1 := j.1
  refine jok_r (rfl : jnw h_0 _ = some (jnew h_0 _)) ?_
  try rw [sz]
  clear sz
  replace j : jx z [.inl (0, [.null, .int 0, .int 0]), .inr (.inr (.inl (12, fun _ => none)))] h (jnew h_0 (.inr (.inr (.inl (12, fun _ => none))))) := jx_nw j _
  generalize jnew h_0 (.inr (.inr (.inl (12, fun _ => none)))) = h_1 at j ⊢
  obtain ⟨h_2, e9, j9⟩ := jx_pf (i := 0) (ci := 0) (k := 0) (v := .ref (z + 1)) j rfl (by exact Nat.le_of_ble_eq_true rfl) rfl
  refine jok_r e9 ?_
  clear e9 j
  have j : jx z [.inl (0, [.ref (z + 1), .int 0, .int 0]), .inr (.inr (.inl (12, fun _ => none)))] h h_2 := j9
  clear j9
  subst hz
  exact jok_s j
def eX10_init (z : Nat)  : List jE := [.inl (8, [.ref (z + 1), .ref (z + 2), .ref (z + 3), .ref (z + 4), .int 0, .int 0, .int 0]), .inr (.inl (1, 400, fun _ => 0)), .inr (.inl (0, 400, fun _ => 0)), .inr (.inl (0, 400, fun _ => 0)), .inr (.inl (0, 400, fun _ => 0))]
set_option maxHeartbeats 1000000 in
theorem I_X10_init {n : Nat}  {h : jH} : jok (F_X10_init n h.1  (jnew h (.inl (8, [.null, .null, .null, .null, .int 0, .int 0, .int 0])))) (fun q => jx h.1 (eX10_init h.1 ) h q) := by
  unfold F_X10_init
  have j : jx h.1 [.inl (8, [.null, .null, .null, .null, .int 0, .int 0, .int 0])] h (jnew h (.inl (8, [.null, .null, .null, .null, .int 0, .int 0, .int 0]))) := jx_one
  generalize jnew h (.inl (8, [.null, .null, .null, .null, .int 0, .int 0, .int 0])) = h_0 at j ⊢
  obtain ⟨z, hz⟩ : ∃ z, z = h.1 := ⟨_, rfl⟩
  rw [← hz] at j ⊢
  have sz : h_0.1 = z + 1 := j.1
  refine jok_r (rfl : jnw h_0 _ = some (jnew h_0 _)) ?_
  try rw [sz]
  clear sz
  replace j : jx z [.inl (8, [.null, .null, .null, .null, .int 0, .int 0, .int 0]), .inr (.inl (1, 400, fun _ => 0))] h (jnew h_0 (.inr (.inl (1, 400, fun _ => 0)))) := jx_nw j _
  generalize jnew h_0 (.inr (.inl (1, 400, fun _ => 0))) = h_1 at j ⊢
  obtain ⟨h_2, e9, j9⟩ := jx_pf (i := 0) (ci := 8) (k := 0) (v := .ref (z + 1)) j rfl (by exact Nat.le_of_ble_eq_true rfl) rfl
  refine jok_r e9 ?_
  clear e9 j
  have j : jx z [.inl (8, [.ref (z + 1), .null, .null, .null, .int 0, .int 0, .int 0]), .inr (.inl (1, 400, fun _ => 0))] h h_2 := j9
  clear j9
  have sz : h_2.1 = z + 2 := j.1
  refine jok_r (rfl : jnw h_2 _ = some (jnew h_2 _)) ?_
  try rw [sz]
  clear sz
  replace j : jx z [.inl (8, [.ref (z + 1), .null, .null, .null, .int 0, .int 0, .int 0]), .inr (.inl (1, 400, fun _ => 0)), .inr (.inl (0, 400, fun _ => 0))] h (jnew h_2 (.inr (.inl (0, 400, fun _ => 0)))) := jx_nw j _
  generalize jnew h_2 (.inr (.inl (0, 400, fun _ => 0))) = h_3 at j ⊢
  obtain ⟨h_4, e9, j9⟩ := jx_pf (i := 0) (ci := 8) (k := 1) (v := .ref (z + 2)) j rfl (by exact Nat.le_of_ble_eq_true rfl) rfl
  refine jok_r e9 ?_
  clear e9 j
  have j : jx z [.inl (8, [.ref (z + 1), .ref (z + 2), .null, .null, .int 0, .int 0, .int 0]), .inr (.inl (1, 400, fun _ => 0)), .inr (.inl (0, 400, fun _ => 0))] h h_4 := j9
  clear j9
  have sz : h_4.1 = z + 3 := j.1
  refine jok_r (rfl : jnw h_4 _ = some (jnew h_4 _)) ?_
  try rw [sz]
  clear sz
  replace j : jx z [.inl (8, [.ref (z + 1), .ref (z + 2), .null, .null, .int 0, .int 0, .int 0]), .inr (.inl (1, 400, fun _ => 0)), .inr (.inl (0, 400, fun _ => 0)), .inr (.inl (0, 400, fun _ => 0))] h (jnew h_4 (.inr (.inl (0, 400, fun _ => 0)))) := jx_nw j _
  generalize jnew h_4 (.inr (.inl (0, 400, fun _ => 0))) = h_5 at j ⊢
  obtain ⟨h_6, e9, j9⟩ := jx_pf (i := 0) (ci := 8) (k := 2) (v := .ref (z + 3)) j rfl (by exact Nat.le_of_ble_eq_true rfl) rfl
  refine jok_r e9 ?_
  clear e9 j
  have j : jx z [.inl (8, [.ref (z + 1), .ref (z + 2), .ref (z + 3), .null, .int 0, .int 0, .int 0]), .inr (.inl (1, 400, fun _ => 0)), .inr (.inl (0, 400, fun _ => 0)), .inr (.inl (0, 400, fun _ => 0))] h h_6 := j9
  clear j9
  have sz : h_6.1 = z + 4 := j.1
  refine jok_r (rfl : jnw h_6 _ = some (jnew h_6 _)) ?_
  try rw [sz]
  clear sz
  replace j : jx z [.inl (8, [.ref (z + 1), .ref (z + 2), .ref (z + 3), .null, .int 0, .int 0, .int 0]), .inr (.inl (1, 400, fun _ => 0)), .inr (.inl (0, 400, fun _ => 0)), .inr (.inl (0, 400, fun _ => 0)), .inr (.inl (0, 400, fun _ => 0))] h (jnew h_6 (.inr (.inl (0, 400, fun _ => 0)))) := jx_nw j _
  generalize jnew h_6 (.inr (.inl (0, 400, fun _ => 0))) = h_7 at j ⊢
  obtain ⟨h_8, e9, j9⟩ := jx_pf (i := 0) (ci := 8) (k := 3) (v := .ref (z + 4)) j rfl (by exact Nat.le_of_ble_eq_true rfl) rfl
  refine jok_r e9 ?_
  clear e9 j
  have j : jx z [.inl (8, [.ref (z + 1), .ref (z + 2), .ref (z + 3), .ref (z + 4), .int 0, .int 0, .int 0]), .inr (.inl (1, 400, fun _ => 0)), .inr (.inl (0, 400, fun _ => 0)), .inr (.inl (0, 400, fun _ => 0)), .inr (.inl (0, 400, fun _ => 0))] h h_8 := j9
  clear j9
  subst hz
  exact jok_s j
def eX9_init (z : Nat) (a1 : Nat) (a2 : Nat) : List jE := [.inl (7, [.ref a1, .int 14, .ref a2])]
set_option maxHeartbeats 1000000 in
theorem I_X9_init {n : Nat} {a1 : Nat} {a2 : Nat} {h : jH} : jok (F_X9_init n h.1 a1 a2 (jnew h (.inl (7, [.null, .int 0, .null])))) (fun q => jx h.1 (eX9_init h.1 a1 a2) h q) := by
  unfold F_X9_init
  unfold F_X4_init_R
  simp only [Option.bind_assoc, Option.bind_some]
  have j : jx h.1 [.inl (7, [.null, .int 0, .null])] h (jnew h (.inl (7, [.null, .int 0, .null]))) := jx_one
  generalize jnew h (.inl (7, [.null, .int 0, .null])) = h_0 at j ⊢
  obtain ⟨z, hz⟩ : ∃ z, z = h.1 := ⟨_, rfl⟩
  rw [← hz] at j ⊢
  obtain ⟨h_1, e9, j9⟩ := jx_pf (i := 0) (ci := 7) (k := 0) (v := .ref a1) j rfl (by exact Nat.le_of_ble_eq_true rfl) rfl
  refine jok_r e9 ?_
  clear e9 j
  have j : jx z [.inl (7, [.ref a1, .int 0, .null])] h h_1 := j9
  clear j9
  obtain ⟨h_2, e9, j9⟩ := jx_pf (i := 0) (ci := 7) (k := 1) (v := .int 14) j rfl (by exact Nat.le_of_ble_eq_true rfl) rfl
  refine jok_r e9 ?_
  clear e9 j
  have j : jx z [.inl (7, [.ref a1, .int 14, .null])] h h_2 := j9
  clear j9
  obtain ⟨h_3, e9, j9⟩ := jx_pf (i := 0) (ci := 7) (k := 2) (v := .ref a2) j rfl (by exact Nat.le_of_ble_eq_true rfl) rfl
  refine jok_r e9 ?_
  clear e9 j
  have j : jx z [.inl (7, [.ref a1, .int 14, .ref a2])] h h_3 := j9
  clear j9
  subst hz
  exact jok_s j
def eX3_init (z : Nat) (a1 : Nat) (a2 : Nat) : List jE := [.inl (3, [.ref a1, .int 12, .ref a2])]
set_option maxHeartbeats 1000000 in
theorem I_X3_init {n : Nat} {a1 : Nat} {a2 : Nat} {h : jH} : jok (F_X3_init n h.1 a1 a2 (jnew h (.inl (3, [.null, .int 0, .null])))) (fun q => jx h.1 (eX3_init h.1 a1 a2) h q) := by
  unfold F_X3_init
  unfold F_X4_init_L
  simp only [Option.bind_assoc, Option.bind_some]
  have j : jx h.1 [.inl (3, [.null, .int 0, .null])] h (jnew h (.inl (3, [.null, .int 0, .null]))) := jx_one
  generalize jnew h (.inl (3, [.null, .int 0, .null])) = h_0 at j ⊢
  obtain ⟨z, hz⟩ : ∃ z, z = h.1 := ⟨_, rfl⟩
  rw [← hz] at j ⊢
  obtain ⟨h_1, e9, j9⟩ := jx_pf (i := 0) (ci := 3) (k := 0) (v := .ref a1) j rfl (by exact Nat.le_of_ble_eq_true rfl) rfl
  refine jok_r e9 ?_
  clear e9 j
  have j : jx z [.inl (3, [.ref a1, .int 0, .null])] h h_1 := j9
  clear j9
  obtain ⟨h_2, e9, j9⟩ := jx_pf (i := 0) (ci := 3) (k := 1) (v := .int 12) j rfl (by exact Nat.le_of_ble_eq_true rfl) rfl
  refine jok_r e9 ?_
  clear e9 j
  have j : jx z [.inl (3, [.ref a1, .int 12, .null])] h h_2 := j9
  clear j9
  obtain ⟨h_3, e9, j9⟩ := jx_pf (i := 0) (ci := 3) (k := 2) (v := .ref a2) j rfl (by exact Nat.le_of_ble_eq_true rfl) rfl
  refine jok_r e9 ?_
  clear e9 j
  have j : jx z [.inl (3, [.ref a1, .int 12, .ref a2])] h h_3 := j9
  clear j9
  subst hz
  exact jok_s j
def eX1_init (z : Nat) (a1 : Nat) (a2 : Nat) : List jE := [.inl (1, [.ref a1, .ref a2])]
set_option maxHeartbeats 1000000 in
theorem I_X1_init {n : Nat} {a1 : Nat} {a2 : Nat} {h : jH} : jok (F_X1_init n h.1 a1 a2 (jnew h (.inl (1, [.null, .null])))) (fun q => jx h.1 (eX1_init h.1 a1 a2) h q) := by
  unfold F_X1_init
  have j : jx h.1 [.inl (1, [.null, .null])] h (jnew h (.inl (1, [.null, .null]))) := jx_one
  generalize jnew h (.inl (1, [.null, .null])) = h_0 at j ⊢
  obtain ⟨z, hz⟩ : ∃ z, z = h.1 := ⟨_, rfl⟩
  rw [← hz] at j ⊢
  obtain ⟨h_1, e9, j9⟩ := jx_pf (i := 0) (ci := 1) (k := 0) (v := .ref a1) j rfl (by exact Nat.le_of_ble_eq_true rfl) rfl
  refine jok_r e9 ?_
  clear e9 j
  have j : jx z [.inl (1, [.ref a1, .null])] h h_1 := j9
  clear j9
  obtain ⟨h_2, e9, j9⟩ := jx_pf (i := 0) (ci := 1) (k := 1) (v := .ref a2) j rfl (by exact Nat.le_of_ble_eq_true rfl) rfl
  refine jok_r e9 ?_
  clear e9 j
  have j : jx z [.inl (1, [.ref a1, .ref a2])] h h_2 := j9
  clear j9
  subst hz
  exact jok_s j
def eX7_init (z : Nat) (a1 : Nat) (a2 : Nat) : List jE := [.inl (5, [.ref a1, .ref a2, .ref (z + 1), .ref (z + 2), .int 0, .int 0, .int 0]), .inr (.inl (0, 128, fun _ => 0)), .inr (.inl (0, 32, fun _ => 0))]
set_option maxHeartbeats 1000000 in
theorem I_X7_init {n : Nat} {a1 : Nat} {a2 : Nat} {h : jH} : jok (F_X7_init n h.1 a1 a2 (jnew h (.inl (5, [.null, .null, .null, .null, .int 0, .int 0, .int 0])))) (fun q => jx h.1 (eX7_init h.1 a1 a2) h q) := by
  unfold F_X7_init
  have j : jx h.1 [.inl (5, [.null, .null, .null, .null, .int 0, .int 0, .int 0])] h (jnew h (.inl (5, [.null, .null, .null, .null, .int 0, .int 0, .int 0]))) := jx_one
  generalize jnew h (.inl (5, [.null, .null, .null, .null, .int 0, .int 0, .int 0])) = h_0 at j ⊢
  obtain ⟨z, hz⟩ : ∃ z, z = h.1 := ⟨_, rfl⟩
  rw [← hz] at j ⊢
  have sz : h_0.1 = z + 1 := j.1
  refine jok_r (rfl : jnw h_0 _ = some (jnew h_0 _)) ?_
  try rw [sz]
  clear sz
  replace j : jx z [.inl (5, [.null, .null, .null, .null, .int 0, .int 0, .int 0]), .inr (.inl (0, 128, fun _ => 0))] h (jnew h_0 (.inr (.inl (0, 128, fun _ => 0)))) := jx_nw j _
  generalize jnew h_0 (.inr (.inl (0, 128, fun _ => 0))) = h_1 at j ⊢
  obtain ⟨h_2, e9, j9⟩ := jx_pf (i := 0) (ci := 5) (k := 2) (v := .ref (z + 1)) j rfl (by exact Nat.le_of_ble_eq_true rfl) rfl
  refine jok_r e9 ?_
  clear e9 j
  have j : jx z [.inl (5, [.null, .null, .ref (z + 1), .null, .int 0, .int 0, .int 0]), .inr (.inl (0, 128, fun _ => 0))] h h_2 := j9
  clear j9
  have sz : h_2.1 = z + 2 := j.1
  refine jok_r (rfl : jnw h_2 _ = some (jnew h_2 _)) ?_
  try rw [sz]
  clear sz
  replace j : jx z [.inl (5, [.null, .null, .ref (z + 1), .null, .int 0, .int 0, .int 0]), .inr (.inl (0, 128, fun _ => 0)), .inr (.inl (0, 32, fun _ => 0))] h (jnew h_2 (.inr (.inl (0, 32, fun _ => 0)))) := jx_nw j _
  generalize jnew h_2 (.inr (.inl (0, 32, fun _ => 0))) = h_3 at j ⊢
  obtain ⟨h_4, e9, j9⟩ := jx_pf (i := 0) (ci := 5) (k := 3) (v := .ref (z + 2)) j rfl (by exact Nat.le_of_ble_eq_true rfl) rfl
  refine jok_r e9 ?_
  clear e9 j
  have j : jx z [.inl (5, [.null, .null, .ref (z + 1), .ref (z + 2), .int 0, .int 0, .int 0]), .inr (.inl (0, 128, fun _ => 0)), .inr (.inl (0, 32, fun _ => 0))] h h_4 := j9
  clear j9
  obtain ⟨h_5, e9, j9⟩ := jx_pf (i := 0) (ci := 5) (k := 0) (v := .ref a1) j rfl (by exact Nat.le_of_ble_eq_true rfl) rfl
  refine jok_r e9 ?_
  clear e9 j
  have j : jx z [.inl (5, [.ref a1, .null, .ref (z + 1), .ref (z + 2), .int 0, .int 0, .int 0]), .inr (.inl (0, 128, fun _ => 0)), .inr (.inl (0, 32, fun _ => 0))] h h_5 := j9
  clear j9
  obtain ⟨h_6, e9, j9⟩ := jx_pf (i := 0) (ci := 5) (k := 1) (v := .ref a2) j rfl (by exact Nat.le_of_ble_eq_true rfl) rfl
  refine jok_r e9 ?_
  clear e9 j
  have j : jx z [.inl (5, [.ref a1, .ref a2, .ref (z + 1), .ref (z + 2), .int 0, .int 0, .int 0]), .inr (.inl (0, 128, fun _ => 0)), .inr (.inl (0, 32, fun _ => 0))] h h_6 := j9
  clear j9
  subst hz
  exact jok_s j
def eX11_init (z : Nat) : List jE := .inl (9, [.ref (z + 1), .ref (z + 6), .ref (z + 13), .ref (z + 19), .ref (z + 21), .ref (z + 28), .ref (z + 34), .ref (z + 35), .ref (z + 36), .ref (z + 37), .null, .null, .int (-1)]) :: ((((((((((eX10_init (z + 1)) ++ eX8_init (z + 6) ) ++ eX2_init (z + 13) ) ++ eX0_init (z + 19) ) ++ eX8_init (z + 21) ) ++ eX2_init (z + 28) ) ++ eX9_init (z + 34) (z + 1) (z + 21)) ++ eX3_init (z + 35) (z + 1) (z + 28)) ++ eX1_init (z + 36) (z + 13) (z + 21)) ++ eX7_init (z + 37) (z + 1) (z + 21))
set_option maxHeartbeats 1000000 in
theorem I_X11_init {n : Nat} {h : jH} : jok (F_X11_init n h.1 (jnew h (.inl (9, [.null, .null, .null, .null, .null, .null, .null, .null, .null, .null, .null, .null, .int 0])))) (fun q => jx h.1 (eX11_init h.1) h q) := by
  unfold F_X11_init
  have j : jx h.1 (.inl (9, [.null, .null, .null, .null, .null, .null, .null, .null, .null, .null, .null, .null, .int 0]) :: []) h (jnew h (.inl (9, [.null, .null, .null, .null, .null, .null, .null, .null, .null, .null, .null, .null, .int 0]))) := jx_one
  generalize jnew h (.inl (9, [.null, .null, .null, .null, .null, .null, .null, .null, .null, .null, .null, .null, .int 0])) = h_0 at j ⊢
  obtain ⟨z, hz⟩ : ∃ z, z = h.1 := ⟨_, rfl⟩
  rw [← hz] at j ⊢
  have sz : h_0.1 = z + 1 := j.1
  refine jok_r (rfl : jnw h_0 _ = some (jnew h_0 _)) ?_
  refine jok_b (I_X10_init (h := h_0)) (fun h_1 j9 => ?_)
  rw [sz] at j9
  try rw [sz]
  clear sz
  have j : jx z (.inl (9, [.null, .null, .null, .null, .null, .null, .null, .null, .null, .null, .null, .null, .int 0]) :: (eX10_init (z + 1))) h h_1 := jx_cat j j9
  clear j9
  obtain ⟨h_2, e9, j9⟩ := jx_pf (i := 0) (ci := 9) (k := 0) (v := .ref (z + 1)) j rfl (by exact Nat.le_of_ble_eq_true rfl) rfl
  refine jok_r e9 ?_
  clear e9 j
  have j : jx z (.inl (9, [.ref (z + 1), .null, .null, .null, .null, .null, .null, .null, .null, .null, .null, .null, .int 0]) :: (eX10_init (z + 1))) h h_2 := j9
  clear j9
  have sz : h_2.1 = z + 6 := j.1
  refine jok_r (rfl : jnw h_2 _ = some (jnew h_2 _)) ?_
  refine jok_b (I_X8_init (h := h_2)) (fun h_3 j9 => ?_)
  rw [sz] at j9
  try rw [sz]
  clear sz
  have j : jx z (.inl (9, [.ref (z + 1), .null, .null, .null, .null, .null, .null, .null, .null, .null, .null, .null, .int 0]) :: ((eX10_init (z + 1)) ++ eX8_init (z + 6) )) h h_3 := jx_cat j j9
  clear j9
  obtain ⟨h_4, e9, j9⟩ := jx_pf (i := 0) (ci := 9) (k := 1) (v := .ref (z + 6)) j rfl (by exact Nat.le_of_ble_eq_true rfl) rfl
  refine jok_r e9 ?_
  clear e9 j
  have j : jx z (.inl (9, [.ref (z + 1), .ref (z + 6), .null, .null, .null, .null, .null, .null, .null, .null, .null, .null, .int 0]) :: ((eX10_init (z + 1)) ++ eX8_init (z + 6) )) h h_4 := j9
  clear j9
  have sz : h_4.1 = z + 13 := j.1
  refine jok_r (rfl : jnw h_4 _ = some (jnew h_4 _)) ?_
  refine jok_b (I_X2_init (h := h_4)) (fun h_5 j9 => ?_)
  rw [sz] at j9
  try rw [sz]
  clear sz
  have j : jx z (.inl (9, [.ref (z + 1), .ref (z + 6), .null, .null, .null, .null, .null, .null, .null, .null, .null, .null, .int 0]) :: (((eX10_init (z + 1)) ++ eX8_init (z + 6) ) ++ eX2_init (z + 13) )) h h_5 := jx_cat j j9
  clear j9
  obtain ⟨h_6, e9, j9⟩ := jx_pf (i := 0) (ci := 9) (k := 2) (v := .ref (z + 13)) j rfl (by exact Nat.le_of_ble_eq_true rfl) rfl
  refine jok_r e9 ?_
  clear e9 j
  have j : jx z (.inl (9, [.ref (z + 1), .ref (z + 6), .ref (z + 13), .null, .null, .null, .null, .null, .null, .null, .null, .null, .int 0]) :: (((eX10_init (z + 1)) ++ eX8_init (z + 6) ) ++ eX2_init (z + 13) )) h h_6 := j9
  clear j9
  have sz : h_6.1 = z + 19 := j.1
  refine jok_r (rfl : jnw h_6 _ = some (jnew h_6 _)) ?_
  refine jok_b (I_X0_init (h := h_6)) (fun h_7 j9 => ?_)
  rw [sz] at j9
  try rw [sz]
  clear sz
  have j : jx z (.inl (9, [.ref (z + 1), .ref (z + 6), .ref (z + 13), .null, .null, .null, .null, .null, .null, .null, .null, .null, .int 0]) :: ((((eX10_init (z + 1)) ++ eX8_init (z + 6) ) ++ eX2_init (z + 13) ) ++ eX0_init (z + 19) )) h h_7 := jx_cat j j9
  clear j9
  obtain ⟨h_8, e9, j9⟩ := jx_pf (i := 0) (ci := 9) (k := 3) (v := .ref (z + 19)) j rfl (by exact Nat.le_of_ble_eq_true rfl) rfl
  refine jok_r e9 ?_
  clear e9 j
  have j : jx z (.inl (9, [.ref (z + 1), .ref (z + 6), .ref (z + 13), .ref (z + 19), .null, .null, .null, .null, .null, .null, .null, .null, .int 0]) :: ((((eX10_init (z + 1)) ++ eX8_init (z + 6) ) ++ eX2_init (z + 13) ) ++ eX0_init (z + 19) )) h h_8 := j9
  clear j9
  have sz : h_8.1 = z + 21 := j.1
  refine jok_r (rfl : jnw h_8 _ = some (jnew h_8 _)) ?_
  refine jok_b (I_X8_init (h := h_8)) (fun h_9 j9 => ?_)
  rw [sz] at j9
  try rw [sz]
  clear sz
  have j : jx z (.inl (9, [.ref (z + 1), .ref (z + 6), .ref (z + 13), .ref (z + 19), .null, .null, .null, .null, .null, .null, .null, .null, .int 0]) :: (((((eX10_init (z + 1)) ++ eX8_init (z + 6) ) ++ eX2_init (z + 13) ) ++ eX0_init (z + 19) ) ++ eX8_init (z + 21) )) h h_9 := jx_cat j j9
  clear j9
  obtain ⟨h_10, e9, j9⟩ := jx_pf (i := 0) (ci := 9) (k := 4) (v := .ref (z + 21)) j rfl (by exact Nat.le_of_ble_eq_true rfl) rfl
  refine jok_r e9 ?_
  clear e9 j
  have j : jx z (.inl (9, [.ref (z + 1), .ref (z + 6), .ref (z + 13), .ref (z + 19), .ref (z + 21), .null, .null, .null, .null, .null, .null, .null, .int 0]) :: (((((eX10_init (z + 1)) ++ eX8_init (z + 6) ) ++ eX2_init (z + 13) ) ++ eX0_init (z + 19) ) ++ eX8_init (z + 21) )) h h_10 := j9
  clear j9
  have sz : h_10.1 = z + 28 := j.1
  refine jok_r (rfl : jnw h_10 _ = some (jnew h_10 _)) ?_
  refine jok_b (I_X2_init (h := h_10)) (fun h_11 j9 => ?_)
  rw [sz] at j9
  try rw [sz]
  clear sz
  have j : jx z (.inl (9, [.ref (z + 1), .ref (z + 6), .ref (z + 13), .ref (z + 19), .ref (z + 21), .null, .null, .null, .null, .null, .null, .null, .int 0]) :: ((((((eX10_init (z + 1)) ++ eX8_init (z + 6) ) ++ eX2_init (z + 13) ) ++ eX0_init (z + 19) ) ++ eX8_init (z + 21) ) ++ eX2_init (z + 28) )) h h_11 := jx_cat j j9
  clear j9
  obtain ⟨h_12, e9, j9⟩ := jx_pf (i := 0) (ci := 9) (k := 5) (v := .ref (z + 28)) j rfl (by exact Nat.le_of_ble_eq_true rfl) rfl
  refine jok_r e9 ?_
  clear e9 j
  have j : jx z (.inl (9, [.ref (z + 1), .ref (z + 6), .ref (z + 13), .ref (z + 19), .ref (z + 21), .ref (z + 28), .null, .null, .null, .null, .null, .null, .int 0]) :: ((((((eX10_init (z + 1)) ++ eX8_init (z + 6) ) ++ eX2_init (z + 13) ) ++ eX0_init (z + 19) ) ++ eX8_init (z + 21) ) ++ eX2_init (z + 28) )) h h_12 := j9
  clear j9
  have sz : h_12.1 = z + 34 := j.1
  refine jok_r (rfl : jnw h_12 _ = some (jnew h_12 _)) ?_
  have j9 : jx z (.inl (9, [.ref (z + 1), .ref (z + 6), .ref (z + 13), .ref (z + 19), .ref (z + 21), .ref (z + 28), .null, .null, .null, .null, .null, .null, .int 0]) :: (((((((eX10_init (z + 1)) ++ eX8_init (z + 6) ) ++ eX2_init (z + 13) ) ++ eX0_init (z + 19) ) ++ eX8_init (z + 21) ) ++ eX2_init (z + 28) ) ++ [.inl (7, [.null, .int 0, .null])])) h (jnew h_12 (.inl (7, [.null, .int 0, .null]))) := jx_nw j _
  refine jok_r (jx_gR (i := 0) (ci := 9) (k := 0) (b := (z + 1)) j9 rfl rfl rfl) ?_
  refine jok_r (jx_gR (i := 0) (ci := 9) (k := 4) (b := (z + 21)) j9 rfl rfl rfl) ?_
  refine jok_b (I_X9_init (h := h_12)) (fun h_13 j9 => ?_)
  rw [sz] at j9
  try rw [sz]
  clear sz
  have j : jx z (.inl (9, [.ref (z + 1), .ref (z + 6), .ref (z + 13), .ref (z + 19), .ref (z + 21), .ref (z + 28), .null, .null, .null, .null, .null, .null, .int 0]) :: (((((((eX10_init (z + 1)) ++ eX8_init (z + 6) ) ++ eX2_init (z + 13) ) ++ eX0_init (z + 19) ) ++ eX8_init (z + 21) ) ++ eX2_init (z + 28) ) ++ eX9_init (z + 34) (z + 1) (z + 21))) h h_13 := jx_cat j j9
  clear j9
  obtain ⟨h_14, e9, j9⟩ := jx_pf (i := 0) (ci := 9) (k := 6) (v := .ref (z + 34)) j rfl (by exact Nat.le_of_ble_eq_true rfl) rfl
  refine jok_r e9 ?_
  clear e9 j
  have j : jx z (.inl (9, [.ref (z + 1), .ref (z + 6), .ref (z + 13), .ref (z + 19), .ref (z + 21), .ref (z + 28), .ref (z + 34), .null, .null, .null, .null, .null, .int 0]) :: (((((((eX10_init (z + 1)) ++ eX8_init (z + 6) ) ++ eX2_init (z + 13) ) ++ eX0_init (z + 19) ) ++ eX8_init (z + 21) ) ++ eX2_init (z + 28) ) ++ eX9_init (z + 34) (z + 1) (z + 21))) h h_14 := j9
  clear j9
  have sz : h_14.1 = z + 35 := j.1
  refine jok_r (rfl : jnw h_14 _ = some (jnew h_14 _)) ?_
  have j9 : jx z (.inl (9, [.ref (z + 1), .ref (z + 6), .ref (z + 13), .ref (z + 19), .ref (z + 21), .ref (z + 28), .ref (z + 34), .null, .null, .null, .null, .null, .int 0]) :: ((((((((eX10_init (z + 1)) ++ eX8_init (z + 6) ) ++ eX2_init (z + 13) ) ++ eX0_init (z + 19) ) ++ eX8_init (z + 21) ) ++ eX2_init (z + 28) ) ++ eX9_init (z + 34) (z + 1) (z + 21)) ++ [.inl (3, [.null, .int 0, .null])])) h (jnew h_14 (.inl (3, [.null, .int 0, .null]))) := jx_nw j _
  refine jok_r (jx_gR (i := 0) (ci := 9) (k := 0) (b := (z + 1)) j9 rfl rfl rfl) ?_
  refine jok_r (jx_gR (i := 0) (ci := 9) (k := 5) (b := (z + 28)) j9 rfl rfl rfl) ?_
  refine jok_b (I_X3_init (h := h_14)) (fun h_15 j9 => ?_)
  rw [sz] at j9
  try rw [sz]
  clear sz
  have j : jx z (.inl (9, [.ref (z + 1), .ref (z + 6), .ref (z + 13), .ref (z + 19), .ref (z + 21), .ref (z + 28), .ref (z + 34), .null, .null, .null, .null, .null, .int 0]) :: ((((((((eX10_init (z + 1)) ++ eX8_init (z + 6) ) ++ eX2_init (z + 13) ) ++ eX0_init (z + 19) ) ++ eX8_init (z + 21) ) ++ eX2_init (z + 28) ) ++ eX9_init (z + 34) (z + 1) (z + 21)) ++ eX3_init (z + 35) (z + 1) (z + 28))) h h_15 := jx_cat j j9
  clear j9
  obtain ⟨h_16, e9, j9⟩ := jx_pf (i := 0) (ci := 9) (k := 7) (v := .ref (z + 35)) j rfl (by exact Nat.le_of_ble_eq_true rfl) rfl
  refine jok_r e9 ?_
  clear e9 j
  have j : jx z (.inl (9, [.ref (z + 1), .ref (z + 6), .ref (z + 13), .ref (z + 19), .ref (z + 21), .ref (z + 28), .ref (z + 34), .ref (z + 35), .null, .null, .null, .null, .int 0]) :: ((((((((eX10_init (z + 1)) ++ eX8_init (z + 6) ) ++ eX2_init (z + 13) ) ++ eX0_init (z + 19) ) ++ eX8_init (z + 21) ) ++ eX2_init (z + 28) ) ++ eX9_init (z + 34) (z + 1) (z + 21)) ++ eX3_init (z + 35) (z + 1) (z + 28))) h h_16 := j9
  clear j9
  have sz : h_16.1 = z + 36 := j.1
  refine jok_r (rfl : jnw h_16 _ = some (jnew h_16 _)) ?_
  have j9 : jx z (.inl (9, [.ref (z + 1), .ref (z + 6), .ref (z + 13), .ref (z + 19), .ref (z + 21), .ref (z + 28), .ref (z + 34), .ref (z + 35), .null, .null, .null, .null, .int 0]) :: (((((((((eX10_init (z + 1)) ++ eX8_init (z + 6) ) ++ eX2_init (z + 13) ) ++ eX0_init (z + 19) ) ++ eX8_init (z + 21) ) ++ eX2_init (z + 28) ) ++ eX9_init (z + 34) (z + 1) (z + 21)) ++ eX3_init (z + 35) (z + 1) (z + 28)) ++ [.inl (1, [.null, .null])])) h (jnew h_16 (.inl (1, [.null, .null]))) := jx_nw j _
  refine jok_r (jx_gR (i := 0) (ci := 9) (k := 2) (b := (z + 13)) j9 rfl rfl rfl) ?_
  refine jok_r (jx_gR (i := 0) (ci := 9) (k := 4) (b := (z + 21)) j9 rfl rfl rfl) ?_
  refine jok_b (I_X1_init (h := h_16)) (fun h_17 j9 => ?_)
  rw [sz] at j9
  try rw [sz]
  clear sz
  have j : jx z (.inl (9, [.ref (z + 1), .ref (z + 6), .ref (z + 13), .ref (z + 19), .ref (z + 21), .ref (z + 28), .ref (z + 34), .ref (z + 35), .null, .null, .null, .null, .int 0]) :: (((((((((eX10_init (z + 1)) ++ eX8_init (z + 6) ) ++ eX2_init (z + 13) ) ++ eX0_init (z + 19) ) ++ eX8_init (z + 21) ) ++ eX2_init (z + 28) ) ++ eX9_init (z + 34) (z + 1) (z + 21)) ++ eX3_init (z + 35) (z + 1) (z + 28)) ++ eX1_init (z + 36) (z + 13) (z + 21))) h h_17 := jx_cat j j9
  clear j9
  obtain ⟨h_18, e9, j9⟩ := jx_pf (i := 0) (ci := 9) (k := 8) (v := .ref (z + 36)) j rfl (by exact Nat.le_of_ble_eq_true rfl) rfl
  refine jok_r e9 ?_
  clear e9 j
  have j : jx z (.inl (9, [.ref (z + 1), .ref (z + 6), .ref (z + 13), .ref (z + 19), .ref (z + 21), .ref (z + 28), .ref (z + 34), .ref (z + 35), .ref (z + 36), .null, .null, .null, .int 0]) :: (((((((((eX10_init (z + 1)) ++ eX8_init (z + 6) ) ++ eX2_init (z + 13) ) ++ eX0_init (z + 19) ) ++ eX8_init (z + 21) ) ++ eX2_init (z + 28) ) ++ eX9_init (z + 34) (z + 1) (z + 21)) ++ eX3_init (z + 35) (z + 1) (z + 28)) ++ eX1_init (z + 36) (z + 13) (z + 21))) h h_18 := j9
  clear j9
  have sz : h_18.1 = z + 37 := j.1
  refine jok_r (rfl : jnw h_18 _ = some (jnew h_18 _)) ?_
  have j9 : jx z (.inl (9, [.ref (z + 1), .ref (z + 6), .ref (z + 13), .ref (z + 19), .ref (z + 21), .ref (z + 28), .ref (z + 34), .ref (z + 35), .ref (z + 36), .null, .null, .null, .int 0]) :: ((((((((((eX10_init (z + 1)) ++ eX8_init (z + 6) ) ++ eX2_init (z + 13) ) ++ eX0_init (z + 19) ) ++ eX8_init (z + 21) ) ++ eX2_init (z + 28) ) ++ eX9_init (z + 34) (z + 1) (z + 21)) ++ eX3_init (z + 35) (z + 1) (z + 28)) ++ eX1_init (z + 36) (z + 13) (z + 21)) ++ [.inl (5, [.null, .null, .null, .null, .int 0, .int 0, .int 0])])) h (jnew h_18 (.inl (5, [.null, .null, .null, .null, .int 0, .int 0, .int 0]))) := jx_nw j _
  refine jok_r (jx_gR (i := 0) (ci := 9) (k := 0) (b := (z + 1)) j9 rfl rfl rfl) ?_
  refine jok_r (jx_gR (i := 0) (ci := 9) (k := 4) (b := (z + 21)) j9 rfl rfl rfl) ?_
  refine jok_b (I_X7_init (h := h_18)) (fun h_19 j9 => ?_)
  rw [sz] at j9
  try rw [sz]
  clear sz
  have j : jx z (.inl (9, [.ref (z + 1), .ref (z + 6), .ref (z + 13), .ref (z + 19), .ref (z + 21), .ref (z + 28), .ref (z + 34), .ref (z + 35), .ref (z + 36), .null, .null, .null, .int 0]) :: ((((((((((eX10_init (z + 1)) ++ eX8_init (z + 6) ) ++ eX2_init (z + 13) ) ++ eX0_init (z + 19) ) ++ eX8_init (z + 21) ) ++ eX2_init (z + 28) ) ++ eX9_init (z + 34) (z + 1) (z + 21)) ++ eX3_init (z + 35) (z + 1) (z + 28)) ++ eX1_init (z + 36) (z + 13) (z + 21)) ++ eX7_init (z + 37) (z + 1) (z + 21))) h h_19 := jx_cat j j9
  clear j9
  obtain ⟨h_20, e9, j9⟩ := jx_pf (i := 0) (ci := 9) (k := 9) (v := .ref (z + 37)) j rfl (by exact Nat.le_of_ble_eq_true rfl) rfl
  refine jok_r e9 ?_
  clear e9 j
  have j : jx z (.inl (9, [.ref (z + 1), .ref (z + 6), .ref (z + 13), .ref (z + 19), .ref (z + 21), .ref (z + 28), .ref (z + 34), .ref (z + 35), .ref (z + 36), .ref (z + 37), .null, .null, .int 0]) :: ((((((((((eX10_init (z + 1)) ++ eX8_init (z + 6) ) ++ eX2_init (z + 13) ) ++ eX0_init (z + 19) ) ++ eX8_init (z + 21) ) ++ eX2_init (z + 28) ) ++ eX9_init (z + 34) (z + 1) (z + 21)) ++ eX3_init (z + 35) (z + 1) (z + 28)) ++ eX1_init (z + 36) (z + 13) (z + 21)) ++ eX7_init (z + 37) (z + 1) (z + 21))) h h_20 := j9
  clear j9
  obtain ⟨h_21, e9, j9⟩ := jx_pf (i := 0) (ci := 9) (k := 12) (v := .int (-1)) j rfl (by exact Nat.le_of_ble_eq_true rfl) rfl
  refine jok_r e9 ?_
  clear e9 j
  have j : jx z (.inl (9, [.ref (z + 1), .ref (z + 6), .ref (z + 13), .ref (z + 19), .ref (z + 21), .ref (z + 28), .ref (z + 34), .ref (z + 35), .ref (z + 36), .ref (z + 37), .null, .null, .int (-1)]) :: ((((((((((eX10_init (z + 1)) ++ eX8_init (z + 6) ) ++ eX2_init (z + 13) ) ++ eX0_init (z + 19) ) ++ eX8_init (z + 21) ) ++ eX2_init (z + 28) ) ++ eX9_init (z + 34) (z + 1) (z + 21)) ++ eX3_init (z + 35) (z + 1) (z + 28)) ++ eX1_init (z + 36) (z + 13) (z + 21)) ++ eX7_init (z + 37) (z + 1) (z + 21))) h h_21 := j9
  clear j9
  subst hz
  exact jok_s j
def eX12_init (z : Nat)  : List jE := [.inl (10, [.int 0, .ref (z + 1), .ref (z + 2), .ref (z + 3), .ref (z + 4), .ref (z + 5), .int 0, .int 0, .ref (z + 6), .int 0, .int 0, .int 0, .int 0, .int 0, .int (-1), .ref (z + 7), .int 0, .ref (z + 8), .int 0, .ref (z + 9), .ref (z + 10), .ref (z + 11)]), .inr (.inl (0, 2133, upd (upd (upd (fun _ => 0) (5 : Int32).toNatClampNeg 16) (6 : Int32).toNatClampNeg 8) (10 : Int32).toNatClampNeg 1)), .inr (.inl (0, 1284, fun _ => 0)), .inr (.inl (0, 1284, fun _ => 0)), .inr (.inl (0, 435, fun _ => 0)), .inr (.inl (0, 5220, fun _ => 0)), .inr (.inl (1, 400, fun _ => 0)), .inr (.inl (0, 5, fun _ => 0)), .inr (.inl (0, 400, fun _ => 0)), .inr (.inl (2, 256, fun _ => 0)), .inr (.inl (0, 32, fun _ => 0)), .inr (.inl (0, 8, fun _ => 0))]
set_option maxHeartbeats 1000000 in
theorem I_X12_init {n : Nat}  {h : jH} : jok (F_X12_init n h.1  (jnew h (.inl (10, [.int 0, .null, .null, .null, .null, .null, .int 0, .int 0, .null, .int 0, .int 0, .int 0, .int 0, .int 0, .int 0, .null, .int 0, .null, .int 0, .null, .null, .null])))) (fun q => jx h.1 (eX12_init h.1 ) h q) := by
  unfold F_X12_init
  have j : jx h.1 [.inl (10, [.int 0, .null, .null, .null, .null, .null, .int 0, .int 0, .null, .int 0, .int 0, .int 0, .int 0, .int 0, .int 0, .null, .int 0, .null, .int 0, .null, .null, .null])] h (jnew h (.inl (10, [.int 0, .null, .null, .null, .null, .null, .int 0, .int 0, .null, .int 0, .int 0, .int 0, .int 0, .int 0, .int 0, .null, .int 0, .null, .int 0, .null, .null, .null]))) := jx_one
  generalize jnew h (.inl (10, [.int 0, .null, .null, .null, .null, .null, .int 0, .int 0, .null, .int 0, .int 0, .int 0, .int 0, .int 0, .int 0, .null, .int 0, .null, .int 0, .null, .null, .null])) = h_0 at j ⊢
  obtain ⟨z, hz⟩ : ∃ z, z = h.1 := ⟨_, rfl⟩
  rw [← hz] at j ⊢
  have sz : h_0.1 = z + 1 := j.1
  refine jok_r (rfl : jnw h_0 _ = some (jnew h_0 _)) ?_
  try rw [sz]
  clear sz
  replace j : jx z [.inl (10, [.int 0, .null, .null, .null, .null, .null, .int 0, .int 0, .null, .int 0, .int 0, .int 0, .int 0, .int 0, .int 0, .null, .int 0, .null, .int 0, .null, .null, .null]), .inr (.inl (0, 2133, fun _ => 0))] h (jnew h_0 (.inr (.inl (0, 2133, fun _ => 0)))) := jx_nw j _
  generalize jnew h_0 (.inr (.inl (0, 2133, fun _ => 0))) = h_1 at j ⊢
  obtain ⟨h_2, e9, j9⟩ := jx_pf (i := 0) (ci := 10) (k := 1) (v := .ref (z + 1)) j rfl (by exact Nat.le_of_ble_eq_true rfl) rfl
  refine jok_r e9 ?_
  clear e9 j
  have j : jx z [.inl (10, [.int 0, .ref (z + 1), .null, .null, .null, .null, .int 0, .int 0, .null, .int 0, .int 0, .int 0, .int 0, .int 0, .int 0, .null, .int 0, .null, .int 0, .null, .null, .null]), .inr (.inl (0, 2133, fun _ => 0))] h h_2 := j9
  clear j9
  have sz : h_2.1 = z + 2 := j.1
  refine jok_r (rfl : jnw h_2 _ = some (jnew h_2 _)) ?_
  try rw [sz]
  clear sz
  replace j : jx z [.inl (10, [.int 0, .ref (z + 1), .null, .null, .null, .null, .int 0, .int 0, .null, .int 0, .int 0, .int 0, .int 0, .int 0, .int 0, .null, .int 0, .null, .int 0, .null, .null, .null]), .inr (.inl (0, 2133, fun _ => 0)), .inr (.inl (0, 1284, fun _ => 0))] h (jnew h_2 (.inr (.inl (0, 1284, fun _ => 0)))) := jx_nw j _
  generalize jnew h_2 (.inr (.inl (0, 1284, fun _ => 0))) = h_3 at j ⊢
  obtain ⟨h_4, e9, j9⟩ := jx_pf (i := 0) (ci := 10) (k := 2) (v := .ref (z + 2)) j rfl (by exact Nat.le_of_ble_eq_true rfl) rfl
  refine jok_r e9 ?_
  clear e9 j
  have j : jx z [.inl (10, [.int 0, .ref (z + 1), .ref (z + 2), .null, .null, .null, .int 0, .int 0, .null, .int 0, .int 0, .int 0, .int 0, .int 0, .int 0, .null, .int 0, .null, .int 0, .null, .null, .null]), .inr (.inl (0, 2133, fun _ => 0)), .inr (.inl (0, 1284, fun _ => 0))] h h_4 := j9
  clear j9
  have sz : h_4.1 = z + 3 := j.1
  refine jok_r (rfl : jnw h_4 _ = some (jnew h_4 _)) ?_
  try rw [sz]
  clear sz
  replace j : jx z [.inl (10, [.int 0, .ref (z + 1), .ref (z + 2), .null, .null, .null, .int 0, .int 0, .null, .int 0, .int 0, .int 0, .int 0, .int 0, .int 0, .null, .int 0, .null, .int 0, .null, .null, .null]), .inr (.inl (0, 2133, fun _ => 0)), .inr (.inl (0, 1284, fun _ => 0)), .inr (.inl (0, 1284, fun _ => 0))] h (jnew h_4 (.inr (.inl (0, 1284, fun _ => 0)))) := jx_nw j _
  generalize jnew h_4 (.inr (.inl (0, 1284, fun _ => 0))) = h_5 at j ⊢
  obtain ⟨h_6, e9, j9⟩ := jx_pf (i := 0) (ci := 10) (k := 3) (v := .ref (z + 3)) j rfl (by exact Nat.le_of_ble_eq_true rfl) rfl
  refine jok_r e9 ?_
  clear e9 j
  have j : jx z [.inl (10, [.int 0, .ref (z + 1), .ref (z + 2), .ref (z + 3), .null, .null, .int 0, .int 0, .null, .int 0, .int 0, .int 0, .int 0, .int 0, .int 0, .null, .int 0, .null, .int 0, .null, .null, .null]), .inr (.inl (0, 2133, fun _ => 0)), .inr (.inl (0, 1284, fun _ => 0)), .inr (.inl (0, 1284, fun _ => 0))] h h_6 := j9
  clear j9
  have sz : h_6.1 = z + 4 := j.1
  refine jok_r (rfl : jnw h_6 _ = some (jnew h_6 _)) ?_
  try rw [sz]
  clear sz
  replace j : jx z [.inl (10, [.int 0, .ref (z + 1), .ref (z + 2), .ref (z + 3), .null, .null, .int 0, .int 0, .null, .int 0, .int 0, .int 0, .int 0, .int 0, .int 0, .null, .int 0, .null, .int 0, .null, .null, .null]), .inr (.inl (0, 2133, fun _ => 0)), .inr (.inl (0, 1284, fun _ => 0)), .inr (.inl (0, 1284, fun _ => 0)), .inr (.inl (0, 435, fun _ => 0))] h (jnew h_6 (.inr (.inl (0, 435, fun _ => 0)))) := jx_nw j _
  generalize jnew h_6 (.inr (.inl (0, 435, fun _ => 0))) = h_7 at j ⊢
  obtain ⟨h_8, e9, j9⟩ := jx_pf (i := 0) (ci := 10) (k := 4) (v := .ref (z + 4)) j rfl (by exact Nat.le_of_ble_eq_true rfl) rfl
  refine jok_r e9 ?_
  clear e9 j
  have j : jx z [.inl (10, [.int 0, .ref (z + 1), .ref (z + 2), .ref (z + 3), .ref (z + 4), .null, .int 0, .int 0, .null, .int 0, .int 0, .int 0, .int 0, .int 0, .int 0, .null, .int 0, .null, .int 0, .null, .null, .null]), .inr (.inl (0, 2133, fun _ => 0)), .inr (.inl (0, 1284, fun _ => 0)), .inr (.inl (0, 1284, fun _ => 0)), .inr (.inl (0, 435, fun _ => 0))] h h_8 := j9
  clear j9
  have sz : h_8.1 = z + 5 := j.1
  refine jok_r (rfl : jnw h_8 _ = some (jnew h_8 _)) ?_
  try rw [sz]
  clear sz
  replace j : jx z [.inl (10, [.int 0, .ref (z + 1), .ref (z + 2), .ref (z + 3), .ref (z + 4), .null, .int 0, .int 0, .null, .int 0, .int 0, .int 0, .int 0, .int 0, .int 0, .null, .int 0, .null, .int 0, .null, .null, .null]), .inr (.inl (0, 2133, fun _ => 0)), .inr (.inl (0, 1284, fun _ => 0)), .inr (.inl (0, 1284, fun _ => 0)), .inr (.inl (0, 435, fun _ => 0)), .inr (.inl (0, 5220, fun _ => 0))] h (jnew h_8 (.inr (.inl (0, 5220, fun _ => 0)))) := jx_nw j _
  generalize jnew h_8 (.inr (.inl (0, 5220, fun _ => 0))) = h_9 at j ⊢
  obtain ⟨h_10, e9, j9⟩ := jx_pf (i := 0) (ci := 10) (k := 5) (v := .ref (z + 5)) j rfl (by exact Nat.le_of_ble_eq_true rfl) rfl
  refine jok_r e9 ?_
  clear e9 j
  have j : jx z [.inl (10, [.int 0, .ref (z + 1), .ref (z + 2), .ref (z + 3), .ref (z + 4), .ref (z + 5), .int 0, .int 0, .null, .int 0, .int 0, .int 0, .int 0, .int 0, .int 0, .null, .int 0, .null, .int 0, .null, .null, .null]), .inr (.inl (0, 2133, fun _ => 0)), .inr (.inl (0, 1284, fun _ => 0)), .inr (.inl (0, 1284, fun _ => 0)), .inr (.inl (0, 435, fun _ => 0)), .inr (.inl (0, 5220, fun _ => 0))] h h_10 := j9
  clear j9
  have sz : h_10.1 = z + 6 := j.1
  refine jok_r (rfl : jnw h_10 _ = some (jnew h_10 _)) ?_
  try rw [sz]
  clear sz
  replace j : jx z [.inl (10, [.int 0, .ref (z + 1), .ref (z + 2), .ref (z + 3), .ref (z + 4), .ref (z + 5), .int 0, .int 0, .null, .int 0, .int 0, .int 0, .int 0, .int 0, .int 0, .null, .int 0, .null, .int 0, .null, .null, .null]), .inr (.inl (0, 2133, fun _ => 0)), .inr (.inl (0, 1284, fun _ => 0)), .inr (.inl (0, 1284, fun _ => 0)), .inr (.inl (0, 435, fun _ => 0)), .inr (.inl (0, 5220, fun _ => 0)), .inr (.inl (1, 400, fun _ => 0))] h (jnew h_10 (.inr (.inl (1, 400, fun _ => 0)))) := jx_nw j _
  generalize jnew h_10 (.inr (.inl (1, 400, fun _ => 0))) = h_11 at j ⊢
  obtain ⟨h_12, e9, j9⟩ := jx_pf (i := 0) (ci := 10) (k := 8) (v := .ref (z + 6)) j rfl (by exact Nat.le_of_ble_eq_true rfl) rfl
  refine jok_r e9 ?_
  clear e9 j
  have j : jx z [.inl (10, [.int 0, .ref (z + 1), .ref (z + 2), .ref (z + 3), .ref (z + 4), .ref (z + 5), .int 0, .int 0, .ref (z + 6), .int 0, .int 0, .int 0, .int 0, .int 0, .int 0, .null, .int 0, .null, .int 0, .null, .null, .null]), .inr (.inl (0, 2133, fun _ => 0)), .inr (.inl (0, 1284, fun _ => 0)), .inr (.inl (0, 1284, fun _ => 0)), .inr (.inl (0, 435, fun _ => 0)), .inr (.inl (0, 5220, fun _ => 0)), .inr (.inl (1, 400, fun _ => 0))] h h_12 := j9
  clear j9
  obtain ⟨h_13, e9, j9⟩ := jx_pf (i := 0) (ci := 10) (k := 14) (v := .int (-1)) j rfl (by exact Nat.le_of_ble_eq_true rfl) rfl
  refine jok_r e9 ?_
  clear e9 j
  have j : jx z [.inl (10, [.int 0, .ref (z + 1), .ref (z + 2), .ref (z + 3), .ref (z + 4), .ref (z + 5), .int 0, .int 0, .ref (z + 6), .int 0, .int 0, .int 0, .int 0, .int 0, .int (-1), .null, .int 0, .null, .int 0, .null, .null, .null]), .inr (.inl (0, 2133, fun _ => 0)), .inr (.inl (0, 1284, fun _ => 0)), .inr (.inl (0, 1284, fun _ => 0)), .inr (.inl (0, 435, fun _ => 0)), .inr (.inl (0, 5220, fun _ => 0)), .inr (.inl (1, 400, fun _ => 0))] h h_13 := j9
  clear j9
  have sz : h_13.1 = z + 7 := j.1
  refine jok_r (rfl : jnw h_13 _ = some (jnew h_13 _)) ?_
  try rw [sz]
  clear sz
  replace j : jx z [.inl (10, [.int 0, .ref (z + 1), .ref (z + 2), .ref (z + 3), .ref (z + 4), .ref (z + 5), .int 0, .int 0, .ref (z + 6), .int 0, .int 0, .int 0, .int 0, .int 0, .int (-1), .null, .int 0, .null, .int 0, .null, .null, .null]), .inr (.inl (0, 2133, fun _ => 0)), .inr (.inl (0, 1284, fun _ => 0)), .inr (.inl (0, 1284, fun _ => 0)), .inr (.inl (0, 435, fun _ => 0)), .inr (.inl (0, 5220, fun _ => 0)), .inr (.inl (1, 400, fun _ => 0)), .inr (.inl (0, 5, fun _ => 0))] h (jnew h_13 (.inr (.inl (0, 5, fun _ => 0)))) := jx_nw j _
  generalize jnew h_13 (.inr (.inl (0, 5, fun _ => 0))) = h_14 at j ⊢
  obtain ⟨h_15, e9, j9⟩ := jx_pf (i := 0) (ci := 10) (k := 15) (v := .ref (z + 7)) j rfl (by exact Nat.le_of_ble_eq_true rfl) rfl
  refine jok_r e9 ?_
  clear e9 j
  have j : jx z [.inl (10, [.int 0, .ref (z + 1), .ref (z + 2), .ref (z + 3), .ref (z + 4), .ref (z + 5), .int 0, .int 0, .ref (z + 6), .int 0, .int 0, .int 0, .int 0, .int 0, .int (-1), .ref (z + 7), .int 0, .null, .int 0, .null, .null, .null]), .inr (.inl (0, 2133, fun _ => 0)), .inr (.inl (0, 1284, fun _ => 0)), .inr (.inl (0, 1284, fun _ => 0)), .inr (.inl (0, 435, fun _ => 0)), .inr (.inl (0, 5220, fun _ => 0)), .inr (.inl (1, 400, fun _ => 0)), .inr (.inl (0, 5, fun _ => 0))] h h_15 := j9
  clear j9
  have sz : h_15.1 = z + 8 := j.1
  refine jok_r (rfl : jnw h_15 _ = some (jnew h_15 _)) ?_
  try rw [sz]
  clear sz
  replace j : jx z [.inl (10, [.int 0, .ref (z + 1), .ref (z + 2), .ref (z + 3), .ref (z + 4), .ref (z + 5), .int 0, .int 0, .ref (z + 6), .int 0, .int 0, .int 0, .int 0, .int 0, .int (-1), .ref (z + 7), .int 0, .null, .int 0, .null, .null, .null]), .inr (.inl (0, 2133, fun _ => 0)), .inr (.inl (0, 1284, fun _ => 0)), .inr (.inl (0, 1284, fun _ => 0)), .inr (.inl (0, 435, fun _ => 0)), .inr (.inl (0, 5220, fun _ => 0)), .inr (.inl (1, 400, fun _ => 0)), .inr (.inl (0, 5, fun _ => 0)), .inr (.inl (0, 400, fun _ => 0))] h (jnew h_15 (.inr (.inl (0, 400, fun _ => 0)))) := jx_nw j _
  generalize jnew h_15 (.inr (.inl (0, 400, fun _ => 0))) = h_16 at j ⊢
  obtain ⟨h_17, e9, j9⟩ := jx_pf (i := 0) (ci := 10) (k := 17) (v := .ref (z + 8)) j rfl (by exact Nat.le_of_ble_eq_true rfl) rfl
  refine jok_r e9 ?_
  clear e9 j
  have j : jx z [.inl (10, [.int 0, .ref (z + 1), .ref (z + 2), .ref (z + 3), .ref (z + 4), .ref (z + 5), .int 0, .int 0, .ref (z + 6), .int 0, .int 0, .int 0, .int 0, .int 0, .int (-1), .ref (z + 7), .int 0, .ref (z + 8), .int 0, .null, .null, .null]), .inr (.inl (0, 2133, fun _ => 0)), .inr (.inl (0, 1284, fun _ => 0)), .inr (.inl (0, 1284, fun _ => 0)), .inr (.inl (0, 435, fun _ => 0)), .inr (.inl (0, 5220, fun _ => 0)), .inr (.inl (1, 400, fun _ => 0)), .inr (.inl (0, 5, fun _ => 0)), .inr (.inl (0, 400, fun _ => 0))] h h_17 := j9
  clear j9
  have sz : h_17.1 = z + 9 := j.1
  refine jok_r (rfl : jnw h_17 _ = some (jnew h_17 _)) ?_
  try rw [sz]
  clear sz
  replace j : jx z [.inl (10, [.int 0, .ref (z + 1), .ref (z + 2), .ref (z + 3), .ref (z + 4), .ref (z + 5), .int 0, .int 0, .ref (z + 6), .int 0, .int 0, .int 0, .int 0, .int 0, .int (-1), .ref (z + 7), .int 0, .ref (z + 8), .int 0, .null, .null, .null]), .inr (.inl (0, 2133, fun _ => 0)), .inr (.inl (0, 1284, fun _ => 0)), .inr (.inl (0, 1284, fun _ => 0)), .inr (.inl (0, 435, fun _ => 0)), .inr (.inl (0, 5220, fun _ => 0)), .inr (.inl (1, 400, fun _ => 0)), .inr (.inl (0, 5, fun _ => 0)), .inr (.inl (0, 400, fun _ => 0)), .inr (.inl (2, 256, fun _ => 0))] h (jnew h_17 (.inr (.inl (2, 256, fun _ => 0)))) := jx_nw j _
  generalize jnew h_17 (.inr (.inl (2, 256, fun _ => 0))) = h_18 at j ⊢
  obtain ⟨h_19, e9, j9⟩ := jx_pf (i := 0) (ci := 10) (k := 19) (v := .ref (z + 9)) j rfl (by exact Nat.le_of_ble_eq_true rfl) rfl
  refine jok_r e9 ?_
  clear e9 j
  have j : jx z [.inl (10, [.int 0, .ref (z + 1), .ref (z + 2), .ref (z + 3), .ref (z + 4), .ref (z + 5), .int 0, .int 0, .ref (z + 6), .int 0, .int 0, .int 0, .int 0, .int 0, .int (-1), .ref (z + 7), .int 0, .ref (z + 8), .int 0, .ref (z + 9), .null, .null]), .inr (.inl (0, 2133, fun _ => 0)), .inr (.inl (0, 1284, fun _ => 0)), .inr (.inl (0, 1284, fun _ => 0)), .inr (.inl (0, 435, fun _ => 0)), .inr (.inl (0, 5220, fun _ => 0)), .inr (.inl (1, 400, fun _ => 0)), .inr (.inl (0, 5, fun _ => 0)), .inr (.inl (0, 400, fun _ => 0)), .inr (.inl (2, 256, fun _ => 0))] h h_19 := j9
  clear j9
  have sz : h_19.1 = z + 10 := j.1
  refine jok_r (rfl : jnw h_19 _ = some (jnew h_19 _)) ?_
  try rw [sz]
  clear sz
  replace j : jx z [.inl (10, [.int 0, .ref (z + 1), .ref (z + 2), .ref (z + 3), .ref (z + 4), .ref (z + 5), .int 0, .int 0, .ref (z + 6), .int 0, .int 0, .int 0, .int 0, .int 0, .int (-1), .ref (z + 7), .int 0, .ref (z + 8), .int 0, .ref (z + 9), .null, .null]), .inr (.inl (0, 2133, fun _ => 0)), .inr (.inl (0, 1284, fun _ => 0)), .inr (.inl (0, 1284, fun _ => 0)), .inr (.inl (0, 435, fun _ => 0)), .inr (.inl (0, 5220, fun _ => 0)), .inr (.inl (1, 400, fun _ => 0)), .inr (.inl (0, 5, fun _ => 0)), .inr (.inl (0, 400, fun _ => 0)), .inr (.inl (2, 256, fun _ => 0)), .inr (.inl (0, 32, fun _ => 0))] h (jnew h_19 (.inr (.inl (0, 32, fun _ => 0)))) := jx_nw j _
  generalize jnew h_19 (.inr (.inl (0, 32, fun _ => 0))) = h_20 at j ⊢
  obtain ⟨h_21, e9, j9⟩ := jx_pf (i := 0) (ci := 10) (k := 20) (v := .ref (z + 10)) j rfl (by exact Nat.le_of_ble_eq_true rfl) rfl
  refine jok_r e9 ?_
  clear e9 j
  have j : jx z [.inl (10, [.int 0, .ref (z + 1), .ref (z + 2), .ref (z + 3), .ref (z + 4), .ref (z + 5), .int 0, .int 0, .ref (z + 6), .int 0, .int 0, .int 0, .int 0, .int 0, .int (-1), .ref (z + 7), .int 0, .ref (z + 8), .int 0, .ref (z + 9), .ref (z + 10), .null]), .inr (.inl (0, 2133, fun _ => 0)), .inr (.inl (0, 1284, fun _ => 0)), .inr (.inl (0, 1284, fun _ => 0)), .inr (.inl (0, 435, fun _ => 0)), .inr (.inl (0, 5220, fun _ => 0)), .inr (.inl (1, 400, fun _ => 0)), .inr (.inl (0, 5, fun _ => 0)), .inr (.inl (0, 400, fun _ => 0)), .inr (.inl (2, 256, fun _ => 0)), .inr (.inl (0, 32, fun _ => 0))] h h_21 := j9
  clear j9
  have sz : h_21.1 = z + 11 := j.1
  refine jok_r (rfl : jnw h_21 _ = some (jnew h_21 _)) ?_
  try rw [sz]
  clear sz
  replace j : jx z [.inl (10, [.int 0, .ref (z + 1), .ref (z + 2), .ref (z + 3), .ref (z + 4), .ref (z + 5), .int 0, .int 0, .ref (z + 6), .int 0, .int 0, .int 0, .int 0, .int 0, .int (-1), .ref (z + 7), .int 0, .ref (z + 8), .int 0, .ref (z + 9), .ref (z + 10), .null]), .inr (.inl (0, 2133, fun _ => 0)), .inr (.inl (0, 1284, fun _ => 0)), .inr (.inl (0, 1284, fun _ => 0)), .inr (.inl (0, 435, fun _ => 0)), .inr (.inl (0, 5220, fun _ => 0)), .inr (.inl (1, 400, fun _ => 0)), .inr (.inl (0, 5, fun _ => 0)), .inr (.inl (0, 400, fun _ => 0)), .inr (.inl (2, 256, fun _ => 0)), .inr (.inl (0, 32, fun _ => 0)), .inr (.inl (0, 8, fun _ => 0))] h (jnew h_21 (.inr (.inl (0, 8, fun _ => 0)))) := jx_nw j _
  generalize jnew h_21 (.inr (.inl (0, 8, fun _ => 0))) = h_22 at j ⊢
  obtain ⟨h_23, e9, j9⟩ := jx_pf (i := 0) (ci := 10) (k := 21) (v := .ref (z + 11)) j rfl (by exact Nat.le_of_ble_eq_true rfl) rfl
  refine jok_r e9 ?_
  clear e9 j
  have j : jx z [.inl (10, [.int 0, .ref (z + 1), .ref (z + 2), .ref (z + 3), .ref (z + 4), .ref (z + 5), .int 0, .int 0, .ref (z + 6), .int 0, .int 0, .int 0, .int 0, .int 0, .int (-1), .ref (z + 7), .int 0, .ref (z + 8), .int 0, .ref (z + 9), .ref (z + 10), .ref (z + 11)]), .inr (.inl (0, 2133, fun _ => 0)), .inr (.inl (0, 1284, fun _ => 0)), .inr (.inl (0, 1284, fun _ => 0)), .inr (.inl (0, 435, fun _ => 0)), .inr (.inl (0, 5220, fun _ => 0)), .inr (.inl (1, 400, fun _ => 0)), .inr (.inl (0, 5, fun _ => 0)), .inr (.inl (0, 400, fun _ => 0)), .inr (.inl (2, 256, fun _ => 0)), .inr (.inl (0, 32, fun _ => 0)), .inr (.inl (0, 8, fun _ => 0))] h h_23 := j9
  clear j9
  refine jok_r (jx_gR (i := 0) (ci := 10) (k := 1) (b := (z + 1)) j rfl rfl rfl) ?_
  obtain ⟨h_24, e9, j9⟩ := jx_as (i := 1) (x := (5 : Int32)) (y := (16 : Int32)) j rfl (by decide) (by decide) rfl
  refine jok_r e9 ?_
  clear e9 j
  have j : jx z [.inl (10, [.int 0, .ref (z + 1), .ref (z + 2), .ref (z + 3), .ref (z + 4), .ref (z + 5), .int 0, .int 0, .ref (z + 6), .int 0, .int 0, .int 0, .int 0, .int 0, .int (-1), .ref (z + 7), .int 0, .ref (z + 8), .int 0, .ref (z + 9), .ref (z + 10), .ref (z + 11)]), .inr (.inl (0, 2133, upd (fun _ => 0) (5 : Int32).toNatClampNeg 16)), .inr (.inl (0, 1284, fun _ => 0)), .inr (.inl (0, 1284, fun _ => 0)), .inr (.inl (0, 435, fun _ => 0)), .inr (.inl (0, 5220, fun _ => 0)), .inr (.inl (1, 400, fun _ => 0)), .inr (.inl (0, 5, fun _ => 0)), .inr (.inl (0, 400, fun _ => 0)), .inr (.inl (2, 256, fun _ => 0)), .inr (.inl (0, 32, fun _ => 0)), .inr (.inl (0, 8, fun _ => 0))] h h_24 := j9
  clear j9
  refine jok_r (jx_gR (i := 0) (ci := 10) (k := 1) (b := (z + 1)) j rfl rfl rfl) ?_
  obtain ⟨h_25, e9, j9⟩ := jx_as (i := 1) (x := (6 : Int32)) (y := (8 : Int32)) j rfl (by decide) (by decide) rfl
  refine jok_r e9 ?_
  clear e9 j
  have j : jx z [.inl (10, [.int 0, .ref (z + 1), .ref (z + 2), .ref (z + 3), .ref (z + 4), .ref (z + 5), .int 0, .int 0, .ref (z + 6), .int 0, .int 0, .int 0, .int 0, .int 0, .int (-1), .ref (z + 7), .int 0, .ref (z + 8), .int 0, .ref (z + 9), .ref (z + 10), .ref (z + 11)]), .inr (.inl (0, 2133, upd (upd (fun _ => 0) (5 : Int32).toNatClampNeg 16) (6 : Int32).toNatClampNeg 8)), .inr (.inl (0, 1284, fun _ => 0)), .inr (.inl (0, 1284, fun _ => 0)), .inr (.inl (0, 435, fun _ => 0)), .inr (.inl (0, 5220, fun _ => 0)), .inr (.inl (1, 400, fun _ => 0)), .inr (.inl (0, 5, fun _ => 0)), .inr (.inl (0, 400, fun _ => 0)), .inr (.inl (2, 256, fun _ => 0)), .inr (.inl (0, 32, fun _ => 0)), .inr (.inl (0, 8, fun _ => 0))] h h_25 := j9
  clear j9
  refine jok_r (jx_gR (i := 0) (ci := 10) (k := 1) (b := (z + 1)) j rfl rfl rfl) ?_
  obtain ⟨h_26, e9, j9⟩ := jx_as (i := 1) (x := (10 : Int32)) (y := (1 : Int32)) j rfl (by decide) (by decide) rfl
  refine jok_r e9 ?_
  clear e9 j
  have j : jx z [.inl (10, [.int 0, .ref (z + 1), .ref (z + 2), .ref (z + 3), .ref (z + 4), .ref (z + 5), .int 0, .int 0, .ref (z + 6), .int 0, .int 0, .int 0, .int 0, .int 0, .int (-1), .ref (z + 7), .int 0, .ref (z + 8), .int 0, .ref (z + 9), .ref (z + 10), .ref (z + 11)]), .inr (.inl (0, 2133, upd (upd (upd (fun _ => 0) (5 : Int32).toNatClampNeg 16) (6 : Int32).toNatClampNeg 8) (10 : Int32).toNatClampNeg 1)), .inr (.inl (0, 1284, fun _ => 0)), .inr (.inl (0, 1284, fun _ => 0)), .inr (.inl (0, 435, fun _ => 0)), .inr (.inl (0, 5220, fun _ => 0)), .inr (.inl (1, 400, fun _ => 0)), .inr (.inl (0, 5, fun _ => 0)), .inr (.inl (0, 400, fun _ => 0)), .inr (.inl (2, 256, fun _ => 0)), .inr (.inl (0, 32, fun _ => 0)), .inr (.inl (0, 8, fun _ => 0))] h h_26 := j9
  clear j9
  subst hz
  exact jok_s j
end
section
/-! the first heap is of its kinds -/
theorem jR3_0 {k : Nat} : jR3 k 0 := ⟨Or.inr ⟨by decide, by decide⟩, Or.inr ⟨by decide, by decide⟩, Or.inr (Or.inr (Or.inr ⟨by decide, by decide⟩))⟩
theorem jR_w0 {g : jGh} {k : Nat} (hlw : ∀ k, g.2.2.2.1 k = 0) : jRw g k (upd (upd (upd (fun _ => 0) (5 : Int32).toNatClampNeg 16) (6 : Int32).toNatClampNeg 8) (10 : Int32).toNatClampNeg 1 k) := by
  have e5 : (5 : Int32).toNatClampNeg = 5 := rfl
  have e6 : (6 : Int32).toNatClampNeg = 6 := rfl
  have e10 : (10 : Int32).toNatClampNeg = 10 := rfl
  rw [e5, e6, e10]
  by_cases q : k = 5 ∨ k = 6 ∨ k = 10
  · rcases q with rfl | rfl | rfl <;> exact ⟨⟨Or.inl (by omega), Or.inl (by omega), Or.inl (by omega)⟩, Or.inl (by omega)⟩
  · have e : upd (upd (upd (fun _ => (0 : Int32)) 5 16) 6 8) 10 1 k = 0 := by
      simp only [upd]
      rw [if_neg (by omega), if_neg (by omega), if_neg (by omega)]
    rw [e]
    exact ⟨jR3_0, Or.inr (hlw k).symm⟩
/-- entries from z on, of the kinds ks -/
def jchk (g : jGh) (Γ : Nat → Option Nat) (Es : List jE) (ks : List Nat) : Prop := ks.length = Es.length ∧ ∀ (i : Nat) (e : jE) (c : Nat), Es[i]? = some e → ks[i]? = some c → okE Γ (jKd g c) (some e)
theorem jchk_app {g : jGh} {Γ : Nat → Option Nat} {Es Fs : List jE} {ks ls : List Nat} (a : jchk g Γ Es ks) (b : jchk g Γ Fs ls) : jchk g Γ (Es ++ Fs) (ks ++ ls) := by
  obtain ⟨a1, a2⟩ := a
  obtain ⟨b1, b2⟩ := b
  refine ⟨by rw [List.length_append, List.length_append, a1, b1], fun i e c he hc => ?_⟩
  by_cases q : i < Es.length
  · rw [List.getElem?_append_left q] at he
    rw [List.getElem?_append_left (by omega)] at hc
    exact a2 i e c he hc
  · rw [List.getElem?_append_right (by omega)] at he
    rw [List.getElem?_append_right (by omega), a1] at hc
    exact b2 _ e c he hc
theorem jchk_cons {g : jGh} {Γ : Nat → Option Nat} {e : jE} {c : Nat} {Fs : List jE} {ls : List Nat} (a : okE Γ (jKd g c) (some e)) (b : jchk g Γ Fs ls) : jchk g Γ (e :: Fs) (c :: ls) := by
  refine ⟨by rw [List.length_cons, List.length_cons, b.1], fun i e2 c2 he hc => ?_⟩
  cases i with
  | zero => cases he; cases hc; exact a
  | succ i => exact b.2 i e2 c2 he hc
/-- the kinds of the addresses: those from z on by the list -/
def jext (Γ : Nat → Option Nat) (z : Nat) (ks : List Nat) : Nat → Option Nat := fun q => if q < z then Γ q else ks[q - z]?
theorem jext_at {Γ : Nat → Option Nat} {z i c : Nat} {ks : List Nat} (h : ks[i]? = some c) : jext Γ z ks (z + i) = some c := by
  unfold jext
  rw [if_neg (by omega), show z + i - z = i by omega]
  exact h
theorem okV_mono {Γ Γ2 : Nat → Option Nat} {F : jF} {v : Value} (hm : ∀ a c, Γ a = some c → Γ2 a = some c) (h : okV Γ F v) : okV Γ2 F v := by
  rcases F with P | c | c
  · exact h
  · obtain ⟨a, e, ha⟩ := h
    exact ⟨a, e, hm a c ha⟩
  · rcases h with h | ⟨a, e, ha⟩
    · exact Or.inl h
    · exact Or.inr ⟨a, e, hm a c ha⟩
theorem okE_mono {Γ Γ2 : Nat → Option Nat} {D : jD} {e : Option jE} (hm : ∀ a c, Γ a = some c → Γ2 a = some c) (h : okE Γ D e) : okE Γ2 D e := by
  rcases D with q | q | q
  · exact h
  · show (if q.2 = 1000 then _ else _)
    have h2 : (if q.2 = 1000 then ∃ f : Nat → Int64, e = some (.inr (.inr (.inr (1, f)))) ∧ (q.1 = 0 ∨ q.1 % 18446744073709551616 = (f 0).toUInt64.toNat) else ∃ f : Nat → Option Nat, e = some (.inr (.inr (.inl (q.1, f)))) ∧ ∀ k a, f k = some a → Γ a = some q.2) := h
    by_cases hq : q.2 = 1000
    · rw [if_pos hq] at h2 ⊢
      exact h2
    · rw [if_neg hq] at h2 ⊢
      obtain ⟨f, e1, e2⟩ := h2
      exact ⟨f, e1, fun k a hk => hm a _ (e2 k a hk)⟩
  · obtain ⟨vs, e1, e2, e3⟩ := h
    refine ⟨vs, e1, e2, fun k F hk => ?_⟩
    obtain ⟨v, f1, f2⟩ := e3 k F hk
    exact ⟨v, f1, okV_mono hm f2⟩
theorem okE_q {Γ : Nat → Option Nat} {n c : Nat} {f : Nat → Option Nat} (hc : c ≠ 1000) (h : ∀ k a, f k = some a → Γ a = some c) : okE Γ (.inr (.inl (n, c))) (some (.inr (.inr (.inl (n, f))))) := by
  show (if c = 1000 then ∃ f9 : Nat → Int64, (some (.inr (.inr (.inl (n, f)))) : Option jE) = some (.inr (.inr (.inr (1, f9)))) ∧ (n = 0 ∨ n % 18446744073709551616 = (f9 0).toUInt64.toNat) else ∃ f9 : Nat → Option Nat, (some (.inr (.inr (.inl (n, f)))) : Option jE) = some (.inr (.inr (.inl (n, f9)))) ∧ ∀ k a, f9 k = some a → Γ a = some c)
  rw [if_neg hc]
  exact ⟨f, rfl, h⟩
/-- a heap that grew by entries of their kinds -/
theorem jx_jW {g : jGh} {Γ : Nat → Option Nat} {z : Nat} {Es : List jE} {ks : List Nat} {h0 h : jH} (j : jx z Es h0 h) (hz : h0.1 = z) (w : jW (jKd g) Γ h0) (hc : jchk g (jext Γ z ks) Es ks) : jW (jKd g) (jext Γ z ks) h ∧ (∀ a c, Γ a = some c → jext Γ z ks a = some c) := by
  obtain ⟨j1, j2, j3⟩ := j
  have hm : ∀ a c, Γ a = some c → jext Γ z ks a = some c := by
    intro a c ha
    have := (w a c ha).1
    unfold jext
    rw [if_pos (by omega)]
    exact ha
  refine ⟨fun a c ha => ?_, hm⟩
  by_cases q : a < z
  · have ha2 : Γ a = some c := by
      unfold jext at ha
      rw [if_pos q] at ha
      exact ha
    refine ⟨by omega, ?_⟩
    rw [j2 a q]
    exact okE_mono hm (w a c ha2).2
  · unfold jext at ha
    rw [if_neg q] at ha
    have hlt : a - z < ks.length := (List.getElem?_eq_some_iff.mp ha).1
    have hlt2 : a - z < Es.length := by rw [← hc.1]; exact hlt
    refine ⟨by omega, ?_⟩
    have e := j3 (a - z) _ (List.getElem?_eq_getElem hlt2)
    rw [show z + (a - z) = a by omega] at e
    rw [e]
    exact hc.2 (a - z) _ c (List.getElem?_eq_getElem hlt2) ha
def kX10_init : List Nat := [10, 9, 6, 6, 6]
theorem chkX10_init {g : jGh} {Γ : Nat → Option Nat} {z : Nat}  (hL : g.1 = 0) (hb : ∀ k, g.2.1 k = 0) (hΓ : ∀ i c, kX10_init[i]? = some c → Γ (z + i) = some c)  : jchk g Γ (eX10_init z ) kX10_init := by
  refine ⟨rfl, fun i e c he hc => ?_⟩
  match i, he, hc with
  | 0, he, hc =>
    cases he; cases hc
    refine ⟨_, rfl, rfl, fun k F hk => ?_⟩
    match k, hk with
    | 0, hk => cases hk; exact ⟨_, rfl, _, rfl, hΓ 1 _ rfl⟩
    | 1, hk => cases hk; exact ⟨_, rfl, _, rfl, hΓ 2 _ rfl⟩
    | 2, hk => cases hk; exact ⟨_, rfl, _, rfl, hΓ 3 _ rfl⟩
    | 3, hk => cases hk; exact ⟨_, rfl, _, rfl, hΓ 4 _ rfl⟩
    | 4, hk => cases hk; exact ⟨_, rfl, _, rfl, ⟨by decide, by decide⟩⟩
    | 5, hk => cases hk; exact ⟨_, rfl, _, rfl, ⟨by decide, by decide⟩⟩
    | 6, hk => cases hk; exact ⟨_, rfl, _, rfl, (show (0 : Int32).toInt = g.1 from by rw [hL]; rfl)⟩
    | k + 7, hk => cases hk
  | 1, he, hc =>
    cases he; cases hc
    exact ⟨_, rfl, fun k hk => (show (0 : Int32) = g.2.1 k from (hb k).symm)⟩
  | 2, he, hc =>
    cases he; cases hc
    exact ⟨_, rfl, fun k hk => trivial⟩
  | 3, he, hc =>
    cases he; cases hc
    exact ⟨_, rfl, fun k hk => trivial⟩
  | 4, he, hc =>
    cases he; cases hc
    exact ⟨_, rfl, fun k hk => trivial⟩
  | i + 5, he, hc => cases he
def kX8_init : List Nat := [3, 0, 0, 0, 0, 2, 1]
theorem chkX8_init {g : jGh} {Γ : Nat → Option Nat} {z : Nat}  (hΓ : ∀ i c, kX8_init[i]? = some c → Γ (z + i) = some c)  : jchk g Γ (eX8_init z ) kX8_init := by
  refine ⟨rfl, fun i e c he hc => ?_⟩
  match i, he, hc with
  | 0, he, hc =>
    cases he; cases hc
    refine ⟨_, rfl, rfl, fun k F hk => ?_⟩
    match k, hk with
    | 0, hk => cases hk; exact ⟨_, rfl, _, rfl, hΓ 1 _ rfl⟩
    | 1, hk => cases hk; exact ⟨_, rfl, _, rfl, hΓ 2 _ rfl⟩
    | 2, hk => cases hk; exact ⟨_, rfl, _, rfl, hΓ 3 _ rfl⟩
    | 3, hk => cases hk; exact ⟨_, rfl, _, rfl, hΓ 4 _ rfl⟩
    | 4, hk => cases hk; exact ⟨_, rfl, _, rfl, hΓ 5 _ rfl⟩
    | 5, hk => cases hk; exact ⟨_, rfl, _, rfl, ⟨by decide, by decide⟩⟩
    | 6, hk => cases hk; exact ⟨_, rfl, _, rfl, trivial⟩
    | 7, hk => cases hk; exact ⟨_, rfl, _, rfl, trivial⟩
    | 8, hk => cases hk; exact ⟨_, rfl, _, rfl, trivial⟩
    | 9, hk => cases hk; exact ⟨_, rfl, _, rfl, trivial⟩
    | 10, hk => cases hk; exact ⟨_, rfl, _, rfl, trivial⟩
    | 11, hk => cases hk; exact ⟨_, rfl, _, rfl, trivial⟩
    | 12, hk => cases hk; exact ⟨_, rfl, _, rfl, trivial⟩
    | 13, hk => cases hk; exact ⟨_, rfl, _, rfl, trivial⟩
    | 14, hk => cases hk; exact ⟨_, rfl, _, rfl, trivial⟩
    | 15, hk => cases hk; exact ⟨_, rfl, _, rfl, trivial⟩
    | 16, hk => cases hk; exact ⟨_, rfl, _, rfl, trivial⟩
    | 17, hk => cases hk; exact ⟨_, rfl, _, rfl, trivial⟩
    | k + 18, hk => cases hk
  | 1, he, hc =>
    cases he; cases hc
    exact ⟨_, rfl, fun k hk => trivial⟩
  | 2, he, hc =>
    cases he; cases hc
    exact ⟨_, rfl, fun k hk => trivial⟩
  | 3, he, hc =>
    cases he; cases hc
    exact ⟨_, rfl, fun k hk => trivial⟩
  | 4, he, hc =>
    cases he; cases hc
    exact ⟨_, rfl, fun k hk => trivial⟩
  | 5, he, hc =>
    cases he; cases hc
    refine ⟨_, rfl, rfl, fun k F hk => ?_⟩
    match k, hk with
    | 0, hk => cases hk; exact ⟨_, rfl, _, rfl, hΓ 6 _ rfl⟩
    | 1, hk => cases hk; exact ⟨_, rfl, _, rfl, ⟨by decide, by decide⟩⟩
    | 2, hk => cases hk; exact ⟨_, rfl, _, rfl, ⟨by decide, by decide⟩⟩
    | k + 3, hk => cases hk
  | 6, he, hc =>
    cases he; cases hc
    exact ⟨_, rfl, fun k hk => trivial⟩
  | i + 7, he, hc => cases he
def kX2_init : List Nat := [8, 4, 4, 5, 6, 7]
theorem chkX2_init {g : jGh} {Γ : Nat → Option Nat} {z : Nat}  (hΓ : ∀ i c, kX2_init[i]? = some c → Γ (z + i) = some c)  : jchk g Γ (eX2_init z ) kX2_init := by
  refine ⟨rfl, fun i e c he hc => ?_⟩
  match i, he, hc with
  | 0, he, hc =>
    cases he; cases hc
    refine ⟨_, rfl, rfl, fun k F hk => ?_⟩
    match k, hk with
    | 0, hk => cases hk; exact ⟨_, rfl, _, rfl, hΓ 1 _ rfl⟩
    | 1, hk => cases hk; exact ⟨_, rfl, _, rfl, hΓ 2 _ rfl⟩
    | 2, hk => cases hk; exact ⟨_, rfl, _, rfl, hΓ 3 _ rfl⟩
    | 3, hk => cases hk; exact ⟨_, rfl, _, rfl, hΓ 4 _ rfl⟩
    | 4, hk => cases hk; exact ⟨_, rfl, _, rfl, hΓ 5 _ rfl⟩
    | 5, hk => cases hk; exact ⟨_, rfl, _, rfl, ⟨by decide, by decide⟩⟩
    | 6, hk => cases hk; exact ⟨_, rfl, _, rfl, ⟨by decide, by decide⟩⟩
    | 7, hk => cases hk; exact ⟨_, rfl, _, rfl, ⟨by decide, by decide⟩⟩
    | 8, hk => cases hk; exact ⟨_, rfl, _, rfl, ⟨by decide, by decide⟩⟩
    | k + 9, hk => cases hk
  | 1, he, hc =>
    cases he; cases hc
    exact ⟨_, rfl, fun k hk => trivial⟩
  | 2, he, hc =>
    cases he; cases hc
    exact ⟨_, rfl, fun k hk => trivial⟩
  | 3, he, hc =>
    cases he; cases hc
    exact ⟨_, rfl, fun k hk => ⟨by decide, by decide⟩⟩
  | 4, he, hc =>
    cases he; cases hc
    exact ⟨_, rfl, fun k hk => trivial⟩
  | 5, he, hc =>
    cases he; cases hc
    exact ⟨_, rfl, fun k hk => trivial⟩
  | i + 6, he, hc => cases he
def kX0_init : List Nat := [12, 11]
theorem chkX0_init {g : jGh} {Γ : Nat → Option Nat} {z : Nat}  (hΓ : ∀ i c, kX0_init[i]? = some c → Γ (z + i) = some c)  : jchk g Γ (eX0_init z ) kX0_init := by
  refine ⟨rfl, fun i e c he hc => ?_⟩
  match i, he, hc with
  | 0, he, hc =>
    cases he; cases hc
    refine ⟨_, rfl, rfl, fun k F hk => ?_⟩
    match k, hk with
    | 0, hk => cases hk; exact ⟨_, rfl, _, rfl, hΓ 1 _ rfl⟩
    | 1, hk => cases hk; exact ⟨_, rfl, _, rfl, ⟨by decide, by decide⟩⟩
    | 2, hk => cases hk; exact ⟨_, rfl, _, rfl, ⟨by decide, by decide⟩⟩
    | k + 3, hk => cases hk
  | 1, he, hc =>
    cases he; cases hc
    exact okE_q (by decide) (fun k a h => by cases h)
  | i + 2, he, hc => cases he
def kX9_init : List Nat := [13]
theorem chkX9_init {g : jGh} {Γ : Nat → Option Nat} {z : Nat} {a1 : Nat} {a2 : Nat} (hΓ : ∀ i c, kX9_init[i]? = some c → Γ (z + i) = some c) (ha1 : Γ a1 = some 10) (ha2 : Γ a2 = some 3) : jchk g Γ (eX9_init z a1 a2) kX9_init := by
  refine ⟨rfl, fun i e c he hc => ?_⟩
  match i, he, hc with
  | 0, he, hc =>
    cases he; cases hc
    refine ⟨_, rfl, rfl, fun k F hk => ?_⟩
    match k, hk with
    | 0, hk => cases hk; exact ⟨_, rfl, _, rfl, ha1⟩
    | 1, hk => cases hk; exact ⟨_, rfl, _, rfl, ⟨by decide, by decide⟩⟩
    | 2, hk => cases hk; exact ⟨_, rfl, _, rfl, ha2⟩
    | k + 3, hk => cases hk
  | i + 1, he, hc => cases he
def kX3_init : List Nat := [14]
theorem chkX3_init {g : jGh} {Γ : Nat → Option Nat} {z : Nat} {a1 : Nat} {a2 : Nat} (hΓ : ∀ i c, kX3_init[i]? = some c → Γ (z + i) = some c) (ha1 : Γ a1 = some 10) (ha2 : Γ a2 = some 8) : jchk g Γ (eX3_init z a1 a2) kX3_init := by
  refine ⟨rfl, fun i e c he hc => ?_⟩
  match i, he, hc with
  | 0, he, hc =>
    cases he; cases hc
    refine ⟨_, rfl, rfl, fun k F hk => ?_⟩
    match k, hk with
    | 0, hk => cases hk; exact ⟨_, rfl, _, rfl, ha1⟩
    | 1, hk => cases hk; exact ⟨_, rfl, _, rfl, ⟨by decide, by decide⟩⟩
    | 2, hk => cases hk; exact ⟨_, rfl, _, rfl, ha2⟩
    | k + 3, hk => cases hk
  | i + 1, he, hc => cases he
def kX1_init : List Nat := [15]
theorem chkX1_init {g : jGh} {Γ : Nat → Option Nat} {z : Nat} {a1 : Nat} {a2 : Nat} (hΓ : ∀ i c, kX1_init[i]? = some c → Γ (z + i) = some c) (ha1 : Γ a1 = some 8) (ha2 : Γ a2 = some 3) : jchk g Γ (eX1_init z a1 a2) kX1_init := by
  refine ⟨rfl, fun i e c he hc => ?_⟩
  match i, he, hc with
  | 0, he, hc =>
    cases he; cases hc
    refine ⟨_, rfl, rfl, fun k F hk => ?_⟩
    match k, hk with
    | 0, hk => cases hk; exact ⟨_, rfl, _, rfl, ha1⟩
    | 1, hk => cases hk; exact ⟨_, rfl, _, rfl, ha2⟩
    | k + 2, hk => cases hk
  | i + 1, he, hc => cases he
def kX7_init : List Nat := [18, 16, 17]
theorem chkX7_init {g : jGh} {Γ : Nat → Option Nat} {z : Nat} {a1 : Nat} {a2 : Nat} (hΓ : ∀ i c, kX7_init[i]? = some c → Γ (z + i) = some c) (ha1 : Γ a1 = some 10) (ha2 : Γ a2 = some 3) : jchk g Γ (eX7_init z a1 a2) kX7_init := by
  refine ⟨rfl, fun i e c he hc => ?_⟩
  match i, he, hc with
  | 0, he, hc =>
    cases he; cases hc
    refine ⟨_, rfl, rfl, fun k F hk => ?_⟩
    match k, hk with
    | 0, hk => cases hk; exact ⟨_, rfl, _, rfl, ha1⟩
    | 1, hk => cases hk; exact ⟨_, rfl, _, rfl, ha2⟩
    | 2, hk => cases hk; exact ⟨_, rfl, _, rfl, hΓ 1 _ rfl⟩
    | 3, hk => cases hk; exact ⟨_, rfl, _, rfl, hΓ 2 _ rfl⟩
    | 4, hk => cases hk; exact ⟨_, rfl, _, rfl, ⟨by decide, by decide⟩⟩
    | 5, hk => cases hk; exact ⟨_, rfl, _, rfl, trivial⟩
    | 6, hk => cases hk; exact ⟨_, rfl, _, rfl, trivial⟩
    | k + 7, hk => cases hk
  | 1, he, hc =>
    cases he; cases hc
    exact ⟨_, rfl, fun k hk => trivial⟩
  | 2, he, hc =>
    cases he; cases hc
    exact ⟨_, rfl, fun k hk => trivial⟩
  | i + 3, he, hc => cases he
def kX12_init : List Nat := [20, 21, 22, 23, 24, 25, 26, 27, 28, 29, 30, 31]
theorem chkX12_init {g : jGh} {Γ : Nat → Option Nat} {z : Nat}  (hL2 : g.2.2.1 = 0) (hlw : ∀ k, g.2.2.2.1 k = 0) (h4 : ∀ k, g.2.2.2.2.1 k = 0) (h5 : ∀ k, g.2.2.2.2.2.1 k = 0) (h6 : g.2.2.2.2.2.2.2.2 = 0) (hΓ : ∀ i c, kX12_init[i]? = some c → Γ (z + i) = some c)  : jchk g Γ (eX12_init z ) kX12_init := by
  refine ⟨rfl, fun i e c he hc => ?_⟩
  match i, he, hc with
  | 0, he, hc =>
    cases he; cases hc
    refine ⟨_, rfl, rfl, fun k F hk => ?_⟩
    match k, hk with
    | 0, hk => cases hk; exact ⟨_, rfl, _, rfl, trivial⟩
    | 1, hk => cases hk; exact ⟨_, rfl, _, rfl, hΓ 1 _ rfl⟩
    | 2, hk => cases hk; exact ⟨_, rfl, _, rfl, hΓ 2 _ rfl⟩
    | 3, hk => cases hk; exact ⟨_, rfl, _, rfl, hΓ 3 _ rfl⟩
    | 4, hk => cases hk; exact ⟨_, rfl, _, rfl, hΓ 4 _ rfl⟩
    | 5, hk => cases hk; exact ⟨_, rfl, _, rfl, hΓ 5 _ rfl⟩
    | 6, hk => cases hk; exact ⟨_, rfl, _, rfl, ⟨h6.symm, Or.inl rfl⟩⟩
    | 7, hk => cases hk; exact ⟨_, rfl, _, rfl, ⟨by decide, by decide⟩⟩
    | 8, hk => cases hk; exact ⟨_, rfl, _, rfl, hΓ 6 _ rfl⟩
    | 9, hk => cases hk; exact ⟨_, rfl, _, rfl, (show (0 : Int32).toInt = g.2.2.1 from by rw [hL2]; rfl)⟩
    | 10, hk => cases hk; exact ⟨_, rfl, _, rfl, ⟨by decide, by decide⟩⟩
    | 11, hk => cases hk; exact ⟨_, rfl, _, rfl, ⟨by decide, by decide⟩⟩
    | 12, hk => cases hk; exact ⟨_, rfl, _, rfl, ⟨by decide, by decide⟩⟩
    | 13, hk => cases hk; exact ⟨_, rfl, _, rfl, trivial⟩
    | 14, hk => cases hk; exact ⟨_, rfl, _, rfl, trivial⟩
    | 15, hk => cases hk; exact ⟨_, rfl, _, rfl, hΓ 7 _ rfl⟩
    | 16, hk => cases hk; exact ⟨_, rfl, _, rfl, ⟨by decide, by decide⟩⟩
    | 17, hk => cases hk; exact ⟨_, rfl, _, rfl, hΓ 8 _ rfl⟩
    | 18, hk => cases hk; exact ⟨_, rfl, _, rfl, trivial⟩
    | 19, hk => cases hk; exact ⟨_, rfl, _, rfl, hΓ 9 _ rfl⟩
    | 20, hk => cases hk; exact ⟨_, rfl, _, rfl, hΓ 10 _ rfl⟩
    | 21, hk => cases hk; exact ⟨_, rfl, _, rfl, hΓ 11 _ rfl⟩
    | k + 22, hk => cases hk
  | 1, he, hc =>
    cases he; cases hc
    exact ⟨_, rfl, fun k hk => jR_w0 hlw⟩
  | 2, he, hc =>
    cases he; cases hc
    exact ⟨_, rfl, fun k hk => ⟨jR3_0, Or.inr (h5 k).symm⟩⟩
  | 3, he, hc =>
    cases he; cases hc
    exact ⟨_, rfl, fun k hk => ⟨jR3_0, Or.inr (h4 k).symm⟩⟩
  | 4, he, hc =>
    cases he; cases hc
    exact ⟨_, rfl, fun k hk => jR3_0⟩
  | 5, he, hc =>
    cases he; cases hc
    exact ⟨_, rfl, fun k hk => jR3_0⟩
  | 6, he, hc =>
    cases he; cases hc
    exact ⟨_, rfl, fun k hk => ⟨by decide, by decide⟩⟩
  | 7, he, hc =>
    cases he; cases hc
    exact ⟨_, rfl, fun k hk => trivial⟩
  | 8, he, hc =>
    cases he; cases hc
    exact ⟨_, rfl, fun k hk => trivial⟩
  | 9, he, hc =>
    cases he; cases hc
    exact ⟨_, rfl, fun k hk => trivial⟩
  | 10, he, hc =>
    cases he; cases hc
    exact ⟨_, rfl, fun k hk => trivial⟩
  | 11, he, hc =>
    cases he; cases hc
    exact ⟨_, rfl, fun k hk => trivial⟩
  | i + 12, he, hc => cases he
/-! the first heap -/
def kX11_init : List Nat := 19 :: ((((((((((kX10_init) ++ kX8_init) ++ kX2_init) ++ kX0_init) ++ kX8_init) ++ kX2_init) ++ kX9_init) ++ kX3_init) ++ kX1_init) ++ kX7_init)
theorem jbeg_sub {Γ : Nat → Option Nat} {z b : Nat} {ks ls : List Nat} (hΓ : ∀ i c, ks[i]? = some c → Γ (z + i) = some c) (hs : ∀ i c, ls[i]? = some c → ks[b + i]? = some c) : ∀ i c, ls[i]? = some c → Γ (z + b + i) = some c := fun i c h => by
  rw [Nat.add_assoc]
  exact hΓ (b + i) c (hs i c h)
theorem jsubl {ks ls : List Nat} {b : Nat} (h : (ks.drop b).take ls.length = ls) : ∀ i c, ls[i]? = some c → ks[b + i]? = some c := fun i c hi => by
  have hlt : i < ls.length := (List.getElem?_eq_some_iff.mp hi).1
  rw [← h, List.getElem?_take_of_lt hlt, List.getElem?_drop] at hi
  exact hi
theorem chkX11_init {g : jGh} {Γ : Nat → Option Nat} {z : Nat} (hL : g.1 = 0) (hb : ∀ k, g.2.1 k = 0) (hu0 : g.2.2.2.2.2.2.1 = 0) (hv0 : g.2.2.2.2.2.2.2.1 = 0) (hΓ : ∀ i c, kX11_init[i]? = some c → Γ (z + i) = some c) : jchk g Γ (eX11_init z) kX11_init := by
  have s1 := jbeg_sub (b := 1) hΓ (jsubl (ls := kX10_init) (by decide))
  have s6 := jbeg_sub (b := 6) hΓ (jsubl (ls := kX8_init) (by decide))
  have s13 := jbeg_sub (b := 13) hΓ (jsubl (ls := kX2_init) (by decide))
  have s19 := jbeg_sub (b := 19) hΓ (jsubl (ls := kX0_init) (by decide))
  have s21 := jbeg_sub (b := 21) hΓ (jsubl (ls := kX8_init) (by decide))
  have s28 := jbeg_sub (b := 28) hΓ (jsubl (ls := kX2_init) (by decide))
  have s34 := jbeg_sub (b := 34) hΓ (jsubl (ls := kX9_init) (by decide))
  have s35 := jbeg_sub (b := 35) hΓ (jsubl (ls := kX3_init) (by decide))
  have s36 := jbeg_sub (b := 36) hΓ (jsubl (ls := kX1_init) (by decide))
  have s37 := jbeg_sub (b := 37) hΓ (jsubl (ls := kX7_init) (by decide))
  have a1 : Γ (z + 1) = some 10 := s1 0 _ rfl
  have a13 : Γ (z + 13) = some 8 := s13 0 _ rfl
  have a21 : Γ (z + 21) = some 3 := s21 0 _ rfl
  have a28 : Γ (z + 28) = some 8 := s28 0 _ rfl
  refine jchk_cons ?_ (jchk_app (jchk_app (jchk_app (jchk_app (jchk_app (jchk_app (jchk_app (jchk_app (jchk_app (chkX10_init hL hb s1) (chkX8_init s6)) (chkX2_init s13)) (chkX0_init s19)) (chkX8_init s21)) (chkX2_init s28)) (chkX9_init s34 a1 a21)) (chkX3_init s35 a1 a28)) (chkX1_init s36 a13 a21)) (chkX7_init s37 a1 a21))
  refine ⟨_, rfl, rfl, fun k F hk => ?_⟩
  match k, hk with
  | 0, hk => cases hk; exact ⟨_, rfl, _, rfl, a1⟩
  | 1, hk => cases hk; exact ⟨_, rfl, _, rfl, hΓ 6 _ rfl⟩
  | 2, hk => cases hk; exact ⟨_, rfl, _, rfl, a13⟩
  | 3, hk => cases hk; exact ⟨_, rfl, _, rfl, hΓ 19 _ rfl⟩
  | 4, hk => cases hk; exact ⟨_, rfl, _, rfl, a21⟩
  | 5, hk => cases hk; exact ⟨_, rfl, _, rfl, a28⟩
  | 6, hk => cases hk; exact ⟨_, rfl, _, rfl, hΓ 34 _ rfl⟩
  | 7, hk => cases hk; exact ⟨_, rfl, _, rfl, hΓ 35 _ rfl⟩
  | 8, hk => cases hk; exact ⟨_, rfl, _, rfl, hΓ 36 _ rfl⟩
  | 9, hk => cases hk; exact ⟨_, rfl, _, rfl, hΓ 37 _ rfl⟩
  | 10, hk => cases hk; exact ⟨_, rfl, by rw [if_pos hu0]; exact Or.inl rfl⟩
  | 11, hk => cases hk; exact ⟨_, rfl, by rw [if_pos hv0]; exact Or.inl rfl⟩
  | 12, hk => cases hk; exact ⟨_, rfl, _, rfl, trivial⟩
  | k + 13, hk => cases hk
theorem okE_l {Γ : Nat → Option Nat} {f : Nat → Int64} : okE Γ (.inr (.inl (0, 1000))) (some (.inr (.inr (.inr (1, f))))) := by
  show (if (1000 : Nat) = 1000 then ∃ f9 : Nat → Int64, (some (.inr (.inr (.inr (1, f)))) : Option jE) = some (.inr (.inr (.inr (1, f9)))) ∧ ((0 : Nat) = 0 ∨ (0 : Nat) % 18446744073709551616 = (f9 0).toUInt64.toNat) else ∃ f9 : Nat → Option Nat, (some (.inr (.inr (.inr (1, f)))) : Option jE) = some (.inr (.inr (.inl (0, f9)))) ∧ ∀ k a, f9 k = some a → Γ a = some 1000)
  rw [if_pos rfl]
  exact ⟨f, rfl, Or.inl rfl⟩
/-- an image is kept by both sides, or by neither -/
def jIm (g : jGh) : Prop := (g.2.2.2.2.2.2.1 = 0 ↔ g.2.2.2.2.2.2.2.2 = 0) ∧ (g.2.2.2.2.2.2.2.1 = 0 ↔ g.2.2.2.2.2.2.2.2 = 0)
/-- the invariant of the law's loop: both sides' heaps of their kinds, both tapes of one length -/
def jInv (x m out : Nat) (h : jH) : Prop := ∃ (g : jGh) (Γ : Nat → Option Nat), jgok g ∧ jW (jKd g) Γ h ∧ Γ x = some 19 ∧ Γ m = some 20 ∧ Γ out = some 40 ∧ (∀ a b c : Nat, 9 ≤ c → Γ a = some c → Γ b = some c → a = b) ∧ (∀ b, Γ b ≠ some 41) ∧ g.1 = g.2.2.1 ∧ jIm g
def jg0 : jGh := (0, fun _ => 0, 0, fun _ => 0, fun _ => 0, fun _ => 0, 0, 0, 0)
theorem jlaw0 : jlawOK (fun _ => 0) := by
  refine ⟨by show (0 : Int) ≤ (0 : Int32).toInt; decide, by show (0 : Int32).toInt ≤ 12; decide, fun i hi => ?_⟩
  have hi : (i : Int) < (0 : Int32).toInt := hi
  have e : (0 : Int32).toInt = 0 := rfl
  omega
theorem jg0_ok : jgok jg0 := ⟨⟨by decide, by decide⟩, by decide, by decide, jlaw0⟩
def jks : List Nat := kX11_init ++ (kX12_init ++ [40])
theorem juniq : ∀ i j c : Nat, 9 ≤ c → jks[i]? = some c → jks[j]? = some c → i = j := by
  have h : ∀ i, i < jks.length → ∀ j, j < jks.length → 9 ≤ jks.getD i 0 → jks.getD i 0 = jks.getD j 0 → i = j := by decide +kernel
  intro i j c hc hi hj
  have h1 := (List.getElem?_eq_some_iff.mp hi).1
  have h2 := (List.getElem?_eq_some_iff.mp hj).1
  have e1 : jks.getD i 0 = c := by rw [List.getD_eq_getElem?_getD, hi]; rfl
  have e2 : jks.getD j 0 = c := by rw [List.getD_eq_getElem?_getD, hj]; rfl
  exact h i h1 j h2 (by rw [e1]; exact hc) (by rw [e1, e2])
theorem jbegin_ok {n z : Nat} : jBegin n (z, fun _ => none) jInv := by
  obtain ⟨h1, e1, j1⟩ := I_X11_init (n := n) (h := (z, fun _ => none))
  obtain ⟨h2, e2, j2⟩ := I_X12_init (n := n) (h := h1)
  refine ⟨h1, e1, h2, e2, jg0, jext (fun _ => none) z jks, jg0_ok, ?_, ?_, ?_, ?_, ?_, ?_, rfl, Iff.rfl, Iff.rfl⟩
  · have hz : h1.1 = z + (eX11_init z).length := j1.1
    have j2' : jx (z + (eX11_init z).length) (eX12_init (z + 40)) h1 h2 := by
      have j3 := j2
      rw [hz] at j3
      exact j3
    have j4 := jx_nw (jx_cat j1 j2') (.inr (.inr (.inr (1, fun _ => 0))))
    rw [List.append_assoc] at j4
    refine (jx_jW (ks := jks) j4 rfl (fun a c h => by cases h) ?_).1
    have hΓ : ∀ i c, jks[i]? = some c → jext (fun _ => none) z jks (z + i) = some c := fun i c h => jext_at h
    refine jchk_app (chkX11_init rfl (fun _ => rfl) rfl rfl (fun i c h => hΓ i c (by unfold jks; rw [List.getElem?_append_left (List.getElem?_eq_some_iff.mp h).1]; exact h))) (jchk_app (chkX12_init rfl (fun _ => rfl) (fun _ => rfl) (fun _ => rfl) rfl (jbeg_sub (b := 40) hΓ (jsubl (by decide)))) ?_)
    refine jchk_cons ?_ ⟨rfl, fun i e c he _ => by cases he⟩
    exact okE_l
  · exact jext_at (i := 0) rfl
  · have hz : h1.1 = z + 40 := j1.1
    rw [hz]
    exact jext_at (i := 40) rfl
  · have hz : h1.1 = z + 40 := j1.1
    have hz2 : h2.1 = z + 52 := by rw [j2.1, hz]; rfl
    rw [hz2]
    exact jext_at (i := 52) rfl
  · intro a b c hc ha hb
    unfold jext at ha hb
    by_cases qa : a < z
    · rw [if_pos qa] at ha; cases ha
    · by_cases qb : b < z
      · rw [if_pos qb] at hb; cases hb
      · rw [if_neg qa] at ha
        rw [if_neg qb] at hb
        have := juniq _ _ c hc ha hb
        omega
  · intro b q
    unfold jext at q
    by_cases qb : b < z
    · rw [if_pos qb] at q; cases q
    · rw [if_neg qb] at q
      have h9 : ∀ i, i < jks.length → jks.getD i 0 ≠ 41 := by decide +kernel
      have h1 := (List.getElem?_eq_some_iff.mp q).1
      exact h9 _ h1 (by rw [List.getD_eq_getElem?_getD, q]; rfl)
end
