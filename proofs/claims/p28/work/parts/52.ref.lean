theorem S_X12_lets_48 {g : jGh} {Γ : Nat → Option Nat} {n : Nat} (hn : 6000 ≤ n) (hg : jgok g) : ∀ (k : Nat) {a0 : Nat} {x1 x2 x3 x4 r : Int32} {h : jH}, jW (jKd g) Γ h → Γ a0 = some 20 → 0 ≤ x4.toInt → x4.toInt ≤ 8 → 8 - x4.toInt < k → F_X12_rings n a0 h = some r → 1 ≤ r.toInt → jok (F_X12_lets_48 n k a0 x1 x2 x3 x4 h) (fun q => jW (jKd g) Γ q.2)
  | 0, a0, x1, x2, x3, x4, r, h, w, ta, l4, u4, hk, er, hr => by omega
  | k + 1, a0, x1, x2, x3, x4, r, h, w, ta, l4, u4, hk, er, hr => by
    show jok (F_X12_lets_48_b n (F_X12_lets_48 n k) a0 x1 x2 x3 x4 h) _
    unfold F_X12_lets_48_b
    have e1 : (1 : Int32).toInt = 1 := rfl
    have e5 : (5 : Int32).toInt = 5 := rfl
    obtain ⟨r2, er2, l2⟩ := S_X12_rings hn hg w ta
    cases er.symm.trans er2
    have hz : ¬ r = 0 := fun q => by rw [q] at hr; exact absurd hr (by decide)
    rw [t_cv w ta rfl]
    refine jok_r er (jok_le (fun c => ?_) (fun c => ?_))
    · try rw [t_cv w ta rfl]
      refine jok_r er ?_
      rw [if_neg hz]
      try rw [t_cv w ta rfl]
      refine jok_r er ?_
      rw [if_neg hz]
      have hl : ∀ {a b c d e : Int32}, jok (F_X12_lets_103 n a b c d e h) (fun q => jW (jKd g) Γ q.2) := by
        intro a b c d e
        unfold F_X12_lets_103
        exact jok_if (fun _ => jok_if (fun _ => jok_s w) (fun _ => jok_s w)) (fun _ => jok_s w)
      exact jok_if (fun _ => hl) (fun _ => hl)
    · rw [t_cv w ta rfl]
      refine jok_b (S_X12_of hn hg w ta (by omega) (by omega) (by omega) (by omega)) (fun v62 _ => ?_)
      have ea : (x4 + (1 : Int32)).toInt = x4.toInt + 1 := by rw [jadd (by omega) (by omega), e1]
      exact S_X12_lets_48 hn hg k w ta (by omega) (by omega) (by omega) er hr
theorem S_X12_lets_34 {g : jGh} {Γ : Nat → Option Nat} {n a0 : Nat} {x1 x2 s1 r : Int32} {h : jH} (hn : 6000 ≤ n) (hg : jgok g) (w : jW (jKd g) Γ h) (ta0 : Γ a0 = some 20) (hs : s1 = 0 ∨ s1 = 1) (er : F_X12_rings n a0 h = some r) (hr : 1 ≤ r.toInt) : jok (F_X12_lets_34 n a0 x1 x2 a0 s1 h) (fun q => jW (jKd g) Γ q.2) := by
  unfold F_X12_lets_34
  rw [t_cv w ta0 rfl]
  have hb : 0 ≤ s1.toInt ∧ s1.toInt ≤ 1 := by rcases hs with rfl | rfl <;> decide
  refine jok_b2 (S_X12_throwsIf hn hg w ta0 hb.1 hb.2) (fun q35 e35 w35 => ?_)
  obtain ⟨w35, -⟩ := w35
  rcases hs with rfl | rfl
  · have eh := jthr0 e35
    obtain ⟨r35, h35⟩ := q35
    have eh : h35 = h := eh
    subst eh
    exact jok_if (fun _ => S_X12_lets_48 hn hg n w35 ta0 (by decide) (by decide) (by show 8 - (0 : Int) < _; omega) er hr) (fun _ => jok_s w35)
  · rw [if_neg (by rw [jthr1 e35]; decide)]
    exact jok_s w35
theorem S_X12_lets {g : jGh} {Γ : Nat → Option Nat} {n a0 : Nat} {x1 x2 : Int32} {h : jH} (hn : 6000 ≤ n) (hg : jgok g) (w : jW (jKd g) Γ h) (ta0 : Γ a0 = some 20) : jok (F_X12_lets n a0 x1 x2 h) (fun q => jW (jKd g) Γ q.2) := by
  have ez : (0 : Int32).toInt = 0 := rfl
  have eo : (1 : Int32).toInt = 1 := rfl
  unfold F_X12_lets
  refine jok_b (t_pI w ta0 rfl rfl trivial) (fun h2 w2 => ?_)
  obtain ⟨w2, -, -⟩ := w2
  rw [t_cv w2 ta0 rfl]
  refine jok_b2 (S_X12_noRing hn hg w2 ta0) (fun v8 e8 l8 => ?_)
  rw [t_cv w2 ta0 rfl]
  refine jok_b2 (S_X12_throwsIf hn hg w2 ta0 (by omega) (by omega)) (fun q12 e12 w12 => ?_)
  obtain ⟨w12, l12⟩ := w12
  have l12 : q12.1.toInt = v8.toInt := l12
  refine jok_eq (fun c _ => ?_) (fun _ => jok_s w12)
  rw [ez] at c
  have z8 : v8 = 0 := Int32.toInt_inj.mp (by omega)
  subst z8
  have eh := jthr0 e12
  obtain ⟨r12, h12⟩ := q12
  have eh : h12 = h2 := eh
  subst eh
  -- there is a ring
  obtain ⟨r, er, lr⟩ := S_X12_rings hn hg w12 ta0
  have hr : 1 ≤ r.toInt := by
    unfold F_X12_noRing F_X12_lastRing at e8
    rw [t_cv w12 ta0 rfl, t_cv w12 ta0 rfl, er] at e8
    have e8 : ((F_X12_in n x1 0 (r - 1) h12).bind fun v6 => if v6 = 0 then some (1 : Int32) else some 0) = some 0 := e8
    obtain ⟨v6, q6, e8⟩ := jbind e8
    obtain ⟨v9, q9, l9⟩ := S_X12_in (x0 := x1) (x1 := 0) (x2 := r - 1) hn hg w12
    cases q6.symm.trans q9
    have es : (r - (1 : Int32)).toInt = r.toInt - 1 := by rw [jsub (by omega) (by omega), eo]
    by_cases c6 : v6 = 0
    · rw [if_pos c6] at e8
      cases e8
    · have : v6.toInt ≠ 0 := fun q => c6 (Int32.toInt_inj.mp (by rw [q]; rfl))
      omega
  refine jok_b (S_X12_in hn hg w12) (fun v23 _ => ?_)
  exact jok_if (fun _ => S_X12_lets_34 hn hg w12 ta0 (Or.inr rfl) er hr) (fun _ => S_X12_lets_34 hn hg w12 ta0 (Or.inl rfl) er hr)
set_option maxHeartbeats 1000000 in
theorem S_X12_snags_36 {g : jGh} {Γ : Nat → Option Nat} {n : Nat} (hn : 6000 ≤ n) (hg : jgok g)  (k : Nat) : ∀ {a0 : Nat} {x1 : Int32} {x2 : Int32} {x3 : Int32} {x4 : Int32} {h : jH}, jW (jKd g) Γ h → (Γ a0 = some 20) → (0 ≤ x4.toInt) → (x4.toInt ≤ 128) → (128 : Int) - x4.toInt < (k : Int) → jok (F_X12_snags_36 n k a0 x1 x2 x3 x4 h) (fun q => jW (jKd g) Γ q.2 ∧ (fun v : Int32 => True) q.1) := by
  induction k with
  | zero =>
    intro a0 x1 x2 x3 x4 h w ta0 lx4 ux4 mk
    omega
  | succ k ih =>
    intro a0 x1 x2 x3 x4 h w ta0 lx4 ux4 mk
    show jok (F_X12_snags_36_b n (F_X12_snags_36 n k) a0 x1 x2 x3 x4 h) _
    unfold F_X12_snags_36_b
    try rw [t_cv w ta0 rfl]
    refine jok_b (S_X12_thatCanCatch hn hg w ta0) (fun v39_1 pv39_1 => ?_)
    obtain ⟨lv39_1, uv39_1⟩ := pv39_1
    refine jok_lt (fun c2 => ?_) (fun c2 => ?_)
    · have f3 : ((0 : Int32)).toInt = 0 := rfl
      refine jok_eq (fun c4 d4 => ?_) (fun c4 => ?_)
      · exact jok_s ⟨w, trivial⟩
      · refine jok_eq (fun c5 d5 => ?_) (fun c5 => ?_)
        · exact jok_s ⟨w, trivial⟩
        · exact jok_s ⟨w, trivial⟩
    · try rw [t_cv w ta0 rfl]
      refine jok_b (S_X12_fits hn hg w ta0) (fun q48_6 wq48_6 => ?_)
      obtain ⟨wq48_6, pq48_6⟩ := wq48_6
      obtain ⟨lq48_6, uq48_6⟩ := pq48_6
      have f7 : ((0 : Int32)).toInt = 0 := rfl
      refine jok_eq (fun c8 d8 => ?_) (fun c8 => ?_)
      · have f9 : ((1 : Int32)).toInt = 1 := rfl
        have f10 : ((x4 + (1 : Int32))).toInt = (x4).toInt + ((1 : Int32)).toInt := jadd (by omega) (by omega)
        exact ih wq48_6 ta0 (by omega) (by omega) (by omega)
      · have f11 : ((1 : Int32)).toInt = 1 := rfl
        have f12 : ((x4 + (1 : Int32))).toInt = (x4).toInt + ((1 : Int32)).toInt := jadd (by omega) (by omega)
        exact ih wq48_6 ta0 (by omega) (by omega) (by omega)
set_option maxHeartbeats 1000000 in
theorem S_X12_snags {g : jGh} {Γ : Nat → Option Nat} {n : Nat} {a0 : Nat} {x1 : Int32} {h : jH} (hn : 6000 ≤ n) (hg : jgok g) (w : jW (jKd g) Γ h) (ta0 : Γ a0 = some 20) (hu : ∀ a b c, 9 ≤ c → Γ a = some c → Γ b = some c → a = b) : jok (F_X12_snags n a0 x1 h) (fun q => jW (jKd (g.1, g.2.1, (0 : Int32).toInt, g.2.2.2)) Γ q.2 ∧ (fun v : Int32 => True) q.1) := by
  unfold F_X12_snags
  try rw [t_cv w ta0 rfl]
  refine jok_b (S_X12_uses hg w ta0 hu) (fun h1_1 wh1_1 => ?_)
  have hgh1_1 : jgok (g.1, g.2.1, (0 : Int32).toInt, g.2.2.2) := ⟨hg.1, by show (0 : Int) ≤ (0 : Int32).toInt; decide, by show (0 : Int32).toInt ≤ 400; decide, hg.2.2.2⟩
  try rw [t_cv wh1_1 ta0 rfl]
  refine jok_b (S_X12_isTold hn hgh1_1 wh1_1 ta0) (fun v6_2 pv6_2 => ?_)
  obtain ⟨lv6_2, uv6_2⟩ := pv6_2
  have f3 : ((0 : Int32)).toInt = 0 := rfl
  refine jok_eq (fun c4 d4 => ?_) (fun c4 => ?_)
  · unfold F_X12_snags_17
    try rw [t_cv wh1_1 ta0 rfl]
    have f6 : ((1 : Int32)).toInt = 1 := rfl
    refine jok_b (S_X12_throwsIf hn hgh1_1 wh1_1 ta0 (by omega) (by omega)) (fun q18_5 wq18_5 => ?_)
    obtain ⟨wq18_5, pq18_5⟩ := wq18_5
    have pq18_5_9 := pq18_5
    try dsimp only at pq18_5_9
    refine jok_eq (fun c7 d7 => ?_) (fun c7 => ?_)
    · try rw [t_cv wq18_5 ta0 rfl]
      refine jok_b (S_X12_thatCanCatch hn hgh1_1 wq18_5 ta0) (fun v29_8 pv29_8 => ?_)
      obtain ⟨lv29_8, uv29_8⟩ := pv29_8
      exact S_X12_snags_36 hn hgh1_1  n wq18_5 ta0 (by omega) (by omega) (by omega)
    · exact jok_s ⟨wq18_5, trivial⟩
  · unfold F_X12_snags_17
    try rw [t_cv wh1_1 ta0 rfl]
    refine jok_b (S_X12_throwsIf hn hgh1_1 wh1_1 ta0 (by omega) (by omega)) (fun q18_9 wq18_9 => ?_)
    obtain ⟨wq18_9, pq18_9⟩ := wq18_9
    have f10 : ((1 : Int32)).toInt = 1 := rfl
    have pq18_9_9 := pq18_9
    try dsimp only at pq18_9_9
    refine jok_eq (fun c11 d11 => ?_) (fun c11 => ?_)
    · try rw [t_cv wq18_9 ta0 rfl]
      refine jok_b (S_X12_thatCanCatch hn hgh1_1 wq18_9 ta0) (fun v29_12 pv29_12 => ?_)
      obtain ⟨lv29_12, uv29_12⟩ := pv29_12
      exact S_X12_snags_36 hn hgh1_1  n wq18_9 ta0 (by omega) (by omega) (by omega)
    · exact jok_s ⟨wq18_9, trivial⟩
set_option maxHeartbeats 1000000 in
theorem S_X12_tries_81 {g : jGh} {Γ : Nat → Option Nat} {n : Nat} (hn : 6000 ≤ n) (hg : jgok g)  (k : Nat) : ∀ {a0 : Nat} {x1 : Int32} {x2 : Int32} {x3 : Int32} {x4 : Int32} {h : jH}, jW (jKd g) Γ h → (Γ a0 = some 20) → (0 ≤ x4.toInt) → (x4.toInt ≤ 16) → (16 : Int) - x4.toInt < (k : Int) → jok (F_X12_tries_81 n k a0 x1 x2 x3 x4 h) (fun q => jW (jKd g) Γ q.2 ∧ (fun v : Int32 => True) q.1) := by
  induction k with
  | zero =>
    intro a0 x1 x2 x3 x4 h w ta0 lx4 ux4 mk
    omega
  | succ k ih =>
    intro a0 x1 x2 x3 x4 h w ta0 lx4 ux4 mk
    show jok (F_X12_tries_81_b n (F_X12_tries_81 n k) a0 x1 x2 x3 x4 h) _
    unfold F_X12_tries_81_b
    try rw [t_cv w ta0 rfl]
    refine jok_b2 (S_X12_rings hn hg w ta0) (fun v85_1 ev85_1 pv85_1 => ?_)
    obtain ⟨lv85_1, uv85_1⟩ := pv85_1
    have f2 : ((2 : Int32)).toInt = 2 := rfl
    have f3 : (((2 : Int32) * v85_1)).toInt = 2 * (v85_1).toInt := jmulL (c := 2) (by omega) (by omega) (by omega)
    refine jok_le (fun c4 => ?_) (fun c4 => ?_)
    · exact jok_s ⟨w, trivial⟩
    · have f5 : ((1 : Int32)).toInt = 1 := rfl
      refine jok_le (fun c6 => ?_) (fun c6 => ?_)
      · exact jok_s ⟨w, trivial⟩
      · have f7 : ((x4 / (2 : Int32))).toInt = (x4).toInt / 2 := jdivL (c := 2) (by omega) rfl (by decide)
        have f8 : (((x4 / (2 : Int32)) * (2 : Int32))).toInt = 2 * ((x4 / (2 : Int32))).toInt := jmulR (c := 2) (by omega) (by omega) (by omega)
        have f9 : ((x4 - ((x4 / (2 : Int32)) * (2 : Int32)))).toInt = (x4).toInt - (((x4 / (2 : Int32)) * (2 : Int32))).toInt := jsub (by omega) (by omega)
        refine jok_eq (fun c10 d10 => ?_) (fun c10 => ?_)
        · unfold F_X12_tries_115
          try rw [t_cv w ta0 rfl]
          refine jok_b (S_X12_partBy hn hg w ta0 (by omega) (by omega)) (fun q115_11 wq115_11 => ?_)
          obtain ⟨wq115_11, pq115_11⟩ := wq115_11
          refine jok_le (fun c12 => ?_) (fun c12 => ?_)
          · unfold F_X12_tries_132
            have f13 : ((x4 + (1 : Int32))).toInt = (x4).toInt + ((1 : Int32)).toInt := jadd (by omega) (by omega)
            exact ih wq115_11 ta0 (by omega) (by omega) (by omega)
          · unfold F_X12_tries_132
            have f14 : ((x4 + (1 : Int32))).toInt = (x4).toInt + ((1 : Int32)).toInt := jadd (by omega) (by omega)
            exact ih wq115_11 ta0 (by omega) (by omega) (by omega)
        · unfold F_X12_tries_115
          try rw [t_cv w ta0 rfl]
          refine jok_b (S_X12_partBy hn hg w ta0 (by omega) (by omega)) (fun q115_15 wq115_15 => ?_)
          obtain ⟨wq115_15, pq115_15⟩ := wq115_15
          refine jok_le (fun c16 => ?_) (fun c16 => ?_)
          · unfold F_X12_tries_132
            have f17 : ((x4 + (1 : Int32))).toInt = (x4).toInt + ((1 : Int32)).toInt := jadd (by omega) (by omega)
            exact ih wq115_15 ta0 (by omega) (by omega) (by omega)
          · unfold F_X12_tries_132
            have f18 : ((x4 + (1 : Int32))).toInt = (x4).toInt + ((1 : Int32)).toInt := jadd (by omega) (by omega)
            exact ih wq115_15 ta0 (by omega) (by omega) (by omega)
set_option maxHeartbeats 1000000 in
theorem S_X12_tries_30 {g : jGh} {Γ : Nat → Option Nat} {n : Nat} (hn : 6000 ≤ n) (hg : jgok g)  (k : Nat) : ∀ {a0 : Nat} {x1 : Int32} {x2 : Int32} {h : jH}, jW (jKd g) Γ h → (Γ a0 = some 20) → (0 ≤ x2.toInt) → (x2.toInt ≤ 128) → (128 : Int) - x2.toInt < (k : Int) → jok (F_X12_tries_30 n k a0 x1 x2 h) (fun q => jW (jKd g) Γ q.2 ∧ (fun v : Int32 => True) q.1) := by
  induction k with
  | zero =>
    intro a0 x1 x2 h w ta0 lx2 ux2 mk
    omega
  | succ k ih =>
    intro a0 x1 x2 h w ta0 lx2 ux2 mk
    show jok (F_X12_tries_30_b n (F_X12_tries_30 n k) a0 x1 x2 h) _
    unfold F_X12_tries_30_b
    try rw [t_cv w ta0 rfl]
    refine jok_b (S_X12_thatCanCatch hn hg w ta0) (fun v32_1 pv32_1 => ?_)
    obtain ⟨lv32_1, uv32_1⟩ := pv32_1
    refine jok_lt (fun c2 => ?_) (fun c2 => ?_)
    · have f3 : ((0 : Int32)).toInt = 0 := rfl
      exact S_X12_tries_81 hn hg  n w ta0 (by omega) (by omega) (by omega)
    · refine jok_b (t_gR w ta0 rfl rfl) (fun p39_4 tp39_4 => ?_)
      try rw [t_cv w ta0 rfl]
      refine jok_b (S_X12_fits hn hg w ta0) (fun q45_5 wq45_5 => ?_)
      obtain ⟨wq45_5, pq45_5⟩ := wq45_5
      obtain ⟨lq45_5, uq45_5⟩ := pq45_5
      refine jok_b (t_as wq45_5 tp39_4 rfl (by omega) (by omega) trivial (fun _ => j01 (by omega) (by omega))) (fun h48_6 wh48_6 => ?_)
      obtain ⟨wh48_6, rh48_6⟩ := wh48_6
      refine jok_b (t_gR wh48_6 ta0 rfl rfl) (fun p51_7 tp51_7 => ?_)
      refine jok_b (t_al wh48_6 tp51_7 rfl (by omega) (by omega)) (fun v55_8 pv55_8 => ?_)
      have f9 : ((0 : Int32)).toInt = 0 := rfl
      refine jok_eq (fun c10 d10 => ?_) (fun c10 => ?_)
      · have f11 : ((1 : Int32)).toInt = 1 := rfl
        have f12 : ((x2 + (1 : Int32))).toInt = (x2).toInt + ((1 : Int32)).toInt := jadd (by omega) (by omega)
        exact ih wh48_6 ta0 (by omega) (by omega) (by omega)
      · have f13 : ((1 : Int32)).toInt = 1 := rfl
        have f14 : ((x2 + (1 : Int32))).toInt = (x2).toInt + ((1 : Int32)).toInt := jadd (by omega) (by omega)
        exact ih wh48_6 ta0 (by omega) (by omega) (by omega)
set_option maxHeartbeats 1000000 in
theorem S_X12_tries {g : jGh} {Γ : Nat → Option Nat} {n : Nat} {a0 : Nat} {h : jH} (hn : 6000 ≤ n) (hg : jgok g) (w : jW (jKd g) Γ h) (ta0 : Γ a0 = some 20) (hu : ∀ a b c, 9 ≤ c → Γ a = some c → Γ b = some c → a = b) : jok (F_X12_tries n a0 h) (fun q => jW (jKd (g.1, g.2.1, (0 : Int32).toInt, g.2.2.2)) Γ q.2 ∧ (fun v : Int32 => True) q.1) := by
  unfold F_X12_tries
  try rw [t_cv w ta0 rfl]
  refine jok_b (S_X12_uses hg w ta0 hu) (fun h1_1 wh1_1 => ?_)
  have hgh1_1 : jgok (g.1, g.2.1, (0 : Int32).toInt, g.2.2.2) := ⟨hg.1, by show (0 : Int) ≤ (0 : Int32).toInt; decide, by show (0 : Int32).toInt ≤ 400; decide, hg.2.2.2⟩
  try rw [t_cv wh1_1 ta0 rfl]
  refine jok_b (S_X12_isTold hn hgh1_1 wh1_1 ta0) (fun v6_2 pv6_2 => ?_)
  obtain ⟨lv6_2, uv6_2⟩ := pv6_2
  have f3 : ((0 : Int32)).toInt = 0 := rfl
  refine jok_eq (fun c4 d4 => ?_) (fun c4 => ?_)
  · unfold F_X12_tries_17
    try rw [t_cv wh1_1 ta0 rfl]
    have f6 : ((1 : Int32)).toInt = 1 := rfl
    refine jok_b (S_X12_throwsIf hn hgh1_1 wh1_1 ta0 (by omega) (by omega)) (fun q18_5 wq18_5 => ?_)
    obtain ⟨wq18_5, pq18_5⟩ := wq18_5
    have pq18_5_9 := pq18_5
    try dsimp only at pq18_5_9
    refine jok_eq (fun c7 d7 => ?_) (fun c7 => ?_)
    · exact S_X12_tries_30 hn hgh1_1  n wq18_5 ta0 (by omega) (by omega) (by omega)
    · exact jok_s ⟨wq18_5, trivial⟩
  · unfold F_X12_tries_17
    try rw [t_cv wh1_1 ta0 rfl]
    refine jok_b (S_X12_throwsIf hn hgh1_1 wh1_1 ta0 (by omega) (by omega)) (fun q18_8 wq18_8 => ?_)
    obtain ⟨wq18_8, pq18_8⟩ := wq18_8
    have f9 : ((1 : Int32)).toInt = 1 := rfl
    have pq18_8_9 := pq18_8
    try dsimp only at pq18_8_9
    refine jok_eq (fun c10 d10 => ?_) (fun c10 => ?_)
    · exact S_X12_tries_30 hn hgh1_1  n wq18_8 ta0 (by omega) (by omega) (by omega)
    · exact jok_s ⟨wq18_8, trivial⟩
