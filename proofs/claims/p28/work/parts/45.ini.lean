/-! what constructors make: entries one behind another from z on -/
def jx (z : Nat) (Es : List jE) (h0 h : jH) : Prop := h.1 = z + Es.length ∧ (∀ b, b < z → h.2 b = h0.2 b) ∧ ∀ (i : Nat) (e : jE), Es[i]? = some e → h.2 (z + i) = some e
theorem jx_one {h : jH} {e : jE} : jx h.1 [e] h (jnew h e) := by
  refine ⟨rfl, fun b hb => ?_, fun i e2 hi => ?_⟩
  · show (if b = h.1 then some e else h.2 b) = _
    rw [if_neg (by omega)]
  · cases i with
    | zero =>
      cases hi
      show (if h.1 + 0 = h.1 then some e else h.2 (h.1 + 0)) = _
      exact if_pos rfl
    | succ i => cases hi
theorem jx_nw {z : Nat} {Es : List jE} {h0 h : jH} (j : jx z Es h0 h) (e : jE) : jx z (Es ++ [e]) h0 (jnew h e) := by
  obtain ⟨j1, j2, j3⟩ := j
  refine ⟨?_, fun b hb => ?_, fun i e2 hi => ?_⟩
  · show h.1 + 1 = _
    rw [List.length_append, j1]
    rfl
  · show (if b = h.1 then some e else h.2 b) = _
    rw [if_neg (by omega)]
    exact j2 b hb
  · show (if z + i = h.1 then some e else h.2 (z + i)) = _
    by_cases q : i < Es.length
    · rw [List.getElem?_append_left q] at hi
      rw [if_neg (by omega)]
      exact j3 i e2 hi
    · rw [List.getElem?_append_right (by omega)] at hi
      have hz : i - Es.length < 1 := (List.getElem?_eq_some_iff.mp hi).1
      rw [if_pos (by omega)]
      rw [show i - Es.length = 0 by omega] at hi
      exact hi
theorem jx_up {z i : Nat} {Es : List jE} {h0 h : jH} (j : jx z Es h0 h) {e e2 : jE} (hi : Es[i]? = some e) : jx z (Es.set i e2) h0 (jup h (z + i) e2) := by
  obtain ⟨j1, j2, j3⟩ := j
  have hlt : i < Es.length := (List.getElem?_eq_some_iff.mp hi).1
  refine ⟨by rw [List.length_set]; exact j1, fun b hb => ?_, fun k e3 hk => ?_⟩
  · show (if b = z + i then some e2 else h.2 b) = _
    rw [if_neg (by omega)]
    exact j2 b hb
  · show (if z + k = z + i then some e2 else h.2 (z + k)) = _
    by_cases q : k = i
    · subst q
      rw [if_pos rfl]
      rw [List.getElem?_set_self hlt] at hk
      exact hk
    · rw [if_neg (by omega)]
      rw [List.getElem?_set_ne (Ne.symm q)] at hk
      exact j3 k e3 hk
theorem jx_pf {z i ci k a : Nat} {Es : List jE} {h0 h : jH} {vs : List Value} {v : Value} (j : jx z Es h0 h) (hi : Es[i]? = some (.inl (ci, vs))) (hk : k < vs.length) (ha : a = z + i) : ∃ h1, jpf ci h a k v = some h1 ∧ jx z (Es.set i (.inl (ci, vs.set k v))) h0 h1 := by
  subst ha
  refine ⟨jup h (z + i) (.inl (ci, vs.set k v)), ?_, jx_up j hi⟩
  unfold jpf
  rw [j.2.2 i _ hi]
  dsimp only
  rw [if_pos ⟨rfl, hk⟩]
theorem jx_as {z i a N : Nat} {Es : List jE} {h0 h : jH} {f : Nat → Int32} {x y : Int32} (j : jx z Es h0 h) (hi : Es[i]? = some (.inr (.inl (0, N, f)))) (h1 : 0 ≤ x.toInt) (h2 : x.toInt < (N : Int)) (ha : a = z + i) : ∃ h1, jas 0 h a x y = some h1 ∧ jx z (Es.set i (.inr (.inl (0, N, upd f x.toNatClampNeg y)))) h0 h1 := by
  subst ha
  refine ⟨jup h (z + i) (.inr (.inl (0, N, upd f x.toNatClampNeg y))), ?_, jx_up j hi⟩
  unfold jas
  rw [j.2.2 i _ hi]
  dsimp only
  rw [if_pos ⟨rfl, jnoob h1 h2, fun q => by cases q⟩]
  rfl
theorem jx_gR {z i ci k a b : Nat} {Es : List jE} {h0 h : jH} {vs : List Value} (j : jx z Es h0 h) (hi : Es[i]? = some (.inl (ci, vs))) (hk : vs[k]? = some (.ref b)) (ha : a = z + i) : jgR ci h a k = some b := by
  subst ha
  have e : jgf ci h (z + i) k = some (.ref b) := by
    unfold jgf
    rw [j.2.2 i _ hi]
    dsimp only
    rw [if_pos rfl]
    exact hk
  unfold jgR
  rw [e]
theorem jx_cat {z : Nat} {Es Fs : List jE} {h0 h q : jH} (j : jx z Es h0 h) (k : jx (z + Es.length) Fs h q) : jx z (Es ++ Fs) h0 q := by
  obtain ⟨j1, j2, j3⟩ := j
  obtain ⟨k1, k2, k3⟩ := k
  refine ⟨by rw [k1, List.length_append]; omega, fun b hb => (k2 b (by omega)).trans (j2 b hb), fun i e hi => ?_⟩
  by_cases q : i < Es.length
  · rw [List.getElem?_append_left q] at hi
    rw [k2 (z + i) (by omega)]
    exact j3 i e hi
  · rw [List.getElem?_append_right (by omega)] at hi
    have := k3 _ _ hi
    rw [show z + Es.length + (i - Es.length) = z + i by omega] at this
    exact this
def eX5_init (z : Nat)  : List jE := [.inl (4, [.ref (z + 1), .int 0, .int 0]), .inr (.inl (0, 60, fun _ => 0))]
set_option maxHeartbeats 1000000 in
theorem I_X5_init {n : Nat}  {h : jH} : jok (F_X5_init n h.1  (jnew h (.inl (4, [.null, .int 0, .int 0])))) (fun q => jx h.1 (eX5_init h.1 ) h q) := by
  unfold F_X5_init
  have j : jx h.1 [.inl (4, [.null, .int 0, .int 0])] h (jnew h (.inl (4, [.null, .int 0, .int 0]))) := jx_one
  generalize jnew h (.inl (4, [.null, .int 0, .int 0])) = h_0 at j ⊢
  obtain ⟨z, hz⟩ : ∃ z, z = h.1 := ⟨_, rfl⟩
  rw [← hz] at j ⊢
  have sz : h_0.1 = z + 1 := j.1
  refine jok_r (rfl : jnw h_0 _ = some (jnew h_0 _)) ?_
  try rw [sz]
  clear sz
  replace j : jx z [.inl (4, [.null, .int 0, .int 0]), .inr (.inl (0, 60, fun _ => 0))] h (jnew h_0 (.inr (.inl (0, 60, fun _ => 0)))) := jx_nw j _
  generalize jnew h_0 (.inr (.inl (0, 60, fun _ => 0))) = h_1 at j ⊢
  obtain ⟨h_2, e9, j9⟩ := jx_pf (i := 0) (ci := 4) (k := 0) (v := .ref (z + 1)) j rfl (by exact Nat.le_of_ble_eq_true rfl) rfl
  refine jok_r e9 ?_
  clear e9 j
  have j : jx z [.inl (4, [.ref (z + 1), .int 0, .int 0]), .inr (.inl (0, 60, fun _ => 0))] h h_2 := j9
  clear j9
  subst hz
  exact jok_s j
def eX8_init (z : Nat)  : List jE := [.inl (6, [.ref (z + 1), .ref (z + 2), .ref (z + 3), .ref (z + 4), .ref (z + 5), .int 0, .int 0, .int 0, .int 0, .int 0, .int 0, .int 16, .int 8, .int 0, .int 0, .int 0, .int 1, .int 0]), .inr (.inl (0, 8, fun _ => 0)), .inr (.inl (0, 8, fun _ => 0)), .inr (.inl (0, 8, fun _ => 0)), .inr (.inl (0, 8, fun _ => 0)), .inl (4, [.ref (z + 6), .int 0, .int 0]), .inr (.inl (0, 60, fun _ => 0))]
set_option maxHeartbeats 1000000 in
theorem I_X8_init {n : Nat}  {h : jH} : jok (F_X8_init n h.1  (jnew h (.inl (6, [.null, .null, .null, .null, .null, .int 0, .int 0, .int 0, .int 0, .int 0, .int 0, .int 0, .int 0, .int 0, .int 0, .int 0, .int 0, .int 0])))) (fun q => jx h.1 (eX8_init h.1 ) h q) := by
  unfold F_X8_init
  have j : jx h.1 [.inl (6, [.null, .null, .null, .null, .null, .int 0, .int 0, .int 0, .int 0, .int 0, .int 0, .int 0, .int 0, .int 0, .int 0, .int 0, .int 0, .int 0])] h (jnew h (.inl (6, [.null, .null, .null, .null, .null, .int 0, .int 0, .int 0, .int 0, .int 0, .int 0, .int 0, .int 0, .int 0, .int 0, .int 0, .int 0, .int 0]))) := jx_one
  generalize jnew h (.inl (6, [.null, .null, .null, .null, .null, .int 0, .int 0, .int 0, .int 0, .int 0, .int 0, .int 0, .int 0, .int 0, .int 0, .int 0, .int 0, .int 0])) = h_0 at j ⊢
  obtain ⟨z, hz⟩ : ∃ z, z = h.1 := ⟨_, rfl⟩
  rw [← hz] at j ⊢
  have sz : h_0.1 = z + 1 := j.1
  refine jok_r (rfl : jnw h_0 _ = some (jnew h_0 _)) ?_
  try rw [sz]
  clear sz
  replace j : jx z [.inl (6, [.null, .null, .null, .null, .null, .int 0, .int 0, .int 0, .int 0, .int 0, .int 0, .int 0, .int 0, .int 0, .int 0, .int 0, .int 0, .int 0]), .inr (.inl (0, 8, fun _ => 0))] h (jnew h_0 (.inr (.inl (0, 8, fun _ => 0)))) := jx_nw j _
  generalize jnew h_0 (.inr (.inl (0, 8, fun _ => 0))) = h_1 at j ⊢
  obtain ⟨h_2, e9, j9⟩ := jx_pf (i := 0) (ci := 6) (k := 0) (v := .ref (z + 1)) j rfl (by exact Nat.le_of_ble_eq_true rfl) rfl
  refine jok_r e9 ?_
  clear e9 j
  have j : jx z [.inl (6, [.ref (z + 1), .null, .null, .null, .null, .int 0, .int 0, .int 0, .int 0, .int 0, .int 0, .int 0, .int 0, .int 0, .int 0, .int 0, .int 0, .int 0]), .inr (.inl (0, 8, fun _ => 0))] h h_2 := j9
  clear j9
  have sz : h_2.1 = z + 2 := j.1
  refine jok_r (rfl : jnw h_2 _ = some (jnew h_2 _)) ?_
  try rw [sz]
  clear sz
  replace j : jx z [.inl (6, [.ref (z + 1), .null, .null, .null, .null, .int 0, .int 0, .int 0, .int 0, .int 0, .int 0, .int 0, .int 0, .int 0, .int 0, .int 0, .int 0, .int 0]), .inr (.inl (0, 8, fun _ => 0)), .inr (.inl (0, 8, fun _ => 0))] h (jnew h_2 (.inr (.inl (0, 8, fun _ => 0)))) := jx_nw j _
  generalize jnew h_2 (.inr (.inl (0, 8, fun _ => 0))) = h_3 at j ⊢
  obtain ⟨h_4, e9, j9⟩ := jx_pf (i := 0) (ci := 6) (k := 1) (v := .ref (z + 2)) j rfl (by exact Nat.le_of_ble_eq_true rfl) rfl
  refine jok_r e9 ?_
  clear e9 j
  have j : jx z [.inl (6, [.ref (z + 1), .ref (z + 2), .null, .null, .null, .int 0, .int 0, .int 0, .int 0, .int 0, .int 0, .int 0, .int 0, .int 0, .int 0, .int 0, .int 0, .int 0]), .inr (.inl (0, 8, fun _ => 0)), .inr (.inl (0, 8, fun _ => 0))] h h_4 := j9
  clear j9
  have sz : h_4.1 = z + 3 := j.1
  refine jok_r (rfl : jnw h_4 _ = some (jnew h_4 _)) ?_
  try rw [sz]
  clear sz
  replace j : jx z [.inl (6, [.ref (z + 1), .ref (z + 2), .null, .null, .null, .int 0, .int 0, .int 0, .int 0, .int 0, .int 0, .int 0, .int 0, .int 0, .int 0, .int 0, .int 0, .int 0]), .inr (.inl (0, 8, fun _ => 0)), .inr (.inl (0, 8, fun _ => 0)), .inr (.inl (0, 8, fun _ => 0))] h (jnew h_4 (.inr (.inl (0, 8, fun _ => 0)))) := jx_nw j _
  generalize jnew h_4 (.inr (.inl (0, 8, fun _ => 0))) = h_5 at j ⊢
  obtain ⟨h_6, e9, j9⟩ := jx_pf (i := 0) (ci := 6) (k := 2) (v := .ref (z + 3)) j rfl (by exact Nat.le_of_ble_eq_true rfl) rfl
  refine jok_r e9 ?_
  clear e9 j
  have j : jx z [.inl (6, [.ref (z + 1), .ref (z + 2), .ref (z + 3), .null, .null, .int 0, .int 0, .int 0, .int 0, .int 0, .int 0, .int 0, .int 0, .int 0, .int 0, .int 0, .int 0, .int 0]), .inr (.inl (0, 8, fun _ => 0)), .inr (.inl (0, 8, fun _ => 0)), .inr (.inl (0, 8, fun _ => 0))] h h_6 := j9
  clear j9
  have sz : h_6.1 = z + 4 := j.1
  refine jok_r (rfl : jnw h_6 _ = some (jnew h_6 _)) ?_
  try rw [sz]
  clear sz
  replace j : jx z [.inl (6, [.ref (z + 1), .ref (z + 2), .ref (z + 3), .null, .null, .int 0, .int 0, .int 0, .int 0, .int 0, .int 0, .int 0, .int 0, .int 0, .int 0, .int 0, .int 0, .int 0]), .inr (.inl (0, 8, fun _ => 0)), .inr (.inl (0, 8, fun _ => 0)), .inr (.inl (0, 8, fun _ => 0)), .inr (.inl (0, 8, fun _ => 0))] h (jnew h_6 (.inr (.inl (0, 8, fun _ => 0)))) := jx_nw j _
  generalize jnew h_6 (.inr (.inl (0, 8, fun _ => 0))) = h_7 at j ⊢
  obtain ⟨h_8, e9, j9⟩ := jx_pf (i := 0) (ci := 6) (k := 3) (v := .ref (z + 4)) j rfl (by exact Nat.le_of_ble_eq_true rfl) rfl
  refine jok_r e9 ?_
  clear e9 j
  have j : jx z [.inl (6, [.ref (z + 1), .ref (z + 2), .ref (z + 3), .ref (z + 4), .null, .int 0, .int 0, .int 0, .int 0, .int 0, .int 0, .int 0, .int 0, .int 0, .int 0, .int 0, .int 0, .int 0]), .inr (.inl (0, 8, fun _ => 0)), .inr (.inl (0, 8, fun _ => 0)), .inr (.inl (0, 8, fun _ => 0)), .inr (.inl (0, 8, fun _ => 0))] h h_8 := j9
  clear j9
  have sz : h_8.1 = z + 5 := j.1
  refine jok_r (rfl : jnw h_8 _ = some (jnew h_8 _)) ?_
  refine jok_b (I_X5_init (h := h_8)) (fun h_9 j9 => ?_)
  rw [sz] at j9
  try rw [sz]
  clear sz
  have j : jx z [.inl (6, [.ref (z + 1), .ref (z + 2), .ref (z + 3), .ref (z + 4), .null, .int 0, .int 0, .int 0, .int 0, .int 0, .int 0, .int 0, .int 0, .int 0, .int 0, .int 0, .int 0, .int 0]), .inr (.inl (0, 8, fun _ => 0)), .inr (.inl (0, 8, fun _ => 0)), .inr (.inl (0, 8, fun _ => 0)), .inr (.inl (0, 8, fun _ => 0)), .inl (4, [.ref (z + 6), .int 0, .int 0]), .inr (.inl (0, 60, fun _ => 0))] h h_9 := jx_cat j j9
  clear j9
  obtain ⟨h_10, e9, j9⟩ := jx_pf (i := 0) (ci := 6) (k := 4) (v := .ref (z + 5)) j rfl (by exact Nat.le_of_ble_eq_true rfl) rfl
  refine jok_r e9 ?_
  clear e9 j
  have j : jx z [.inl (6, [.ref (z + 1), .ref (z + 2), .ref (z + 3), .ref (z + 4), .ref (z + 5), .int 0, .int 0, .int 0, .int 0, .int 0, .int 0, .int 0, .int 0, .int 0, .int 0, .int 0, .int 0, .int 0]), .inr (.inl (0, 8, fun _ => 0)), .inr (.inl (0, 8, fun _ => 0)), .inr (.inl (0, 8, fun _ => 0)), .inr (.inl (0, 8, fun _ => 0)), .inl (4, [.ref (z + 6), .int 0, .int 0]), .inr (.inl (0, 60, fun _ => 0))] h h_10 := j9
  clear j9
  obtain ⟨h_11, e9, j9⟩ := jx_pf (i := 0) (ci := 6) (k := 11) (v := .int 16) j rfl (by exact Nat.le_of_ble_eq_true rfl) rfl
  refine jok_r e9 ?_
  clear e9 j
  have j : jx z [.inl (6, [.ref (z + 1), .ref (z + 2), .ref (z + 3), .ref (z + 4), .ref (z + 5), .int 0, .int 0, .int 0, .int 0, .int 0, .int 0, .int 16, .int 0, .int 0, .int 0, .int 0, .int 0, .int 0]), .inr (.inl (0, 8, fun _ => 0)), .inr (.inl (0, 8, fun _ => 0)), .inr (.inl (0, 8, fun _ => 0)), .inr (.inl (0, 8, fun _ => 0)), .inl (4, [.ref (z + 6), .int 0, .int 0]), .inr (.inl (0, 60, fun _ => 0))] h h_11 := j9
  clear j9
  obtain ⟨h_12, e9, j9⟩ := jx_pf (i := 0) (ci := 6) (k := 12) (v := .int 8) j rfl (by exact Nat.le_of_ble_eq_true rfl) rfl
  refine jok_r e9 ?_
  clear e9 j
  have j : jx z [.inl (6, [.ref (z + 1), .ref (z + 2), .ref (z + 3), .ref (z + 4), .ref (z + 5), .int 0, .int 0, .int 0, .int 0, .int 0, .int 0, .int 16, .int 8, .int 0, .int 0, .int 0, .int 0, .int 0]), .inr (.inl (0, 8, fun _ => 0)), .inr (.inl (0, 8, fun _ => 0)), .inr (.inl (0, 8, fun _ => 0)), .inr (.inl (0, 8, fun _ => 0)), .inl (4, [.ref (z + 6), .int 0, .int 0]), .inr (.inl (0, 60, fun _ => 0))] h h_12 := j9
  clear j9
  obtain ⟨h_13, e9, j9⟩ := jx_pf (i := 0) (ci := 6) (k := 16) (v := .int 1) j rfl (by exact Nat.le_of_ble_eq_true rfl) rfl
  refine jok_r e9 ?_
  clear e9 j
  have j : jx z [.inl (6, [.ref (z + 1), .ref (z + 2), .ref (z + 3), .ref (z + 4), .ref (z + 5), .int 0, .int 0, .int 0, .int 0, .int 0, .int 0, .int 16, .int 8, .int 0, .int 0, .int 0, .int 1, .int 0]), .inr (.inl (0, 8, fun _ => 0)), .inr (.inl (0, 8, fun _ => 0)), .inr (.inl (0, 8, fun _ => 0)), .inr (.inl (0, 8, fun _ => 0)), .inl (4, [.ref (z + 6), .int 0, .int 0]), .inr (.inl (0, 60, fun _ => 0))] h h_13 := j9
  clear j9
  subst hz
  exact jok_s j
def eX2_init (z : Nat)  : List jE := [.inl (2, [.ref (z + 1), .ref (z + 2), .ref (z + 3), .ref (z + 4), .ref (z + 5), .int 0, .int 0, .int 0, .int 0]), .inr (.inl (0, 12, fun _ => 0)), .inr (.inl (0, 12, fun _ => 0)), .inr (.inl (0, 12, fun _ => 0)), .inr (.inl (0, 400, fun _ => 0)), .inr (.inl (0, 24, fun _ => 0))]
set_option maxHeartbeats 1000000 in
theorem I_X2_init {n : Nat}  {h : jH} : jok (F_X2_init n h.1  (jnew h (.inl (2, [.null, .null, .null, .null, .null, .int 0, .int 0, .int 0, .int 0])))) (fun q => jx h.1 (eX2_init h.1 ) h q) := by
  unfold F_X2_init
  have j : jx h.1 [.inl (2, [.null, .null, .null, .null, .null, .int 0, .int 0, .int 0, .int 0])] h (jnew h (.inl (2, [.null, .null, .null, .null, .null, .int 0, .int 0, .int 0, .int 0]))) := jx_one
  generalize jnew h (.inl (2, [.null, .null, .null, .null, .null, .int 0, .int 0, .int 0, .int 0])) = h_0 at j ⊢
  obtain ⟨z, hz⟩ : ∃ z, z = h.1 := ⟨_, rfl⟩
  rw [← hz] at j ⊢
  have sz : h_0.1 = z + 1 := j.1
  refine jok_r (rfl : jnw h_0 _ = some (jnew h_0 _)) ?_
  try rw [sz]
  clear sz
  replace j : jx z [.inl (2, [.null, .null, .null, .null, .null, .int 0, .int 0, .int 0, .int 0]), .inr (.inl (0, 12, fun _ => 0))] h (jnew h_0 (.inr (.inl (0, 12, fun _ => 0)))) := jx_nw j _
  generalize jnew h_0 (.inr (.inl (0, 12, fun _ => 0))) = h_1 at j ⊢
  obtain ⟨h_2, e9, j9⟩ := jx_pf (i := 0) (ci := 2) (k := 0) (v := .ref (z + 1)) j rfl (by exact Nat.le_of_ble_eq_true rfl) rfl
  refine jok_r e9 ?_
  clear e9 j
  have j : jx z [.inl (2, [.ref (z + 1), .null, .null, .null, .null, .int 0, .int 0, .int 0, .int 0]), .inr (.inl (0, 12, fun _ => 0))] h h_2 := j9
  clear j9
  have sz : h_2.1 = z + 2 := j.1
  refine jok_r (rfl : jnw h_2 _ = some (jnew h_2 _)) ?_
  try rw [sz]
  clear sz
  replace j : jx z [.inl (2, [.ref (z + 1), .null, .null, .null, .null, .int 0, .int 0, .int 0, .int 0]), .inr (.inl (0, 12, fun _ => 0)), .inr (.inl (0, 12, fun _ => 0))] h (jnew h_2 (.inr (.inl (0, 12, fun _ => 0)))) := jx_nw j _
  generalize jnew h_2 (.inr (.inl (0, 12, fun _ => 0))) = h_3 at j ⊢
  obtain ⟨h_4, e9, j9⟩ := jx_pf (i := 0) (ci := 2) (k := 1) (v := .ref (z + 2)) j rfl (by exact Nat.le_of_ble_eq_true rfl) rfl
  refine jok_r e9 ?_
  clear e9 j
  have j : jx z [.inl (2, [.ref (z + 1), .ref (z + 2), .null, .null, .null, .int 0, .int 0, .int 0, .int 0]), .inr (.inl (0, 12, fun _ => 0)), .inr (.inl (0, 12, fun _ => 0))] h h_4 := j9
  clear j9
  have sz : h_4.1 = z + 3 := j.1
  refine jok_r (rfl : jnw h_4 _ = some (jnew h_4 _)) ?_
  try rw [sz]
  clear sz
  replace j : jx z [.inl (2, [.ref (z + 1), .ref (z + 2), .null, .null, .null, .int 0, .int 0, .int 0, .int 0]), .inr (.inl (0, 12, fun _ => 0)), .inr (.inl (0, 12, fun _ => 0)), .inr (.inl (0, 12, fun _ => 0))] h (jnew h_4 (.inr (.inl (0, 12, fun _ => 0)))) := jx_nw j _
  generalize jnew h_4 (.inr (.inl (0, 12, fun _ => 0))) = h_5 at j ⊢
  obtain ⟨h_6, e9, j9⟩ := jx_pf (i := 0) (ci := 2) (k := 2) (v := .ref (z + 3)) j rfl (by exact Nat.le_of_ble_eq_true rfl) rfl
  refine jok_r e9 ?_
  clear e9 j
  have j : jx z [.inl (2, [.ref (z + 1), .ref (z + 2), .ref (z + 3), .null, .null, .int 0, .int 0, .int 0, .int 0]), .inr (.inl (0, 12, fun _ => 0)), .inr (.inl (0, 12, fun _ => 0)), .inr (.inl (0, 12, fun _ => 0))] h h_6 := j9
  clear j9
  have sz : h_6.1 = z + 4 := j.1
  refine jok_r (rfl : jnw h_6 _ = some (jnew h_6 _)) ?_
  try rw [sz]
  clear sz
  replace j : jx z [.inl (2, [.ref (z + 1), .ref (z + 2), .ref (z + 3), .null, .null, .int 0, .int 0, .int 0, .int 0]), .inr (.inl (0, 12, fun _ => 0)), .inr (.inl (0, 12, fun _ => 0)), .inr (.inl (0, 12, fun _ => 0)), .inr (.inl (0, 400, fun _ => 0))] h (jnew h_6 (.inr (.inl (0, 400, fun _ => 0)))) := jx_nw j _
  generalize jnew h_6 (.inr (.inl (0, 400, fun _ => 0))) = h_7 at j ⊢
  obtain ⟨h_8, e9, j9⟩ := jx_pf (i := 0) (ci := 2) (k := 3) (v := .ref (z + 4)) j rfl (by exact Nat.le_of_ble_eq_true rfl) rfl
  refine jok_r e9 ?_
  clear e9 j
  have j : jx z [.inl (2, [.ref (z + 1), .ref (z + 2), .ref (z + 3), .ref (z + 4), .null, .int 0, .int 0, .int 0, .int 0]), .inr (.inl (0, 12, fun _ => 0)), .inr (.inl (0, 12, fun _ => 0)), .inr (.inl (0, 12, fun _ => 0)), .inr (.inl (0, 400, fun _ => 0))] h h_8 := j9
  clear j9
  have sz : h_8.1 = z + 5 := j.1
  refine jok_r (rfl : jnw h_8 _ = some (jnew h_8 _)) ?_
  try rw [sz]
  clear sz
  replace j : jx z [.inl (2, [.ref (z + 1), .ref (z + 2), .ref (z + 3), .ref (z + 4), .null, .int 0, .int 0, .int 0, .int 0]), .inr (.inl (0, 12, fun _ => 0)), .inr (.inl (0, 12, fun _ => 0)), .inr (.inl (0, 12, fun _ => 0)), .inr (.inl (0, 400, fun _ => 0)), .inr (.inl (0, 24, fun _ => 0))] h (jnew h_8 (.inr (.inl (0, 24, fun _ => 0)))) := jx_nw j _
  generalize jnew h_8 (.inr (.inl (0, 24, fun _ => 0))) = h_9 at j ⊢
  obtain ⟨h_10, e9, j9⟩ := jx_pf (i := 0) (ci := 2) (k := 4) (v := .ref (z + 5)) j rfl (by exact Nat.le_of_ble_eq_true rfl) rfl
  refine jok_r e9 ?_
  clear e9 j
  have j : jx z [.inl (2, [.ref (z + 1), .ref (z + 2), .ref (z + 3), .ref (z + 4), .ref (z + 5), .int 0, .int 0, .int 0, .int 0]), .inr (.inl (0, 12, fun _ => 0)), .inr (.inl (0, 12, fun _ => 0)), .inr (.inl (0, 12, fun _ => 0)), .inr (.inl (0, 400, fun _ => 0)), .inr (.inl (0, 24, fun _ => 0))] h h_10 := j9
  clear j9
  subst hz
  exact jok_s j
def eX0_init (z : Nat)  : List jE := [.inl (0, [.ref (z + 1), .int 0, .int 0]), .inr (.inr (.inl (12, fun _ => none)))]
set_option maxHeartbeats 1000000 in
theorem I_X0_init {n : Nat}  {h : jH} : jok (F_X0_init n h.1  (jnew h (.inl (0, [.null, .int 0, .int 0])))) (fun q => jx h.1 (eX0_init h.1 ) h q) := by
  unfold F_X0_init
  have j : jx h.1 [.inl (0, [.null, .int 0, .int 0])] h (jnew h (.inl (0, [.null, .int 0, .int 0]))) := jx_one
  generalize jnew h (.inl (0, [.null, .int 0, .int 0])) = h_0 at j ⊢
  obtain ⟨z, hz⟩ : ∃ z, z = h.1 := ⟨_, rfl⟩
  rw [← hz] at j ⊢
  have sz : h_0.1 = z + 1 := j.1
  refine jok_r (rfl : jnw h_0 _ = some (jnew h_0 _)) ?_
  try rw [sz]
  clear sz
  replace j : jx z [.inl (0, [.null, .int 0, .int 0]), .inr (.inr (.inl (12, fun _ => none)))] h (jnew h_0 (.inr (.inr (.inl (12, fun _ => none))))) := jx_nw j _
  generalize jnew h_0 (.inr (.inr (.inl (12, fun _ => none)))) = h_1 at j ⊢
  obtain ⟨h_2, e9, j9⟩ := jx_pf (i := 0) (ci := 0) (k := 0) (v := .ref (z + 1)) j rfl (by exact Nat.le_of_ble_eq_true rfl) rfl
  refine jok_r e9 ?_
  clear e9 j
  have j : jx z [.inl (0, [.ref (z + 1), .int 0, .int 0]), .inr (.inr (.inl (12, fun _ => none)))] h h_2 := j9
  clear j9
  subst hz
  exact jok_s j
def eX10_init (z : Nat)  : List jE := [.inl (8, [.ref (z + 1), .ref (z + 2), .ref (z + 3), .ref (z + 4), .int 0, .int 0, .int 0]), .inr (.inl (1, 400, fun _ => 0)), .inr (.inl (0, 400, fun _ => 0)), .inr (.inl (0, 400, fun _ => 0)), .inr (.inl (0, 400, fun _ => 0))]
set_option maxHeartbeats 1000000 in
theorem I_X10_init {n : Nat}  {h : jH} : jok (F_X10_init n h.1  (jnew h (.inl (8, [.null, .null, .null, .null, .int 0, .int 0, .int 0])))) (fun q => jx h.1 (eX10_init h.1 ) h q) := by
  unfold F_X10_init
  have j : jx h.1 [.inl (8, [.null, .null, .null, .null, .int 0, .int 0, .int 0])] h (jnew h (.inl (8, [.null, .null, .null, .null, .int 0, .int 0, .int 0]))) := jx_one
  generalize jnew h (.inl (8, [.null, .null, .null, .null, .int 0, .int 0, .int 0])) = h_0 at j ⊢
  obtain ⟨z, hz⟩ : ∃ z, z = h.1 := ⟨_, rfl⟩
  rw [← hz] at j ⊢
  have sz : h_0.1 = z + 1 := j.1
  refine jok_r (rfl : jnw h_0 _ = some (jnew h_0 _)) ?_
  try rw [sz]
  clear sz
  replace j : jx z [.inl (8, [.null, .null, .null, .null, .int 0, .int 0, .int 0]), .inr (.inl (1, 400, fun _ => 0))] h (jnew h_0 (.inr (.inl (1, 400, fun _ => 0)))) := jx_nw j _
  generalize jnew h_0 (.inr (.inl (1, 400, fun _ => 0))) = h_1 at j ⊢
  obtain ⟨h_2, e9, j9⟩ := jx_pf (i := 0) (ci := 8) (k := 0) (v := .ref (z + 1)) j rfl (by exact Nat.le_of_ble_eq_true rfl) rfl
  refine jok_r e9 ?_
  clear e9 j
  have j : jx z [.inl (8, [.ref (z + 1), .null, .null, .null, .int 0, .int 0, .int 0]), .inr (.inl (1, 400, fun _ => 0))] h h_2 := j9
  clear j9
  have sz : h_2.1 = z + 2 := j.1
  refine jok_r (rfl : jnw h_2 _ = some (jnew h_2 _)) ?_
  try rw [sz]
  clear sz
  replace j : jx z [.inl (8, [.ref (z + 1), .null, .null, .null, .int 0, .int 0, .int 0]), .inr (.inl (1, 400, fun _ => 0)), .inr (.inl (0, 400, fun _ => 0))] h (jnew h_2 (.inr (.inl (0, 400, fun _ => 0)))) := jx_nw j _
  generalize jnew h_2 (.inr (.inl (0, 400, fun _ => 0))) = h_3 at j ⊢
  obtain ⟨h_4, e9, j9⟩ := jx_pf (i := 0) (ci := 8) (k := 1) (v := .ref (z + 2)) j rfl (by exact Nat.le_of_ble_eq_true rfl) rfl
  refine jok_r e9 ?_
  clear e9 j
  have j : jx z [.inl (8, [.ref (z + 1), .ref (z + 2), .null, .null, .int 0, .int 0, .int 0]), .inr (.inl (1, 400, fun _ => 0)), .inr (.inl (0, 400, fun _ => 0))] h h_4 := j9
  clear j9
  have sz : h_4.1 = z + 3 := j.1
  refine jok_r (rfl : jnw h_4 _ = some (jnew h_4 _)) ?_
  try rw [sz]
  clear sz
  replace j : jx z [.inl (8, [.ref (z + 1), .ref (z + 2), .null, .null, .int 0, .int 0, .int 0]), .inr (.inl (1, 400, fun _ => 0)), .inr (.inl (0, 400, fun _ => 0)), .inr (.inl (0, 400, fun _ => 0))] h (jnew h_4 (.inr (.inl (0, 400, fun _ => 0)))) := jx_nw j _
  generalize jnew h_4 (.inr (.inl (0, 400, fun _ => 0))) = h_5 at j ⊢
  obtain ⟨h_6, e9, j9⟩ := jx_pf (i := 0) (ci := 8) (k := 2) (v := .ref (z + 3)) j rfl (by exact Nat.le_of_ble_eq_true rfl) rfl
  refine jok_r e9 ?_
  clear e9 j
  have j : jx z [.inl (8, [.ref (z + 1), .ref (z + 2), .ref (z + 3), .null, .int 0, .int 0, .int 0]), .inr (.inl (1, 400, fun _ => 0)), .inr (.inl (0, 400, fun _ => 0)), .inr (.inl (0, 400, fun _ => 0))] h h_6 := j9
  clear j9
  have sz : h_6.1 = z + 4 := j.1
  refine jok_r (rfl : jnw h_6 _ = some (jnew h_6 _)) ?_
  try rw [sz]
  clear sz
  replace j : jx z [.inl (8, [.ref (z + 1), .ref (z + 2), .ref (z + 3), .null, .int 0, .int 0, .int 0]), .inr (.inl (1, 400, fun _ => 0)), .inr (.inl (0, 400, fun _ => 0)), .inr (.inl (0, 400, fun _ => 0)), .inr (.inl (0, 400, fun _ => 0))] h (jnew h_6 (.inr (.inl (0, 400, fun _ => 0)))) := jx_nw j _
  generalize jnew h_6 (.inr (.inl (0, 400, fun _ => 0))) = h_7 at j ⊢
  obtain ⟨h_8, e9, j9⟩ := jx_pf (i := 0) (ci := 8) (k := 3) (v := .ref (z + 4)) j rfl (by exact Nat.le_of_ble_eq_true rfl) rfl
  refine jok_r e9 ?_
  clear e9 j
  have j : jx z [.inl (8, [.ref (z + 1), .ref (z + 2), .ref (z + 3), .ref (z + 4), .int 0, .int 0, .int 0]), .inr (.inl (1, 400, fun _ => 0)), .inr (.inl (0, 400, fun _ => 0)), .inr (.inl (0, 400, fun _ => 0)), .inr (.inl (0, 400, fun _ => 0))] h h_8 := j9
  clear j9
  subst hz
  exact jok_s j
def eX9_init (z : Nat) (a1 : Nat) (a2 : Nat) : List jE := [.inl (7, [.ref a1, .int 14, .ref a2])]
set_option maxHeartbeats 1000000 in
theorem I_X9_init {n : Nat} {a1 : Nat} {a2 : Nat} {h : jH} : jok (F_X9_init n h.1 a1 a2 (jnew h (.inl (7, [.null, .int 0, .null])))) (fun q => jx h.1 (eX9_init h.1 a1 a2) h q) := by
  unfold F_X9_init
  unfold F_X4_init_R
  simp only [Option.bind_assoc, Option.bind_some]
  have j : jx h.1 [.inl (7, [.null, .int 0, .null])] h (jnew h (.inl (7, [.null, .int 0, .null]))) := jx_one
  generalize jnew h (.inl (7, [.null, .int 0, .null])) = h_0 at j ⊢
  obtain ⟨z, hz⟩ : ∃ z, z = h.1 := ⟨_, rfl⟩
  rw [← hz] at j ⊢
  obtain ⟨h_1, e9, j9⟩ := jx_pf (i := 0) (ci := 7) (k := 0) (v := .ref a1) j rfl (by exact Nat.le_of_ble_eq_true rfl) rfl
  refine jok_r e9 ?_
  clear e9 j
  have j : jx z [.inl (7, [.ref a1, .int 0, .null])] h h_1 := j9
  clear j9
  obtain ⟨h_2, e9, j9⟩ := jx_pf (i := 0) (ci := 7) (k := 1) (v := .int 14) j rfl (by exact Nat.le_of_ble_eq_true rfl) rfl
  refine jok_r e9 ?_
  clear e9 j
  have j : jx z [.inl (7, [.ref a1, .int 14, .null])] h h_2 := j9
  clear j9
  obtain ⟨h_3, e9, j9⟩ := jx_pf (i := 0) (ci := 7) (k := 2) (v := .ref a2) j rfl (by exact Nat.le_of_ble_eq_true rfl) rfl
  refine jok_r e9 ?_
  clear e9 j
  have j : jx z [.inl (7, [.ref a1, .int 14, .ref a2])] h h_3 := j9
  clear j9
  subst hz
  exact jok_s j
def eX3_init (z : Nat) (a1 : Nat) (a2 : Nat) : List jE := [.inl (3, [.ref a1, .int 12, .ref a2])]
set_option maxHeartbeats 1000000 in
theorem I_X3_init {n : Nat} {a1 : Nat} {a2 : Nat} {h : jH} : jok (F_X3_init n h.1 a1 a2 (jnew h (.inl (3, [.null, .int 0, .null])))) (fun q => jx h.1 (eX3_init h.1 a1 a2) h q) := by
  unfold F_X3_init
  unfold F_X4_init_L
  simp only [Option.bind_assoc, Option.bind_some]
  have j : jx h.1 [.inl (3, [.null, .int 0, .null])] h (jnew h (.inl (3, [.null, .int 0, .null]))) := jx_one
  generalize jnew h (.inl (3, [.null, .int 0, .null])) = h_0 at j ⊢
  obtain ⟨z, hz⟩ : ∃ z, z = h.1 := ⟨_, rfl⟩
  rw [← hz] at j ⊢
  obtain ⟨h_1, e9, j9⟩ := jx_pf (i := 0) (ci := 3) (k := 0) (v := .ref a1) j rfl (by exact Nat.le_of_ble_eq_true rfl) rfl
  refine jok_r e9 ?_
  clear e9 j
  have j : jx z [.inl (3, [.ref a1, .int 0, .null])] h h_1 := j9
  clear j9
  obtain ⟨h_2, e9, j9⟩ := jx_pf (i := 0) (ci := 3) (k := 1) (v := .int 12) j rfl (by exact Nat.le_of_ble_eq_true rfl) rfl
  refine jok_r e9 ?_
  clear e9 j
  have j : jx z [.inl (3, [.ref a1, .int 12, .null])] h h_2 := j9
  clear j9
  obtain ⟨h_3, e9, j9⟩ := jx_pf (i := 0) (ci := 3) (k := 2) (v := .ref a2) j rfl (by exact Nat.le_of_ble_eq_true rfl) rfl
  refine jok_r e9 ?_
  clear e9 j
  have j : jx z [.inl (3, [.ref a1, .int 12, .ref a2])] h h_3 := j9
  clear j9
  subst hz
  exact jok_s j
def eX1_init (z : Nat) (a1 : Nat) (a2 : Nat) : List jE := [.inl (1, [.ref a1, .ref a2])]
set_option maxHeartbeats 1000000 in
theorem I_X1_init {n : Nat} {a1 : Nat} {a2 : Nat} {h : jH} : jok (F_X1_init n h.1 a1 a2 (jnew h (.inl (1, [.null, .null])))) (fun q => jx h.1 (eX1_init h.1 a1 a2) h q) := by
  unfold F_X1_init
  have j : jx h.1 [.inl (1, [.null, .null])] h (jnew h (.inl (1, [.null, .null]))) := jx_one
  generalize jnew h (.inl (1, [.null, .null])) = h_0 at j ⊢
  obtain ⟨z, hz⟩ : ∃ z, z = h.1 := ⟨_, rfl⟩
  rw [← hz] at j ⊢
  obtain ⟨h_1, e9, j9⟩ := jx_pf (i := 0) (ci := 1) (k := 0) (v := .ref a1) j rfl (by exact Nat.le_of_ble_eq_true rfl) rfl
  refine jok_r e9 ?_
  clear e9 j
  have j : jx z [.inl (1, [.ref a1, .null])] h h_1 := j9
  clear j9
  obtain ⟨h_2, e9, j9⟩ := jx_pf (i := 0) (ci := 1) (k := 1) (v := .ref a2) j rfl (by exact Nat.le_of_ble_eq_true rfl) rfl
  refine jok_r e9 ?_
  clear e9 j
  have j : jx z [.inl (1, [.ref a1, .ref a2])] h h_2 := j9
  clear j9
  subst hz
  exact jok_s j
def eX7_init (z : Nat) (a1 : Nat) (a2 : Nat) : List jE := [.inl (5, [.ref a1, .ref a2, .ref (z + 1), .ref (z + 2), .int 0, .int 0, .int 0]), .inr (.inl (0, 128, fun _ => 0)), .inr (.inl (0, 32, fun _ => 0))]
set_option maxHeartbeats 1000000 in
theorem I_X7_init {n : Nat} {a1 : Nat} {a2 : Nat} {h : jH} : jok (F_X7_init n h.1 a1 a2 (jnew h (.inl (5, [.null, .null, .null, .null, .int 0, .int 0, .int 0])))) (fun q => jx h.1 (eX7_init h.1 a1 a2) h q) := by
  unfold F_X7_init
  have j : jx h.1 [.inl (5, [.null, .null, .null, .null, .int 0, .int 0, .int 0])] h (jnew h (.inl (5, [.null, .null, .null, .null, .int 0, .int 0, .int 0]))) := jx_one
  generalize jnew h (.inl (5, [.null, .null, .null, .null, .int 0, .int 0, .int 0])) = h_0 at j ⊢
  obtain ⟨z, hz⟩ : ∃ z, z = h.1 := ⟨_, rfl⟩
  rw [← hz] at j ⊢
  have sz : h_0.1 = z + 1 := j.1
  refine jok_r (rfl : jnw h_0 _ = some (jnew h_0 _)) ?_
  try rw [sz]
  clear sz
  replace j : jx z [.inl (5, [.null, .null, .null, .null, .int 0, .int 0, .int 0]), .inr (.inl (0, 128, fun _ => 0))] h (jnew h_0 (.inr (.inl (0, 128, fun _ => 0)))) := jx_nw j _
  generalize jnew h_0 (.inr (.inl (0, 128, fun _ => 0))) = h_1 at j ⊢
  obtain ⟨h_2, e9, j9⟩ := jx_pf (i := 0) (ci := 5) (k := 2) (v := .ref (z + 1)) j rfl (by exact Nat.le_of_ble_eq_true rfl) rfl
  refine jok_r e9 ?_
  clear e9 j
  have j : jx z [.inl (5, [.null, .null, .ref (z + 1), .null, .int 0, .int 0, .int 0]), .inr (.inl (0, 128, fun _ => 0))] h h_2 := j9
  clear j9
  have sz : h_2.1 = z + 2 := j.1
  refine jok_r (rfl : jnw h_2 _ = some (jnew h_2 _)) ?_
  try rw [sz]
  clear sz
  replace j : jx z [.inl (5, [.null, .null, .ref (z + 1), .null, .int 0, .int 0, .int 0]), .inr (.inl (0, 128, fun _ => 0)), .inr (.inl (0, 32, fun _ => 0))] h (jnew h_2 (.inr (.inl (0, 32, fun _ => 0)))) := jx_nw j _
  generalize jnew h_2 (.inr (.inl (0, 32, fun _ => 0))) = h_3 at j ⊢
  obtain ⟨h_4, e9, j9⟩ := jx_pf (i := 0) (ci := 5) (k := 3) (v := .ref (z + 2)) j rfl (by exact Nat.le_of_ble_eq_true rfl) rfl
  refine jok_r e9 ?_
  clear e9 j
  have j : jx z [.inl (5, [.null, .null, .ref (z + 1), .ref (z + 2), .int 0, .int 0, .int 0]), .inr (.inl (0, 128, fun _ => 0)), .inr (.inl (0, 32, fun _ => 0))] h h_4 := j9
  clear j9
  obtain ⟨h_5, e9, j9⟩ := jx_pf (i := 0) (ci := 5) (k := 0) (v := .ref a1) j rfl (by exact Nat.le_of_ble_eq_true rfl) rfl
  refine jok_r e9 ?_
  clear e9 j
  have j : jx z [.inl (5, [.ref a1, .null, .ref (z + 1), .ref (z + 2), .int 0, .int 0, .int 0]), .inr (.inl (0, 128, fun _ => 0)), .inr (.inl (0, 32, fun _ => 0))] h h_5 := j9
  clear j9
  obtain ⟨h_6, e9, j9⟩ := jx_pf (i := 0) (ci := 5) (k := 1) (v := .ref a2) j rfl (by exact Nat.le_of_ble_eq_true rfl) rfl
  refine jok_r e9 ?_
  clear e9 j
  have j : jx z [.inl (5, [.ref a1, .ref a2, .ref (z + 1), .ref (z + 2), .int 0, .int 0, .int 0]), .inr (.inl (0, 128, fun _ => 0)), .inr (.inl (0, 32, fun _ => 0))] h h_6 := j9
  clear j9
  subst hz
  exact jok_s j
def eX11_init (z : Nat) : List jE := .inl (9, [.ref (z + 1), .ref (z + 6), .ref (z + 13), .ref (z + 19), .ref (z + 21), .ref (z + 28), .ref (z + 34), .ref (z + 35), .ref (z + 36), .ref (z + 37), .null, .null, .int (-1)]) :: ((((((((((eX10_init (z + 1)) ++ eX8_init (z + 6) ) ++ eX2_init (z + 13) ) ++ eX0_init (z + 19) ) ++ eX8_init (z + 21) ) ++ eX2_init (z + 28) ) ++ eX9_init (z + 34) (z + 1) (z + 21)) ++ eX3_init (z + 35) (z + 1) (z + 28)) ++ eX1_init (z + 36) (z + 13) (z + 21)) ++ eX7_init (z + 37) (z + 1) (z + 21))
set_option maxHeartbeats 1000000 in
theorem I_X11_init {n : Nat} {h : jH} : jok (F_X11_init n h.1 (jnew h (.inl (9, [.null, .null, .null, .null, .null, .null, .null, .null, .null, .null, .null, .null, .int 0])))) (fun q => jx h.1 (eX11_init h.1) h q) := by
  unfold F_X11_init
  have j : jx h.1 (.inl (9, [.null, .null, .null, .null, .null, .null, .null, .null, .null, .null, .null, .null, .int 0]) :: []) h (jnew h (.inl (9, [.null, .null, .null, .null, .null, .null, .null, .null, .null, .null, .null, .null, .int 0]))) := jx_one
  generalize jnew h (.inl (9, [.null, .null, .null, .null, .null, .null, .null, .null, .null, .null, .null, .null, .int 0])) = h_0 at j ⊢
  obtain ⟨z, hz⟩ : ∃ z, z = h.1 := ⟨_, rfl⟩
  rw [← hz] at j ⊢
  have sz : h_0.1 = z + 1 := j.1
  refine jok_r (rfl : jnw h_0 _ = some (jnew h_0 _)) ?_
  refine jok_b (I_X10_init (h := h_0)) (fun h_1 j9 => ?_)
  rw [sz] at j9
  try rw [sz]
  clear sz
  have j : jx z (.inl (9, [.null, .null, .null, .null, .null, .null, .null, .null, .null, .null, .null, .null, .int 0]) :: (eX10_init (z + 1))) h h_1 := jx_cat j j9
  clear j9
  obtain ⟨h_2, e9, j9⟩ := jx_pf (i := 0) (ci := 9) (k := 0) (v := .ref (z + 1)) j rfl (by exact Nat.le_of_ble_eq_true rfl) rfl
  refine jok_r e9 ?_
  clear e9 j
  have j : jx z (.inl (9, [.ref (z + 1), .null, .null, .null, .null, .null, .null, .null, .null, .null, .null, .null, .int 0]) :: (eX10_init (z + 1))) h h_2 := j9
  clear j9
  have sz : h_2.1 = z + 6 := j.1
  refine jok_r (rfl : jnw h_2 _ = some (jnew h_2 _)) ?_
  refine jok_b (I_X8_init (h := h_2)) (fun h_3 j9 => ?_)
  rw [sz] at j9
  try rw [sz]
  clear sz
  have j : jx z (.inl (9, [.ref (z + 1), .null, .null, .null, .null, .null, .null, .null, .null, .null, .null, .null, .int 0]) :: ((eX10_init (z + 1)) ++ eX8_init (z + 6) )) h h_3 := jx_cat j j9
  clear j9
  obtain ⟨h_4, e9, j9⟩ := jx_pf (i := 0) (ci := 9) (k := 1) (v := .ref (z + 6)) j rfl (by exact Nat.le_of_ble_eq_true rfl) rfl
  refine jok_r e9 ?_
  clear e9 j
  have j : jx z (.inl (9, [.ref (z + 1), .ref (z + 6), .null, .null, .null, .null, .null, .null, .null, .null, .null, .null, .int 0]) :: ((eX10_init (z + 1)) ++ eX8_init (z + 6) )) h h_4 := j9
  clear j9
  have sz : h_4.1 = z + 13 := j.1
  refine jok_r (rfl : jnw h_4 _ = some (jnew h_4 _)) ?_
  refine jok_b (I_X2_init (h := h_4)) (fun h_5 j9 => ?_)
  rw [sz] at j9
  try rw [sz]
  clear sz
  have j : jx z (.inl (9, [.ref (z + 1), .ref (z + 6), .null, .null, .null, .null, .null, .null, .null, .null, .null, .null, .int 0]) :: (((eX10_init (z + 1)) ++ eX8_init (z + 6) ) ++ eX2_init (z + 13) )) h h_5 := jx_cat j j9
  clear j9
  obtain ⟨h_6, e9, j9⟩ := jx_pf (i := 0) (ci := 9) (k := 2) (v := .ref (z + 13)) j rfl (by exact Nat.le_of_ble_eq_true rfl) rfl
  refine jok_r e9 ?_
  clear e9 j
  have j : jx z (.inl (9, [.ref (z + 1), .ref (z + 6), .ref (z + 13), .null, .null, .null, .null, .null, .null, .null, .null, .null, .int 0]) :: (((eX10_init (z + 1)) ++ eX8_init (z + 6) ) ++ eX2_init (z + 13) )) h h_6 := j9
  clear j9
  have sz : h_6.1 = z + 19 := j.1
  refine jok_r (rfl : jnw h_6 _ = some (jnew h_6 _)) ?_
  refine jok_b (I_X0_init (h := h_6)) (fun h_7 j9 => ?_)
  rw [sz] at j9
  try rw [sz]
  clear sz
  have j : jx z (.inl (9, [.ref (z + 1), .ref (z + 6), .ref (z + 13), .null, .null, .null, .null, .null, .null, .null, .null, .null, .int 0]) :: ((((eX10_init (z + 1)) ++ eX8_init (z + 6) ) ++ eX2_init (z + 13) ) ++ eX0_init (z + 19) )) h h_7 := jx_cat j j9
  clear j9
  obtain ⟨h_8, e9, j9⟩ := jx_pf (i := 0) (ci := 9) (k := 3) (v := .ref (z + 19)) j rfl (by exact Nat.le_of_ble_eq_true rfl) rfl
  refine jok_r e9 ?_
  clear e9 j
  have j : jx z (.inl (9, [.ref (z + 1), .ref (z + 6), .ref (z + 13), .ref (z + 19), .null, .null, .null, .null, .null, .null, .null, .null, .int 0]) :: ((((eX10_init (z + 1)) ++ eX8_init (z + 6) ) ++ eX2_init (z + 13) ) ++ eX0_init (z + 19) )) h h_8 := j9
  clear j9
  have sz : h_8.1 = z + 21 := j.1
  refine jok_r (rfl : jnw h_8 _ = some (jnew h_8 _)) ?_
  refine jok_b (I_X8_init (h := h_8)) (fun h_9 j9 => ?_)
  rw [sz] at j9
  try rw [sz]
  clear sz
  have j : jx z (.inl (9, [.ref (z + 1), .ref (z + 6), .ref (z + 13), .ref (z + 19), .null, .null, .null, .null, .null, .null, .null, .null, .int 0]) :: (((((eX10_init (z + 1)) ++ eX8_init (z + 6) ) ++ eX2_init (z + 13) ) ++ eX0_init (z + 19) ) ++ eX8_init (z + 21) )) h h_9 := jx_cat j j9
  clear j9
  obtain ⟨h_10, e9, j9⟩ := jx_pf (i := 0) (ci := 9) (k := 4) (v := .ref (z + 21)) j rfl (by exact Nat.le_of_ble_eq_true rfl) rfl
  refine jok_r e9 ?_
  clear e9 j
  have j : jx z (.inl (9, [.ref (z + 1), .ref (z + 6), .ref (z + 13), .ref (z + 19), .ref (z + 21), .null, .null, .null, .null, .null, .null, .null, .int 0]) :: (((((eX10_init (z + 1)) ++ eX8_init (z + 6) ) ++ eX2_init (z + 13) ) ++ eX0_init (z + 19) ) ++ eX8_init (z + 21) )) h h_10 := j9
  clear j9
  have sz : h_10.1 = z + 28 := j.1
  refine jok_r (rfl : jnw h_10 _ = some (jnew h_10 _)) ?_
  refine jok_b (I_X2_init (h := h_10)) (fun h_11 j9 => ?_)
  rw [sz] at j9
  try rw [sz]
  clear sz
  have j : jx z (.inl (9, [.ref (z + 1), .ref (z + 6), .ref (z + 13), .ref (z + 19), .ref (z + 21), .null, .null, .null, .null, .null, .null, .null, .int 0]) :: ((((((eX10_init (z + 1)) ++ eX8_init (z + 6) ) ++ eX2_init (z + 13) ) ++ eX0_init (z + 19) ) ++ eX8_init (z + 21) ) ++ eX2_init (z + 28) )) h h_11 := jx_cat j j9
  clear j9
  obtain ⟨h_12, e9, j9⟩ := jx_pf (i := 0) (ci := 9) (k := 5) (v := .ref (z + 28)) j rfl (by exact Nat.le_of_ble_eq_true rfl) rfl
  refine jok_r e9 ?_
  clear e9 j
  have j : jx z (.inl (9, [.ref (z + 1), .ref (z + 6), .ref (z + 13), .ref (z + 19), .ref (z + 21), .ref (z + 28), .null, .null, .null, .null, .null, .null, .int 0]) :: ((((((eX10_init (z + 1)) ++ eX8_init (z + 6) ) ++ eX2_init (z + 13) ) ++ eX0_init (z + 19) ) ++ eX8_init (z + 21) ) ++ eX2_init (z + 28) )) h h_12 := j9
  clear j9
  have sz : h_12.1 = z + 34 := j.1
  refine jok_r (rfl : jnw h_12 _ = some (jnew h_12 _)) ?_
  have j9 : jx z (.inl (9, [.ref (z + 1), .ref (z + 6), .ref (z + 13), .ref (z + 19), .ref (z + 21), .ref (z + 28), .null, .null, .null, .null, .null, .null, .int 0]) :: (((((((eX10_init (z + 1)) ++ eX8_init (z + 6) ) ++ eX2_init (z + 13) ) ++ eX0_init (z + 19) ) ++ eX8_init (z + 21) ) ++ eX2_init (z + 28) ) ++ [.inl (7, [.null, .int 0, .null])])) h (jnew h_12 (.inl (7, [.null, .int 0, .null]))) := jx_nw j _
  refine jok_r (jx_gR (i := 0) (ci := 9) (k := 0) (b := (z + 1)) j9 rfl rfl rfl) ?_
  refine jok_r (jx_gR (i := 0) (ci := 9) (k := 4) (b := (z + 21)) j9 rfl rfl rfl) ?_
  refine jok_b (I_X9_init (h := h_12)) (fun h_13 j9 => ?_)
  rw [sz] at j9
  try rw [sz]
  clear sz
  have j : jx z (.inl (9, [.ref (z + 1), .ref (z + 6), .ref (z + 13), .ref (z + 19), .ref (z + 21), .ref (z + 28), .null, .null, .null, .null, .null, .null, .int 0]) :: (((((((eX10_init (z + 1)) ++ eX8_init (z + 6) ) ++ eX2_init (z + 13) ) ++ eX0_init (z + 19) ) ++ eX8_init (z + 21) ) ++ eX2_init (z + 28) ) ++ eX9_init (z + 34) (z + 1) (z + 21))) h h_13 := jx_cat j j9
  clear j9
  obtain ⟨h_14, e9, j9⟩ := jx_pf (i := 0) (ci := 9) (k := 6) (v := .ref (z + 34)) j rfl (by exact Nat.le_of_ble_eq_true rfl) rfl
  refine jok_r e9 ?_
  clear e9 j
  have j : jx z (.inl (9, [.ref (z + 1), .ref (z + 6), .ref (z + 13), .ref (z + 19), .ref (z + 21), .ref (z + 28), .ref (z + 34), .null, .null, .null, .null, .null, .int 0]) :: (((((((eX10_init (z + 1)) ++ eX8_init (z + 6) ) ++ eX2_init (z + 13) ) ++ eX0_init (z + 19) ) ++ eX8_init (z + 21) ) ++ eX2_init (z + 28) ) ++ eX9_init (z + 34) (z + 1) (z + 21))) h h_14 := j9
  clear j9
  have sz : h_14.1 = z + 35 := j.1
  refine jok_r (rfl : jnw h_14 _ = some (jnew h_14 _)) ?_
  have j9 : jx z (.inl (9, [.ref (z + 1), .ref (z + 6), .ref (z + 13), .ref (z + 19), .ref (z + 21), .ref (z + 28), .ref (z + 34), .null, .null, .null, .null, .null, .int 0]) :: ((((((((eX10_init (z + 1)) ++ eX8_init (z + 6) ) ++ eX2_init (z + 13) ) ++ eX0_init (z + 19) ) ++ eX8_init (z + 21) ) ++ eX2_init (z + 28) ) ++ eX9_init (z + 34) (z + 1) (z + 21)) ++ [.inl (3, [.null, .int 0, .null])])) h (jnew h_14 (.inl (3, [.null, .int 0, .null]))) := jx_nw j _
  refine jok_r (jx_gR (i := 0) (ci := 9) (k := 0) (b := (z + 1)) j9 rfl rfl rfl) ?_
  refine jok_r (jx_gR (i := 0) (ci := 9) (k := 5) (b := (z + 28)) j9 rfl rfl rfl) ?_
  refine jok_b (I_X3_init (h := h_14)) (fun h_15 j9 => ?_)
  rw [sz] at j9
  try rw [sz]
  clear sz
  have j : jx z (.inl (9, [.ref (z + 1), .ref (z + 6), .ref (z + 13), .ref (z + 19), .ref (z + 21), .ref (z + 28), .ref (z + 34), .null, .null, .null, .null, .null, .int 0]) :: ((((((((eX10_init (z + 1)) ++ eX8_init (z + 6) ) ++ eX2_init (z + 13) ) ++ eX0_init (z + 19) ) ++ eX8_init (z + 21) ) ++ eX2_init (z + 28) ) ++ eX9_init (z + 34) (z + 1) (z + 21)) ++ eX3_init (z + 35) (z + 1) (z + 28))) h h_15 := jx_cat j j9
  clear j9
  obtain ⟨h_16, e9, j9⟩ := jx_pf (i := 0) (ci := 9) (k := 7) (v := .ref (z + 35)) j rfl (by exact Nat.le_of_ble_eq_true rfl) rfl
  refine jok_r e9 ?_
  clear e9 j
  have j : jx z (.inl (9, [.ref (z + 1), .ref (z + 6), .ref (z + 13), .ref (z + 19), .ref (z + 21), .ref (z + 28), .ref (z + 34), .ref (z + 35), .null, .null, .null, .null, .int 0]) :: ((((((((eX10_init (z + 1)) ++ eX8_init (z + 6) ) ++ eX2_init (z + 13) ) ++ eX0_init (z + 19) ) ++ eX8_init (z + 21) ) ++ eX2_init (z + 28) ) ++ eX9_init (z + 34) (z + 1) (z + 21)) ++ eX3_init (z + 35) (z + 1) (z + 28))) h h_16 := j9
  clear j9
  have sz : h_16.1 = z + 36 := j.1
  refine jok_r (rfl : jnw h_16 _ = some (jnew h_16 _)) ?_
  have j9 : jx z (.inl (9, [.ref (z + 1), .ref (z + 6), .ref (z + 13), .ref (z + 19), .ref (z + 21), .ref (z + 28), .ref (z + 34), .ref (z + 35), .null, .null, .null, .null, .int 0]) :: (((((((((eX10_init (z + 1)) ++ eX8_init (z + 6) ) ++ eX2_init (z + 13) ) ++ eX0_init (z + 19) ) ++ eX8_init (z + 21) ) ++ eX2_init (z + 28) ) ++ eX9_init (z + 34) (z + 1) (z + 21)) ++ eX3_init (z + 35) (z + 1) (z + 28)) ++ [.inl (1, [.null, .null])])) h (jnew h_16 (.inl (1, [.null, .null]))) := jx_nw j _
  refine jok_r (jx_gR (i := 0) (ci := 9) (k := 2) (b := (z + 13)) j9 rfl rfl rfl) ?_
  refine jok_r (jx_gR (i := 0) (ci := 9) (k := 4) (b := (z + 21)) j9 rfl rfl rfl) ?_
  refine jok_b (I_X1_init (h := h_16)) (fun h_17 j9 => ?_)
  rw [sz] at j9
  try rw [sz]
  clear sz
  have j : jx z (.inl (9, [.ref (z + 1), .ref (z + 6), .ref (z + 13), .ref (z + 19), .ref (z + 21), .ref (z + 28), .ref (z + 34), .ref (z + 35), .null, .null, .null, .null, .int 0]) :: (((((((((eX10_init (z + 1)) ++ eX8_init (z + 6) ) ++ eX2_init (z + 13) ) ++ eX0_init (z + 19) ) ++ eX8_init (z + 21) ) ++ eX2_init (z + 28) ) ++ eX9_init (z + 34) (z + 1) (z + 21)) ++ eX3_init (z + 35) (z + 1) (z + 28)) ++ eX1_init (z + 36) (z + 13) (z + 21))) h h_17 := jx_cat j j9
  clear j9
  obtain ⟨h_18, e9, j9⟩ := jx_pf (i := 0) (ci := 9) (k := 8) (v := .ref (z + 36)) j rfl (by exact Nat.le_of_ble_eq_true rfl) rfl
  refine jok_r e9 ?_
  clear e9 j
  have j : jx z (.inl (9, [.ref (z + 1), .ref (z + 6), .ref (z + 13), .ref (z + 19), .ref (z + 21), .ref (z + 28), .ref (z + 34), .ref (z + 35), .ref (z + 36), .null, .null, .null, .int 0]) :: (((((((((eX10_init (z + 1)) ++ eX8_init (z + 6) ) ++ eX2_init (z + 13) ) ++ eX0_init (z + 19) ) ++ eX8_init (z + 21) ) ++ eX2_init (z + 28) ) ++ eX9_init (z + 34) (z + 1) (z + 21)) ++ eX3_init (z + 35) (z + 1) (z + 28)) ++ eX1_init (z + 36) (z + 13) (z + 21))) h h_18 := j9
  clear j9
  have sz : h_18.1 = z + 37 := j.1
  refine jok_r (rfl : jnw h_18 _ = some (jnew h_18 _)) ?_
  have j9 : jx z (.inl (9, [.ref (z + 1), .ref (z + 6), .ref (z + 13), .ref (z + 19), .ref (z + 21), .ref (z + 28), .ref (z + 34), .ref (z + 35), .ref (z + 36), .null, .null, .null, .int 0]) :: ((((((((((eX10_init (z + 1)) ++ eX8_init (z + 6) ) ++ eX2_init (z + 13) ) ++ eX0_init (z + 19) ) ++ eX8_init (z + 21) ) ++ eX2_init (z + 28) ) ++ eX9_init (z + 34) (z + 1) (z + 21)) ++ eX3_init (z + 35) (z + 1) (z + 28)) ++ eX1_init (z + 36) (z + 13) (z + 21)) ++ [.inl (5, [.null, .null, .null, .null, .int 0, .int 0, .int 0])])) h (jnew h_18 (.inl (5, [.null, .null, .null, .null, .int 0, .int 0, .int 0]))) := jx_nw j _
  refine jok_r (jx_gR (i := 0) (ci := 9) (k := 0) (b := (z + 1)) j9 rfl rfl rfl) ?_
  refine jok_r (jx_gR (i := 0) (ci := 9) (k := 4) (b := (z + 21)) j9 rfl rfl rfl) ?_
  refine jok_b (I_X7_init (h := h_18)) (fun h_19 j9 => ?_)
  rw [sz] at j9
  try rw [sz]
  clear sz
  have j : jx z (.inl (9, [.ref (z + 1), .ref (z + 6), .ref (z + 13), .ref (z + 19), .ref (z + 21), .ref (z + 28), .ref (z + 34), .ref (z + 35), .ref (z + 36), .null, .null, .null, .int 0]) :: ((((((((((eX10_init (z + 1)) ++ eX8_init (z + 6) ) ++ eX2_init (z + 13) ) ++ eX0_init (z + 19) ) ++ eX8_init (z + 21) ) ++ eX2_init (z + 28) ) ++ eX9_init (z + 34) (z + 1) (z + 21)) ++ eX3_init (z + 35) (z + 1) (z + 28)) ++ eX1_init (z + 36) (z + 13) (z + 21)) ++ eX7_init (z + 37) (z + 1) (z + 21))) h h_19 := jx_cat j j9
  clear j9
  obtain ⟨h_20, e9, j9⟩ := jx_pf (i := 0) (ci := 9) (k := 9) (v := .ref (z + 37)) j rfl (by exact Nat.le_of_ble_eq_true rfl) rfl
  refine jok_r e9 ?_
  clear e9 j
  have j : jx z (.inl (9, [.ref (z + 1), .ref (z + 6), .ref (z + 13), .ref (z + 19), .ref (z + 21), .ref (z + 28), .ref (z + 34), .ref (z + 35), .ref (z + 36), .ref (z + 37), .null, .null, .int 0]) :: ((((((((((eX10_init (z + 1)) ++ eX8_init (z + 6) ) ++ eX2_init (z + 13) ) ++ eX0_init (z + 19) ) ++ eX8_init (z + 21) ) ++ eX2_init (z + 28) ) ++ eX9_init (z + 34) (z + 1) (z + 21)) ++ eX3_init (z + 35) (z + 1) (z + 28)) ++ eX1_init (z + 36) (z + 13) (z + 21)) ++ eX7_init (z + 37) (z + 1) (z + 21))) h h_20 := j9
  clear j9
  obtain ⟨h_21, e9, j9⟩ := jx_pf (i := 0) (ci := 9) (k := 12) (v := .int (-1)) j rfl (by exact Nat.le_of_ble_eq_true rfl) rfl
  refine jok_r e9 ?_
  clear e9 j
  have j : jx z (.inl (9, [.ref (z + 1), .ref (z + 6), .ref (z + 13), .ref (z + 19), .ref (z + 21), .ref (z + 28), .ref (z + 34), .ref (z + 35), .ref (z + 36), .ref (z + 37), .null, .null, .int (-1)]) :: ((((((((((eX10_init (z + 1)) ++ eX8_init (z + 6) ) ++ eX2_init (z + 13) ) ++ eX0_init (z + 19) ) ++ eX8_init (z + 21) ) ++ eX2_init (z + 28) ) ++ eX9_init (z + 34) (z + 1) (z + 21)) ++ eX3_init (z + 35) (z + 1) (z + 28)) ++ eX1_init (z + 36) (z + 13) (z + 21)) ++ eX7_init (z + 37) (z + 1) (z + 21))) h h_21 := j9
  clear j9
  subst hz
  exact jok_s j
def eX12_init (z : Nat)  : List jE := [.inl (10, [.int 0, .ref (z + 1), .ref (z + 2), .ref (z + 3), .ref (z + 4), .ref (z + 5), .int 0, .int 0, .ref (z + 6), .int 0, .int 0, .int 0, .int 0, .int 0, .int (-1), .ref (z + 7), .int 0, .ref (z + 8), .int 0, .ref (z + 9), .ref (z + 10), .ref (z + 11)]), .inr (.inl (0, 2133, upd (upd (upd (fun _ => 0) (5 : Int32).toNatClampNeg 16) (6 : Int32).toNatClampNeg 8) (10 : Int32).toNatClampNeg 1)), .inr (.inl (0, 1284, fun _ => 0)), .inr (.inl (0, 1284, fun _ => 0)), .inr (.inl (0, 435, fun _ => 0)), .inr (.inl (0, 5220, fun _ => 0)), .inr (.inl (1, 400, fun _ => 0)), .inr (.inl (0, 5, fun _ => 0)), .inr (.inl (0, 400, fun _ => 0)), .inr (.inl (2, 256, fun _ => 0)), .inr (.inl (0, 32, fun _ => 0)), .inr (.inl (0, 8, fun _ => 0))]
set_option maxHeartbeats 1000000 in
theorem I_X12_init {n : Nat}  {h : jH} : jok (F_X12_init n h.1  (jnew h (.inl (10, [.int 0, .null, .null, .null, .null, .null, .int 0, .int 0, .null, .int 0, .int 0, .int 0, .int 0, .int 0, .int 0, .null, .int 0, .null, .int 0, .null, .null, .null])))) (fun q => jx h.1 (eX12_init h.1 ) h q) := by
  unfold F_X12_init
  have j : jx h.1 [.inl (10, [.int 0, .null, .null, .null, .null, .null, .int 0, .int 0, .null, .int 0, .int 0, .int 0, .int 0, .int 0, .int 0, .null, .int 0, .null, .int 0, .null, .null, .null])] h (jnew h (.inl (10, [.int 0, .null, .null, .null, .null, .null, .int 0, .int 0, .null, .int 0, .int 0, .int 0, .int 0, .int 0, .int 0, .null, .int 0, .null, .int 0, .null, .null, .null]))) := jx_one
  generalize jnew h (.inl (10, [.int 0, .null, .null, .null, .null, .null, .int 0, .int 0, .null, .int 0, .int 0, .int 0, .int 0, .int 0, .int 0, .null, .int 0, .null, .int 0, .null, .null, .null])) = h_0 at j ⊢
  obtain ⟨z, hz⟩ : ∃ z, z = h.1 := ⟨_, rfl⟩
  rw [← hz] at j ⊢
  have sz : h_0.1 = z + 1 := j.1
  refine jok_r (rfl : jnw h_0 _ = some (jnew h_0 _)) ?_
  try rw [sz]
  clear sz
  replace j : jx z [.inl (10, [.int 0, .null, .null, .null, .null, .null, .int 0, .int 0, .null, .int 0, .int 0, .int 0, .int 0, .int 0, .int 0, .null, .int 0, .null, .int 0, .null, .null, .null]), .inr (.inl (0, 2133, fun _ => 0))] h (jnew h_0 (.inr (.inl (0, 2133, fun _ => 0)))) := jx_nw j _
  generalize jnew h_0 (.inr (.inl (0, 2133, fun _ => 0))) = h_1 at j ⊢
  obtain ⟨h_2, e9, j9⟩ := jx_pf (i := 0) (ci := 10) (k := 1) (v := .ref (z + 1)) j rfl (by exact Nat.le_of_ble_eq_true rfl) rfl
  refine jok_r e9 ?_
  clear e9 j
  have j : jx z [.inl (10, [.int 0, .ref (z + 1), .null, .null, .null, .null, .int 0, .int 0, .null, .int 0, .int 0, .int 0, .int 0, .int 0, .int 0, .null, .int 0, .null, .int 0, .null, .null, .null]), .inr (.inl (0, 2133, fun _ => 0))] h h_2 := j9
  clear j9
  have sz : h_2.1 = z + 2 := j.1
  refine jok_r (rfl : jnw h_2 _ = some (jnew h_2 _)) ?_
  try rw [sz]
  clear sz
  replace j : jx z [.inl (10, [.int 0, .ref (z + 1), .null, .null, .null, .null, .int 0, .int 0, .null, .int 0, .int 0, .int 0, .int 0, .int 0, .int 0, .null, .int 0, .null, .int 0, .null, .null, .null]), .inr (.inl (0, 2133, fun _ => 0)), .inr (.inl (0, 1284, fun _ => 0))] h (jnew h_2 (.inr (.inl (0, 1284, fun _ => 0)))) := jx_nw j _
  generalize jnew h_2 (.inr (.inl (0, 1284, fun _ => 0))) = h_3 at j ⊢
  obtain ⟨h_4, e9, j9⟩ := jx_pf (i := 0) (ci := 10) (k := 2) (v := .ref (z + 2)) j rfl (by exact Nat.le_of_ble_eq_true rfl) rfl
  refine jok_r e9 ?_
  clear e9 j
  have j : jx z [.inl (10, [.int 0, .ref (z + 1), .ref (z + 2), .null, .null, .null, .int 0, .int 0, .null, .int 0, .int 0, .int 0, .int 0, .int 0, .int 0, .null, .int 0, .null, .int 0, .null, .null, .null]), .inr (.inl (0, 2133, fun _ => 0)), .inr (.inl (0, 1284, fun _ => 0))] h h_4 := j9
  clear j9
  have sz : h_4.1 = z + 3 := j.1
  refine jok_r (rfl : jnw h_4 _ = some (jnew h_4 _)) ?_
  try rw [sz]
  clear sz
  replace j : jx z [.inl (10, [.int 0, .ref (z + 1), .ref (z + 2), .null, .null, .null, .int 0, .int 0, .null, .int 0, .int 0, .int 0, .int 0, .int 0, .int 0, .null, .int 0, .null, .int 0, .null, .null, .null]), .inr (.inl (0, 2133, fun _ => 0)), .inr (.inl (0, 1284, fun _ => 0)), .inr (.inl (0, 1284, fun _ => 0))] h (jnew h_4 (.inr (.inl (0, 1284, fun _ => 0)))) := jx_nw j _
  generalize jnew h_4 (.inr (.inl (0, 1284, fun _ => 0))) = h_5 at j ⊢
  obtain ⟨h_6, e9, j9⟩ := jx_pf (i := 0) (ci := 10) (k := 3) (v := .ref (z + 3)) j rfl (by exact Nat.le_of_ble_eq_true rfl) rfl
  refine jok_r e9 ?_
  clear e9 j
  have j : jx z [.inl (10, [.int 0, .ref (z + 1), .ref (z + 2), .ref (z + 3), .null, .null, .int 0, .int 0, .null, .int 0, .int 0, .int 0, .int 0, .int 0, .int 0, .null, .int 0, .null, .int 0, .null, .null, .null]), .inr (.inl (0, 2133, fun _ => 0)), .inr (.inl (0, 1284, fun _ => 0)), .inr (.inl (0, 1284, fun _ => 0))] h h_6 := j9
  clear j9
  have sz : h_6.1 = z + 4 := j.1
  refine jok_r (rfl : jnw h_6 _ = some (jnew h_6 _)) ?_
  try rw [sz]
  clear sz
  replace j : jx z [.inl (10, [.int 0, .ref (z + 1), .ref (z + 2), .ref (z + 3), .null, .null, .int 0, .int 0, .null, .int 0, .int 0, .int 0, .int 0, .int 0, .int 0, .null, .int 0, .null, .int 0, .null, .null, .null]), .inr (.inl (0, 2133, fun _ => 0)), .inr (.inl (0, 1284, fun _ => 0)), .inr (.inl (0, 1284, fun _ => 0)), .inr (.inl (0, 435, fun _ => 0))] h (jnew h_6 (.inr (.inl (0, 435, fun _ => 0)))) := jx_nw j _
  generalize jnew h_6 (.inr (.inl (0, 435, fun _ => 0))) = h_7 at j ⊢
  obtain ⟨h_8, e9, j9⟩ := jx_pf (i := 0) (ci := 10) (k := 4) (v := .ref (z + 4)) j rfl (by exact Nat.le_of_ble_eq_true rfl) rfl
  refine jok_r e9 ?_
  clear e9 j
  have j : jx z [.inl (10, [.int 0, .ref (z + 1), .ref (z + 2), .ref (z + 3), .ref (z + 4), .null, .int 0, .int 0, .null, .int 0, .int 0, .int 0, .int 0, .int 0, .int 0, .null, .int 0, .null, .int 0, .null, .null, .null]), .inr (.inl (0, 2133, fun _ => 0)), .inr (.inl (0, 1284, fun _ => 0)), .inr (.inl (0, 1284, fun _ => 0)), .inr (.inl (0, 435, fun _ => 0))] h h_8 := j9
  clear j9
  have sz : h_8.1 = z + 5 := j.1
  refine jok_r (rfl : jnw h_8 _ = some (jnew h_8 _)) ?_
  try rw [sz]
  clear sz
  replace j : jx z [.inl (10, [.int 0, .ref (z + 1), .ref (z + 2), .ref (z + 3), .ref (z + 4), .null, .int 0, .int 0, .null, .int 0, .int 0, .int 0, .int 0, .int 0, .int 0, .null, .int 0, .null, .int 0, .null, .null, .null]), .inr (.inl (0, 2133, fun _ => 0)), .inr (.inl (0, 1284, fun _ => 0)), .inr (.inl (0, 1284, fun _ => 0)), .inr (.inl (0, 435, fun _ => 0)), .inr (.inl (0, 5220, fun _ => 0))] h (jnew h_8 (.inr (.inl (0, 5220, fun _ => 0)))) := jx_nw j _
  generalize jnew h_8 (.inr (.inl (0, 5220, fun _ => 0))) = h_9 at j ⊢
  obtain ⟨h_10, e9, j9⟩ := jx_pf (i := 0) (ci := 10) (k := 5) (v := .ref (z + 5)) j rfl (by exact Nat.le_of_ble_eq_true rfl) rfl
  refine jok_r e9 ?_
  clear e9 j
  have j : jx z [.inl (10, [.int 0, .ref (z + 1), .ref (z + 2), .ref (z + 3), .ref (z + 4), .ref (z + 5), .int 0, .int 0, .null, .int 0, .int 0, .int 0, .int 0, .int 0, .int 0, .null, .int 0, .null, .int 0, .null, .null, .null]), .inr (.inl (0, 2133, fun _ => 0)), .inr (.inl (0, 1284, fun _ => 0)), .inr (.inl (0, 1284, fun _ => 0)), .inr (.inl (0, 435, fun _ => 0)), .inr (.inl (0, 5220, fun _ => 0))] h h_10 := j9
  clear j9
  have sz : h_10.1 = z + 6 := j.1
  refine jok_r (rfl : jnw h_10 _ = some (jnew h_10 _)) ?_
  try rw [sz]
  clear sz
  replace j : jx z [.inl (10, [.int 0, .ref (z + 1), .ref (z + 2), .ref (z + 3), .ref (z + 4), .ref (z + 5), .int 0, .int 0, .null, .int 0, .int 0, .int 0, .int 0, .int 0, .int 0, .null, .int 0, .null, .int 0, .null, .null, .null]), .inr (.inl (0, 2133, fun _ => 0)), .inr (.inl (0, 1284, fun _ => 0)), .inr (.inl (0, 1284, fun _ => 0)), .inr (.inl (0, 435, fun _ => 0)), .inr (.inl (0, 5220, fun _ => 0)), .inr (.inl (1, 400, fun _ => 0))] h (jnew h_10 (.inr (.inl (1, 400, fun _ => 0)))) := jx_nw j _
  generalize jnew h_10 (.inr (.inl (1, 400, fun _ => 0))) = h_11 at j ⊢
  obtain ⟨h_12, e9, j9⟩ := jx_pf (i := 0) (ci := 10) (k := 8) (v := .ref (z + 6)) j rfl (by exact Nat.le_of_ble_eq_true rfl) rfl
  refine jok_r e9 ?_
  clear e9 j
  have j : jx z [.inl (10, [.int 0, .ref (z + 1), .ref (z + 2), .ref (z + 3), .ref (z + 4), .ref (z + 5), .int 0, .int 0, .ref (z + 6), .int 0, .int 0, .int 0, .int 0, .int 0, .int 0, .null, .int 0, .null, .int 0, .null, .null, .null]), .inr (.inl (0, 2133, fun _ => 0)), .inr (.inl (0, 1284, fun _ => 0)), .inr (.inl (0, 1284, fun _ => 0)), .inr (.inl (0, 435, fun _ => 0)), .inr (.inl (0, 5220, fun _ => 0)), .inr (.inl (1, 400, fun _ => 0))] h h_12 := j9
  clear j9
  obtain ⟨h_13, e9, j9⟩ := jx_pf (i := 0) (ci := 10) (k := 14) (v := .int (-1)) j rfl (by exact Nat.le_of_ble_eq_true rfl) rfl
  refine jok_r e9 ?_
  clear e9 j
  have j : jx z [.inl (10, [.int 0, .ref (z + 1), .ref (z + 2), .ref (z + 3), .ref (z + 4), .ref (z + 5), .int 0, .int 0, .ref (z + 6), .int 0, .int 0, .int 0, .int 0, .int 0, .int (-1), .null, .int 0, .null, .int 0, .null, .null, .null]), .inr (.inl (0, 2133, fun _ => 0)), .inr (.inl (0, 1284, fun _ => 0)), .inr (.inl (0, 1284, fun _ => 0)), .inr (.inl (0, 435, fun _ => 0)), .inr (.inl (0, 5220, fun _ => 0)), .inr (.inl (1, 400, fun _ => 0))] h h_13 := j9
  clear j9
  have sz : h_13.1 = z + 7 := j.1
  refine jok_r (rfl : jnw h_13 _ = some (jnew h_13 _)) ?_
  try rw [sz]
  clear sz
  replace j : jx z [.inl (10, [.int 0, .ref (z + 1), .ref (z + 2), .ref (z + 3), .ref (z + 4), .ref (z + 5), .int 0, .int 0, .ref (z + 6), .int 0, .int 0, .int 0, .int 0, .int 0, .int (-1), .null, .int 0, .null, .int 0, .null, .null, .null]), .inr (.inl (0, 2133, fun _ => 0)), .inr (.inl (0, 1284, fun _ => 0)), .inr (.inl (0, 1284, fun _ => 0)), .inr (.inl (0, 435, fun _ => 0)), .inr (.inl (0, 5220, fun _ => 0)), .inr (.inl (1, 400, fun _ => 0)), .inr (.inl (0, 5, fun _ => 0))] h (jnew h_13 (.inr (.inl (0, 5, fun _ => 0)))) := jx_nw j _
  generalize jnew h_13 (.inr (.inl (0, 5, fun _ => 0))) = h_14 at j ⊢
  obtain ⟨h_15, e9, j9⟩ := jx_pf (i := 0) (ci := 10) (k := 15) (v := .ref (z + 7)) j rfl (by exact Nat.le_of_ble_eq_true rfl) rfl
  refine jok_r e9 ?_
  clear e9 j
  have j : jx z [.inl (10, [.int 0, .ref (z + 1), .ref (z + 2), .ref (z + 3), .ref (z + 4), .ref (z + 5), .int 0, .int 0, .ref (z + 6), .int 0, .int 0, .int 0, .int 0, .int 0, .int (-1), .ref (z + 7), .int 0, .null, .int 0, .null, .null, .null]), .inr (.inl (0, 2133, fun _ => 0)), .inr (.inl (0, 1284, fun _ => 0)), .inr (.inl (0, 1284, fun _ => 0)), .inr (.inl (0, 435, fun _ => 0)), .inr (.inl (0, 5220, fun _ => 0)), .inr (.inl (1, 400, fun _ => 0)), .inr (.inl (0, 5, fun _ => 0))] h h_15 := j9
  clear j9
  have sz : h_15.1 = z + 8 := j.1
  refine jok_r (rfl : jnw h_15 _ = some (jnew h_15 _)) ?_
  try rw [sz]
  clear sz
  replace j : jx z [.inl (10, [.int 0, .ref (z + 1), .ref (z + 2), .ref (z + 3), .ref (z + 4), .ref (z + 5), .int 0, .int 0, .ref (z + 6), .int 0, .int 0, .int 0, .int 0, .int 0, .int (-1), .ref (z + 7), .int 0, .null, .int 0, .null, .null, .null]), .inr (.inl (0, 2133, fun _ => 0)), .inr (.inl (0, 1284, fun _ => 0)), .inr (.inl (0, 1284, fun _ => 0)), .inr (.inl (0, 435, fun _ => 0)), .inr (.inl (0, 5220, fun _ => 0)), .inr (.inl (1, 400, fun _ => 0)), .inr (.inl (0, 5, fun _ => 0)), .inr (.inl (0, 400, fun _ => 0))] h (jnew h_15 (.inr (.inl (0, 400, fun _ => 0)))) := jx_nw j _
  generalize jnew h_15 (.inr (.inl (0, 400, fun _ => 0))) = h_16 at j ⊢
  obtain ⟨h_17, e9, j9⟩ := jx_pf (i := 0) (ci := 10) (k := 17) (v := .ref (z + 8)) j rfl (by exact Nat.le_of_ble_eq_true rfl) rfl
  refine jok_r e9 ?_
  clear e9 j
  have j : jx z [.inl (10, [.int 0, .ref (z + 1), .ref (z + 2), .ref (z + 3), .ref (z + 4), .ref (z + 5), .int 0, .int 0, .ref (z + 6), .int 0, .int 0, .int 0, .int 0, .int 0, .int (-1), .ref (z + 7), .int 0, .ref (z + 8), .int 0, .null, .null, .null]), .inr (.inl (0, 2133, fun _ => 0)), .inr (.inl (0, 1284, fun _ => 0)), .inr (.inl (0, 1284, fun _ => 0)), .inr (.inl (0, 435, fun _ => 0)), .inr (.inl (0, 5220, fun _ => 0)), .inr (.inl (1, 400, fun _ => 0)), .inr (.inl (0, 5, fun _ => 0)), .inr (.inl (0, 400, fun _ => 0))] h h_17 := j9
  clear j9
  have sz : h_17.1 = z + 9 := j.1
  refine jok_r (rfl : jnw h_17 _ = some (jnew h_17 _)) ?_
  try rw [sz]
  clear sz
  replace j : jx z [.inl (10, [.int 0, .ref (z + 1), .ref (z + 2), .ref (z + 3), .ref (z + 4), .ref (z + 5), .int 0, .int 0, .ref (z + 6), .int 0, .int 0, .int 0, .int 0, .int 0, .int (-1), .ref (z + 7), .int 0, .ref (z + 8), .int 0, .null, .null, .null]), .inr (.inl (0, 2133, fun _ => 0)), .inr (.inl (0, 1284, fun _ => 0)), .inr (.inl (0, 1284, fun _ => 0)), .inr (.inl (0, 435, fun _ => 0)), .inr (.inl (0, 5220, fun _ => 0)), .inr (.inl (1, 400, fun _ => 0)), .inr (.inl (0, 5, fun _ => 0)), .inr (.inl (0, 400, fun _ => 0)), .inr (.inl (2, 256, fun _ => 0))] h (jnew h_17 (.inr (.inl (2, 256, fun _ => 0)))) := jx_nw j _
  generalize jnew h_17 (.inr (.inl (2, 256, fun _ => 0))) = h_18 at j ⊢
  obtain ⟨h_19, e9, j9⟩ := jx_pf (i := 0) (ci := 10) (k := 19) (v := .ref (z + 9)) j rfl (by exact Nat.le_of_ble_eq_true rfl) rfl
  refine jok_r e9 ?_
  clear e9 j
  have j : jx z [.inl (10, [.int 0, .ref (z + 1), .ref (z + 2), .ref (z + 3), .ref (z + 4), .ref (z + 5), .int 0, .int 0, .ref (z + 6), .int 0, .int 0, .int 0, .int 0, .int 0, .int (-1), .ref (z + 7), .int 0, .ref (z + 8), .int 0, .ref (z + 9), .null, .null]), .inr (.inl (0, 2133, fun _ => 0)), .inr (.inl (0, 1284, fun _ => 0)), .inr (.inl (0, 1284, fun _ => 0)), .inr (.inl (0, 435, fun _ => 0)), .inr (.inl (0, 5220, fun _ => 0)), .inr (.inl (1, 400, fun _ => 0)), .inr (.inl (0, 5, fun _ => 0)), .inr (.inl (0, 400, fun _ => 0)), .inr (.inl (2, 256, fun _ => 0))] h h_19 := j9
  clear j9
  have sz : h_19.1 = z + 10 := j.1
  refine jok_r (rfl : jnw h_19 _ = some (jnew h_19 _)) ?_
  try rw [sz]
  clear sz
  replace j : jx z [.inl (10, [.int 0, .ref (z + 1), .ref (z + 2), .ref (z + 3), .ref (z + 4), .ref (z + 5), .int 0, .int 0, .ref (z + 6), .int 0, .int 0, .int 0, .int 0, .int 0, .int (-1), .ref (z + 7), .int 0, .ref (z + 8), .int 0, .ref (z + 9), .null, .null]), .inr (.inl (0, 2133, fun _ => 0)), .inr (.inl (0, 1284, fun _ => 0)), .inr (.inl (0, 1284, fun _ => 0)), .inr (.inl (0, 435, fun _ => 0)), .inr (.inl (0, 5220, fun _ => 0)), .inr (.inl (1, 400, fun _ => 0)), .inr (.inl (0, 5, fun _ => 0)), .inr (.inl (0, 400, fun _ => 0)), .inr (.inl (2, 256, fun _ => 0)), .inr (.inl (0, 32, fun _ => 0))] h (jnew h_19 (.inr (.inl (0, 32, fun _ => 0)))) := jx_nw j _
  generalize jnew h_19 (.inr (.inl (0, 32, fun _ => 0))) = h_20 at j ⊢
  obtain ⟨h_21, e9, j9⟩ := jx_pf (i := 0) (ci := 10) (k := 20) (v := .ref (z + 10)) j rfl (by exact Nat.le_of_ble_eq_true rfl) rfl
  refine jok_r e9 ?_
  clear e9 j
  have j : jx z [.inl (10, [.int 0, .ref (z + 1), .ref (z + 2), .ref (z + 3), .ref (z + 4), .ref (z + 5), .int 0, .int 0, .ref (z + 6), .int 0, .int 0, .int 0, .int 0, .int 0, .int (-1), .ref (z + 7), .int 0, .ref (z + 8), .int 0, .ref (z + 9), .ref (z + 10), .null]), .inr (.inl (0, 2133, fun _ => 0)), .inr (.inl (0, 1284, fun _ => 0)), .inr (.inl (0, 1284, fun _ => 0)), .inr (.inl (0, 435, fun _ => 0)), .inr (.inl (0, 5220, fun _ => 0)), .inr (.inl (1, 400, fun _ => 0)), .inr (.inl (0, 5, fun _ => 0)), .inr (.inl (0, 400, fun _ => 0)), .inr (.inl (2, 256, fun _ => 0)), .inr (.inl (0, 32, fun _ => 0))] h h_21 := j9
  clear j9
  have sz : h_21.1 = z + 11 := j.1
  refine jok_r (rfl : jnw h_21 _ = some (jnew h_21 _)) ?_
  try rw [sz]
  clear sz
  replace j : jx z [.inl (10, [.int 0, .ref (z + 1), .ref (z + 2), .ref (z + 3), .ref (z + 4), .ref (z + 5), .int 0, .int 0, .ref (z + 6), .int 0, .int 0, .int 0, .int 0, .int 0, .int (-1), .ref (z + 7), .int 0, .ref (z + 8), .int 0, .ref (z + 9), .ref (z + 10), .null]), .inr (.inl (0, 2133, fun _ => 0)), .inr (.inl (0, 1284, fun _ => 0)), .inr (.inl (0, 1284, fun _ => 0)), .inr (.inl (0, 435, fun _ => 0)), .inr (.inl (0, 5220, fun _ => 0)), .inr (.inl (1, 400, fun _ => 0)), .inr (.inl (0, 5, fun _ => 0)), .inr (.inl (0, 400, fun _ => 0)), .inr (.inl (2, 256, fun _ => 0)), .inr (.inl (0, 32, fun _ => 0)), .inr (.inl (0, 8, fun _ => 0))] h (jnew h_21 (.inr (.inl (0, 8, fun _ => 0)))) := jx_nw j _
  generalize jnew h_21 (.inr (.inl (0, 8, fun _ => 0))) = h_22 at j ⊢
  obtain ⟨h_23, e9, j9⟩ := jx_pf (i := 0) (ci := 10) (k := 21) (v := .ref (z + 11)) j rfl (by exact Nat.le_of_ble_eq_true rfl) rfl
  refine jok_r e9 ?_
  clear e9 j
  have j : jx z [.inl (10, [.int 0, .ref (z + 1), .ref (z + 2), .ref (z + 3), .ref (z + 4), .ref (z + 5), .int 0, .int 0, .ref (z + 6), .int 0, .int 0, .int 0, .int 0, .int 0, .int (-1), .ref (z + 7), .int 0, .ref (z + 8), .int 0, .ref (z + 9), .ref (z + 10), .ref (z + 11)]), .inr (.inl (0, 2133, fun _ => 0)), .inr (.inl (0, 1284, fun _ => 0)), .inr (.inl (0, 1284, fun _ => 0)), .inr (.inl (0, 435, fun _ => 0)), .inr (.inl (0, 5220, fun _ => 0)), .inr (.inl (1, 400, fun _ => 0)), .inr (.inl (0, 5, fun _ => 0)), .inr (.inl (0, 400, fun _ => 0)), .inr (.inl (2, 256, fun _ => 0)), .inr (.inl (0, 32, fun _ => 0)), .inr (.inl (0, 8, fun _ => 0))] h h_23 := j9
  clear j9
  refine jok_r (jx_gR (i := 0) (ci := 10) (k := 1) (b := (z + 1)) j rfl rfl rfl) ?_
  obtain ⟨h_24, e9, j9⟩ := jx_as (i := 1) (x := (5 : Int32)) (y := (16 : Int32)) j rfl (by decide) (by decide) rfl
  refine jok_r e9 ?_
  clear e9 j
  have j : jx z [.inl (10, [.int 0, .ref (z + 1), .ref (z + 2), .ref (z + 3), .ref (z + 4), .ref (z + 5), .int 0, .int 0, .ref (z + 6), .int 0, .int 0, .int 0, .int 0, .int 0, .int (-1), .ref (z + 7), .int 0, .ref (z + 8), .int 0, .ref (z + 9), .ref (z + 10), .ref (z + 11)]), .inr (.inl (0, 2133, upd (fun _ => 0) (5 : Int32).toNatClampNeg 16)), .inr (.inl (0, 1284, fun _ => 0)), .inr (.inl (0, 1284, fun _ => 0)), .inr (.inl (0, 435, fun _ => 0)), .inr (.inl (0, 5220, fun _ => 0)), .inr (.inl (1, 400, fun _ => 0)), .inr (.inl (0, 5, fun _ => 0)), .inr (.inl (0, 400, fun _ => 0)), .inr (.inl (2, 256, fun _ => 0)), .inr (.inl (0, 32, fun _ => 0)), .inr (.inl (0, 8, fun _ => 0))] h h_24 := j9
  clear j9
  refine jok_r (jx_gR (i := 0) (ci := 10) (k := 1) (b := (z + 1)) j rfl rfl rfl) ?_
  obtain ⟨h_25, e9, j9⟩ := jx_as (i := 1) (x := (6 : Int32)) (y := (8 : Int32)) j rfl (by decide) (by decide) rfl
  refine jok_r e9 ?_
  clear e9 j
  have j : jx z [.inl (10, [.int 0, .ref (z + 1), .ref (z + 2), .ref (z + 3), .ref (z + 4), .ref (z + 5), .int 0, .int 0, .ref (z + 6), .int 0, .int 0, .int 0, .int 0, .int 0, .int (-1), .ref (z + 7), .int 0, .ref (z + 8), .int 0, .ref (z + 9), .ref (z + 10), .ref (z + 11)]), .inr (.inl (0, 2133, upd (upd (fun _ => 0) (5 : Int32).toNatClampNeg 16) (6 : Int32).toNatClampNeg 8)), .inr (.inl (0, 1284, fun _ => 0)), .inr (.inl (0, 1284, fun _ => 0)), .inr (.inl (0, 435, fun _ => 0)), .inr (.inl (0, 5220, fun _ => 0)), .inr (.inl (1, 400, fun _ => 0)), .inr (.inl (0, 5, fun _ => 0)), .inr (.inl (0, 400, fun _ => 0)), .inr (.inl (2, 256, fun _ => 0)), .inr (.inl (0, 32, fun _ => 0)), .inr (.inl (0, 8, fun _ => 0))] h h_25 := j9
  clear j9
  refine jok_r (jx_gR (i := 0) (ci := 10) (k := 1) (b := (z + 1)) j rfl rfl rfl) ?_
  obtain ⟨h_26, e9, j9⟩ := jx_as (i := 1) (x := (10 : Int32)) (y := (1 : Int32)) j rfl (by decide) (by decide) rfl
  refine jok_r e9 ?_
  clear e9 j
  have j : jx z [.inl (10, [.int 0, .ref (z + 1), .ref (z + 2), .ref (z + 3), .ref (z + 4), .ref (z + 5), .int 0, .int 0, .ref (z + 6), .int 0, .int 0, .int 0, .int 0, .int 0, .int (-1), .ref (z + 7), .int 0, .ref (z + 8), .int 0, .ref (z + 9), .ref (z + 10), .ref (z + 11)]), .inr (.inl (0, 2133, upd (upd (upd (fun _ => 0) (5 : Int32).toNatClampNeg 16) (6 : Int32).toNatClampNeg 8) (10 : Int32).toNatClampNeg 1)), .inr (.inl (0, 1284, fun _ => 0)), .inr (.inl (0, 1284, fun _ => 0)), .inr (.inl (0, 435, fun _ => 0)), .inr (.inl (0, 5220, fun _ => 0)), .inr (.inl (1, 400, fun _ => 0)), .inr (.inl (0, 5, fun _ => 0)), .inr (.inl (0, 400, fun _ => 0)), .inr (.inl (2, 256, fun _ => 0)), .inr (.inl (0, 32, fun _ => 0)), .inr (.inl (0, 8, fun _ => 0))] h h_26 := j9
  clear j9
  subst hz
  exact jok_s j
