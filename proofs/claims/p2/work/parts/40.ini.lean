/-! what constructors make: entries one behind another from z on -/
def jx (z : Nat) (Es : List jE) (h0 h : jH) : Prop := h.1 = z + Es.length ∧ (∀ b, b < z → h.2 b = h0.2 b) ∧ ∀ (i : Nat) (e : jE), Es[i]? = some e → h.2 (z + i) = some e
theorem jx_one {h : jH} {e : jE} : jx h.1 [e] h (jnew h e) := by
  refine ⟨rfl, fun b hb => ?_, fun i e2 hi => ?_⟩
  · show (if b = h.1 then some e else h.2 b) = _
    rw [if_neg (by omega)]
  · cases i with
    | zero =>
      cases hi
      show (if h.1 + 0 = h.1 then some e2 else h.2 (h.1 + 0)) = _
      exact if_pos rfl
    | succ i => cases hi
theorem jx_nw {z : Nat} {Es : List jE} {h0 h : jH} (j : jx z Es h0 h) (e : jE) : jx z (Es ++ [e]) h0 (jnew h e) := by
  obtain ⟨j1, j2, j3⟩ := j
  refine ⟨?_, fun b hb => ?_, fun i e2 hi => ?_⟩
  · show h.1 + 1 = _
    rw [List.length_append, j1]
    rfl
  · show (if b = h.1 then some e else h.2 b) = _
    rw [if_neg (by omega)]
    exact j2 b hb
  · show (if z + i = h.1 then some e else h.2 (z + i)) = _
    by_cases q : i < Es.length
    · rw [List.getElem?_append_left q] at hi
      rw [if_neg (by omega)]
      exact j3 i e2 hi
    · rw [List.getElem?_append_right (by omega)] at hi
      have hz : i - Es.length < 1 := (List.getElem?_eq_some_iff.mp hi).1
      rw [if_pos (by omega)]
      rw [show i - Es.length = 0 by omega] at hi
      exact hi
theorem jx_up {z i : Nat} {Es : List jE} {h0 h : jH} (j : jx z Es h0 h) {e e2 : jE} (hi : Es[i]? = some e) : jx z (Es.set i e2) h0 (jup h (z + i) e2) := by
  obtain ⟨j1, j2, j3⟩ := j
  have hlt : i < Es.length := (List.getElem?_eq_some_iff.mp hi).1
  refine ⟨by rw [List.length_set]; exact j1, fun b hb => ?_, fun k e3 hk => ?_⟩
  · show (if b = z + i then some e2 else h.2 b) = _
    rw [if_neg (by omega)]
    exact j2 b hb
  · show (if z + k = z + i then some e2 else h.2 (z + k)) = _
    by_cases q : k = i
    · subst q
      rw [if_pos rfl]
      rw [List.getElem?_set_self hlt] at hk
      exact hk
    · rw [if_neg (by omega)]
      rw [List.getElem?_set_ne (Ne.symm q)] at hk
      exact j3 k e3 hk
theorem jx_pf {z i ci k a : Nat} {Es : List jE} {h0 h : jH} {vs : List Value} {v : Value} (j : jx z Es h0 h) (hi : Es[i]? = some (.inl (ci, vs))) (hk : k < vs.length) (ha : a = z + i) : ∃ h1, jpf ci h a k v = some h1 ∧ jx z (Es.set i (.inl (ci, vs.set k v))) h0 h1 := by
  subst ha
  refine ⟨jup h (z + i) (.inl (ci, vs.set k v)), ?_, jx_up j hi⟩
  unfold jpf
  rw [j.2.2 i _ hi]
  dsimp only
  rw [if_pos ⟨rfl, hk⟩]
theorem jx_as {z i a N : Nat} {Es : List jE} {h0 h : jH} {f : Nat → Int32} {x y : Int32} (j : jx z Es h0 h) (hi : Es[i]? = some (.inr (.inl (0, N, f)))) (h1 : 0 ≤ x.toInt) (h2 : x.toInt < (N : Int)) (ha : a = z + i) : ∃ h1, jas 0 h a x y = some h1 ∧ jx z (Es.set i (.inr (.inl (0, N, upd f x.toNatClampNeg y)))) h0 h1 := by
  subst ha
  refine ⟨jup h (z + i) (.inr (.inl (0, N, upd f x.toNatClampNeg y))), ?_, jx_up j hi⟩
  unfold jas
  rw [j.2.2 i _ hi]
  dsimp only
  rw [if_pos ⟨rfl, jnoob h1 h2, fun q => by cases q⟩]
  rfl
theorem jx_gR {z i ci k a b : Nat} {Es : List jE} {h0 h : jH} {vs : List Value} (j : jx z Es h0 h) (hi : Es[i]? = some (.inl (ci, vs))) (hk : vs[k]? = some (.ref b)) (ha : a = z + i) : jgR ci h a k = some b := by
  subst ha
  have e : jgf ci h (z + i) k = some (.ref b) := by
    unfold jgf
    rw [j.2.2 i _ hi]
    dsimp only
    rw [if_pos rfl]
    exact hk
  unfold jgR
  rw [e]
theorem jx_cat {z : Nat} {Es Fs : List jE} {h0 h q : jH} (j : jx z Es h0 h) (k : jx (z + Es.length) Fs h q) : jx z (Es ++ Fs) h0 q := by
  obtain ⟨j1, j2, j3⟩ := j
  obtain ⟨k1, k2, k3⟩ := k
  refine ⟨by rw [k1, List.length_append]; omega, fun b hb => (k2 b (by omega)).trans (j2 b hb), fun i e hi => ?_⟩
  by_cases q : i < Es.length
  · rw [List.getElem?_append_left q] at hi
    rw [k2 (z + i) (by omega)]
    exact j3 i e hi
  · rw [List.getElem?_append_right (by omega)] at hi
    have := k3 _ _ hi
    rw [show z + Es.length + (i - Es.length) = z + i by omega] at this
    exact this
