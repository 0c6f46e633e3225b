/-! the log's rows -/
theorem nI_bt {a i : Nat} (hi : i < 32) : bt (nI a) i = a.testBit i := by
  show (BitVec.ofNat 32 a).getLsbD i = a.testBit i
  rw [BitVec.getLsbD_ofNat, decide_eq_true hi, Bool.true_and]
/-- the numbers of a row as one -/
def pkN (d q i k f p : Nat) : Nat := ((((d * 8 + q) * 8 + i) * 4 + k) * 32 + f) * 32 + p
theorem tb_low {a j s : Nat} (h : a < 2 ^ s) (hj : s ≤ j) : a.testBit j = false := Nat.testBit_lt_two_pow (Nat.lt_of_lt_of_le h (Nat.pow_le_pow_right (by decide) hj))
theorem tb_cat {a b s j : Nat} (h : b < 2 ^ s) : (a * 2 ^ s + b).testBit j = if j < s then b.testBit j else a.testBit (j - s) := by
  rw [Nat.mul_comm]
  exact Nat.testBit_two_pow_mul_add a h j
theorem pk_row {d q i k f p : Nat} (hq : q < 8) (hi : i < 8) (hk : k < 4) (hf : f < 32) (hp : p < 32) : (((((nI d <<< ((18 : Int32) &&& 31)) ||| (nI q <<< ((15 : Int32) &&& 31))) ||| (nI i <<< ((12 : Int32) &&& 31))) ||| (nI k <<< ((10 : Int32) &&& 31))) ||| (nI f <<< ((5 : Int32) &&& 31))) ||| (nI p <<< ((0 : Int32) &&& 31)) = nI (pkN d q i k f p) := by
  refine b_ext fun j hj => ?_
  rw [b_or, b_or, b_or, b_or, b_or]
  have s18 : bt (nI d <<< ((18 : Int32) &&& 31)) j = (decide (18 ≤ j) && bt (nI d) (j - 18)) := b_shl 18 (by decide) _ hj
  have s15 : bt (nI q <<< ((15 : Int32) &&& 31)) j = (decide (15 ≤ j) && bt (nI q) (j - 15)) := b_shl 15 (by decide) _ hj
  have s12 : bt (nI i <<< ((12 : Int32) &&& 31)) j = (decide (12 ≤ j) && bt (nI i) (j - 12)) := b_shl 12 (by decide) _ hj
  have s10 : bt (nI k <<< ((10 : Int32) &&& 31)) j = (decide (10 ≤ j) && bt (nI k) (j - 10)) := b_shl 10 (by decide) _ hj
  have s5 : bt (nI f <<< ((5 : Int32) &&& 31)) j = (decide (5 ≤ j) && bt (nI f) (j - 5)) := b_shl 5 (by decide) _ hj
  have s0 : bt (nI p <<< ((0 : Int32) &&& 31)) j = (decide (0 ≤ j) && bt (nI p) (j - 0)) := b_shl 0 (by decide) _ hj
  rw [s18, s15, s12, s10, s5, s0, nI_bt (by omega), nI_bt (by omega), nI_bt (by omega), nI_bt (by omega), nI_bt (by omega), nI_bt (by omega), nI_bt hj]
  unfold pkN
  rw [show (32 : Nat) = 2 ^ 5 from rfl, tb_cat hp, tb_cat hf, show (4 : Nat) = 2 ^ 2 from rfl, tb_cat hk, show (8 : Nat) = 2 ^ 3 from rfl, tb_cat hi, tb_cat hq]
  have z0 : j - 0 = j := rfl
  rw [z0]
  by_cases j5 : j < 5
  · simp [j5, decide_eq_false (show ¬ 18 ≤ j by omega), decide_eq_false (show ¬ 15 ≤ j by omega), decide_eq_false (show ¬ 12 ≤ j by omega), decide_eq_false (show ¬ 10 ≤ j by omega), decide_eq_false (show ¬ 5 ≤ j by omega)]
  have p0 : p.testBit j = false := tb_low (s := 5) hp (by omega)
  by_cases j10 : j < 10
  · simp [j5, p0, show j - 5 < 5 by omega, decide_eq_false (show ¬ 18 ≤ j by omega), decide_eq_false (show ¬ 15 ≤ j by omega), decide_eq_false (show ¬ 12 ≤ j by omega), decide_eq_false (show ¬ 10 ≤ j by omega), decide_eq_true (show 5 ≤ j by omega)]
  have f0 : f.testBit (j - 5) = false := tb_low (s := 5) hf (by omega)
  by_cases j12 : j < 12
  · simp [j5, p0, f0, show ¬ j - 5 < 5 by omega, show j - 5 - 5 < 2 by omega, show j - 5 - 5 = j - 10 by omega, decide_eq_false (show ¬ 18 ≤ j by omega), decide_eq_false (show ¬ 15 ≤ j by omega), decide_eq_false (show ¬ 12 ≤ j by omega), decide_eq_true (show 10 ≤ j by omega)]
    intro z; exfalso; omega
  have k0 : k.testBit (j - 10) = false := tb_low (s := 2) hk (by omega)
  by_cases j15 : j < 15
  · simp [j5, p0, f0, k0, show ¬ j - 5 < 5 by omega, show j - 5 - 5 = j - 10 by omega, show ¬ j - 10 < 2 by omega, show j - 10 - 2 = j - 12 by omega, show j - 12 < 3 by omega, decide_eq_false (show ¬ 18 ≤ j by omega), decide_eq_false (show ¬ 15 ≤ j by omega), decide_eq_true (show 12 ≤ j by omega)]
  have i0 : i.testBit (j - 12) = false := tb_low (s := 3) hi (by omega)
  by_cases j18 : j < 18
  · simp [j5, p0, f0, k0, i0, show ¬ j - 5 < 5 by omega, show j - 5 - 5 = j - 10 by omega, show ¬ j - 10 < 2 by omega, show j - 10 - 2 = j - 12 by omega, show ¬ j - 12 < 3 by omega, show j - 12 - 3 = j - 15 by omega, show j - 15 < 3 by omega, decide_eq_false (show ¬ 18 ≤ j by omega), decide_eq_true (show 15 ≤ j by omega)]
  have q0 : q.testBit (j - 15) = false := tb_low (s := 3) hq (by omega)
  simp [j5, p0, f0, k0, i0, q0, show ¬ j - 5 < 5 by omega, show j - 5 - 5 = j - 10 by omega, show ¬ j - 10 < 2 by omega, show j - 10 - 2 = j - 12 by omega, show ¬ j - 12 < 3 by omega, show j - 12 - 3 = j - 15 by omega, show ¬ j - 15 < 3 by omega, show j - 15 - 3 = j - 18 by omega, decide_eq_true (show 18 ≤ j by omega)]
/-- the world behind a row more -/
def tlW (W : jWd) (r : Nat) (x kind far : Int32) : jWd := fun k => if k = 75 then W 4 else if k = 76 then W 3 else if k = 77 then x else if k = 78 then kind else if k = 79 then far else if k = 80 then W (11 + 8 * r) else if 81 ≤ k ∧ k < 435 then W (k - 6) else if k = 9 then (if W 9 + 1 < (60 : Int32) then W 9 + 1 else 60) else W k
theorem tlW_n {W : jWd} {r : Nat} {x kind far : Int32} {k : Nat} (h : k ≠ 9 ∧ k < 75 ∨ 435 ≤ k) : tlW W r x kind far k = W k := by
  unfold tlW
  rw [if_neg (by omega), if_neg (by omega), if_neg (by omega), if_neg (by omega), if_neg (by omega), if_neg (by omega), if_neg (by omega), if_neg (by omega)]
theorem tlW_s {W : jWd} {r : Nat} {x kind far : Int32} {k : Nat} (h : 81 ≤ k ∧ k < 435) : tlW W r x kind far k = W (k - 6) := by
  unfold tlW
  rw [if_neg (by omega), if_neg (by omega), if_neg (by omega), if_neg (by omega), if_neg (by omega), if_neg (by omega), if_pos h]
theorem mod60 {x y : Int} (h0 : 0 ≤ x) (h1 : x ≤ 59) (h2 : 0 ≤ y) (h3 : y ≤ 59) : (x + 59 - y) % 60 = if y + 1 ≤ x then x - y - 1 else x + 59 - y := by
  split <;> omega
/-- the class's rod behind a row more -/
theorem add_fin {W : jWd} {a1 r kind far : Nat} {h h1 q : jH} {s w : Int32} (R : rodE (oc h) a1 W) (K : wOK W) (hr : (r : Int) < (W 0).toInt) (hk : kind < 4) (hf : far < 32) (hs : s.toInt = ((oi (oc h) (a1 + 5) 2).toInt + 1) % 60)
    (o7 : oc h1 = u2 (oc h) (a1 + 6) (oi (oc h) (a1 + 5) 2).toNatClampNeg (.int w)) (z7 : h1.1 = h.1)
    (hw : w = (((((oi (oc h) a1 14 <<< ((18 : Int32) &&& 31)) ||| (oi (oc h) a1 13 <<< ((15 : Int32) &&& 31))) ||| (nI r <<< ((12 : Int32) &&& 31))) ||| (nI kind <<< ((10 : Int32) &&& 31))) ||| (nI far <<< ((5 : Int32) &&& 31))) ||| (oi (oc h) (a1 + 1) (nI r).toNatClampNeg <<< ((0 : Int32) &&& 31)))
    (e : oc q = u2 (u2 (oc h1) (a1 + 5) 2 (.int s)) (a1 + 5) 1 (.int (if oi (oc h1) (a1 + 5) 1 + (1 : Int32) < (60 : Int32) then oi (oc h1) (a1 + 5) 1 + (1 : Int32) else (60 : Int32))) ∧ q.1 = h1.1) : rodE (oc q) a1 (tlW W r (nI r) (nI kind) (nI far)) ∧ frR a1 (oc h) (oc q) ∧ q.1 = h.1 := by
  obtain ⟨e1, e2⟩ := e
  obtain ⟨⟨s0, s1, s2, s3, s4, s5⟩, ⟨u5, u10, u11, u12, u13, u14, u15, u16, u17⟩, RB, RC, RL⟩ := R
  have K0 := K.1
  have kp := (K.2.1 r hr).1
  have k9 := K.2.2.2.2.2.2.2.2.2.1
  obtain ⟨-, -, -, -, k3, k4, -⟩ := id K
  obtain ⟨L1, L2, L3⟩ := RL
  have l60 : (60 : Int32).toInt = 60 := rfl
  have l1 : (1 : Int32).toInt = 1 := rfl
  rw [o7] at e1
  rw [oi_ne (Or.inl (by omega)), L1] at e1
  have hw2 : w = nI (pkN (W 4).toInt.toNat (W 3).toInt.toNat r kind far (W (11 + 8 * r)).toInt.toNat) := by
    rw [← pk_row (by omega) (by omega) hk hf (by omega), hw, u14, u13, nI_cl (by omega), (RB r hr).1, ← nI_on (x := W 4) (by omega), ← nI_on (x := W 3) (by omega), ← nI_on (x := W (11 + 8 * r)) (by omega)]
  have fr : ∀ b k, b ≠ a1 + 5 → b ≠ a1 + 6 → oc q b k = oc h b k := fun b k h5 h6 => by rw [e1, u2_ne (Or.inl h5), u2_ne (Or.inl h5), u2_ne (Or.inl h6)]
  have fi : ∀ b k, b ≠ a1 + 5 → b ≠ a1 + 6 → oi (oc q) b k = oi (oc h) b k := fun b k h5 h6 => by unfold oi; rw [fr b k h5 h6]
  have t0 : tlW W r (nI r) (nI kind) (nI far) 0 = W 0 := tlW_n (Or.inl (by omega))
  have tn : ∀ k, k ≠ 9 ∧ k < 75 → tlW W r (nI r) (nI kind) (nI far) k = W k := fun k h => tlW_n (Or.inl h)
  have t9 : tlW W r (nI r) (nI kind) (nI far) 9 = (if W 9 + 1 < (60 : Int32) then W 9 + 1 else 60) := rfl
  have i9 : (if W 9 + 1 < (60 : Int32) then W 9 + 1 else 60).toInt = if (W 9).toInt < 59 then (W 9).toInt + 1 else 60 := by
    have j1 := jadd (x := W 9) (y := 1) (by omega) (by omega)
    by_cases z : W 9 + 1 < (60 : Int32)
    · rw [if_pos z, j1]; rw [Int32.lt_iff_toInt_lt, j1] at z; rw [if_pos (by omega), l1]
    · rw [if_neg z]; rw [Int32.lt_iff_toInt_lt, j1] at z; rw [if_neg (by omega)]; rfl
  have cl : (oi (oc h) (a1 + 5) 2).toNatClampNeg = (oi (oc h) (a1 + 5) 2).toInt.toNat := rfl
  refine ⟨⟨⟨?_, ?_, ?_, ?_, ?_, ?_⟩, ⟨?_, ?_, ?_, ?_, ?_, ?_, ?_, ?_, ?_⟩, fun j hj => ?_, fun j hj h32 => ?_, ?_⟩, fun b k hb => fr b k (by omega) (by omega), e2.trans z7⟩
  · rw [fr _ _ (by omega) (by omega)]; exact s0
  · rw [fr _ _ (by omega) (by omega)]; exact s1
  · rw [fr _ _ (by omega) (by omega)]; exact s2
  · rw [fr _ _ (by omega) (by omega)]; exact s3
  · rw [fr _ _ (by omega) (by omega)]; exact s4
  · rw [e1, u2_ne (Or.inr (by decide)), u2_ne (Or.inr (by decide)), u2_ne (Or.inl (by omega))]; exact s5
  · rw [fi _ _ (by omega) (by omega), tn _ (by omega)]; exact u5
  · rw [fi _ _ (by omega) (by omega), tn _ (by omega)]; exact u10
  · rw [fi _ _ (by omega) (by omega), tn _ (by omega)]; exact u11
  · rw [fi _ _ (by omega) (by omega), tn _ (by omega)]; exact u12
  · rw [fi _ _ (by omega) (by omega), tn _ (by omega)]; exact u13
  · rw [fi _ _ (by omega) (by omega), tn _ (by omega)]; exact u14
  · rw [fi _ _ (by omega) (by omega), tn _ (by omega)]; exact u15
  · rw [fi _ _ (by omega) (by omega), tn _ (by omega)]; exact u16
  · rw [fi _ _ (by omega) (by omega), tn _ (by omega)]; exact u17
  · rw [t0] at hj
    have B := RB j hj
    rw [fi _ _ (by omega) (by omega), fi _ _ (by omega) (by omega), fi _ _ (by omega) (by omega), fi _ _ (by omega) (by omega), fi _ _ (by omega) (by omega), fi _ _ (by omega) (by omega), fi _ _ (by omega) (by omega), fi _ _ (by omega) (by omega), tn _ (by omega), tn _ (by omega), tn _ (by omega), tn _ (by omega), tn _ (by omega), tn _ (by omega), tn _ (by omega), tn _ (by omega)]
    exact B
  · rw [t0] at hj
    rw [fi _ _ (by omega) (by omega), fi _ _ (by omega) (by omega)]
    exact RC j hj h32
  · have f2 : oi (oc q) (a1 + 5) 2 = s := by rw [e1, oi_ne (Or.inr (by decide)), oi_eq]
    refine ⟨by rw [e1, oi_eq, t9], by rw [f2]; omega, fun a ha => ?_⟩
    rw [t9, i9] at ha
    rw [f2, hs]
    have f6 : ∀ k, oi (oc q) (a1 + 6) k = if k = (oi (oc h) (a1 + 5) 2).toInt.toNat then w else oi (oc h) (a1 + 6) k := fun k => by
      rw [e1, oi_ne (Or.inl (by omega)), oi_ne (Or.inl (by omega)), cl]
      by_cases z : k = (oi (oc h) (a1 + 5) 2).toInt.toNat
      · rw [if_pos z, z, oi_eq]
      · rw [if_neg z, oi_ne (Or.inr z)]
    show ∃ d q1 i k f p : Nat, d < 16384 ∧ q1 < 8 ∧ i < 8 ∧ k < 4 ∧ f < 32 ∧ p < 32 ∧ oi (oc q) (a1 + 6) _ = _ ∧ _
    rw [f6]
    have a60 : (a : Int) ≤ 59 := by split at ha <;> omega
    by_cases z : a = 0
    · subst z
      rw [if_pos (by omega), hw2]
      refine ⟨(W 4).toInt.toNat, (W 3).toInt.toNat, r, kind, far, (W (11 + 8 * r)).toInt.toNat, by omega, by omega, by omega, hk, hf, by omega, rfl, ?_, ?_, rfl, rfl, rfl, ?_⟩
      · show W 4 = nI (W 4).toInt.toNat; exact nI_on (by omega)
      · show W 3 = nI (W 3).toInt.toNat; exact nI_on (by omega)
      · show W (11 + 8 * r) = nI (W (11 + 8 * r)).toInt.toNat; exact nI_on (by omega)
    · obtain ⟨b, rfl⟩ : ∃ b, a = b + 1 := ⟨a - 1, by omega⟩
      have hb : (b : Int) < (W 9).toInt := by split at ha <;> omega
      obtain ⟨d, q1, i, k, f, p, b1, b2, b3, b4, b5, b6, b7, b8⟩ := L3 b hb
      have en : ((((oi (oc h) (a1 + 5) 2).toInt + 1) % 60 + 59 - ((b + 1 : Nat) : Int)) % 60).toNat = (((oi (oc h) (a1 + 5) 2).toInt + 59 - (b : Int)) % 60).toNat := by omega
      rw [en, if_neg (by omega)]
      refine ⟨d, q1, i, k, f, p, b1, b2, b3, b4, b5, b6, b7, ?_⟩
      rw [tlW_s (by omega), tlW_s (by omega), tlW_s (by omega), tlW_s (by omega), tlW_s (by omega), tlW_s (by omega)]
      exact b8
theorem E_X5_add_90 {a1 : Nat} {n : Nat} {a0 : Nat} {sa0 : Nat} {s1 : Int32} {h : jH} {q : jH} (ha : a0 = a1 + 5) (hs : sa0 = a1 + 5) (hf : F_X5_add_90 n a0 sa0 s1 h = some q) : oc q = u2 (u2 (oc h) (a1 + 5) 2 (.int s1)) (a1 + 5) 1 (.int (if oi (oc h) (a1 + 5) 1 + (1 : Int32) < (60 : Int32) then oi (oc h) (a1 + 5) 1 + (1 : Int32) else (60 : Int32))) ∧ q.1 = h.1 := by
  unfold F_X5_add_90 at hf
  subst ha hs
  replace hf := jbind hf
  obtain ⟨h90, e1, hf⟩ := hf
  obtain ⟨o1, z1⟩ := oc_pf e1
  clear e1
  replace hf := jbind hf
  obtain ⟨v97, e2, hf⟩ := hf
  have r2 := oc_gI e2
  rw [o1] at r2
  rw [oi_ne (Or.inr (by decide))] at r2
  subst r2
  clear e2
  replace hf := jbind hf
  obtain ⟨h105, e3, hf⟩ := hf
  obtain ⟨o3, z3⟩ := oc_pf e3
  clear e3
  cases hf
  -- leaf : h105
  exact ⟨by rw [o3, o1], z3.trans z1⟩
theorem E_X5_add {W : jWd} {r : Nat} {kind : Nat} {far : Nat} {n : Nat} {a0 : Nat} {a1 : Nat} {x2 : Int32} {x3 : Int32} {x4 : Int32} {h : jH} {q : jH} (ha : a0 = a1 + 5) (R : rodE (oc h) a1 W) (K : wOK W) (h2 : x2 = nI r) (hr : (r : Int) < (W 0).toInt) (h3 : x3 = nI kind) (hk : kind < 4) (h4 : x4 = nI far) (hf9 : far < 32) (hf : F_X5_add n a0 a1 x2 x3 x4 h = some q) : rodE (oc q) a1 (tlW W r (nI r) (nI kind) (nI far)) ∧ frR a1 (oc h) (oc q) ∧ q.1 = h.1 := by
  unfold F_X5_add at hf
  subst ha h2 h3 h4
  obtain ⟨⟨s0, s1, s2, s3, s4, s5⟩, ⟨u5, u10, u11, u12, u13, u14, u15, u16, u17⟩, RB, RC, RL⟩ := id R
  have K0 := K.1
  obtain ⟨g0, -⟩ := RB r hr
  have kp := (K.2.1 r hr).1
  obtain ⟨-, -, -, -, k3, k4, -⟩ := id K
  obtain ⟨L1, L2, L3⟩ := id RL
  have l60 : (60 : Int32).toInt = 60 := rfl
  have l1 : (1 : Int32).toInt = 1 := rfl
  have l0 : (0 : Int32).toInt = 0 := rfl
  replace hf := jbind hf
  obtain ⟨p1, e1, hf⟩ := hf
  have r1 := oc_gR e1
  rw [s5] at r1
  cases r1
  clear e1
  replace hf := jbind hf
  obtain ⟨v5, e2, hf⟩ := hf
  have r2 := oc_gI e2
  subst r2
  clear e2
  replace hf := jbind hf
  obtain ⟨v9, e3, hf⟩ := hf
  have r3 := oc_gI e3
  subst r3
  clear e3
  replace hf := jbind hf
  obtain ⟨v19, e4, hf⟩ := hf
  have r4 := oc_gI e4
  subst r4
  clear e4
  replace hf := jbind hf
  obtain ⟨p55, e5, hf⟩ := hf
  have r5 := oc_gR e5
  rw [s0] at r5
  cases r5
  clear e5
  replace hf := jbind hf
  obtain ⟨v59, e6, hf⟩ := hf
  obtain ⟨r6, y6⟩ := oc_al e6
  subst r6
  clear e6
  replace hf := jbind hf
  obtain ⟨h67, e7, hf⟩ := hf
  obtain ⟨o7, z7, y7⟩ := oc_as e7
  rw [jnar0] at o7
  clear e7
  replace hf := jbind hf
  obtain ⟨v70, e8, hf⟩ := hf
  have r8 := oc_gI e8
  rw [o7] at r8
  rw [oi_ne (Or.inl (by omega))] at r8
  subst r8
  clear e8
  replace hf := jite hf
  rcases hf with ⟨c9, hf⟩ | ⟨c9, hf⟩
  · skip
    -- leaf 0: F_X5_add_90 n a0 a0 (0 : Int32) h67
    rw [Int32.le_iff_toInt_le, jadd (by omega) (by omega)] at c9
    exact add_fin R K hr hk hf9 (s := 0) (by omega) o7 z7 rfl (E_X5_add_90 (a1 := a1) rfl rfl hf)
  · skip
    replace hf := jbind hf
    obtain ⟨v81, e10, hf⟩ := hf
    have r10 := oc_gI e10
    rw [o7] at r10
    rw [oi_ne (Or.inl (by omega))] at r10
    subst r10
    clear e10
    -- leaf 1: F_X5_add_90 n a0 a0 (v81 + (1 : Int32)) h67
    rw [Int32.le_iff_toInt_le, jadd (by omega) (by omega)] at c9
    exact add_fin R K hr hk hf9 (s := oi (oc h) (a1 + 5) 2 + 1) (by rw [jadd (by omega) (by omega)]; omega) o7 z7 rfl (E_X5_add_90 (a1 := a1) rfl rfl hf)
