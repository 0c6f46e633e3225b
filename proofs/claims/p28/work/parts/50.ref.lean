/-! the reference: the tape's length anew -/
theorem jKd_L2 {g : jGh} {x : Int} {c : Nat} (hc : c ≠ 20) : jKd (g.1, g.2.1, x, g.2.2.2) c = jKd g c := by
  unfold jKd
  split <;> first | rfl | exact absurd rfl hc
theorem t_pL2 {g : jGh} {Γ : Nat → Option Nat} {h : jH} {a : Nat} {x : Int32} (w : jW (jKd g) Γ h) (hu : ∀ a b c, 9 ≤ c → Γ a = some c → Γ b = some c → a = b) (ha : Γ a = some 20) : jok (jpf 10 h a 9 (.int x)) (fun h1 => jW (jKd (g.1, g.2.1, x.toInt, g.2.2.2)) Γ h1 ∧ jgf 10 h1 a 9 = some (.int x) ∧ jfr h h1 a 9) := by
  obtain ⟨vs, e1, e2, e3⟩ := t_obj w ha rfl
  have hlt : 9 < vs.length := by rw [e2]; exact Nat.le_of_ble_eq_true rfl
  refine ⟨jup h a (.inl (10, vs.set 9 (.int x))), ?_, ?_, ?_, jfr_up e1⟩
  · unfold jpf
    rw [e1]
    dsimp only
    rw [if_pos ⟨rfl, hlt⟩]
  · intro b c hb
    refine ⟨(w b c hb).1, ?_⟩
    show okE Γ (jKd (g.1, g.2.1, x.toInt, g.2.2.2) c) (if b = a then some _ else h.2 b)
    by_cases hq : b = a
    · subst hq
      cases ha.symm.trans hb
      rw [if_pos rfl]
      refine ⟨_, rfl, by rw [List.length_set]; exact e2, fun j F9 hj => ?_⟩
      by_cases hq : j = 9
      · subst hq
        cases hj
        exact ⟨.int x, by rw [List.getElem?_set_self hlt], x, rfl, rfl⟩
      · have hj2 : (match jKd g 20 with | .inr (.inr q) => q.2 | _ => [])[j]? = some F9 := by
          match j, hq, hj with
          | 0, _, hj => exact hj
          | 1, _, hj => exact hj
          | 2, _, hj => exact hj
          | 3, _, hj => exact hj
          | 4, _, hj => exact hj
          | 5, _, hj => exact hj
          | 6, _, hj => exact hj
          | 7, _, hj => exact hj
          | 8, _, hj => exact hj
          | 10, _, hj => exact hj
          | 11, _, hj => exact hj
          | 12, _, hj => exact hj
          | 13, _, hj => exact hj
          | 14, _, hj => exact hj
          | 15, _, hj => exact hj
          | 16, _, hj => exact hj
          | 17, _, hj => exact hj
          | 18, _, hj => exact hj
          | 19, _, hj => exact hj
          | 20, _, hj => exact hj
          | 21, _, hj => exact hj
          | j + 22, _, hj => cases hj
        obtain ⟨v9, f1, f2⟩ := e3 j F9 hj2
        exact ⟨v9, by rw [List.getElem?_set_ne (Ne.symm hq)]; exact f1, f2⟩
    · rw [if_neg hq]
      have hc : c ≠ 20 := fun q => hq (hu b a 20 (by decide) (by rw [hb, q]) ha)
      rw [jKd_L2 hc]
      exact (w b c hb).2
  · unfold jgf
    show (match (if a = a then some _ else h.2 a) with | some (.inl o) => if o.1 = 10 then o.2[9]? else none | _ => none) = _
    rw [if_pos rfl]
    dsimp only
    rw [if_pos rfl, List.getElem?_set_self hlt]
theorem S_X12_uses {g : jGh} {Γ : Nat → Option Nat} {n a0 : Nat} {h : jH} (hg : jgok g) (w : jW (jKd g) Γ h) (ta0 : Γ a0 = some 20) (hu : ∀ a b c, 9 ≤ c → Γ a = some c → Γ b = some c → a = b) : jok (F_X12_uses n a0 h) (fun q => jW (jKd (g.1, g.2.1, (0 : Int32).toInt, g.2.2.2)) Γ q) := by
  obtain ⟨-, q0, q4, -⟩ := id hg
  unfold F_X12_uses
  refine jok_b (t_pI w ta0 rfl rfl trivial) (fun h2 w2 => ?_)
  obtain ⟨w2, -, -⟩ := w2
  refine jok_b (t_gI w2 ta0 rfl rfl) (fun v7 l7 => ?_)
  have l7 : v7.toInt = g.2.2.1 := l7
  refine jok_b (t_pI w2 ta0 rfl rfl (by constructor <;> omega)) (fun h10 w10 => ?_)
  obtain ⟨w10, -, -⟩ := w10
  refine jok_b (t_pL2 w10 hu ta0) (fun h15 w15 => ?_)
  obtain ⟨w15, -, -⟩ := w15
  refine jok_b (t_pI w15 ta0 rfl rfl (by constructor <;> decide)) (fun h20 w20 => ?_)
  exact jok_s w20.1
theorem S_X12_end {g : jGh} {Γ : Nat → Option Nat} {n a0 : Nat} {x1 : Int32} {h : jH} (w : jW (jKd g) Γ h) (ta0 : Γ a0 = some 20) (hu : ∀ a b c, 9 ≤ c → Γ a = some c → Γ b = some c → a = b) : jok (F_X12_end n a0 x1 h) (fun q => jW (jKd (g.1, g.2.1, if 0 ≤ x1.toInt ∧ x1.toInt ≤ g.2.2.1 then x1.toInt else g.2.2.1, g.2.2.2)) Γ q.2 ∧ q.1 = (if 0 ≤ x1.toInt ∧ x1.toInt ≤ g.2.2.1 then 1 else 0)) := by
  have ez : (0 : Int32).toInt = 0 := rfl
  unfold F_X12_end
  refine jok_b (t_pI w ta0 rfl rfl trivial) (fun h2 w2 => ?_)
  obtain ⟨w2, -, -⟩ := w2
  refine jok_lt (fun c => ?_) (fun c => ?_)
  · rw [if_neg (by omega), if_neg (by omega)]
    exact jok_s ⟨w2, rfl⟩
  refine jok_b (t_gI w2 ta0 rfl rfl) (fun v11 l11 => ?_)
  have l11 : v11.toInt = g.2.2.1 := l11
  refine jok_le (fun d => ?_) (fun d => ?_)
  · rw [if_pos (by omega), if_pos (by omega)]
    refine jok_b (t_pL2 w2 hu ta0) (fun h21 w21 => ?_)
    exact jok_s ⟨w21.1, rfl⟩
  · rw [if_neg (by omega), if_neg (by omega)]
    exact jok_s ⟨w2, rfl⟩
theorem jbyte (x : Int32) : jI (-128) 127 (jnar 1 (x.toInt8.toInt32)) := by
  have h : ∀ y : Int8, jI (-128) 127 y.toInt32 := fun y => by
    have e : y.toInt32.toInt = y.toInt := Int8.toInt_toInt32 y
    have h1 := Int8.le_toInt y
    have h2 := Int8.toInt_le y
    exact ⟨by rw [e]; exact h1, by rw [e]; exact h2⟩
  exact h _
theorem S_X12_feed_60 {Γ : Nat → Option Nat} {n : Nat} (hn : 6000 ≤ n) (hu : ∀ a b c, 9 ≤ c → Γ a = some c → Γ b = some c → a = b) : ∀ (k : Nat) {g : jGh} {a0 : Nat} {x6 : Int32} {h : jH}, jW (jKd g) Γ h → Γ a0 = some 20 → 0 ≤ g.2.2.1 → g.2.2.1 ≤ 380 → 0 ≤ x6.toInt → x6.toInt ≤ 20 → 20 - x6.toInt < k → jok (F_X12_feed_60 n k a0 x6 h) (fun q => jW (jKd (g.1, g.2.1, g.2.2.1 + 20, g.2.2.2)) Γ q.2 ∧ q.1.toInt = g.2.2.1 + 20)
  | 0, g, a0, x6, h, w, ta, h0, h4, l0, l1, hk => by omega
  | k + 1, g, a0, x6, h, w, ta, h0, h4, l0, l1, hk => by
    show jok (F_X12_feed_60_b n (F_X12_feed_60 n k) a0 x6 h) _
    unfold F_X12_feed_60_b
    have e20 : (20 : Int32).toInt = 20 := rfl
    have e4 : (4 : Int32).toInt = 4 := rfl
    have e1 : (1 : Int32).toInt = 1 := rfl
    refine jok_le (fun c => ?_) (fun c => ?_)
    · refine jok_b (t_gI w ta rfl rfl) (fun v108 l108 => ?_)
      have l108 : v108.toInt = g.2.2.1 := l108
      refine jok_b (t_pL2 w hu ta) (fun h114 w114 => ?_)
      obtain ⟨w114, -, -⟩ := w114
      have ea : (v108 + (20 : Int32)).toInt = g.2.2.1 + 20 := by rw [jadd (by omega) (by omega), l108, e20]
      rw [ea] at w114
      refine jok_b (t_gI w114 ta rfl rfl) (fun v118 l118 => ?_)
      exact jok_s ⟨w114, l118⟩
    · refine jok_b (t_gR w ta rfl rfl) (fun p68 t68 => ?_)
      refine jok_b (t_gI w ta rfl rfl) (fun v72 l72 => ?_)
      have l72 : v72.toInt = g.2.2.1 := l72
      refine jok_b (t_gR w ta rfl rfl) (fun p79 t79 => ?_)
      have ed : (x6 / (4 : Int32)).toInt = x6.toInt / 4 := jdivL l0 e4 (by decide)
      refine jok_b (t_al w t79 rfl (by omega) (by omega)) (fun v86 l86 => ?_)
      have ea : (v72 + x6).toInt = v72.toInt + x6.toInt := jadd (by omega) (by omega)
      refine jok_b (t_as w t68 rfl (by omega) (by omega) ?_ (fun q => by cases q)) (fun h99 w99 => ?_)
      · exact jbyte _
      obtain ⟨w99, -⟩ := w99
      have es : (x6 + (1 : Int32)).toInt = x6.toInt + 1 := by rw [jadd (by omega) (by omega), e1]
      exact S_X12_feed_60 hn hu k w99 ta h0 h4 (by omega) (by omega) (by omega)
theorem S_X12_feed {g : jGh} {Γ : Nat → Option Nat} {n a0 : Nat} {x1 x2 x3 x4 x5 : Int32} {h : jH} (hn : 6000 ≤ n) (hg : jgok g) (w : jW (jKd g) Γ h) (ta0 : Γ a0 = some 20) (hu : ∀ a b c, 9 ≤ c → Γ a = some c → Γ b = some c → a = b) : jok (F_X12_feed n a0 x1 x2 x3 x4 x5 h) (fun q => jW (jKd (g.1, g.2.1, if 380 < g.2.2.1 then g.2.2.1 else g.2.2.1 + 20, g.2.2.2)) Γ q.2 ∧ q.1.toInt = (if 380 < g.2.2.1 then -1 else g.2.2.1 + 20)) := by
  obtain ⟨-, q0, q4, -⟩ := id hg
  have e400 : (400 : Int32).toInt = 400 := rfl
  have e20 : (20 : Int32).toInt = 20 := rfl
  unfold F_X12_feed
  refine jok_b (t_pI w ta0 rfl rfl trivial) (fun h2 w2 => ?_)
  obtain ⟨w2, -, -⟩ := w2
  refine jok_b (t_gI w2 ta0 rfl rfl) (fun v6 l6 => ?_)
  have l6 : v6.toInt = g.2.2.1 := l6
  have ea : (v6 + (20 : Int32)).toInt = v6.toInt + 20 := by rw [jadd (by omega) (by omega), e20]
  refine jok_le (fun c => ?_) (fun c => ?_)
  · rw [if_neg (by omega), if_neg (by omega)]
    refine jok_b (t_gR w2 ta0 rfl rfl) (fun p21 t21 => ?_)
    refine jok_b (t_as w2 t21 rfl (by decide) (by decide) trivial (fun q => by cases q)) (fun h26 w26 => ?_)
    obtain ⟨w26, -⟩ := w26
    refine jok_b (t_gR w26 ta0 rfl rfl) (fun p28 t28 => ?_)
    refine jok_b (t_as w26 t28 rfl (by decide) (by decide) trivial (fun q => by cases q)) (fun h33 w33 => ?_)
    obtain ⟨w33, -⟩ := w33
    refine jok_b (t_gR w33 ta0 rfl rfl) (fun p35 t35 => ?_)
    refine jok_b (t_as w33 t35 rfl (by decide) (by decide) trivial (fun q => by cases q)) (fun h40 w40 => ?_)
    obtain ⟨w40, -⟩ := w40
    refine jok_b (t_gR w40 ta0 rfl rfl) (fun p42 t42 => ?_)
    refine jok_b (t_as w40 t42 rfl (by decide) (by decide) trivial (fun q => by cases q)) (fun h48 w48 => ?_)
    obtain ⟨w48, -⟩ := w48
    refine jok_b (t_gR w48 ta0 rfl rfl) (fun p50 t50 => ?_)
    refine jok_b (t_as w48 t50 rfl (by decide) (by decide) trivial (fun q => by cases q)) (fun h56 w56 => ?_)
    obtain ⟨w56, -⟩ := w56
    exact S_X12_feed_60 hn hu n w56 ta0 q0 (by omega) (by decide) (by decide) (by show 20 - (0 : Int) < _; omega)
  · rw [if_pos (by omega), if_pos (by omega)]
    exact jok_s ⟨w2, rfl⟩
