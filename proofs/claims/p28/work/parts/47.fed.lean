theorem jKd_B {g : jGh} {B : Nat → Int32} {c : Nat} (hc : c ≠ 9) : jKd (g.1, B, g.2.2) c = jKd g c := by
  unfold jKd
  split <;> first | rfl | exact absurd rfl hc
theorem t_pB {g : jGh} {Γ : Nat → Option Nat} {h : jH} {a : Nat} {i x : Int32} (w : jW (jKd g) Γ h) (hu : ∀ a b, Γ a = some 9 → Γ b = some 9 → a = b) (ha : Γ a = some 9) (h0 : 0 ≤ i.toInt) (h1 : i.toInt < 400) : jok (jas 1 h a i x) (fun h1 => ∃ B : Nat → Int32, jW (jKd (g.1, B, g.2.2)) Γ h1 ∧ jfa h h1) := by
  obtain ⟨f, e1, e2⟩ := t_arr w ha rfl
  refine ⟨jup h a (.inr (.inl (1, 400, upd f i.toNatClampNeg (jnar 1 x)))), ?_, upd f i.toNatClampNeg (jnar 1 x), ?_, jfa_up e1⟩
  · unfold jas
    rw [e1]
    dsimp only
    rw [if_pos ⟨rfl, jnoob h0 h1, fun q => by cases q⟩]
  · intro b c hb
    refine ⟨(w b c hb).1, ?_⟩
    show okE Γ (jKd (g.1, upd f i.toNatClampNeg (jnar 1 x), g.2.2) c) (if b = a then some _ else h.2 b)
    by_cases hq : b = a
    · subst hq
      cases ha.symm.trans hb
      rw [if_pos rfl]
      exact ⟨_, rfl, fun k _ => rfl⟩
    · rw [if_neg hq]
      have hc : c ≠ 9 := fun q => hq (hu b a (by rw [hb, q]) ha)
      rw [jKd_B hc]
      exact (w b c hb).2
theorem S_X10_put_3 {Γ : Nat → Option Nat} {n : Nat} (hu : ∀ a b c, 9 ≤ c → Γ a = some c → Γ b = some c → a = b) : ∀ (j k : Nat) {g : jGh} {a0 : Nat} {x1 x2 : Int32} {h : jH}, jW (jKd g) Γ h → Γ a0 = some 10 → j < k → j < 6 → x2.toInt = 8 * (j : Int) - 8 → 0 ≤ g.1 → g.1 + j ≤ 400 → jok (F_X10_put_3 n k a0 x1 x2 h) (fun h1 => ∃ B : Nat → Int32, jW (jKd (g.1 + j, B, g.2.2)) Γ h1)
  | 0, k + 1, g, a0, x1, x2, h, w, ta, _, _, hx, h0, h4 => by
    show jok (F_X10_put_3_b n (F_X10_put_3 n k) a0 x1 x2 h) _
    unfold F_X10_put_3_b
    have e : x2 < 0 := Int32.lt_iff_toInt_lt.mpr (by rw [hx]; show (8 * ((0 : Nat) : Int) - 8 : Int) < 0; decide)
    rw [if_pos e]
    refine jok_s ⟨g.2.1, ?_⟩
    have e2 : g.1 + ((0 : Nat) : Int) = g.1 := Int.add_zero _
    rw [e2]
    exact w
  | j + 1, k + 1, g, a0, x1, x2, h, w, ta, hk, hj, hx, h0, h4 => by
    show jok (F_X10_put_3_b n (F_X10_put_3 n k) a0 x1 x2 h) _
    unfold F_X10_put_3_b
    have ez : (0 : Int32).toInt = 0 := rfl
    have e4 : (400 : Int32).toInt = 400 := rfl
    have e8 : (-8 : Int32).toInt = -8 := rfl
    have e1 : (1 : Int32).toInt = 1 := rfl
    refine jok_lt (fun c => absurd c (by rw [hx, ez]; omega)) (fun _ => ?_)
    refine jok_b (t_gI w ta rfl rfl) (fun v8 l8 => ?_)
    have l8 : v8.toInt = g.1 := l8
    refine jok_le (fun c => absurd c (by rw [l8, e4]; omega)) (fun _ => ?_)
    refine jok_b (t_gR w ta rfl rfl) (fun p18 t18 => ?_)
    refine jok_b (t_gI w ta rfl rfl) (fun v22 l22 => ?_)
    have l22 : v22.toInt = g.1 := l22
    refine jok_b (t_pB w (fun a b => hu a b 9 (by decide)) t18 (by omega) (by omega)) (fun h29 w29 => ?_)
    obtain ⟨B, w29, -⟩ := w29
    refine jok_b (t_gI w29 ta rfl rfl) (fun v32 l32 => ?_)
    have l32 : v32.toInt = g.1 := l32
    refine jok_b (t_pL w29 (fun a b => hu a b 10 (by decide)) ta) (fun h37 w37 => ?_)
    have e5 : (v32 + (1 : Int32)).toInt = g.1 + 1 := by rw [jadd (by omega) (by omega), l32, e1]
    have w37 := w37.1
    rw [e5] at w37
    have e6 : (x2 + (-8 : Int32)).toInt = 8 * (j : Int) - 8 := by rw [jadd (by omega) (by omega), hx, e8]; omega
    refine jok_w (S_X10_put_3 hu j k w37 ta (by omega) (by omega) e6 (by show 0 ≤ g.1 + 1; omega) (by show g.1 + 1 + (j : Int) ≤ 400; omega)) (fun h1 q => ?_)
    obtain ⟨B2, q⟩ := q
    have q : jW (jKd (g.1 + 1 + (j : Int), B2, g.2.2)) Γ h1 := q
    refine ⟨B2, ?_⟩
    have e7 : g.1 + 1 + (j : Int) = g.1 + ((j + 1 : Nat) : Int) := by omega
    rw [e7] at q
    exact q
theorem S_X10_put {g : jGh} {Γ : Nat → Option Nat} {n a0 : Nat} {x1 : Int32} {h : jH} (hn : 6000 ≤ n) (w : jW (jKd g) Γ h) (ta0 : Γ a0 = some 10) (hu : ∀ a b c, 9 ≤ c → Γ a = some c → Γ b = some c → a = b) (h0 : 0 ≤ g.1) (h4 : g.1 ≤ 396) : jok (F_X10_put n a0 x1 h) (fun h1 => ∃ B : Nat → Int32, jW (jKd (g.1 + 4, B, g.2.2)) Γ h1) := by
  unfold F_X10_put
  exact S_X10_put_3 hu 4 n w ta0 (by omega) (by omega) rfl h0 (by omega)
theorem S_X11_feed {g : jGh} {Γ : Nat → Option Nat} {n a0 : Nat} {x1 x2 x3 x4 x5 : Int32} {h : jH} (hn : 6000 ≤ n) (hg : jgok g) (w : jW (jKd g) Γ h) (ta0 : Γ a0 = some 19) (hu : ∀ a b c, 9 ≤ c → Γ a = some c → Γ b = some c → a = b) : jok (F_X11_feed n a0 x1 x2 x3 x4 x5 h) (fun q => (∃ B : Nat → Int32, jW (jKd (if 380 < g.1 then g.1 else g.1 + 20, B, g.2.2)) Γ q.2) ∧ q.1.toInt = (if 380 < g.1 then -1 else g.1 + 20)) := by
  obtain ⟨⟨g0, g4⟩, -⟩ := id hg
  have ez : (0 : Int32).toInt = 0 := rfl
  unfold F_X11_feed
  refine jok_b (t_gR w ta0 rfl rfl) (fun p1 t1 => ?_)
  rw [t_cv w t1 rfl]
  refine jok_b (S_X10_hasRoom hn hg w t1) (fun v4 l4 => ?_)
  refine jok_eq (fun c _ => ?_) (fun c => ?_)
  · rw [ez] at c
    refine jok_s ⟨⟨g.2.1, ?_⟩, ?_⟩
    · rw [if_pos (by omega)]
      exact w
    · rw [if_pos (by omega)]
      rfl
  · rw [ez] at c
    have k4 : g.1 ≤ 380 := by omega
    rw [if_neg (show ¬ 380 < g.1 by omega), if_neg (show ¬ 380 < g.1 by omega)]
    refine jok_b (t_gR w ta0 rfl rfl) (fun p13 t13 => ?_)
    rw [t_cv w t13 rfl]
    refine jok_b (S_X10_put hn w t13 hu g0 (by omega)) (fun h17 w17 => ?_)
    obtain ⟨B1, w17⟩ := w17
    refine jok_b (t_gR w17 ta0 rfl rfl) (fun p21 t21 => ?_)
    rw [t_cv w17 t21 rfl]
    refine jok_b (S_X10_put hn w17 t21 hu (by show 0 ≤ g.1 + 4; omega) (by show g.1 + 4 ≤ 396; omega)) (fun h25 w25 => ?_)
    obtain ⟨B2, w25⟩ := w25
    refine jok_b (t_gR w25 ta0 rfl rfl) (fun p29 t29 => ?_)
    rw [t_cv w25 t29 rfl]
    refine jok_b (S_X10_put hn w25 t29 hu (by show 0 ≤ g.1 + 4 + 4; omega) (by show g.1 + 4 + 4 ≤ 396; omega)) (fun h33 w33 => ?_)
    obtain ⟨B3, w33⟩ := w33
    refine jok_b (t_gR w33 ta0 rfl rfl) (fun p37 t37 => ?_)
    rw [t_cv w33 t37 rfl]
    refine jok_b (S_X10_put hn w33 t37 hu (by show 0 ≤ g.1 + 4 + 4 + 4; omega) (by show g.1 + 4 + 4 + 4 ≤ 396; omega)) (fun h42 w42 => ?_)
    obtain ⟨B4, w42⟩ := w42
    refine jok_b (t_gR w42 ta0 rfl rfl) (fun p46 t46 => ?_)
    rw [t_cv w42 t46 rfl]
    refine jok_b (S_X10_put hn w42 t46 hu (by show 0 ≤ g.1 + 4 + 4 + 4 + 4; omega) (by show g.1 + 4 + 4 + 4 + 4 ≤ 396; omega)) (fun h51 w51 => ?_)
    obtain ⟨B5, w51⟩ := w51
    refine jok_b (t_gR w51 ta0 rfl rfl) (fun p55 t55 => ?_)
    refine jok_b (t_gI w51 t55 rfl rfl) (fun v58 l58 => ?_)
    have l58 : v58.toInt = g.1 + 4 + 4 + 4 + 4 + 4 := l58
    refine jok_s ⟨⟨B5, ?_⟩, (show v58.toInt = g.1 + 20 by omega)⟩
    have e : g.1 + 4 + 4 + 4 + 4 + 4 = g.1 + 20 := by omega
    have w51 : jW (jKd (g.1 + 4 + 4 + 4 + 4 + 4, B5, g.2.2)) Γ h51 := w51
    rw [e] at w51
    exact w51
theorem S_X11_end {g : jGh} {Γ : Nat → Option Nat} {n a0 : Nat} {x1 : Int32} {h : jH} (w : jW (jKd g) Γ h) (ta0 : Γ a0 = some 19) (hu : ∀ a b c, 9 ≤ c → Γ a = some c → Γ b = some c → a = b) : jok (F_X11_end n a0 x1 h) (fun q => jW (jKd (if 0 ≤ x1.toInt ∧ x1.toInt ≤ g.1 then x1.toInt else g.1, g.2)) Γ q.2 ∧ q.1 = (if 0 ≤ x1.toInt ∧ x1.toInt ≤ g.1 then 1 else 0)) := by
  have ez : (0 : Int32).toInt = 0 := rfl
  unfold F_X11_end
  refine jok_lt (fun c => ?_) (fun c => ?_)
  · rw [if_neg (by omega), if_neg (by omega)]
    exact jok_s ⟨w, rfl⟩
  refine jok_b (t_gR w ta0 rfl rfl) (fun p6 t6 => ?_)
  refine jok_b (t_gI w t6 rfl rfl) (fun v9 l9 => ?_)
  have l9 : v9.toInt = g.1 := l9
  refine jok_le (fun d => ?_) (fun d => ?_)
  · rw [if_pos (by omega), if_pos (by omega)]
    refine jok_b (t_gR w ta0 rfl rfl) (fun p18 t18 => ?_)
    refine jok_b (t_pL w (fun a b => hu a b 10 (by decide)) t18) (fun h22 w22 => ?_)
    exact jok_s ⟨w22.1, rfl⟩
  · rw [if_neg (by omega), if_neg (by omega)]
    exact jok_s ⟨w, rfl⟩
