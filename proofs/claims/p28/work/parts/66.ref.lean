theorem jlawOK_eq {C C0 : Nat → Int32} (h : ∀ k, k < 1284 → C k = C0 k) (a : jlawOK C0) : jlawOK C := by
  obtain ⟨a1, a2, a3⟩ := a
  have e0 := h 435 (by decide)
  refine ⟨by rw [e0]; exact a1, by rw [e0]; exact a2, fun i hi => ?_⟩
  rw [e0] at hi
  obtain ⟨b1, b2, b3, b4⟩ := a3 i hi
  have i12 : i < 12 := by omega
  rw [h (438 + 4 * i) (by omega), h (439 + 4 * i) (by omega)]
  refine ⟨b1, b2, b3, ?_⟩
  rw [jhgt_eq (d := C0) _ (fun k c1 c2 => h _ (by omega))]
  exact b4
theorem jg_C {g : jGh} {C : Nat → Int32} (hg : jgok g) (h : jlawOK C) : jgok (g.1, g.2.1, g.2.2.1, C, g.2.2.2.2) := ⟨hg.1, hg.2.1, hg.2.2.1, h⟩
theorem L_law_52 {g : jGh} {Γ : Nat → Option Nat} {n a0 : Nat} {D : Nat → Int32} {x1 : Int32} (hu : ∀ a b c, 9 ≤ c → Γ a = some c → Γ b = some c → a = b) (ta0 : Γ a0 = some 20) : ∀ (k : Nat) {x2 : Int32} {C : Nat → Int32} {h : jH}, 0 ≤ x2.toInt → x2.toInt ≤ 849 → 849 - x2.toInt < k → (∀ j : Nat, (j : Int) < x2.toInt → C (435 + j) = D (1284 + j)) → (∀ j, 1284 ≤ j → C j = D j) → jW (jKd (g.1, g.2.1, g.2.2.1, C, g.2.2.2.2)) Γ h → jok (F_X12_law_52 n k a0 x1 x2 h) (fun q => ∃ C2 : Nat → Int32, (∀ j : Nat, j < 849 → C2 (435 + j) = D (1284 + j)) ∧ jW (jKd (g.1, g.2.1, g.2.2.1, C2, g.2.2.2.2)) Γ q.2)
  | 0, x2, C, h, l0, l1, hk, h1, h2, w => by omega
  | k + 1, x2, C, h, l0, l1, hk, h1, h2, w => by
    show jok (F_X12_law_52_b n (F_X12_law_52 n k) a0 x1 x2 h) _
    unfold F_X12_law_52_b
    have eo : (1 : Int32).toInt = 1 := rfl
    have e2 : (2 : Int32).toInt = 2 := rfl
    have e4 : (435 : Int32).toInt = 435 := rfl
    have e12 : (1284 : Int32).toInt = 1284 := rfl
    have e8 : (849 : Int32).toInt = 849 := rfl
    refine jok_le (fun c => ?_) (fun c => ?_)
    · refine jok_b (t_gR w ta0 rfl rfl) (fun p86 t86 => ?_)
      refine jok_b (t_asW w t86 (by omega) (by omega) (by omega) (by omega)) (fun h91 w91 => ?_)
      obtain ⟨w91, -⟩ := w91
      refine jok_b (t_pI w91 ta0 rfl rfl (by constructor <;> decide)) (fun h94 w94 => ?_)
      exact jok_s ⟨C, fun j hj => h1 j (by omega), w94.1⟩
    · have ea : ((1284 : Int32) + x2).toInt = 1284 + x2.toInt := by rw [jadd (by omega) (by omega), e12]
      have eb : ((435 : Int32) + x2).toInt = 435 + x2.toInt := by rw [jadd (by omega) (by omega), e4]
      have ec : (x2 + (1 : Int32)).toInt = x2.toInt + 1 := by rw [jadd (by omega) (by omega), eo]
      have ean : ((1284 : Int32) + x2).toInt.toNat = 1284 + x2.toInt.toNat := by omega
      have ebn : ((435 : Int32) + x2).toInt.toNat = 435 + x2.toInt.toNat := by omega
      refine jok_b (t_gR w ta0 rfl rfl) (fun p60 t60 => ?_)
      refine jok_b (t_gR w ta0 rfl rfl) (fun p69 t69 => ?_)
      refine jok_b (t_alC w t69 (by omega) (by omega)) (fun v77 l77 => ?_)
      have l77 : v77 = C ((1284 : Int32) + x2).toInt.toNat := l77
      rw [ean] at l77
      refine jok_b (t_asC w hu t60 (by omega) (by omega)) (fun h78 w78 => ?_)
      obtain ⟨w78, -⟩ := w78
      rw [ebn] at w78
      refine L_law_52 hu ta0 k (C := upd C (435 + x2.toInt.toNat) v77) (by omega) (by omega) (by omega) (fun j hj => ?_) (fun j hj => ?_) w78
      · by_cases q : j = x2.toInt.toNat
        · subst q
          rw [upd_eq, l77]
          exact h2 _ (by omega)
        · rw [upd_ne (by omega)]
          exact h1 j (by omega)
      · rw [upd_ne (by omega)]
        exact h2 j hj
theorem L_law_32 {g : jGh} {Γ : Nat → Option Nat} {n a0 : Nat} {C0 : Nat → Int32} {x1 s1 : Int32} {h : jH} (hn : 6000 ≤ n) (hg : jgok g) (hC0 : jlawOK C0) (hu : ∀ a b c, 9 ≤ c → Γ a = some c → Γ b = some c → a = b) (ta0 : Γ a0 = some 20) (hs : s1 = 1 ∨ (s1 = 0 ∧ ∃ m : Nat, m ≤ 12 ∧ x1.toInt = (m : Int) ∧ jln g Γ a0 C0 m 0 h)) (a : jlg g Γ C0 h) : jok (F_X12_law_32 n a0 x1 a0 s1 h) (fun q => ∃ C2 : Nat → Int32, jlawOK C2 ∧ jW (jKd (g.1, g.2.1, g.2.2.1, C2, g.2.2.2.2)) Γ q.2) := by
  have hb : 0 ≤ s1.toInt ∧ s1.toInt ≤ 1 := by rcases hs with rfl | ⟨rfl, -⟩ <;> decide
  have e12 : (1284 : Int32).toInt = 1284 := rfl
  unfold F_X12_law_32
  rcases hs with rfl | ⟨rfl, m, hm, hx, j⟩
  · obtain ⟨C, hC, w⟩ := a
    rw [t_cv w ta0 rfl]
    refine jok_b2 (S_X12_throwsIf hn (jg_C hg (jlawOK_eq hC hC0)) w ta0 hb.1 hb.2) (fun q33 e33 w33 => ?_)
    rw [if_neg (by rw [jthr1 e33]; decide)]
    exact jok_s ⟨C, jlawOK_eq hC hC0, w33.1⟩
  · obtain ⟨C, hC, w, st, u, e1, e2, l0, l1, l2, hl⟩ := j
    obtain ⟨v, ev, lv⟩ := t_gI (k := 16) w ta0 rfl rfl
    have lv : 0 ≤ v.toInt ∧ v.toInt ≤ 400 := lv
    have qz : v = st := Option.some.inj (ev.symm.trans e1)
    subst qz
    rw [t_cv w ta0 rfl]
    refine jok_b2 (S_X12_throwsIf hn (jg_C hg (jlawOK_eq hC hC0)) w ta0 hb.1 hb.2) (fun q33 e33 w33 => ?_)
    have eh := jthr0 e33
    obtain ⟨r33, h33⟩ := q33
    have eh : h33 = h := eh
    subst eh
    refine jok_if (fun _ => ?_) (fun _ => jok_s ⟨C, jlawOK_eq hC hC0, w⟩)
    refine jok_b (t_gR w ta0 rfl rfl) (fun p42 t42 => ?_)
    refine jok_b (t_asC w hu t42 (by omega) (by omega)) (fun h49 w49 => ?_)
    obtain ⟨w49, -⟩ := w49
    have w49 : jW (jKd (g.1, g.2.1, g.2.2.1, upd C 1284 x1, g.2.2.2.2)) Γ h49 := w49
    refine jok_w (L_law_52 (D := upd C 1284 x1) (x1 := x1) (x2 := 0) hu ta0 n (by decide) (by decide) (by show 849 - (0 : Int) < _; omega) (fun j hj => absurd hj (by show ¬ (j : Int) < 0; omega)) (fun j hj => rfl) w49) (fun q wq => ?_)
    obtain ⟨C2, h2, w2⟩ := wq
    have hc : C2 435 = x1 := by rw [h2 0 (by decide)]; exact upd_eq
    refine ⟨C2, ⟨by rw [hc]; omega, by rw [hc]; omega, fun i hi => ?_⟩, w2⟩
    rw [hc, hx] at hi
    obtain ⟨z1, z2, z3, z4⟩ := hl i (by omega)
    have ha : C2 (438 + 4 * i) = C (1287 + 4 * i) := by
      have := h2 (3 + 4 * i) (by omega)
      rw [show 435 + (3 + 4 * i) = 438 + 4 * i by omega, show 1284 + (3 + 4 * i) = 1287 + 4 * i by omega, upd_ne (by omega)] at this
      exact this
    have hb : C2 (439 + 4 * i) = C (1288 + 4 * i) := by
      have := h2 (4 + 4 * i) (by omega)
      rw [show 435 + (4 + 4 * i) = 439 + 4 * i by omega, show 1284 + (4 + 4 * i) = 1288 + 4 * i by omega, upd_ne (by omega)] at this
      exact this
    rw [ha, hb]
    refine ⟨z1, z2, by omega, ?_⟩
    rw [jhgt_eq (d := jdr C) _ (fun k c1 c2 => by
      have := h2 (49 + 2 * k) (by omega)
      rw [show 435 + (49 + 2 * k) = 484 + 2 * k by omega, show 1284 + (49 + 2 * k) = 484 + 2 * k + 849 by omega, upd_ne (by omega)] at this
      exact this)]
    exact z4
