theorem jlawOK_eq2 {C C0 : Nat → Int32} (h : ∀ k, 435 ≤ k → k < 1284 → C k = C0 k) (a : jlawOK C0) : jlawOK C := by
  obtain ⟨a1, a2, a3⟩ := a
  have e0 := h 435 (by decide) (by decide)
  refine ⟨by rw [e0]; exact a1, by rw [e0]; exact a2, fun i hi => ?_⟩
  rw [e0] at hi
  obtain ⟨b1, b2, b3, b4⟩ := a3 i hi
  have i12 : i < 12 := by omega
  rw [h (438 + 4 * i) (by omega) (by omega), h (439 + 4 * i) (by omega) (by omega)]
  refine ⟨b1, b2, b3, ?_⟩
  rw [jhgt_eq (d := C0) _ (fun k c1 c2 => h _ (by omega) (by omega))]
  exact b4
theorem S_X12_back_16 {g0 : jGh} {Γ : Nat → Option Nat} {n a0 : Nat} (hi : jlawOK g0.2.2.2.2.2.1) (ta0 : Γ a0 = some 20) (hu : ∀ a b c, 9 ≤ c → Γ a = some c → Γ b = some c → a = b) : ∀ (k : Nat) {C : Nat → Int32} {x1 : Int32} {h : jH}, jW (jKd (g0.1, g0.2.1, g0.2.2.1, C, g0.2.2.2.2)) Γ h → 0 ≤ x1.toInt → x1.toInt ≤ 1284 → 1284 - x1.toInt < k → (∀ j : Nat, 435 ≤ j → (j : Int) < x1.toInt → C j = g0.2.2.2.2.2.1 j) → jok (F_X12_back_16 n k a0 x1 h) (fun q => (∃ C2 : Nat → Int32, jlawOK C2 ∧ jW (jKd (g0.1, g0.2.1, g0.2.2.1, C2, g0.2.2.2.2)) Γ q.2) ∧ q.1 = 1)
  | 0, C, x1, h, w, l0, l1, hk, hE => by omega
  | k + 1, C, x1, h, w, l0, l1, hk, hE => by
    show jok (F_X12_back_16_b n (F_X12_back_16 n k) a0 x1 h) _
    unfold F_X12_back_16_b
    have eo : (1 : Int32).toInt = 1 := rfl
    have e12 : (1284 : Int32).toInt = 1284 := rfl
    refine jok_le (fun c => ?_) (fun c => ?_)
    · refine jok_b (t_pI w ta0 rfl rfl (by constructor <;> decide)) (fun h43 w43 => ?_)
      exact jok_s ⟨⟨C, jlawOK_eq2 (fun j h4 h12 => hE j h4 (by omega)) hi, w43.1⟩, rfl⟩
    · refine jok_b (t_gR w ta0 rfl rfl) (fun p24 t24 => ?_)
      refine jok_b (t_gR w ta0 rfl rfl) (fun p29 t29 => ?_)
      refine jok_b (t_al w t29 rfl (by omega) (by omega)) (fun v l => ?_)
      have l : jR3 x1.toInt.toNat v ∧ (x1.toInt.toNat < 435 ∨ v = g0.2.2.2.2.2.1 x1.toInt.toNat) := l
      have ec : (x1 + (1 : Int32)).toInt = x1.toInt + 1 := by rw [jadd (by omega) (by omega), eo]
      by_cases q : x1.toInt.toNat < 435
      · refine jok_b (t_as w t24 rfl (by omega) (by omega) (show jRw (g0.1, g0.2.1, g0.2.2.1, C, g0.2.2.2.2) x1.toInt.toNat v from ⟨l.1, Or.inl q⟩) (fun q => by cases q)) (fun h34 w34 => ?_)
        exact S_X12_back_16 hi ta0 hu k w34.1 (by omega) (by omega) (by omega) (fun j h4 hj => hE j h4 (by omega))
      · refine jok_b (t_asC w hu t24 (by omega) (by omega)) (fun h34 w34 => ?_)
        obtain ⟨w34, -⟩ := w34
        refine S_X12_back_16 hi ta0 hu k (C := upd C x1.toInt.toNat v) w34 (by omega) (by omega) (by omega) (fun j h4 hj => ?_)
        by_cases q2 : j = x1.toInt.toNat
        · subst q2
          rw [upd_eq]
          rcases l.2 with z | z
          · exact absurd z q
          · exact z
        · rw [upd_ne q2]
          exact hE j h4 (by omega)
theorem S_X12_back {g : jGh} {Γ : Nat → Option Nat} {n a0 : Nat} {h : jH} (hn : 6000 ≤ n) (hg : jgok g) (w : jW (jKd g) Γ h) (ta0 : Γ a0 = some 20) (hu : ∀ a b c, 9 ≤ c → Γ a = some c → Γ b = some c → a = b) : jok (F_X12_back n a0 h) (fun q => (∃ C2 : Nat → Int32, jlawOK C2 ∧ jW (jKd (g.1, g.2.1, g.2.2.1, C2, g.2.2.2.2)) Γ q.2) ∧ q.1 = (if g.2.2.2.2.2.2.2.2 = 0 then 0 else 1)) := by
  unfold F_X12_back
  have e0 : (0 : Int32).toInt = 0 := rfl
  refine jok_b (t_pI w ta0 rfl rfl trivial) (fun h2 w2 => ?_)
  obtain ⟨w2, -, -⟩ := w2
  refine jok_b (t_gI w2 ta0 rfl rfl) (fun v6 l6 => ?_)
  have l6 : v6 = g.2.2.2.2.2.2.2.2 ∧ (v6.toInt = 0 ∨ jlawOK g.2.2.2.2.2.1) := l6
  refine jok_eq (fun _ z => jok_s ⟨⟨g.2.2.2.1, hg.2.2.2, w2⟩, by rw [if_pos (l6.1.symm.trans z)]⟩) (fun c => ?_)
  have cz : ¬ g.2.2.2.2.2.2.2.2 = 0 := fun q => c (by rw [l6.1, q])
  rw [if_neg cz]
  rw [e0] at c
  rcases l6.2 with z | z
  · exact absurd z c
  · exact S_X12_back_16 (g0 := g) z ta0 hu n (C := g.2.2.2.1) w2 (by decide) (by decide) (by show 1284 - (0 : Int) < _; omega) (fun j h4 hj => absurd hj (by show ¬ (j : Int) < 0; omega))
