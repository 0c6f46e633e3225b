theorem T_X12_number_6 {g : jGh} {Γ : Nat → Option Nat} {n : Nat} : ∀ (k : Nat) {a0 : Nat} {x1 x2 x3 u s : Int32} {h : jH}, jW (jKd g) Γ h → Γ a0 = some 20 → jgI 10 h a0 10 = some u → jgI 10 h a0 12 = some s → 400 - u.toInt < k → jok (F_X12_number_6 n k a0 x1 x2 x3 h) (fun q => jrw g Γ a0 h q.2 ∧ ∃ v, jgI 10 q.2 a0 10 = some v ∧ u.toInt ≤ v.toInt ∧ (q.1 = -1 ∨ (x1.toInt ≤ q.1.toInt ∧ q.1.toInt ≤ x2.toInt ∧ v.toInt ≠ s.toInt)))
  | 0, a0, x1, x2, x3, u, s, h, w, ta, eu, es, hk => by
    obtain ⟨v1, e1, l1⟩ := t_gI (k := 10) w ta rfl rfl
    have l1 : 0 ≤ v1.toInt ∧ v1.toInt ≤ 400 := l1
    have qz : v1 = u := Option.some.inj (e1.symm.trans eu)
    subst qz
    omega
  | k + 1, a0, x1, x2, x3, u, s, h, w, ta, eu, es, hk => by
    show jok (F_X12_number_6_b n (F_X12_number_6 n k) a0 x1 x2 x3 h) _
    unfold F_X12_number_6_b
    obtain ⟨v1, e1, l1⟩ := t_gI (k := 10) w ta rfl rfl
    have l1 : 0 ≤ v1.toInt ∧ v1.toInt ≤ 400 := l1
    have qz : v1 = u := Option.some.inj (e1.symm.trans eu)
    subst qz
    have eo : (1 : Int32).toInt = 1 := rfl
    rw [t_cv w ta rfl]
    have hr : jrw g Γ a0 h h := ⟨w, fun _ _ _ => rfl⟩
    have hm : ∀ {x : Int32}, x = -1 → jok (some (x, h)) (fun q => jrw g Γ a0 h q.2 ∧ ∃ v, jgI 10 q.2 a0 10 = some v ∧ v1.toInt ≤ v.toInt ∧ (q.1 = -1 ∨ (x1.toInt ≤ q.1.toInt ∧ q.1.toInt ≤ x2.toInt ∧ v.toInt ≠ s.toInt))) := fun hx => jok_s ⟨hr, v1, e1, Int.le_refl _, Or.inl hx⟩
    refine jok_b (S_X12_isAt w ta) (fun v5 l5 => ?_)
    refine jok_eq (fun _ _ => ?_) (fun c => ?_)
    · refine jok_r e1 (jok_r es (jok_eq (fun _ _ => hm rfl) (fun hne => ?_)))
      refine jok_r e1 (jok_r es (jok_if (fun _ => hm rfl) (fun _ => ?_)))
      refine jok_lt (fun _ => hm rfl) (fun c1 => jok_le (fun c2 => jok_s ⟨hr, v1, e1, Int.le_refl _, Or.inr ⟨c1, c2, hne⟩⟩) (fun _ => hm rfl))
    · have hp := l5.2 c _ e1
      have ea : (v1 + (1 : Int32)).toInt = v1.toInt + 1 := by rw [jadd (by omega) (by omega), eo]
      have hn9 : ∀ {x : Int32}, jok ((jpf 10 h a0 10 (.int (v1 + (1 : Int32)))).bind fun h59 => F_X12_number_6 n k a0 x1 x2 x h59) (fun q => jrw g Γ a0 h q.2 ∧ ∃ v, jgI 10 q.2 a0 10 = some v ∧ v1.toInt ≤ v.toInt ∧ (q.1 = -1 ∨ (x1.toInt ≤ q.1.toInt ∧ q.1.toInt ≤ x2.toInt ∧ v.toInt ≠ s.toInt))) := by
        intro x
        refine jok_b (t_rw w ta (Or.inl rfl) (by omega) (by omega)) (fun h18 w18 => ?_)
        obtain ⟨w18, q18, f18⟩ := w18
        refine jok_w (T_X12_number_6 k w18.1 ta (fJ q18) (fI (f18 10 a0 12 (Or.inr (by decide))) es) (by omega)) (fun q wq => ?_)
        obtain ⟨wq, v, b, c, d⟩ := wq
        exact ⟨jrw_tr w18 wq, v, b, by omega, d⟩
      refine jok_r e1 (jok_r es (jok_if (fun _ => jok_r e1 hn9) (fun _ => ?_)))
      refine jok_b (t_gR w ta rfl rfl) (fun p35 t35 => ?_)
      refine jok_r e1 (jok_b (t_al w t35 rfl (by omega) (by omega)) (fun v42 _ => jok_r e1 hn9))
theorem T_X12_number {g : jGh} {Γ : Nat → Option Nat} {n a0 : Nat} {x1 x2 : Int32} {h : jH} (hn : 6000 ≤ n) (w : jW (jKd g) Γ h) (ta0 : Γ a0 = some 20) : jok (F_X12_number n a0 x1 x2 h) (fun q => jrw g Γ a0 h q.2 ∧ jmo a0 0 h q.2 ∧ (q.1 = -1 ∨ (x1.toInt ≤ q.1.toInt ∧ q.1.toInt ≤ x2.toInt ∧ jmo a0 1 h q.2))) := by
  unfold F_X12_number
  obtain ⟨u, eu, -⟩ := t_gI (k := 10) w ta0 rfl rfl
  rw [t_cv w ta0 rfl]
  refine jok_b (T_X12_blanks hn w ta0 eu) (fun h1 w1 => ?_)
  obtain ⟨w1, v1, e1, e2, l1⟩ := w1
  obtain ⟨v9, e9, l9⟩ := t_gI (k := 10) w1.1 ta0 rfl rfl
  have l9 : 0 ≤ v9.toInt ∧ v9.toInt ≤ 400 := l9
  have qz : v9 = v1 := Option.some.inj (e9.symm.trans e1)
  subst qz
  refine jok_w (T_X12_number_6 n w1.1 ta0 e1 e2 (by omega)) (fun q wq => ?_)
  obtain ⟨wq, v, ev, lv, d⟩ := wq
  have hm : ∀ e : Int, v9.toInt + e ≤ v.toInt → jmo a0 e h q.2 := fun e he u9 e99 => by
    have qz : u = u9 := Option.some.inj (eu.symm.trans e99)
    subst qz
    exact ⟨v, ev, by omega⟩
  refine ⟨jrw_tr w1 wq, hm 0 (by omega), ?_⟩
  rcases d with d | ⟨d1, d2, d3⟩
  · exact Or.inl d
  · exact Or.inr ⟨d1, d2, hm 1 (by omega)⟩
/-! the reference reads a law: its codes -/
/-- the draft's codes, as law's -/
def jdr (C : Nat → Int32) : Nat → Int32 := fun k => C (k + 849)
theorem jhgt_eq {c d : Nat → Int32} {s : Nat} : ∀ l : Nat, (∀ k, s ≤ k → k < s + l → c (484 + 2 * k) = d (484 + 2 * k)) → jhgt c s l = jhgt d s l
  | 0, _ => rfl
  | l + 1, h => by
    show (jhgt c s l).bind _ = (jhgt d s l).bind _
    rw [jhgt_eq l (fun k a b => h k a (by omega)), h (s + l) (by omega) (by omega)]
/-- while a line of the law is read: its codes from s on, at height t; d steps behind the reading; depth p -/
def jls (g : jGh) (Γ : Nat → Option Nat) (a0 : Nat) (C0 : Nat → Int32) (s t : Nat) (d b p : Int) (h : jH) : Prop := ∃ C : Nat → Int32, (∀ k, k < 1333 + 2 * s → C k = C0 k) ∧ jW (jKd (g.1, g.2.1, g.2.2.1, C, g.2.2.2.2)) Γ h ∧ ∃ st u dp : Int32, jgI 10 h a0 16 = some st ∧ jgI 10 h a0 10 = some u ∧ jgI 10 h a0 13 = some dp ∧ dp.toInt = p ∧ (s : Int) ≤ st.toInt ∧ st.toInt + d ≤ u.toInt ∧ b ≤ u.toInt ∧ jhgt (jdr C) s (st.toInt.toNat - s) = some t
/-- the line could not be read -/
def jlf (g : jGh) (Γ : Nat → Option Nat) (C0 : Nat → Int32) (s : Nat) (h : jH) : Prop := ∃ C : Nat → Int32, (∀ k, k < 1333 + 2 * s → C k = C0 k) ∧ jW (jKd (g.1, g.2.1, g.2.2.1, C, g.2.2.2.2)) Γ h
theorem jls_f {g : jGh} {Γ : Nat → Option Nat} {a0 : Nat} {C0 : Nat → Int32} {s t : Nat} {d b p : Int} {h : jH} (a : jls g Γ a0 C0 s t d b p h) : jlf g Γ C0 s h := by
  obtain ⟨C, a, z, -⟩ := a
  exact ⟨C, a, z⟩
theorem jls_le {g : jGh} {Γ : Nat → Option Nat} {a0 : Nat} {C0 : Nat → Int32} {s t : Nat} {d e b p : Int} {h : jH} (a : jls g Γ a0 C0 s t d b p h) (he : e ≤ d) : jls g Γ a0 C0 s t e b p h := by
  obtain ⟨C, a, z, st, u, dp, e1, e2, e3, e4, e5, e6, e8, e7⟩ := a
  exact ⟨C, a, z, st, u, dp, e1, e2, e3, e4, e5, by omega, e8, e7⟩
/-- reading on: only where the reading stands changes -/
theorem jls_mo {g : jGh} {Γ : Nat → Option Nat} {a0 : Nat} {C0 C : Nat → Int32} {s t : Nat} {d e b p : Int} {h q : jH} (hC : ∀ k, k < 1333 + 2 * s → C k = C0 k) (r : jrw (g.1, g.2.1, g.2.2.1, C, g.2.2.2.2) Γ a0 h q) (m : jmo a0 e h q) (a : ∃ st u dp : Int32, jgI 10 h a0 16 = some st ∧ jgI 10 h a0 10 = some u ∧ jgI 10 h a0 13 = some dp ∧ dp.toInt = p ∧ (s : Int) ≤ st.toInt ∧ st.toInt + d ≤ u.toInt ∧ b ≤ u.toInt ∧ jhgt (jdr C) s (st.toInt.toNat - s) = some t) : jls g Γ a0 C0 s t (d + e) (b + e) p q := by
  obtain ⟨st, u, dp, e1, e2, e3, e4, e5, e6, e8, e7⟩ := a
  obtain ⟨v, ev, hv⟩ := m u e2
  exact ⟨C, hC, r.1, st, v, dp, fI (r.2 16 (by decide) (by decide)) e1, ev, fI (r.2 13 (by decide) (by decide)) e3, e4, e5, by omega, by omega, e7⟩
