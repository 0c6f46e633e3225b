theorem S_X12_readLine1 {g : jGh} {Γ : Nat → Option Nat} {n a0 : Nat} {x2 : Int32} {h : jH} (hn : 6000 ≤ n) (hg : jgok g) (w : jW (jKd g) Γ h) (ta0 : Γ a0 = some 20) : jok (F_X12_readLine n a0 (1 : Int32) x2 h) (fun q => jW (jKd g) Γ q.2 ∧ (q.1 = 0 ∨ (q.1 = 1 ∧ x2.toInt < 14))) := by
  have e14 : (14 : Int32).toInt = 14 := rfl
  unfold F_X12_readLine
  rw [t_cv w ta0 rfl]
  refine jok_b (S_X12_letters hn w ta0) (fun h1 w1 => ?_)
  rw [if_neg (by decide)]
  unfold F_X12_readLine_16
  refine jok_le (fun _ => jok_s ⟨w1.1, Or.inl rfl⟩) (fun c => ?_)
  rw [if_neg (by decide), t_cv w1.1 ta0 rfl]
  refine jok_b (S_X12_readPoleLine hn hg w1.1 ta0) (fun q24 w24 => ?_)
  exact jok_if (fun _ => jok_s ⟨w24.1, Or.inl rfl⟩) (fun _ => jok_s ⟨w24.1, Or.inr ⟨rfl, by omega⟩⟩)
theorem S_X12_readAll_28 {g : jGh} {Γ : Nat → Option Nat} {n a0 : Nat} (hn : 6000 ≤ n) (hg : jgok g) (ta0 : Γ a0 = some 20) : ∀ (k : Nat) {x2 : Int32} {h : jH}, jW (jKd g) Γ h → 0 ≤ x2.toInt → x2.toInt ≤ 14 → 14 - x2.toInt < k → jok (F_X12_readAll_28 n k a0 (1 : Int32) x2 h) (fun q => jW (jKd g) Γ q.2)
  | 0, x2, h, w, l0, l1, hk => by omega
  | k + 1, x2, h, w, l0, l1, hk => by
    show jok (F_X12_readAll_28_b n (F_X12_readAll_28 n k) a0 (1 : Int32) x2 h) _
    unfold F_X12_readAll_28_b
    have eo : (1 : Int32).toInt = 1 := rfl
    rw [t_cv w ta0 rfl]
    refine jok_b (S_X12_readLine1 hn hg w ta0) (fun q31 w31 => ?_)
    obtain ⟨w31, e | ⟨e, hx⟩⟩ := w31
    · rw [if_pos e]
      exact jok_s w31
    · rw [if_neg (by rw [e]; decide)]
      have ex : (x2 + (1 : Int32)).toInt = x2.toInt + 1 := by rw [jadd (by omega) (by omega), eo]
      rw [t_cv w31 ta0 rfl]
      refine jok_b (S_X12_blanks hn w31 ta0) (fun h40 w40 => ?_)
      obtain ⟨w40, -⟩ := w40
      obtain ⟨v, ev, lv⟩ := t_gI (k := 10) w40 ta0 rfl rfl
      have lv : 0 ≤ v.toInt ∧ v.toInt ≤ 400 := lv
      refine jok_r ev (jok_b (t_gI w40 ta0 rfl rfl) (fun v48 _ => ?_))
      refine jok_if (fun _ => jok_s w40) (fun _ => ?_)
      rw [t_cv w40 ta0 rfl]
      refine jok_b (S_X12_isAt w40 ta0) (fun v63 l63 => ?_)
      refine jok_eq (fun _ _ => jok_s w40) (fun c => ?_)
      have hp := l63.2 c v ev
      have ea : (v + (1 : Int32)).toInt = v.toInt + 1 := by rw [jadd (by omega) (by omega), eo]
      refine jok_r ev (jok_b (t_rw w40 ta0 (Or.inl rfl) (by omega) (by omega)) (fun h78 w78 => ?_))
      exact S_X12_readAll_28 hn hg ta0 k w78.1.1 (by omega) (by omega) (by omega)
/-- the ghosts behind 'uses' -/
abbrev jg20 (g : jGh) : jGh := (g.1, g.2.1, (0 : Int32).toInt, g.2.2.2)
theorem jg20_ok {g : jGh} (hg : jgok g) : jgok (jg20 g) := ⟨hg.1, by show (0 : Int) ≤ (0 : Int32).toInt; decide, by show (0 : Int32).toInt ≤ 400; decide, hg.2.2.2⟩
theorem S_X12_readAll1 {g : jGh} {Γ : Nat → Option Nat} {n a0 : Nat} {h : jH} (hn : 6000 ≤ n) (hg : jgok g) (w : jW (jKd g) Γ h) (ta0 : Γ a0 = some 20) (hu : ∀ a b c, 9 ≤ c → Γ a = some c → Γ b = some c → a = b) : jok (F_X12_readAll n a0 (1 : Int32) h) (fun q => jW (jKd (jg20 g)) Γ q.2) := by
  unfold F_X12_readAll
  rw [t_cv w ta0 rfl]
  refine jok_b (S_X12_uses hg w ta0 hu) (fun h1 w1 => ?_)
  refine jok_b (t_pI w1 ta0 rfl rfl (by constructor <;> decide)) (fun h6 w6 => ?_)
  obtain ⟨w6, -, -⟩ := w6
  rw [t_cv w6 ta0 rfl]
  refine jok_b (S_X12_blanks hn w6 ta0) (fun h10 w10 => ?_)
  refine jok_b (t_gI w10.1 ta0 rfl rfl) (fun v14 _ => ?_)
  refine jok_b (t_gI w10.1 ta0 rfl rfl) (fun v18 _ => ?_)
  exact jok_if (fun _ => jok_s w10.1) (fun _ => S_X12_readAll_28 hn (jg20_ok hg) ta0 n w10.1 (by decide) (by decide) (by show 14 - (0 : Int) < _; omega))
theorem L_readAll0 {g : jGh} {Γ : Nat → Option Nat} {n a0 : Nat} {h : jH} (hn : 6000 ≤ n) (hg : jgok g) (w : jW (jKd g) Γ h) (ta0 : Γ a0 = some 20) (hu : ∀ a b c, 9 ≤ c → Γ a = some c → Γ b = some c → a = b) : jok (F_X12_readAll n a0 (0 : Int32) h) (fun q => (q.1 = -1 ∧ jlg (jg20 g) Γ g.2.2.2.1 q.2) ∨ (∃ m2 : Nat, m2 ≤ 12 ∧ q.1.toInt = (m2 : Int) ∧ jln (jg20 g) Γ a0 g.2.2.2.1 m2 0 q.2)) := by
  unfold F_X12_readAll
  rw [t_cv w ta0 rfl]
  refine jok_b (S_X12_uses hg w ta0 hu) (fun h1 w1 => ?_)
  refine jok_b (t_pI w1 ta0 rfl rfl (by constructor <;> decide)) (fun h6 w6 => ?_)
  obtain ⟨w6, q6, -⟩ := w6
  obtain ⟨u, eu, lu⟩ := t_gI (k := 10) w6 ta0 rfl rfl
  have lu : 0 ≤ u.toInt ∧ u.toInt ≤ 400 := lu
  rw [t_cv w6 ta0 rfl]
  refine jok_b (T_X12_blanks hn w6 ta0 eu) (fun h10 w10 => ?_)
  obtain ⟨w10, v, ev, -, lv⟩ := w10
  have j : jln (jg20 g) Γ a0 g.2.2.2.1 0 0 h10 := by
    refine ⟨g.2.2.2.1, fun _ _ => rfl, w10.1, 0, v, fI (w10.2 16 (by decide) (by decide)) (fJ q6), ev, by decide, ?_, (show (0 : Int) ≤ v.toInt by omega), fun i hi => absurd hi (Nat.not_lt_zero i)⟩
    show (0 : Int) ≤ v.toInt
    omega
  refine jok_r ev (jok_b (t_gI w10.1 ta0 rfl rfl) (fun v18 _ => ?_))
  exact jok_if (fun _ => jok_s (Or.inr ⟨0, by omega, rfl, j⟩)) (fun _ => L_readAll_28 (m := 0) (b := 0) hn hu ta0 n (by omega) rfl (by omega) j (by omega))
