theorem jln_mo {g : jGh} {Γ : Nat → Option Nat} {a0 : Nat} {C0 C : Nat → Int32} {m : Nat} {b e : Int} {h q : jH} (he : 0 ≤ e) (hC : ∀ k, k < 1284 → C k = C0 k) (r : jrw (g.1, g.2.1, g.2.2.1, C, g.2.2.2.2) Γ a0 h q) (mo : jmo a0 e h q) (a : ∃ st u : Int32, jgI 10 h a0 16 = some st ∧ jgI 10 h a0 10 = some u ∧ 0 ≤ st.toInt ∧ st.toInt ≤ u.toInt ∧ b ≤ u.toInt ∧ ∀ i : Nat, i < m → 0 ≤ (C (1287 + 4 * i)).toInt ∧ (C (1287 + 4 * i)).toInt ≤ (C (1288 + 4 * i)).toInt ∧ (C (1288 + 4 * i)).toInt ≤ st.toInt ∧ (jhgt (jdr C) (C (1287 + 4 * i)).toInt.toNat ((C (1288 + 4 * i)).toInt.toNat - (C (1287 + 4 * i)).toInt.toNat)).isSome = true) : jln g Γ a0 C0 m (b + e) q := by
  obtain ⟨st, u, e1, e2, l0, l1, l2, hl⟩ := a
  obtain ⟨v, ev, lv⟩ := mo u e2
  exact ⟨C, hC, r.1, st, v, fI (r.2 16 (by decide) (by decide)) e1, ev, l0, by omega, by omega, hl⟩
theorem jln_g {g : jGh} {Γ : Nat → Option Nat} {a0 : Nat} {C0 : Nat → Int32} {m : Nat} {b : Int} {h : jH} (a : jln g Γ a0 C0 m b h) : jlg g Γ C0 h := by
  obtain ⟨C, a, z, -⟩ := a
  exact ⟨C, a, z⟩
theorem jln_b {g : jGh} {Γ : Nat → Option Nat} {a0 : Nat} {C0 : Nat → Int32} {m : Nat} {b c : Int} {h : jH} (a : jln g Γ a0 C0 m b h) (hc : c ≤ b) : jln g Γ a0 C0 m c h := by
  obtain ⟨C, a1, w, st, u, e1, e2, l0, l1, l2, hl⟩ := a
  exact ⟨C, a1, w, st, u, e1, e2, l0, l1, by omega, hl⟩
theorem jln_b4 {g : jGh} {Γ : Nat → Option Nat} {a0 : Nat} {C0 : Nat → Int32} {m : Nat} {b : Int} {h : jH} (ta0 : Γ a0 = some 20) (a : jln g Γ a0 C0 m b h) : b ≤ 400 := by
  obtain ⟨C, a1, w, st, u, e1, e2, l0, l1, l2, hl⟩ := a
  obtain ⟨v, ev, lv⟩ := t_gI (k := 10) w ta0 rfl rfl
  have lv : 0 ≤ v.toInt ∧ v.toInt ≤ 400 := lv
  have qz : v = u := Option.some.inj (ev.symm.trans e2)
  subst qz
  omega
theorem L_readLine0 {g : jGh} {Γ : Nat → Option Nat} {n a0 : Nat} {C0 : Nat → Int32} {m : Nat} {b : Int} {x2 : Int32} {h : jH} (hn : 6000 ≤ n) (hu : ∀ a b c, 9 ≤ c → Γ a = some c → Γ b = some c → a = b) (ta0 : Γ a0 = some 20) (hx : x2.toInt = (m : Int)) (hb : 0 ≤ b) (a : jln g Γ a0 C0 m b h) : jok (F_X12_readLine n a0 (0 : Int32) x2 h) (fun q => (q.1 = 0 ∧ jlg g Γ C0 q.2) ∨ (q.1 = 1 ∧ m < 12 ∧ jln g Γ a0 C0 (m + 1) b q.2)) := by
  have e12 : (12 : Int32).toInt = 12 := rfl
  obtain ⟨C, hC, w, st, u, e1, e2, l0, l1, l2, hl⟩ := a
  unfold F_X12_readLine
  rw [t_cv w ta0 rfl]
  refine jok_b (T_X12_letters hn w ta0 e2) (fun h1 w1 => ?_)
  obtain ⟨w1, z, v, ez, ev, lz, lv⟩ := w1
  have j : jln g Γ a0 C0 m b h1 := by
    have j := jln_mo (b := b) (e := 0) (by omega) hC w1 (fun u9 e9 => by
      have qz : u = u9 := Option.some.inj (e2.symm.trans e9)
      subst qz
      exact ⟨v, ev, by omega⟩) ⟨st, u, e1, e2, l0, l1, l2, hl⟩
    rw [show b + 0 = b by omega] at j
    exact j
  rw [if_pos rfl]
  unfold F_X12_readLine_16
  refine jok_le (fun _ => jok_s (Or.inl ⟨rfl, jln_g j⟩)) (fun c => ?_)
  rw [if_pos rfl, t_cv w1.1 ta0 rfl]
  refine jok_b (L_readLawLine hn hu ta0 (by omega) hx hb j) (fun q35 w35 => ?_)
  rcases w35 with ⟨e, j9⟩ | ⟨e, j9⟩
  · rw [if_pos e]
    exact jok_s (Or.inl ⟨rfl, j9⟩)
  · rw [if_neg (by rw [e]; decide)]
    exact jok_s (Or.inr ⟨rfl, by omega, j9⟩)
theorem L_readAll_28 {g : jGh} {Γ : Nat → Option Nat} {n a0 : Nat} {C0 : Nat → Int32} (hn : 6000 ≤ n) (hu : ∀ a b c, 9 ≤ c → Γ a = some c → Γ b = some c → a = b) (ta0 : Γ a0 = some 20) : ∀ (k : Nat) {m : Nat} {b : Int} {x2 : Int32} {h : jH}, m ≤ 12 → x2.toInt = (m : Int) → 0 ≤ b → jln g Γ a0 C0 m b h → 400 - b < k → jok (F_X12_readAll_28 n k a0 (0 : Int32) x2 h) (fun q => (q.1 = -1 ∧ jlg g Γ C0 q.2) ∨ (∃ m2 : Nat, m2 ≤ 12 ∧ q.1.toInt = (m2 : Int) ∧ jln g Γ a0 C0 m2 0 q.2))
  | 0, m, b, x2, h, hm, hx, hb, a, hk => by
    have := jln_b4 ta0 a
    omega
  | k + 1, m, b, x2, h, hm, hx, hb, a, hk => by
    show jok (F_X12_readAll_28_b n (F_X12_readAll_28 n k) a0 (0 : Int32) x2 h) _
    unfold F_X12_readAll_28_b
    have eo : (1 : Int32).toInt = 1 := rfl
    have ex : (x2 + (1 : Int32)).toInt = ((m + 1 : Nat) : Int) := by rw [jadd (by omega) (by omega), hx, eo]; omega
    obtain ⟨C, hC, w, -⟩ := id a
    rw [t_cv w ta0 rfl]
    refine jok_b (L_readLine0 hn hu ta0 hx hb a) (fun q31 w31 => ?_)
    rcases w31 with ⟨e, j⟩ | ⟨e, hm2, j⟩
    · rw [if_pos e]
      exact jok_s (Or.inl ⟨rfl, j⟩)
    · rw [if_neg (by rw [e]; decide)]
      obtain ⟨C, hC, w, st, u, e1, e2, l0, l1, l2, hl⟩ := j
      rw [t_cv w ta0 rfl]
      refine jok_b (T_X12_blanks hn w ta0 e2) (fun h40 w40 => ?_)
      obtain ⟨w40, v, ev, -, lv⟩ := w40
      have hm0 : ∀ e : Int, u.toInt + e ≤ v.toInt → jmo a0 e q31.2 h40 := fun e he u9 e9 => by
        have qz : u = u9 := Option.some.inj (e2.symm.trans e9)
        subst qz
        exact ⟨v, ev, he⟩
      have hA : ∃ st u : Int32, jgI 10 q31.2 a0 16 = some st ∧ jgI 10 q31.2 a0 10 = some u ∧ 0 ≤ st.toInt ∧ st.toInt ≤ u.toInt ∧ b ≤ u.toInt ∧ ∀ i : Nat, i < m + 1 → 0 ≤ (C (1287 + 4 * i)).toInt ∧ (C (1287 + 4 * i)).toInt ≤ (C (1288 + 4 * i)).toInt ∧ (C (1288 + 4 * i)).toInt ≤ st.toInt ∧ (jhgt (jdr C) (C (1287 + 4 * i)).toInt.toNat ((C (1288 + 4 * i)).toInt.toNat - (C (1287 + 4 * i)).toInt.toNat)).isSome = true := ⟨st, u, e1, e2, l0, l1, l2, hl⟩
      have j40 := jln_mo (e := 0) (by omega) hC w40 (hm0 0 (by omega)) hA
      refine jok_r ev (jok_b (t_gI w40.1 ta0 rfl rfl) (fun v48 _ => ?_))
      refine jok_if (fun _ => jok_s (Or.inr ⟨m + 1, by omega, ex, jln_b j40 (by omega)⟩)) (fun _ => ?_)
      rw [t_cv w40.1 ta0 rfl]
      refine jok_b (S_X12_isAt w40.1 ta0) (fun v63 l63 => ?_)
      refine jok_eq (fun _ _ => jok_s (Or.inl ⟨rfl, jln_g j40⟩)) (fun c => ?_)
      have hp := l63.2 c v ev
      obtain ⟨v9, ev9, lv9⟩ := t_gI (k := 10) w40.1 ta0 rfl rfl
      have lv9 : 0 ≤ v9.toInt ∧ v9.toInt ≤ 400 := lv9
      have qz : v9 = v := Option.some.inj (ev9.symm.trans ev)
      subst qz
      have ea : (v9 + (1 : Int32)).toInt = v9.toInt + 1 := by rw [jadd (by omega) (by omega), eo]
      refine jok_r ev9 (jok_b (t_rw w40.1 ta0 (Or.inl rfl) (by omega) (by omega)) (fun h78 w78 => ?_))
      have j78 : jln g Γ a0 C0 (m + 1) (b + 1) h78 := jln_mo (e := 1) (by omega) hC (jrw_tr w40 w78.1) (fun u9 e9 => by
        have qz : u = u9 := Option.some.inj (e2.symm.trans e9)
        subst qz
        exact ⟨_, fJ w78.2.1, by omega⟩) hA
      exact L_readAll_28 hn hu ta0 k (by omega) ex (by omega) j78 (by omega)
