/-! the reference reads a text -/
theorem S_X12_isAt {g : jGh} {Γ : Nat → Option Nat} {n a0 : Nat} {x1 x2 : Int32} {h : jH} (w : jW (jKd g) Γ h) (ta0 : Γ a0 = some 20) : jok (F_X12_isAt n a0 x1 x2 h) (fun v => (v = 0 ∨ v = 1) ∧ (¬ v.toInt = 0 → ∀ u, jgI 10 h a0 10 = some u → u.toInt ≤ 399)) := by
  unfold F_X12_isAt
  have ez : (0 : Int32).toInt = 0 := rfl
  obtain ⟨v1, e1, l1⟩ := t_gI (k := 10) w ta0 rfl rfl
  obtain ⟨v5, e5, l5⟩ := t_gI (k := 11) w ta0 rfl rfl
  have l1 : 0 ≤ v1.toInt ∧ v1.toInt ≤ 400 := l1
  have l5 : 0 ≤ v5.toInt ∧ v5.toInt ≤ 400 := l5
  obtain ⟨p, ep, tp⟩ := t_gR (k := 8) w ta0 rfl rfl
  have hz : ∀ {P : Prop}, ¬ (0 : Int32).toInt = 0 → P := fun q => absurd rfl q
  refine jok_r e1 (jok_r e5 (jok_le (fun _ => jok_s ⟨Or.inl rfl, hz⟩) (fun c => ?_)))
  refine jok_r ep (jok_r e1 ?_)
  obtain ⟨v, ev, -⟩ := t_al (i := v1) w tp rfl (by omega) (by omega)
  refine jok_r ev (jok_lt (fun _ => jok_s ⟨Or.inl rfl, hz⟩) (fun _ => ?_))
  refine jok_r ep (jok_r e1 (jok_r ev (jok_lt (fun _ => jok_s ⟨Or.inl rfl, hz⟩) (fun _ => ?_))))
  refine jok_s ⟨Or.inr rfl, fun _ u eu => ?_⟩
  have qz : v1 = u := Option.some.inj (e1.symm.trans eu)
  subst qz
  omega
/-- where the reading stands -/
def jrd (g : jGh) (Γ : Nat → Option Nat) (n a0 : Nat) (h q : jH) : Prop := jW (jKd g) Γ q ∧ F_X12_rings n a0 q = F_X12_rings n a0 h
theorem jrd_tr {g : jGh} {Γ : Nat → Option Nat} {n a0 : Nat} {h h1 h2 : jH} (a : jrd g Γ n a0 h h1) (b : jrd g Γ n a0 h1 h2) : jrd g Γ n a0 h h2 := ⟨b.1, b.2.trans a.2⟩
/-- a write of the place where the reading stands -/
theorem t_rdp {g : jGh} {Γ : Nat → Option Nat} {n a0 k : Nat} {x : Int32} {h : jH} (w : jW (jKd g) Γ h) (ta0 : Γ a0 = some 20) (hk : k = 10 ∨ k = 12) (l0 : 0 ≤ x.toInt) (l4 : x.toInt ≤ 400) : jok (jpf 10 h a0 k (.int x)) (fun h1 => jrd g Γ n a0 h h1 ∧ jgf 10 h1 a0 k = some (.int x) ∧ jfr h h1 a0 k) := by
  rcases hk with rfl | rfl
  · obtain ⟨h1, e, w1⟩ := t_pI (k := 10) w ta0 rfl rfl (show jI 0 400 x from ⟨l0, l4⟩)
    exact ⟨h1, e, ⟨w1.1, rings_pf2 (by decide) e⟩, w1.2⟩
  · obtain ⟨h1, e, w1⟩ := t_pI (k := 12) w ta0 rfl rfl (show jI 0 400 x from ⟨l0, l4⟩)
    exact ⟨h1, e, ⟨w1.1, rings_pf2 (by decide) e⟩, w1.2⟩
theorem S_X12_blanks_0 {g : jGh} {Γ : Nat → Option Nat} {n : Nat} : ∀ (k : Nat) {a0 : Nat} {u : Int32} {h : jH}, jW (jKd g) Γ h → Γ a0 = some 20 → jgI 10 h a0 10 = some u → 400 - u.toInt < k → jok (F_X12_blanks_0 n k a0 h) (fun q => jrd g Γ n a0 h q)
  | 0, a0, u, h, w, ta, eu, hk => by
    obtain ⟨v1, e1, l1⟩ := t_gI (k := 10) w ta rfl rfl
    have l1 : 0 ≤ v1.toInt ∧ v1.toInt ≤ 400 := l1
    have qz : v1 = u := Option.some.inj (e1.symm.trans eu)
    subst qz
    omega
  | k + 1, a0, u, h, w, ta, eu, hk => by
    show jok (F_X12_blanks_0_b n (F_X12_blanks_0 n k) a0 h) _
    unfold F_X12_blanks_0_b
    obtain ⟨v1, e1, l1⟩ := t_gI (k := 10) w ta rfl rfl
    have l1 : 0 ≤ v1.toInt ∧ v1.toInt ≤ 400 := l1
    have qz : v1 = u := Option.some.inj (e1.symm.trans eu)
    subst qz
    have eo : (1 : Int32).toInt = 1 := rfl
    rw [t_cv w ta rfl]
    refine jok_b (S_X12_isAt w ta) (fun v5 l5 => ?_)
    refine jok_eq (fun _ _ => ?_) (fun c => ?_)
    · refine jok_r e1 (jok_b (t_rdp (n := n) w ta (Or.inr rfl) l1.1 l1.2) (fun h29 w29 => ?_))
      exact jok_s w29.1
    · have hp := l5.2 c _ e1
      have ea : (v1 + (1 : Int32)).toInt = v1.toInt + 1 := by rw [jadd (by omega) (by omega), eo]
      refine jok_r e1 (jok_b (t_rdp (n := n) w ta (Or.inl rfl) (by omega) (by omega)) (fun h18 w18 => ?_))
      obtain ⟨w18, q18, -⟩ := w18
      exact jok_w (S_X12_blanks_0 k w18.1 ta (fJ q18) (by omega)) (fun q wq => jrd_tr w18 wq)
theorem S_X12_blanks {g : jGh} {Γ : Nat → Option Nat} {n a0 : Nat} {h : jH} (hn : 6000 ≤ n) (w : jW (jKd g) Γ h) (ta0 : Γ a0 = some 20) : jok (F_X12_blanks n a0 h) (fun q => jrd g Γ n a0 h q) := by
  obtain ⟨v1, e1, l1⟩ := t_gI (k := 10) w ta0 rfl rfl
  have l1 : 0 ≤ v1.toInt ∧ v1.toInt ≤ 400 := l1
  unfold F_X12_blanks
  exact S_X12_blanks_0 n w ta0 e1 (by omega)
theorem S_X12_letters_4 {g : jGh} {Γ : Nat → Option Nat} {n : Nat} : ∀ (k : Nat) {a0 : Nat} {u : Int32} {h : jH}, jW (jKd g) Γ h → Γ a0 = some 20 → jgI 10 h a0 10 = some u → 400 - u.toInt < k → jok (F_X12_letters_4 n k a0 h) (fun q => jrd g Γ n a0 h q)
  | 0, a0, u, h, w, ta, eu, hk => by
    obtain ⟨v1, e1, l1⟩ := t_gI (k := 10) w ta rfl rfl
    have l1 : 0 ≤ v1.toInt ∧ v1.toInt ≤ 400 := l1
    have qz : v1 = u := Option.some.inj (e1.symm.trans eu)
    subst qz
    omega
  | k + 1, a0, u, h, w, ta, eu, hk => by
    show jok (F_X12_letters_4_b n (F_X12_letters_4 n k) a0 h) _
    unfold F_X12_letters_4_b
    obtain ⟨v1, e1, l1⟩ := t_gI (k := 10) w ta rfl rfl
    have l1 : 0 ≤ v1.toInt ∧ v1.toInt ≤ 400 := l1
    have qz : v1 = u := Option.some.inj (e1.symm.trans eu)
    subst qz
    have eo : (1 : Int32).toInt = 1 := rfl
    rw [t_cv w ta rfl]
    refine jok_b (S_X12_isAt w ta) (fun v5 l5 => ?_)
    refine jok_eq (fun _ _ => jok_s ⟨w, rfl⟩) (fun c => ?_)
    have hp := l5.2 c _ e1
    have ea : (v1 + (1 : Int32)).toInt = v1.toInt + 1 := by rw [jadd (by omega) (by omega), eo]
    refine jok_r e1 (jok_b (t_rdp (n := n) w ta (Or.inl rfl) (by omega) (by omega)) (fun h18 w18 => ?_))
    obtain ⟨w18, q18, -⟩ := w18
    exact jok_w (S_X12_letters_4 k w18.1 ta (fJ q18) (by omega)) (fun q wq => jrd_tr w18 wq)
theorem S_X12_letters {g : jGh} {Γ : Nat → Option Nat} {n a0 : Nat} {h : jH} (hn : 6000 ≤ n) (w : jW (jKd g) Γ h) (ta0 : Γ a0 = some 20) : jok (F_X12_letters n a0 h) (fun q => jrd g Γ n a0 h q) := by
  unfold F_X12_letters
  rw [t_cv w ta0 rfl]
  refine jok_b (S_X12_blanks hn w ta0) (fun h1 w1 => ?_)
  obtain ⟨v1, e1, l1⟩ := t_gI (k := 10) w1.1 ta0 rfl rfl
  have l1 : 0 ≤ v1.toInt ∧ v1.toInt ≤ 400 := l1
  exact jok_w (S_X12_letters_4 n w1.1 ta0 e1 (by omega)) (fun q wq => jrd_tr w1 wq)
theorem jtb_lt : ∀ t, t < 36 → (jtb t).length < 1000 := by decide +kernel
theorem S_X12_isWord_24 {g : jGh} {Γ : Nat → Option Nat} {n : Nat} : ∀ (k : Nat) {a0 t1 : Nat} {x2 x3 : Int32} {h : jH}, jW (jKd g) Γ h → Γ a0 = some 20 → t1 < 36 → (x2 = 0 ∨ (x2 = 1 ∧ ∀ s, jgI 10 h a0 12 = some s → s.toInt + ((jtb t1).length : Int) ≤ 400)) → 0 ≤ x3.toInt → x3.toInt ≤ 1000 → 1000 - x3.toInt < k → jok (F_X12_isWord_24 n k a0 t1 x2 x3 h) (fun v => v = 0 ∨ v = 1)
  | 0, a0, t1, x2, x3, h, w, ta, ht, hx, l3, u3, hk => by omega
  | k + 1, a0, t1, x2, x3, h, w, ta, ht, hx, l3, u3, hk => by
    show jok (F_X12_isWord_24_b n (F_X12_isWord_24 n k) a0 t1 x2 x3 h) _
    unfold F_X12_isWord_24_b
    have eo : (1 : Int32).toInt = 1 := rfl
    have hl := jtb_lt t1 ht
    rcases hx with rfl | ⟨rfl, hs⟩
    · rw [if_pos rfl, if_pos (Or.inl rfl)]
      exact jok_s (Or.inl rfl)
    · rw [if_neg (by decide)]
      refine jok_b (t_tl ht ⟨rfl, hl⟩) (fun v30 l30 => ?_)
      refine jok_le (fun _ => ?_) (fun c => ?_)
      · rw [if_pos (Or.inr rfl)]
        exact jok_s (Or.inr rfl)
      · refine jok_b (t_gR w ta rfl rfl) (fun p37 t37 => ?_)
        obtain ⟨s, es, ls⟩ := t_gI (k := 12) w ta rfl rfl
        have ls : 0 ≤ s.toInt ∧ s.toInt ≤ 400 := ls
        have hs1 := hs s es
        have ea : (s + x3).toInt = s.toInt + x3.toInt := jadd (by omega) (by omega)
        refine jok_r es (jok_b (t_al w t37 rfl (by omega) (by omega)) (fun v46 _ => ?_))
        refine jok_b (t_tc rfl (by omega) (by omega)) (fun v49 _ => ?_)
        have e3 : (x3 + (1 : Int32)).toInt = x3.toInt + 1 := by rw [jadd (by omega) (by omega), eo]
        exact jok_if (fun _ => S_X12_isWord_24 k w ta ht (Or.inr ⟨rfl, hs⟩) (by omega) (by omega) (by omega)) (fun _ => S_X12_isWord_24 k w ta ht (Or.inl rfl) (by omega) (by omega) (by omega))
theorem S_X12_isWord {g : jGh} {Γ : Nat → Option Nat} {n a0 t1 : Nat} {h : jH} (hn : 6000 ≤ n) (w : jW (jKd g) Γ h) (ta0 : Γ a0 = some 20) (ht : t1 < 36) : jok (F_X12_isWord n a0 t1 h) (fun v => v = 0 ∨ v = 1) := by
  unfold F_X12_isWord
  have hl := jtb_lt t1 ht
  obtain ⟨v1, e1, l1⟩ := t_gI (k := 10) w ta0 rfl rfl
  have l1 : 0 ≤ v1.toInt ∧ v1.toInt ≤ 400 := l1
  obtain ⟨v5, e5, l5⟩ := t_gI (k := 12) w ta0 rfl rfl
  have l5 : 0 ≤ v5.toInt ∧ v5.toInt ≤ 400 := l5
  refine jok_r e1 (jok_r e5 (jok_b (t_tl ht ⟨rfl, hl⟩) (fun v10 l10 => ?_)))
  have es : (v1 - v5).toInt = v1.toInt - v5.toInt := jsub (by omega) (by omega)
  have z0 : (0 : Int32).toInt = 0 := rfl
  refine jok_eq (fun c _ => ?_) (fun _ => S_X12_isWord_24 n w ta0 ht (Or.inl rfl) (by decide) (by decide) (by omega))
  refine S_X12_isWord_24 n w ta0 ht (Or.inr ⟨rfl, fun s q => ?_⟩) (by decide) (by decide) (by omega)
  cases e5.symm.trans q
  omega
theorem S_X12_passes {g : jGh} {Γ : Nat → Option Nat} {n a0 t1 : Nat} {h : jH} (hn : 6000 ≤ n) (w : jW (jKd g) Γ h) (ta0 : Γ a0 = some 20) (ht : t1 < 36) : jok (F_X12_passes n a0 t1 h) (fun q => jrd g Γ n a0 h q.2) := by
  unfold F_X12_passes
  rw [t_cv w ta0 rfl]
  refine jok_b (S_X12_letters hn w ta0) (fun h1 w1 => ?_)
  rw [t_cv w1.1 ta0 rfl]
  refine jok_b (S_X12_isWord hn w1.1 ta0 ht) (fun v6 _ => ?_)
  refine jok_if (fun _ => ?_) (fun _ => jok_s w1)
  refine jok_b (t_gI w1.1 ta0 rfl rfl) (fun v16 l16 => ?_)
  refine jok_b (t_rdp (n := n) w1.1 ta0 (Or.inl rfl) l16.1 l16.2) (fun h19 w19 => ?_)
  exact jok_s (jrd_tr w1 w19.1)
theorem S_X12_sign {g : jGh} {Γ : Nat → Option Nat} {n a0 : Nat} {x1 : Int32} {h : jH} (hn : 6000 ≤ n) (w : jW (jKd g) Γ h) (ta0 : Γ a0 = some 20) : jok (F_X12_sign n a0 x1 h) (fun q => jrd g Γ n a0 h q.2) := by
  unfold F_X12_sign
  have eo : (1 : Int32).toInt = 1 := rfl
  rw [t_cv w ta0 rfl]
  refine jok_b (S_X12_blanks hn w ta0) (fun h1 w1 => ?_)
  rw [t_cv w1.1 ta0 rfl]
  refine jok_b (S_X12_isAt w1.1 ta0) (fun v7 l7 => ?_)
  refine jok_eq (fun _ _ => jok_s w1) (fun c => ?_)
  obtain ⟨v17, e17, l17⟩ := t_gI (k := 10) w1.1 ta0 rfl rfl
  have l17 : 0 ≤ v17.toInt ∧ v17.toInt ≤ 400 := l17
  have hp := l7.2 c _ e17
  have ea : (v17 + (1 : Int32)).toInt = v17.toInt + 1 := by rw [jadd (by omega) (by omega), eo]
  refine jok_r e17 (jok_b (t_rdp (n := n) w1.1 ta0 (Or.inl rfl) (by omega) (by omega)) (fun h22 w22 => ?_))
  exact jok_s (jrd_tr w1 w22.1)
theorem S_X12_number_6 {g : jGh} {Γ : Nat → Option Nat} {n : Nat} : ∀ (k : Nat) {a0 : Nat} {x1 x2 x3 u : Int32} {h : jH}, jW (jKd g) Γ h → Γ a0 = some 20 → jgI 10 h a0 10 = some u → 400 - u.toInt < k → jok (F_X12_number_6 n k a0 x1 x2 x3 h) (fun q => jrd g Γ n a0 h q.2 ∧ (q.1 = -1 ∨ (x1.toInt ≤ q.1.toInt ∧ q.1.toInt ≤ x2.toInt)))
  | 0, a0, x1, x2, x3, u, h, w, ta, eu, hk => by
    obtain ⟨v1, e1, l1⟩ := t_gI (k := 10) w ta rfl rfl
    have l1 : 0 ≤ v1.toInt ∧ v1.toInt ≤ 400 := l1
    have qz : v1 = u := Option.some.inj (e1.symm.trans eu)
    subst qz
    omega
  | k + 1, a0, x1, x2, x3, u, h, w, ta, eu, hk => by
    show jok (F_X12_number_6_b n (F_X12_number_6 n k) a0 x1 x2 x3 h) _
    unfold F_X12_number_6_b
    obtain ⟨v1, e1, l1⟩ := t_gI (k := 10) w ta rfl rfl
    have l1 : 0 ≤ v1.toInt ∧ v1.toInt ≤ 400 := l1
    have qz : v1 = u := Option.some.inj (e1.symm.trans eu)
    subst qz
    obtain ⟨s, es, ls⟩ := t_gI (k := 12) w ta rfl rfl
    have eo : (1 : Int32).toInt = 1 := rfl
    rw [t_cv w ta rfl]
    have hm : ∀ {P : Prop}, ((-1 : Int32) = -1 ∨ P) := Or.inl rfl
    refine jok_b (S_X12_isAt w ta) (fun v5 l5 => ?_)
    refine jok_eq (fun _ _ => ?_) (fun c => ?_)
    · refine jok_r e1 (jok_r es (jok_if (fun _ => jok_s ⟨⟨w, rfl⟩, hm⟩) (fun _ => ?_)))
      refine jok_r e1 (jok_r es (jok_if (fun _ => jok_s ⟨⟨w, rfl⟩, hm⟩) (fun _ => ?_)))
      refine jok_lt (fun _ => jok_s ⟨⟨w, rfl⟩, hm⟩) (fun c1 => jok_le (fun c2 => jok_s ⟨⟨w, rfl⟩, Or.inr ⟨c1, c2⟩⟩) (fun _ => jok_s ⟨⟨w, rfl⟩, hm⟩))
    · have hp := l5.2 c _ e1
      have ea : (v1 + (1 : Int32)).toInt = v1.toInt + 1 := by rw [jadd (by omega) (by omega), eo]
      have hn9 : ∀ {x : Int32}, jok ((jpf 10 h a0 10 (.int (v1 + (1 : Int32)))).bind fun h59 => F_X12_number_6 n k a0 x1 x2 x h59) (fun q => jrd g Γ n a0 h q.2 ∧ (q.1 = -1 ∨ (x1.toInt ≤ q.1.toInt ∧ q.1.toInt ≤ x2.toInt))) := by
        intro x
        refine jok_b (t_rdp (n := n) w ta (Or.inl rfl) (by omega) (by omega)) (fun h18 w18 => ?_)
        obtain ⟨w18, q18, -⟩ := w18
        exact jok_w (S_X12_number_6 k w18.1 ta (fJ q18) (by omega)) (fun q wq => ⟨jrd_tr w18 wq.1, wq.2⟩)
      refine jok_r e1 (jok_r es (jok_if (fun _ => jok_r e1 hn9) (fun _ => ?_)))
      refine jok_b (t_gR w ta rfl rfl) (fun p35 t35 => ?_)
      refine jok_r e1 (jok_b (t_al w t35 rfl (by omega) (by omega)) (fun v42 _ => jok_r e1 hn9))
theorem S_X12_number {g : jGh} {Γ : Nat → Option Nat} {n a0 : Nat} {x1 x2 : Int32} {h : jH} (hn : 6000 ≤ n) (w : jW (jKd g) Γ h) (ta0 : Γ a0 = some 20) : jok (F_X12_number n a0 x1 x2 h) (fun q => jrd g Γ n a0 h q.2 ∧ (q.1 = -1 ∨ (x1.toInt ≤ q.1.toInt ∧ q.1.toInt ≤ x2.toInt))) := by
  unfold F_X12_number
  rw [t_cv w ta0 rfl]
  refine jok_b (S_X12_blanks hn w ta0) (fun h1 w1 => ?_)
  obtain ⟨v1, e1, l1⟩ := t_gI (k := 10) w1.1 ta0 rfl rfl
  have l1 : 0 ≤ v1.toInt ∧ v1.toInt ≤ 400 := l1
  exact jok_w (S_X12_number_6 n w1.1 ta0 e1 (by omega)) (fun q wq => ⟨jrd_tr w1 wq.1, wq.2⟩)
theorem S_X12_after {g : jGh} {Γ : Nat → Option Nat} {n a0 t1 : Nat} {x2 x3 : Int32} {h : jH} (hn : 6000 ≤ n) (w : jW (jKd g) Γ h) (ta0 : Γ a0 = some 20) (ht : t1 < 36) : jok (F_X12_after n a0 t1 x2 x3 h) (fun q => jrd g Γ n a0 h q.2 ∧ (q.1 = -1 ∨ (x2.toInt ≤ q.1.toInt ∧ q.1.toInt ≤ x3.toInt))) := by
  unfold F_X12_after
  rw [t_cv w ta0 rfl]
  refine jok_b (S_X12_letters hn w ta0) (fun h1 w1 => ?_)
  rw [t_cv w1.1 ta0 rfl]
  refine jok_b (S_X12_isWord hn w1.1 ta0 ht) (fun v6 _ => ?_)
  refine jok_if (fun _ => jok_s ⟨w1, Or.inl rfl⟩) (fun _ => ?_)
  rw [t_cv w1.1 ta0 rfl]
  refine jok_b (S_X12_number hn w1.1 ta0) (fun q15 w15 => ?_)
  exact jok_s ⟨jrd_tr w1 w15.1, w15.2⟩
