/-! the reference reads: what is left alone, and how far the reading comes -/
def jrx (a0 : Nat) (h q : jH) : Prop := ∀ k, k ≠ 10 → k ≠ 12 → jgf 10 q a0 k = jgf 10 h a0 k
/-- the reading comes on by d at least -/
def jmo (a0 : Nat) (d : Int) (h q : jH) : Prop := ∀ u, jgI 10 h a0 10 = some u → ∃ v, jgI 10 q a0 10 = some v ∧ u.toInt + d ≤ v.toInt
def jrw (g : jGh) (Γ : Nat → Option Nat) (a0 : Nat) (h q : jH) : Prop := jW (jKd g) Γ q ∧ jrx a0 h q
theorem jrw_tr {g : jGh} {Γ : Nat → Option Nat} {a0 : Nat} {h h1 h2 : jH} (a : jrw g Γ a0 h h1) (b : jrw g Γ a0 h1 h2) : jrw g Γ a0 h h2 := ⟨b.1, fun k c d => (b.2 k c d).trans (a.2 k c d)⟩
theorem jmo_tr {a0 : Nat} {d e : Int} {h h1 h2 : jH} (a : jmo a0 d h h1) (b : jmo a0 e h1 h2) : jmo a0 (d + e) h h2 := by
  intro u eu
  obtain ⟨v, ev, hv⟩ := a u eu
  obtain ⟨z, ez, hz⟩ := b v ev
  exact ⟨z, ez, by omega⟩
theorem jmo_0 {a0 : Nat} {h : jH} : jmo a0 0 h h := fun u eu => ⟨u, eu, by omega⟩
theorem jmo_le {a0 : Nat} {d e : Int} {h q : jH} (a : jmo a0 d h q) (hd : e ≤ d) : jmo a0 e h q := by
  intro u eu
  obtain ⟨v, ev, hv⟩ := a u eu
  exact ⟨v, ev, by omega⟩
theorem t_rw {g : jGh} {Γ : Nat → Option Nat} {a0 k : Nat} {x : Int32} {h : jH} (w : jW (jKd g) Γ h) (ta0 : Γ a0 = some 20) (hk : k = 10 ∨ k = 12) (l0 : 0 ≤ x.toInt) (l4 : x.toInt ≤ 400) : jok (jpf 10 h a0 k (.int x)) (fun h1 => jrw g Γ a0 h h1 ∧ jgf 10 h1 a0 k = some (.int x) ∧ jfr h h1 a0 k) := by
  rcases hk with rfl | rfl
  · obtain ⟨h1, e, w1⟩ := t_pI (k := 10) w ta0 rfl rfl (show jI 0 400 x from ⟨l0, l4⟩)
    exact ⟨h1, e, ⟨w1.1, fun k c _ => w1.2.2 10 a0 k (Or.inr c)⟩, w1.2⟩
  · obtain ⟨h1, e, w1⟩ := t_pI (k := 12) w ta0 rfl rfl (show jI 0 400 x from ⟨l0, l4⟩)
    exact ⟨h1, e, ⟨w1.1, fun k _ d => w1.2.2 10 a0 k (Or.inr d)⟩, w1.2⟩
theorem T_X12_blanks_0 {g : jGh} {Γ : Nat → Option Nat} {n : Nat} : ∀ (k : Nat) {a0 : Nat} {u : Int32} {h : jH}, jW (jKd g) Γ h → Γ a0 = some 20 → jgI 10 h a0 10 = some u → 400 - u.toInt < k → jok (F_X12_blanks_0 n k a0 h) (fun q => jrw g Γ a0 h q ∧ ∃ v, jgI 10 q a0 10 = some v ∧ jgI 10 q a0 12 = some v ∧ u.toInt ≤ v.toInt)
  | 0, a0, u, h, w, ta, eu, hk => by
    obtain ⟨v1, e1, l1⟩ := t_gI (k := 10) w ta rfl rfl
    have l1 : 0 ≤ v1.toInt ∧ v1.toInt ≤ 400 := l1
    have qz : v1 = u := Option.some.inj (e1.symm.trans eu)
    subst qz
    omega
  | k + 1, a0, u, h, w, ta, eu, hk => by
    show jok (F_X12_blanks_0_b n (F_X12_blanks_0 n k) a0 h) _
    unfold F_X12_blanks_0_b
    obtain ⟨v1, e1, l1⟩ := t_gI (k := 10) w ta rfl rfl
    have l1 : 0 ≤ v1.toInt ∧ v1.toInt ≤ 400 := l1
    have qz : v1 = u := Option.some.inj (e1.symm.trans eu)
    subst qz
    have eo : (1 : Int32).toInt = 1 := rfl
    rw [t_cv w ta rfl]
    refine jok_b (S_X12_isAt w ta) (fun v5 l5 => ?_)
    refine jok_eq (fun _ _ => ?_) (fun c => ?_)
    · refine jok_r e1 (jok_b (t_rw w ta (Or.inr rfl) l1.1 l1.2) (fun h29 w29 => ?_))
      exact jok_s ⟨w29.1, v1, fI (w29.2.2 10 a0 10 (Or.inr (by decide))) e1, fJ w29.2.1, Int.le_refl _⟩
    · have hp := l5.2 c _ e1
      have ea : (v1 + (1 : Int32)).toInt = v1.toInt + 1 := by rw [jadd (by omega) (by omega), eo]
      refine jok_r e1 (jok_b (t_rw w ta (Or.inl rfl) (by omega) (by omega)) (fun h18 w18 => ?_))
      obtain ⟨w18, q18, -⟩ := w18
      refine jok_w (T_X12_blanks_0 k w18.1 ta (fJ q18) (by omega)) (fun q wq => ?_)
      obtain ⟨wq, v, a, b, c⟩ := wq
      exact ⟨jrw_tr w18 wq, v, a, b, by omega⟩
theorem T_X12_blanks {g : jGh} {Γ : Nat → Option Nat} {n a0 : Nat} {u : Int32} {h : jH} (hn : 6000 ≤ n) (w : jW (jKd g) Γ h) (ta0 : Γ a0 = some 20) (eu : jgI 10 h a0 10 = some u) : jok (F_X12_blanks n a0 h) (fun q => jrw g Γ a0 h q ∧ ∃ v, jgI 10 q a0 10 = some v ∧ jgI 10 q a0 12 = some v ∧ u.toInt ≤ v.toInt) := by
  obtain ⟨v1, e1, l1⟩ := t_gI (k := 10) w ta0 rfl rfl
  have l1 : 0 ≤ v1.toInt ∧ v1.toInt ≤ 400 := l1
  have qz : v1 = u := Option.some.inj (e1.symm.trans eu)
  subst qz
  unfold F_X12_blanks
  exact T_X12_blanks_0 n w ta0 e1 (by omega)
theorem T_X12_letters_4 {g : jGh} {Γ : Nat → Option Nat} {n : Nat} : ∀ (k : Nat) {a0 : Nat} {u s : Int32} {h : jH}, jW (jKd g) Γ h → Γ a0 = some 20 → jgI 10 h a0 10 = some u → jgI 10 h a0 12 = some s → 400 - u.toInt < k → jok (F_X12_letters_4 n k a0 h) (fun q => jrw g Γ a0 h q ∧ jgI 10 q a0 12 = some s ∧ ∃ v, jgI 10 q a0 10 = some v ∧ u.toInt ≤ v.toInt)
  | 0, a0, u, s, h, w, ta, eu, es, hk => by
    obtain ⟨v1, e1, l1⟩ := t_gI (k := 10) w ta rfl rfl
    have l1 : 0 ≤ v1.toInt ∧ v1.toInt ≤ 400 := l1
    have qz : v1 = u := Option.some.inj (e1.symm.trans eu)
    subst qz
    omega
  | k + 1, a0, u, s, h, w, ta, eu, es, hk => by
    show jok (F_X12_letters_4_b n (F_X12_letters_4 n k) a0 h) _
    unfold F_X12_letters_4_b
    obtain ⟨v1, e1, l1⟩ := t_gI (k := 10) w ta rfl rfl
    have l1 : 0 ≤ v1.toInt ∧ v1.toInt ≤ 400 := l1
    have qz : v1 = u := Option.some.inj (e1.symm.trans eu)
    subst qz
    have eo : (1 : Int32).toInt = 1 := rfl
    rw [t_cv w ta rfl]
    refine jok_b (S_X12_isAt w ta) (fun v5 l5 => ?_)
    refine jok_eq (fun _ _ => jok_s ⟨⟨w, fun _ _ _ => rfl⟩, es, v1, e1, Int.le_refl _⟩) (fun c => ?_)
    have hp := l5.2 c _ e1
    have ea : (v1 + (1 : Int32)).toInt = v1.toInt + 1 := by rw [jadd (by omega) (by omega), eo]
    refine jok_r e1 (jok_b (t_rw w ta (Or.inl rfl) (by omega) (by omega)) (fun h18 w18 => ?_))
    obtain ⟨w18, q18, f18⟩ := w18
    refine jok_w (T_X12_letters_4 k w18.1 ta (fJ q18) (fI (f18 10 a0 12 (Or.inr (by decide))) es) (by omega)) (fun q wq => ?_)
    obtain ⟨wq, a, v, b, c⟩ := wq
    exact ⟨jrw_tr w18 wq, a, v, b, by omega⟩
theorem T_X12_letters {g : jGh} {Γ : Nat → Option Nat} {n a0 : Nat} {u : Int32} {h : jH} (hn : 6000 ≤ n) (w : jW (jKd g) Γ h) (ta0 : Γ a0 = some 20) (eu : jgI 10 h a0 10 = some u) : jok (F_X12_letters n a0 h) (fun q => jrw g Γ a0 h q ∧ ∃ s v, jgI 10 q a0 12 = some s ∧ jgI 10 q a0 10 = some v ∧ u.toInt ≤ s.toInt ∧ s.toInt ≤ v.toInt) := by
  unfold F_X12_letters
  rw [t_cv w ta0 rfl]
  refine jok_b (T_X12_blanks hn w ta0 eu) (fun h1 w1 => ?_)
  obtain ⟨w1, v1, e1, e2, l1⟩ := w1
  obtain ⟨v9, e9, l9⟩ := t_gI (k := 10) w1.1 ta0 rfl rfl
  have l9 : 0 ≤ v9.toInt ∧ v9.toInt ≤ 400 := l9
  have qz : v9 = v1 := Option.some.inj (e9.symm.trans e1)
  subst qz
  refine jok_w (T_X12_letters_4 n w1.1 ta0 e1 e2 (by omega)) (fun q wq => ?_)
  obtain ⟨wq, a, v, b, c⟩ := wq
  exact ⟨jrw_tr w1 wq, v9, v, a, b, l1, c⟩
theorem T_X12_isWord {g : jGh} {Γ : Nat → Option Nat} {n a0 t1 : Nat} {u s : Int32} {h : jH} (hn : 6000 ≤ n) (w : jW (jKd g) Γ h) (ta0 : Γ a0 = some 20) (ht : t1 < 36) (eu : jgI 10 h a0 10 = some u) (es : jgI 10 h a0 12 = some s) : jok (F_X12_isWord n a0 t1 h) (fun v => v = 0 ∨ (v = 1 ∧ u.toInt = s.toInt + ((jtb t1).length : Int))) := by
  unfold F_X12_isWord
  have hl := jtb_lt t1 ht
  obtain ⟨v1, e1, l1⟩ := t_gI (k := 10) w ta0 rfl rfl
  have l1 : 0 ≤ v1.toInt ∧ v1.toInt ≤ 400 := l1
  obtain ⟨v5, e5, l5⟩ := t_gI (k := 12) w ta0 rfl rfl
  have l5 : 0 ≤ v5.toInt ∧ v5.toInt ≤ 400 := l5
  have qz : v1 = u := Option.some.inj (e1.symm.trans eu)
  subst qz
  have qz : v5 = s := Option.some.inj (e5.symm.trans es)
  subst qz
  refine jok_r e1 (jok_r e5 (jok_b (t_tl ht ⟨rfl, hl⟩) (fun v10 l10 => ?_)))
  have ez : (v1 - v5).toInt = v1.toInt - v5.toInt := jsub (by omega) (by omega)
  refine jok_eq (fun c _ => ?_) (fun _ => ?_)
  · refine jok_w (S_X12_isWord_24 n w ta0 ht (Or.inr ⟨rfl, fun s q => ?_⟩) (by decide) (by decide) (by have z0 : (0 : Int32).toInt = 0 := rfl; omega)) (fun v hv => ?_)
    · cases e5.symm.trans q
      omega
    · rcases hv with hv | hv
      · exact Or.inl hv
      · exact Or.inr ⟨hv, by omega⟩
  · have z : jok (F_X12_isWord_24 n n a0 t1 (0 : Int32) (0 : Int32) h) (fun v => v = 0) := by
      obtain ⟨m, rfl⟩ : ∃ m, n = m + 1 := ⟨n - 1, by omega⟩
      show jok (F_X12_isWord_24_b (m + 1) (F_X12_isWord_24 (m + 1) m) a0 t1 (0 : Int32) (0 : Int32) h) _
      unfold F_X12_isWord_24_b
      rw [if_pos rfl, if_pos (Or.inl rfl)]
      exact jok_s rfl
    exact jok_w z (fun v hv => Or.inl hv)
theorem T_X12_passes {g : jGh} {Γ : Nat → Option Nat} {n a0 t1 : Nat} {h : jH} (hn : 6000 ≤ n) (w : jW (jKd g) Γ h) (ta0 : Γ a0 = some 20) (ht : t1 < 36) : jok (F_X12_passes n a0 t1 h) (fun q => jrw g Γ a0 h q.2 ∧ ((q.1 = 0 ∧ jmo a0 0 h q.2) ∨ (q.1 = 1 ∧ jmo a0 ((jtb t1).length : Int) h q.2))) := by
  unfold F_X12_passes
  obtain ⟨u, eu, -⟩ := t_gI (k := 10) w ta0 rfl rfl
  rw [t_cv w ta0 rfl]
  refine jok_b (T_X12_letters hn w ta0 eu) (fun h1 w1 => ?_)
  obtain ⟨w1, s, v, es, ev, l1, l2⟩ := w1
  rw [t_cv w1.1 ta0 rfl]
  refine jok_b (T_X12_isWord hn w1.1 ta0 ht ev es) (fun v6 l6 => ?_)
  rcases l6 with rfl | ⟨rfl, l6⟩
  · rw [if_pos rfl]
    obtain ⟨v16, e16, l16⟩ := t_gI (k := 12) w1.1 ta0 rfl rfl
    have qz : v16 = s := Option.some.inj (e16.symm.trans es)
    subst qz
    refine jok_r e16 (jok_b (t_rw w1.1 ta0 (Or.inl rfl) l16.1 l16.2) (fun h19 w19 => ?_))
    refine jok_s ⟨jrw_tr w1 w19.1, Or.inl ⟨rfl, fun u9 e9 => ⟨v16, fJ w19.2.1, ?_⟩⟩⟩
    have qz : u = u9 := Option.some.inj (eu.symm.trans e9)
    subst qz
    omega
  · rw [if_neg (by decide)]
    refine jok_s ⟨w1, Or.inr ⟨rfl, fun u9 e9 => ⟨v, ev, ?_⟩⟩⟩
    have qz : u = u9 := Option.some.inj (eu.symm.trans e9)
    subst qz
    omega
theorem T_X12_sign {g : jGh} {Γ : Nat → Option Nat} {n a0 : Nat} {x1 : Int32} {h : jH} (hn : 6000 ≤ n) (w : jW (jKd g) Γ h) (ta0 : Γ a0 = some 20) : jok (F_X12_sign n a0 x1 h) (fun q => jrw g Γ a0 h q.2 ∧ ((q.1 = 0 ∧ jmo a0 0 h q.2) ∨ (q.1 = 1 ∧ jmo a0 1 h q.2))) := by
  unfold F_X12_sign
  have eo : (1 : Int32).toInt = 1 := rfl
  obtain ⟨u, eu, -⟩ := t_gI (k := 10) w ta0 rfl rfl
  rw [t_cv w ta0 rfl]
  refine jok_b (T_X12_blanks hn w ta0 eu) (fun h1 w1 => ?_)
  obtain ⟨w1, v, ev, -, lv⟩ := w1
  rw [t_cv w1.1 ta0 rfl]
  refine jok_b (S_X12_isAt w1.1 ta0) (fun v7 l7 => ?_)
  refine jok_eq (fun _ _ => jok_s ⟨w1, Or.inl ⟨rfl, fun u9 e9 => ⟨v, ev, ?_⟩⟩⟩) (fun c => ?_)
  · have qz : u = u9 := Option.some.inj (eu.symm.trans e9)
    subst qz
    omega
  obtain ⟨v17, e17, l17⟩ := t_gI (k := 10) w1.1 ta0 rfl rfl
  have l17 : 0 ≤ v17.toInt ∧ v17.toInt ≤ 400 := l17
  have qz : v17 = v := Option.some.inj (e17.symm.trans ev)
  subst qz
  have hp := l7.2 c _ e17
  have ea : (v17 + (1 : Int32)).toInt = v17.toInt + 1 := by rw [jadd (by omega) (by omega), eo]
  refine jok_r e17 (jok_b (t_rw w1.1 ta0 (Or.inl rfl) (by omega) (by omega)) (fun h22 w22 => ?_))
  refine jok_s ⟨jrw_tr w1 w22.1, Or.inr ⟨rfl, fun u9 e9 => ⟨_, fJ w22.2.1, ?_⟩⟩⟩
  have qz : u = u9 := Option.some.inj (eu.symm.trans e9)
  subst qz
  omega
