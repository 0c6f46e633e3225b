/-- 'earlier' holds the law that stands -/
def jeq (g : jGh) : Prop := ∀ k, 435 ≤ k → k < 1284 → g.2.2.2.2.1 k = g.2.2.2.1 k
theorem S_X12_pole_92 {g : jGh} {Γ : Nat → Option Nat} {n a0 : Nat} (he : jeq g) (ta0 : Γ a0 = some 20) : ∀ (k : Nat) {x2 : Int32} {h : jH}, jW (jKd g) Γ h → 0 ≤ x2.toInt → x2.toInt ≤ 1284 → 1284 - x2.toInt < k → jok (F_X12_pole_92 n k a0 x2 h) (fun q => jW (jKd g) Γ q.2)
  | 0, x2, h, w, l0, l1, hk => by omega
  | k + 1, x2, h, w, l0, l1, hk => by
    show jok (F_X12_pole_92_b n (F_X12_pole_92 n k) a0 x2 h) _
    unfold F_X12_pole_92_b
    have eo : (1 : Int32).toInt = 1 := rfl
    have e12 : (1284 : Int32).toInt = 1284 := rfl
    refine jok_le (fun _ => jok_s w) (fun c => ?_)
    refine jok_b (t_gR w ta0 rfl rfl) (fun p100 t100 => ?_)
    refine jok_b (t_gR w ta0 rfl rfl) (fun p105 t105 => ?_)
    refine jok_b (t_al w t105 rfl (by omega) (by omega)) (fun v l => ?_)
    have l : jR3 x2.toInt.toNat v ∧ (x2.toInt.toNat < 435 ∨ v = g.2.2.2.2.1 x2.toInt.toNat) := l
    refine jok_b (t_as w t100 rfl (by omega) (by omega) (show jRw g x2.toInt.toNat v from ⟨l.1, ?_⟩) (fun q => by cases q)) (fun h110 w110 => ?_)
    · by_cases q : x2.toInt.toNat < 435
      · exact Or.inl q
      · rcases l.2 with z | z
        · exact Or.inl z
        · exact Or.inr (z.trans (he _ (by omega) (by omega)))
    have ec : (x2 + (1 : Int32)).toInt = x2.toInt + 1 := by rw [jadd (by omega) (by omega), eo]
    exact S_X12_pole_92 he ta0 k w110.1 (by omega) (by omega) (by omega)
theorem S_X12_pole_83 {g : jGh} {Γ : Nat → Option Nat} {n a0 : Nat} {s1 : Int32} {h : jH} (hn : 6000 ≤ n) (hg : jgok g) (he : jeq g) (w : jW (jKd g) Γ h) (ta0 : Γ a0 = some 20) (hs : s1 = 0 ∨ s1 = 1) : jok (F_X12_pole_83 n a0 a0 s1 h) (fun q => jW (jKd g) Γ q.2) := by
  have hb : 0 ≤ s1.toInt ∧ s1.toInt ≤ 1 := by rcases hs with rfl | rfl <;> decide
  have eo : (1 : Int32).toInt = 1 := rfl
  unfold F_X12_pole_83
  rw [t_cv w ta0 rfl]
  refine jok_b (S_X12_throwsIf hn hg w ta0 hb.1 hb.2) (fun q84 w84 => ?_)
  obtain ⟨w84, -⟩ := w84
  refine jok_if (fun _ => ?_) (fun _ => S_X12_pole_92 he ta0 n w84 (by decide) (by decide) (by show 1284 - (0 : Int) < _; omega))
  refine jok_b (t_gR w84 ta0 rfl rfl) (fun p t => ?_)
  refine jok_b (t_al w84 t rfl (by omega) (by omega)) (fun v _ => ?_)
  refine jok_b (t_asW w84 t (by omega) (by omega) (by omega) (by omega)) (fun h128 w128 => ?_)
  obtain ⟨w128, -⟩ := w128
  refine jok_b (t_pI w128 ta0 rfl rfl (by constructor <;> decide)) (fun h131 w131 => ?_)
  obtain ⟨w131, -, -⟩ := w131
  refine jok_b (t_gR w131 ta0 rfl rfl) (fun p2 t2 => ?_)
  refine jok_b (t_al w131 t2 rfl (by omega) (by omega)) (fun v2 _ => ?_)
  exact jok_s w131
theorem S_X12_pole_59 {g : jGh} {Γ : Nat → Option Nat} {n a0 : Nat} {s1 : Int32} {h : jH} (hn : 6000 ≤ n) (hg : jgok g) (he : jeq g) (w : jW (jKd g) Γ h) (ta0 : Γ a0 = some 20) (hs : s1 = 0 ∨ s1 = 1) : jok (F_X12_pole_59 n a0 a0 s1 h) (fun q => jW (jKd g) Γ q.2) := by
  have hb : 0 ≤ s1.toInt ∧ s1.toInt ≤ 1 := by rcases hs with rfl | rfl <;> decide
  have eo : (1 : Int32).toInt = 1 := rfl
  unfold F_X12_pole_59
  rw [t_cv w ta0 rfl]
  refine jok_b (S_X12_throwsIf hn hg w ta0 hb.1 hb.2) (fun q60 w60 => ?_)
  obtain ⟨w60, -⟩ := w60
  refine jok_if (fun _ => ?_) (fun _ => S_X12_pole_92 he ta0 n w60 (by decide) (by decide) (by show 1284 - (0 : Int) < _; omega))
  refine jok_b (t_gR w60 ta0 rfl rfl) (fun p t => ?_)
  refine jok_b (t_al w60 t rfl (by omega) (by omega)) (fun v _ => ?_)
  exact jok_if (fun _ => S_X12_pole_83 hn hg he w60 ta0 (Or.inr rfl)) (fun _ => S_X12_pole_83 hn hg he w60 ta0 (Or.inl rfl))
theorem S_X12_pole_2 {g0 : jGh} {Γ : Nat → Option Nat} {n a0 : Nat} (hn : 6000 ≤ n) (hg0 : jgok g0) (ta0 : Γ a0 = some 20) (hu : ∀ a b c, 9 ≤ c → Γ a = some c → Γ b = some c → a = b) : ∀ (k : Nat) {E : Nat → Int32} {x1 : Int32} {h : jH}, jW (jKd (g0.1, g0.2.1, g0.2.2.1, g0.2.2.2.1, E, g0.2.2.2.2.2)) Γ h → 0 ≤ x1.toInt → x1.toInt ≤ 1284 → 1284 - x1.toInt < k → (∀ j : Nat, 435 ≤ j → (j : Int) < x1.toInt → E j = g0.2.2.2.1 j) → jok (F_X12_pole_2 n k a0 x1 h) (fun q => ∃ E2 : Nat → Int32, jW (jKd (g0.1, g0.2.1, (0 : Int32).toInt, g0.2.2.2.1, E2, g0.2.2.2.2.2)) Γ q.2)
  | 0, E, x1, h, w, l0, l1, hk, hE => by omega
  | k + 1, E, x1, h, w, l0, l1, hk, hE => by
    show jok (F_X12_pole_2_b n (F_X12_pole_2 n k) a0 x1 h) _
    unfold F_X12_pole_2_b
    have eo : (1 : Int32).toInt = 1 := rfl
    have e12 : (1284 : Int32).toInt = 1284 := rfl
    have hg : jgok (g0.1, g0.2.1, g0.2.2.1, g0.2.2.2.1, E, g0.2.2.2.2.2) := hg0
    refine jok_le (fun c => ?_) (fun c => ?_)
    · rw [t_cv w ta0 rfl]
      refine jok_b (S_X12_readAll1 hn hg w ta0 hu) (fun q29 w29 => ?_)
      have he : jeq (jg20 (g0.1, g0.2.1, g0.2.2.1, g0.2.2.2.1, E, g0.2.2.2.2.2)) := fun j h4 h12 => hE j h4 (by omega)
      have fin : ∀ {h46 : jH} {s1 : Int32}, jW (jKd (jg20 (g0.1, g0.2.1, g0.2.2.1, g0.2.2.2.1, E, g0.2.2.2.2.2))) Γ h46 → (s1 = 0 ∨ s1 = 1) → jok (F_X12_pole_59 n a0 a0 s1 h46) (fun q => ∃ E2 : Nat → Int32, jW (jKd (g0.1, g0.2.1, (0 : Int32).toInt, g0.2.2.2.1, E2, g0.2.2.2.2.2)) Γ q.2) := fun w46 hs => jok_w (S_X12_pole_59 hn (jg20_ok hg) he w46 ta0 hs) (fun q wq => ⟨E, wq⟩)
      refine jok_if (fun _ => ?_) (fun _ => ?_)
      · refine jok_b (t_pI w29 ta0 rfl rfl trivial) (fun h46 w46 => ?_)
        exact jok_if (fun _ => fin w46.1 (Or.inl rfl)) (fun _ => fin w46.1 (Or.inr rfl))
      · refine jok_b (t_gI w29 ta0 rfl rfl) (fun v39 _ => ?_)
        refine jok_b (t_pI w29 ta0 rfl rfl trivial) (fun h46 w46 => ?_)
        exact jok_if (fun _ => fin w46.1 (Or.inl rfl)) (fun _ => fin w46.1 (Or.inr rfl))
    · refine jok_b (t_gR w ta0 rfl rfl) (fun p10 t10 => ?_)
      refine jok_b (t_gR w ta0 rfl rfl) (fun p15 t15 => ?_)
      refine jok_b (t_al w t15 rfl (by omega) (by omega)) (fun v l => ?_)
      have l : jR3 x1.toInt.toNat v ∧ (x1.toInt.toNat < 435 ∨ v = g0.2.2.2.1 x1.toInt.toNat) := l
      refine jok_b (t_asE w hu t10 (by omega) (by omega) l.1) (fun h20 w20 => ?_)
      have ec : (x1 + (1 : Int32)).toInt = x1.toInt + 1 := by rw [jadd (by omega) (by omega), eo]
      refine S_X12_pole_2 hn hg0 ta0 hu k (E := upd E x1.toInt.toNat v) w20.1 (by omega) (by omega) (by omega) (fun j h4 hj => ?_)
      by_cases q : j = x1.toInt.toNat
      · subst q
        rw [upd_eq]
        rcases l.2 with z | z
        · omega
        · exact z
      · rw [upd_ne q]
        exact hE j h4 (by omega)
theorem S_X12_pole {g : jGh} {Γ : Nat → Option Nat} {n a0 : Nat} {h : jH} (hn : 6000 ≤ n) (hg : jgok g) (w : jW (jKd g) Γ h) (ta0 : Γ a0 = some 20) (hu : ∀ a b c, 9 ≤ c → Γ a = some c → Γ b = some c → a = b) : jok (F_X12_pole n a0 h) (fun q => ∃ E2 : Nat → Int32, jW (jKd (g.1, g.2.1, (0 : Int32).toInt, g.2.2.2.1, E2, g.2.2.2.2.2)) Γ q.2) := by
  unfold F_X12_pole
  exact S_X12_pole_2 (g0 := g) hn hg ta0 hu n (E := g.2.2.2.2.1) w (by decide) (by decide) (by show 1284 - (0 : Int) < _; omega) (fun j h4 hj => absurd hj (by show ¬ (j : Int) < 0; omega))
