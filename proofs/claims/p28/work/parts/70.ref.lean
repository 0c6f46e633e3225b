/-! the image of the reference: while it is copied, whether there is one may be anything -/
def jKi (g : jGh) (c : Nat) : jD := if c = 20 then .inr (.inr (10, [.inl (jAny), .inr (.inl 21), .inr (.inl 22), .inr (.inl 23), .inr (.inl 24), .inr (.inl 25), .inl (jAny), .inl (jI 0 12), .inr (.inl 26), .inl (fun x => x.toInt = g.2.2.1), .inl (jI 0 400), .inl (jI 0 400), .inl (jI 0 400), .inl (jAny), .inl (jAny), .inr (.inl 27), .inl (jI 0 400), .inr (.inl 28), .inl (jAny), .inr (.inl 29), .inr (.inl 30), .inr (.inl 31)])) else jKd g c
theorem jKi_ne {g : jGh} {c : Nat} (h : c ≠ 20) : jKi g c = jKd g c := if_neg h
theorem jKi_eq {g : jGh} {C : Nat → Int32} {c : Nat} (hc : c ≠ 22) : jKi (g.1, g.2.1, g.2.2.1, g.2.2.2.1, g.2.2.2.2.1, C, g.2.2.2.2.2.2) c = jKi g c := by
  by_cases q : c = 20
  · subst q
    unfold jKi
    rw [if_pos rfl, if_pos rfl]
  · rw [jKi_ne q, jKi_ne q]
    unfold jKd
    split <;> first | exact absurd rfl hc | exact absurd rfl q | rfl
theorem jW_i {g : jGh} {Γ : Nat → Option Nat} {h : jH} (w : jW (jKd g) Γ h) : jW (jKi g) Γ h := by
  intro a c ha
  obtain ⟨w1, w2⟩ := w a c ha
  refine ⟨w1, ?_⟩
  by_cases q : c = 20
  · subst q
    obtain ⟨vs, e1, e2, e3⟩ := w2
    refine ⟨vs, e1, e2, fun j F hj => ?_⟩
    by_cases hq : j = 6
    · subst hq
      cases hj
      obtain ⟨v, f1, x, f2, -⟩ := e3 6 _ rfl
      exact ⟨v, f1, x, f2, trivial⟩
    · have hj2 : (match jKd g 20 with | .inr (.inr q) => q.2 | _ => [])[j]? = some F := by
        match j, hq, hj with
        | 0, _, hj => exact hj
        | 1, _, hj => exact hj
        | 2, _, hj => exact hj
        | 3, _, hj => exact hj
        | 4, _, hj => exact hj
        | 5, _, hj => exact hj
        | 7, _, hj => exact hj
        | 8, _, hj => exact hj
        | 9, _, hj => exact hj
        | 10, _, hj => exact hj
        | 11, _, hj => exact hj
        | 12, _, hj => exact hj
        | 13, _, hj => exact hj
        | 14, _, hj => exact hj
        | 15, _, hj => exact hj
        | 16, _, hj => exact hj
        | 17, _, hj => exact hj
        | 18, _, hj => exact hj
        | 19, _, hj => exact hj
        | 20, _, hj => exact hj
        | 21, _, hj => exact hj
        | j + 22, _, hj => cases hj
      exact e3 j F hj2
  · rw [jKi_ne q]
    exact w2
abbrev jgR9 (g : jGh) : jGh := (g.1, g.2.1, g.2.2.1, g.2.2.2.1, g.2.2.2.2.1, g.2.2.2.2.2.1, g.2.2.2.2.2.2.1, g.2.2.2.2.2.2.2.1, 1)
theorem jKd_R9 {g : jGh} {c : Nat} (hc : c ≠ 20) : jKd (jgR9 g) c = jKd g c := by
  unfold jKd
  split <;> first | rfl | exact absurd rfl hc
theorem t_im {g : jGh} {Γ : Nat → Option Nat} {h : jH} {a : Nat} (w : jW (jKi g) Γ h) (hu : ∀ a b c, 9 ≤ c → Γ a = some c → Γ b = some c → a = b) (ha : Γ a = some 20) (hi : jlawOK g.2.2.2.2.2.1) : jok (jpf 10 h a 6 (.int (1 : Int32))) (fun h1 => jW (jKd (jgR9 g)) Γ h1) := by
  obtain ⟨vs, e1, e2, e3⟩ := t_obj w ha rfl
  have hlt : 6 < vs.length := by rw [e2]; exact Nat.le_of_ble_eq_true rfl
  refine ⟨jup h a (.inl (10, vs.set 6 (.int (1 : Int32)))), ?_, ?_⟩
  · unfold jpf
    rw [e1]
    dsimp only
    rw [if_pos ⟨rfl, hlt⟩]
  · intro b c hb
    refine ⟨(w b c hb).1, ?_⟩
    show okE Γ (jKd (jgR9 g) c) (if b = a then some _ else h.2 b)
    by_cases hq : b = a
    · subst hq
      cases ha.symm.trans hb
      rw [if_pos rfl]
      refine ⟨_, rfl, by rw [List.length_set]; exact e2, fun j F9 hj => ?_⟩
      by_cases hq : j = 6
      · subst hq
        cases hj
        exact ⟨.int (1 : Int32), by rw [List.getElem?_set_self hlt], (1 : Int32), rfl, rfl, Or.inr hi⟩
      · have hj2 : (match jKi g 20 with | .inr (.inr q) => q.2 | _ => [])[j]? = some F9 := by
          match j, hq, hj with
          | 0, _, hj => exact hj
          | 1, _, hj => exact hj
          | 2, _, hj => exact hj
          | 3, _, hj => exact hj
          | 4, _, hj => exact hj
          | 5, _, hj => exact hj
          | 7, _, hj => exact hj
          | 8, _, hj => exact hj
          | 9, _, hj => exact hj
          | 10, _, hj => exact hj
          | 11, _, hj => exact hj
          | 12, _, hj => exact hj
          | 13, _, hj => exact hj
          | 14, _, hj => exact hj
          | 15, _, hj => exact hj
          | 16, _, hj => exact hj
          | 17, _, hj => exact hj
          | 18, _, hj => exact hj
          | 19, _, hj => exact hj
          | 20, _, hj => exact hj
          | 21, _, hj => exact hj
          | j + 22, _, hj => cases hj
        obtain ⟨v9, f1, f2⟩ := e3 j F9 hj2
        exact ⟨v9, by rw [List.getElem?_set_ne (Ne.symm hq)]; exact f1, f2⟩
    · rw [if_neg hq]
      have hc : c ≠ 20 := fun q => hq (hu b a 20 (by decide) (by rw [hb, q]) ha)
      have h9 := (w b c hb).2
      rw [jKi_ne hc] at h9
      rw [jKd_R9 hc]
      exact h9
theorem t_asI {g : jGh} {Γ : Nat → Option Nat} {h : jH} {a : Nat} {i x : Int32} (w : jW (jKi g) Γ h) (hu : ∀ a b c, 9 ≤ c → Γ a = some c → Γ b = some c → a = b) (ha : Γ a = some 22) (h0 : 0 ≤ i.toInt) (h1 : i.toInt < 1284) (hx : jR3 i.toInt.toNat x) : jok (jas 0 h a i x) (fun h1 => jW (jKi (g.1, g.2.1, g.2.2.1, g.2.2.2.1, g.2.2.2.2.1, upd g.2.2.2.2.2.1 i.toInt.toNat x, g.2.2.2.2.2.2)) Γ h1 ∧ jfa h h1) := by
  obtain ⟨f, e1, e2⟩ := t_arr w ha (show jKi g 22 = .inl (0, 1284, fun k x => jR3 k x ∧ (k < 435 ∨ x = g.2.2.2.2.2.1 k)) from jKi_ne (by decide))
  have hi : i.toNatClampNeg = i.toInt.toNat := rfl
  refine ⟨jup h a (.inr (.inl (0, 1284, upd f i.toNatClampNeg (jnar 0 x)))), ?_, ?_, jfa_up e1⟩
  · unfold jas
    rw [e1]
    dsimp only
    rw [if_pos ⟨rfl, jnoob (by omega) (by omega), fun q => by cases q⟩]
  · intro b c hb
    refine ⟨(w b c hb).1, ?_⟩
    show okE Γ (jKi (g.1, g.2.1, g.2.2.1, g.2.2.2.1, g.2.2.2.2.1, upd g.2.2.2.2.2.1 i.toInt.toNat x, g.2.2.2.2.2.2) c) (if b = a then some _ else h.2 b)
    by_cases hq : b = a
    · subst hq
      cases ha.symm.trans hb
      rw [if_pos rfl, jKi_ne (show (22 : Nat) ≠ 20 by decide)]
      refine ⟨_, rfl, fun k hk => ?_⟩
      have e2k := e2 k hk
      show jR3 k (upd f i.toNatClampNeg (jnar 0 x) k) ∧ (k < 435 ∨ upd f i.toNatClampNeg (jnar 0 x) k = upd g.2.2.2.2.2.1 i.toInt.toNat x k)
      rw [hi]
      by_cases hk2 : k = i.toInt.toNat
      · subst hk2
        rw [upd_eq, upd_eq]
        exact ⟨hx, Or.inr rfl⟩
      · rw [upd_ne hk2, upd_ne hk2]
        exact e2k
    · rw [if_neg hq]
      have hc : c ≠ 22 := fun q => hq (hu b a 22 (by decide) (by rw [hb, q]) ha)
      rw [jKi_eq hc]
      exact (w b c hb).2
theorem S_X12_image_7 {g0 : jGh} {Γ : Nat → Option Nat} {n a0 : Nat} (hg : jgok g0) (ta0 : Γ a0 = some 20) (hu : ∀ a b c, 9 ≤ c → Γ a = some c → Γ b = some c → a = b) : ∀ (k : Nat) {C : Nat → Int32} {x1 : Int32} {h : jH}, jW (jKi (g0.1, g0.2.1, g0.2.2.1, g0.2.2.2.1, g0.2.2.2.2.1, C, g0.2.2.2.2.2.2)) Γ h → 0 ≤ x1.toInt → x1.toInt ≤ 1284 → 1284 - x1.toInt < k → (∀ j : Nat, 435 ≤ j → (j : Int) < x1.toInt → C j = g0.2.2.2.1 j) → jok (F_X12_image_7 n k a0 x1 h) (fun q => ∃ C2 : Nat → Int32, jW (jKd (g0.1, g0.2.1, g0.2.2.1, g0.2.2.2.1, g0.2.2.2.2.1, C2, g0.2.2.2.2.2.2.1, g0.2.2.2.2.2.2.2.1, 1)) Γ q)
  | 0, C, x1, h, w, l0, l1, hk, hE => by omega
  | k + 1, C, x1, h, w, l0, l1, hk, hE => by
    show jok (F_X12_image_7_b n (F_X12_image_7 n k) a0 x1 h) _
    unfold F_X12_image_7_b
    have eo : (1 : Int32).toInt = 1 := rfl
    have e12 : (1284 : Int32).toInt = 1284 := rfl
    refine jok_le (fun c => ?_) (fun c => ?_)
    · refine jok_b (t_im w hu ta0 (jlawOK_eq2 (fun j h4 h12 => hE j h4 (by omega)) hg.2.2.2)) (fun h34 w34 => ?_)
      exact jok_s ⟨C, w34⟩
    · refine jok_b (t_gR w ta0 rfl rfl) (fun p15 t15 => ?_)
      refine jok_b (t_gR w ta0 rfl rfl) (fun p20 t20 => ?_)
      refine jok_b (t_al w t20 rfl (by omega) (by omega)) (fun v l => ?_)
      have l : jR3 x1.toInt.toNat v ∧ (x1.toInt.toNat < 435 ∨ v = g0.2.2.2.1 x1.toInt.toNat) := l
      have ec : (x1 + (1 : Int32)).toInt = x1.toInt + 1 := by rw [jadd (by omega) (by omega), eo]
      refine jok_b (t_asI w hu t15 (by omega) (by omega) l.1) (fun h25 w25 => ?_)
      refine S_X12_image_7 hg ta0 hu k (C := upd C x1.toInt.toNat v) w25.1 (by omega) (by omega) (by omega) (fun j h4 hj => ?_)
      by_cases q2 : j = x1.toInt.toNat
      · subst q2
        rw [upd_eq]
        rcases l.2 with z | z
        · omega
        · exact z
      · rw [upd_ne q2]
        exact hE j h4 (by omega)
theorem S_X12_image {g : jGh} {Γ : Nat → Option Nat} {n a0 : Nat} {h : jH} (hn : 6000 ≤ n) (hg : jgok g) (w : jW (jKd g) Γ h) (ta0 : Γ a0 = some 20) (hu : ∀ a b c, 9 ≤ c → Γ a = some c → Γ b = some c → a = b) : jok (F_X12_image n a0 h) (fun q => ∃ C2 : Nat → Int32, jW (jKd (g.1, g.2.1, g.2.2.1, g.2.2.2.1, g.2.2.2.2.1, C2, g.2.2.2.2.2.2.1, g.2.2.2.2.2.2.2.1, 1)) Γ q) := by
  unfold F_X12_image
  refine jok_b (t_pI w ta0 rfl rfl trivial) (fun h2 w2 => ?_)
  obtain ⟨w2, -, -⟩ := w2
  exact S_X12_image_7 (g0 := g) hg ta0 hu n (C := g.2.2.2.2.2.1) (jW_i w2) (by decide) (by decide) (by show 1284 - (0 : Int) < _; omega) (fun j h4 hj => absurd hj (by show ¬ (j : Int) < 0; omega))
