theorem jKd_C {g : jGh} {C : Nat → Int32} {c : Nat} (hc : c ≠ 21) : jKd (g.1, g.2.1, g.2.2.1, C, g.2.2.2.2) c = jKd g c := by
  unfold jKd
  split <;> first | rfl | exact absurd rfl hc
/-- a write to the world from 435 on: law's ghost anew -/
theorem t_asC {g : jGh} {Γ : Nat → Option Nat} {h : jH} {a : Nat} {i x : Int32} (w : jW (jKd g) Γ h) (hu : ∀ a b c, 9 ≤ c → Γ a = some c → Γ b = some c → a = b) (ha : Γ a = some 21) (h0 : 435 ≤ i.toInt) (h1 : i.toInt < 2133) : jok (jas 0 h a i x) (fun h1 => jW (jKd (g.1, g.2.1, g.2.2.1, upd g.2.2.2.1 i.toInt.toNat x, g.2.2.2.2)) Γ h1 ∧ jfa h h1) := by
  obtain ⟨f, e1, e2⟩ := t_arr w ha rfl
  have hi : i.toNatClampNeg = i.toInt.toNat := rfl
  refine ⟨jup h a (.inr (.inl (0, 2133, upd f i.toNatClampNeg (jnar 0 x)))), ?_, ?_, jfa_up e1⟩
  · unfold jas
    rw [e1]
    dsimp only
    rw [if_pos ⟨rfl, jnoob (by omega) (by omega), fun q => by cases q⟩]
  · intro b c hb
    refine ⟨(w b c hb).1, ?_⟩
    show okE Γ (jKd (g.1, g.2.1, g.2.2.1, upd g.2.2.2.1 i.toInt.toNat x, g.2.2.2.2) c) (if b = a then some _ else h.2 b)
    by_cases hq : b = a
    · subst hq
      cases ha.symm.trans hb
      rw [if_pos rfl]
      refine ⟨_, rfl, fun k hk => ?_⟩
      have e2k := e2 k hk
      by_cases hk2 : k = i.toInt.toNat
      · subst hk2
        refine ⟨⟨Or.inl (by omega), Or.inl (by omega), Or.inr (Or.inl (by omega))⟩, Or.inr ?_⟩
        show upd f i.toInt.toNat (jnar 0 x) i.toInt.toNat = upd g.2.2.2.1 i.toInt.toNat x i.toInt.toNat
        simp only [upd, if_pos]
        rfl
      · have z1 : upd f i.toNatClampNeg (jnar 0 x) k = f k := by
          simp only [upd]
          rw [if_neg (by rw [hi]; exact hk2)]
        have z2 : upd g.2.2.2.1 i.toInt.toNat x k = g.2.2.2.1 k := by
          simp only [upd]
          rw [if_neg hk2]
        show jR3 k (upd f i.toNatClampNeg (jnar 0 x) k) ∧ (k < 435 ∨ upd f i.toNatClampNeg (jnar 0 x) k = upd g.2.2.2.1 i.toInt.toNat x k)
        rw [z1, z2]
        exact e2k
    · rw [if_neg hq]
      have hc : c ≠ 21 := fun q => hq (hu b a 21 (by decide) (by rw [hb, q]) ha)
      rw [jKd_C hc]
      exact (w b c hb).2
/-- what a code does to the height -/
def jst (x : Int32) (t : Nat) : Option Nat := if x.toInt ≤ 11 then some (t + 1) else if x.toInt = 15 then (if 1 ≤ t then some t else none) else (if 2 ≤ t then some (t - 1) else none)
theorem T_X12_emits {g : jGh} {Γ : Nat → Option Nat} {n a0 : Nat} {C0 : Nat → Int32} {s t t2 : Nat} {d b p : Int} {x1 x2 : Int32} {h : jH} (hu : ∀ a b c, 9 ≤ c → Γ a = some c → Γ b = some c → a = b) (ta0 : Γ a0 = some 20) (hd : 0 ≤ d) (hx : jst x1 t = some t2) (a : jls g Γ a0 C0 s t (d + 1) b p h) : jok (F_X12_emits n a0 x1 x2 h) (fun q => jls g Γ a0 C0 s t2 d b p q) := by
  obtain ⟨C, hC, w, st, u, dp, e16, e10, e13, ep, hs, hd1, hb, hh⟩ := a
  have em : (1333 : Int32).toInt = 1333 := rfl
  have e1 : (1 : Int32).toInt = 1 := rfl
  have e2 : (2 : Int32).toInt = 2 := rfl
  obtain ⟨u9, eu9, lu⟩ := t_gI (k := 10) w ta0 rfl rfl
  have lu : 0 ≤ u9.toInt ∧ u9.toInt ≤ 400 := lu
  have qz : u9 = u := Option.some.inj (eu9.symm.trans e10)
  subst qz
  have h2 : ((2 : Int32) * st).toInt = 2 * st.toInt := jmulL e2 (by omega) (by omega)
  have h3 : ((1333 : Int32) + ((2 : Int32) * st)).toInt = 1333 + 2 * st.toInt := by rw [jadd (by omega) (by omega), h2, em]
  have h4 : (((1333 : Int32) + ((2 : Int32) * st)) + (1 : Int32)).toInt = 1334 + 2 * st.toInt := by rw [jadd (by omega) (by omega), h3, e1]; omega
  have h5 : (st + (1 : Int32)).toInt = st.toInt + 1 := by rw [jadd (by omega) (by omega), e1]
  unfold F_X12_emits
  refine jok_b (t_gR w ta0 rfl rfl) (fun p1 t1 => ?_)
  refine jok_r e16 (jok_b (t_asC w hu t1 (by omega) (by omega)) (fun h15 w15 => ?_))
  obtain ⟨w15, f15⟩ := w15
  refine jok_b (t_gR w15 ta0 rfl rfl) (fun p17 t17 => ?_)
  have e16b := fI (f15 10 a0 16) e16
  refine jok_r e16b (jok_b (t_asC w15 hu t17 (by omega) (by omega)) (fun h33 w33 => ?_))
  obtain ⟨w33, f33⟩ := w33
  have e16c := fI (f33 10 a0 16) e16b
  refine jok_r e16c (jok_b (t_pI w33 ta0 rfl rfl (show jI 0 400 _ from ⟨by omega, by omega⟩)) (fun h41 w41 => ?_))
  obtain ⟨w41, q41, f41⟩ := w41
  refine jok_s ⟨_, ?_, w41, st + 1, u9, dp, fJ q41, ?_, ?_, ep, by omega, by omega, hb, ?_⟩
  · intro k hk
    simp only [upd]
    rw [if_neg (by omega), if_neg (by omega)]
    exact hC k hk
  · exact fI (f41 10 a0 10 (Or.inr (by decide))) (fI (f33 10 a0 10) (fI (f15 10 a0 10) e10))
  · exact fI (f41 10 a0 13 (Or.inr (by decide))) (fI (f33 10 a0 13) (fI (f15 10 a0 13) e13))
  · have hl : (st + (1 : Int32)).toInt.toNat - s = (st.toInt.toNat - s) + 1 := by omega
    rw [hl]
    have hk9 : s + (st.toInt.toNat - s) = st.toInt.toNat := by omega
    show (jhgt _ s (st.toInt.toNat - s)).bind _ = some t2
    rw [jhgt_eq (d := jdr C) (st.toInt.toNat - s) (fun k a b => by
      show upd (upd C _ x1) _ x2 (484 + 2 * k + 849) = C (484 + 2 * k + 849)
      simp only [upd]
      rw [if_neg (by omega), if_neg (by omega)]), hh, hk9]
    have hc : jdr (upd (upd C ((1333 : Int32) + ((2 : Int32) * st)).toInt.toNat x1) (((1333 : Int32) + ((2 : Int32) * st)) + (1 : Int32)).toInt.toNat x2) (484 + 2 * st.toInt.toNat) = x1 := by
      show upd (upd C _ x1) _ x2 (484 + 2 * st.toInt.toNat + 849) = x1
      simp only [upd]
      rw [if_neg (by omega), if_pos (by omega)]
    show (if (jdr _ (484 + 2 * st.toInt.toNat)).toInt ≤ 11 then some (t + 1) else if (jdr _ (484 + 2 * st.toInt.toNat)).toInt = 15 then (if 1 ≤ t then some t else none) else (if 2 ≤ t then some (t - 1) else none)) = some t2
    have hx2 : (if x1.toInt ≤ 11 then some (t + 1) else if x1.toInt = 15 then (if 1 ≤ t then some t else none) else (if 2 ≤ t then some (t - 1) else none)) = some t2 := hx
    rw [hc]
    exact hx2
