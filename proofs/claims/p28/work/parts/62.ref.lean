/-- while a law is read: m lines stand, each with heights -/
def jln (g : jGh) (Γ : Nat → Option Nat) (a0 : Nat) (C0 : Nat → Int32) (m : Nat) (b : Int) (h : jH) : Prop := ∃ C : Nat → Int32, (∀ k, k < 1284 → C k = C0 k) ∧ jW (jKd (g.1, g.2.1, g.2.2.1, C, g.2.2.2.2)) Γ h ∧ (∃ st u : Int32, jgI 10 h a0 16 = some st ∧ jgI 10 h a0 10 = some u ∧ 0 ≤ st.toInt ∧ st.toInt ≤ u.toInt ∧ b ≤ u.toInt ∧ ∀ i : Nat, i < m → 0 ≤ (C (1287 + 4 * i)).toInt ∧ (C (1287 + 4 * i)).toInt ≤ (C (1288 + 4 * i)).toInt ∧ (C (1288 + 4 * i)).toInt ≤ st.toInt ∧ (jhgt (jdr C) (C (1287 + 4 * i)).toInt.toNat ((C (1288 + 4 * i)).toInt.toNat - (C (1287 + 4 * i)).toInt.toNat)).isSome = true)
def jlg (g : jGh) (Γ : Nat → Option Nat) (C0 : Nat → Int32) (h : jH) : Prop := ∃ C : Nat → Int32, (∀ k, k < 1284 → C k = C0 k) ∧ jW (jKd (g.1, g.2.1, g.2.2.1, C, g.2.2.2.2)) Γ h
theorem jlg_f {g : jGh} {Γ : Nat → Option Nat} {C0 C : Nat → Int32} {s : Nat} {h : jH} (hC : ∀ k, k < 1284 → C k = C0 k) (a : jlf g Γ C s h) : jlg g Γ C0 h := by
  obtain ⟨C1, a1, w⟩ := a
  exact ⟨C1, fun k hk => (a1 k (by omega)).trans (hC k hk), w⟩
/-- a place of the world from 435 on holds what the ghost says -/
theorem t_alC {g : jGh} {Γ : Nat → Option Nat} {h : jH} {a : Nat} {i : Int32} (w : jW (jKd g) Γ h) (ha : Γ a = some 21) (h0 : 435 ≤ i.toInt) (h1 : i.toInt < 2133) : jok (jal 0 h a i) (fun x => x = g.2.2.2.1 i.toInt.toNat) := by
  refine jok_w (t_al w ha rfl (by omega) (by omega)) (fun x hx => ?_)
  obtain ⟨-, hx⟩ := hx
  rcases hx with hx | hx
  · omega
  · exact hx
theorem upd_ne {f : Nat → Int32} {i k : Nat} {x : Int32} (h : k ≠ i) : upd f i x k = f k := by
  simp only [upd]
  rw [if_neg h]
theorem upd_eq {f : Nat → Int32} {i : Nat} {x : Int32} : upd f i x i = x := by
  simp only [upd, if_pos]
/-- the line's end is noted -/
theorem L_lineEnd {g : jGh} {Γ : Nat → Option Nat} {a0 : Nat} {C0 C : Nat → Int32} {m : Nat} {b : Int} {x2 s0 : Int32} {t : Nat} {d b2 p2 : Int} {h : jH} (hu : ∀ a b c, 9 ≤ c → Γ a = some c → Γ b = some c → a = b) (ta0 : Γ a0 = some 20) (hm : m < 12) (hx : x2.toInt = 1285 + 4 * (m : Int)) (hC : ∀ k, k < 1284 → C k = C0 k) (hs0 : 0 ≤ s0.toInt) (hs : C (1287 + 4 * m) = s0) (hl : ∀ i : Nat, i < m → 0 ≤ (C (1287 + 4 * i)).toInt ∧ (C (1287 + 4 * i)).toInt ≤ (C (1288 + 4 * i)).toInt ∧ (C (1288 + 4 * i)).toInt ≤ s0.toInt ∧ (jhgt (jdr C) (C (1287 + 4 * i)).toInt.toNat ((C (1288 + 4 * i)).toInt.toNat - (C (1287 + 4 * i)).toInt.toNat)).isSome = true) (hd : 0 ≤ d) (hb : b ≤ b2) (a : jls g Γ a0 C s0.toInt.toNat t d b2 p2 h) : jok ((jgR 10 h a0 1).bind fun p129 => (jgI 10 h a0 16).bind fun v136 => (jas 0 h p129 (x2 + (3 : Int32)) v136).bind fun h139 => some ((1 : Int32), h139)) (fun q => (q.1 = 0 ∧ jlg g Γ C0 q.2) ∨ (q.1 = 1 ∧ jln g Γ a0 C0 (m + 1) b q.2)) := by
  obtain ⟨C1, a1, w, st, u, dp, e1, e2, e3, e4, e5, e6, e8, e7⟩ := a
  have e3' : (3 : Int32).toInt = 3 := rfl
  have ex : (x2 + (3 : Int32)).toInt = 1288 + 4 * (m : Int) := by rw [jadd (by omega) (by omega), hx, e3']; omega
  have exn : (x2 + (3 : Int32)).toInt.toNat = 1288 + 4 * m := by omega
  refine jok_b (t_gR w ta0 rfl rfl) (fun p t => ?_)
  refine jok_r e1 (jok_b (t_asC w hu t (by omega) (by omega)) (fun h139 w139 => ?_))
  obtain ⟨w139, f139⟩ := w139
  rw [exn] at w139
  refine jok_s (Or.inr ⟨rfl, _, ?_, w139, st, u, fI (f139 10 a0 16) e1, fI (f139 10 a0 10) e2, by omega, by omega, by omega, fun i hi => ?_⟩)
  · intro k hk
    show upd C1 (1288 + 4 * m) st k = C0 k
    rw [upd_ne (by omega), a1 k (by omega), hC k hk]
  · show 0 ≤ (upd C1 (1288 + 4 * m) st (1287 + 4 * i)).toInt ∧ (upd C1 (1288 + 4 * m) st (1287 + 4 * i)).toInt ≤ (upd C1 (1288 + 4 * m) st (1288 + 4 * i)).toInt ∧ (upd C1 (1288 + 4 * m) st (1288 + 4 * i)).toInt ≤ st.toInt ∧ (jhgt (jdr (upd C1 (1288 + 4 * m) st)) (upd C1 (1288 + 4 * m) st (1287 + 4 * i)).toInt.toNat ((upd C1 (1288 + 4 * m) st (1288 + 4 * i)).toInt.toNat - (upd C1 (1288 + 4 * m) st (1287 + 4 * i)).toInt.toNat)).isSome = true
    have hj : ∀ s l : Nat, jhgt (jdr (upd C1 (1288 + 4 * m) st)) s l = jhgt (jdr C1) s l := fun s l => jhgt_eq l (fun k _ _ => by
      show upd C1 (1288 + 4 * m) st (484 + 2 * k + 849) = C1 (484 + 2 * k + 849)
      rw [upd_ne (by omega)])
    rw [hj]
    by_cases q : i = m
    · subst q
      rw [upd_ne (by omega), upd_eq, a1 (1287 + 4 * i) (by omega), hs]
      refine ⟨hs0, by omega, Int.le_refl _, ?_⟩
      rw [e7]
      rfl
    · obtain ⟨z1, z2, z3, z4⟩ := hl i (by omega)
      rw [upd_ne (by omega), upd_ne (by omega), a1 (1287 + 4 * i) (by omega), a1 (1288 + 4 * i) (by omega)]
      refine ⟨z1, z2, by omega, ?_⟩
      rw [jhgt_eq (d := jdr C) _ (fun k c1 c2 => by
        show C1 (484 + 2 * k + 849) = C (484 + 2 * k + 849)
        exact a1 _ (by omega))]
      exact z4
