theorem L_readLawLine_53 {g : jGh} {Γ : Nat → Option Nat} {n a0 p0 : Nat} {C0 : Nat → Int32} {m : Nat} {b : Int} {x2 s2 : Int32} {h : jH} (hn : 6000 ≤ n) (hu : ∀ a b c, 9 ≤ c → Γ a = some c → Γ b = some c → a = b) (ta0 : Γ a0 = some 20) (tp : Γ p0 = some 21) (hm : m < 12) (hx : x2.toInt = 1285 + 4 * (m : Int)) (hb : 0 ≤ b) (a : jln g Γ a0 C0 m b h) : jok (F_X12_readLawLine_53 n a0 x2 p0 x2 s2 h) (fun q => (q.1 = 0 ∧ jlg g Γ C0 q.2) ∨ (q.1 = 1 ∧ jln g Γ a0 C0 (m + 1) b q.2)) := by
  obtain ⟨C, hC, w, st, u, e16, e10, l0, l1, l2, hl⟩ := a
  have e0 : (0 : Int32).toInt = 0 := rfl
  have eo : (1 : Int32).toInt = 1 := rfl
  have e2' : (2 : Int32).toInt = 2 := rfl
  have em : (-1 : Int32).toInt = -1 := rfl
  have x1n : (x2 + (1 : Int32)).toInt = 1286 + 4 * (m : Int) := by rw [jadd (by omega) (by omega), hx, eo]; omega
  have x2n : (x2 + (2 : Int32)).toInt = 1287 + 4 * (m : Int) := by rw [jadd (by omega) (by omega), hx, e2']; omega
  have y0 : x2.toInt.toNat = 1285 + 4 * m := by omega
  have y1 : (x2 + (1 : Int32)).toInt.toNat = 1286 + 4 * m := by omega
  have y2 : (x2 + (2 : Int32)).toInt.toNat = 1287 + 4 * m := by omega
  unfold F_X12_readLawLine_53
  refine jok_b (t_asC w hu tp (by omega) (by omega)) (fun h53 w53 => ?_)
  obtain ⟨w53, f53⟩ := w53
  rw [y0] at w53
  have hC1 : ∀ k, k < 1284 → upd C (1285 + 4 * m) s2 k = C0 k := fun k hk => by rw [upd_ne (by omega)]; exact hC k hk
  refine jok_b (t_gR w53 ta0 rfl rfl) (fun p55 t55 => ?_)
  refine jok_b (t_al w53 t55 rfl (by omega) (by omega)) (fun v59 _ => ?_)
  refine jok_if (fun _ => ?_) (fun _ => jok_s (Or.inl ⟨rfl, _, hC1, w53⟩))
  refine jok_b (t_gR w53 ta0 rfl rfl) (fun p66 t66 => ?_)
  rw [t_cv w53 ta0 rfl]
  refine jok_b (T_X12_number hn w53 ta0) (fun q76 w76 => ?_)
  obtain ⟨⟨w76, r76⟩, -, l76⟩ := w76
  refine jok_b (t_asC w76 hu t66 (by omega) (by omega)) (fun h79 w79 => ?_)
  obtain ⟨w79, f79⟩ := w79
  rw [y1] at w79
  have hC2 : ∀ k, k < 1284 → upd (upd C (1285 + 4 * m) s2) (1286 + 4 * m) q76.1 k = C0 k := fun k hk => by rw [upd_ne (by omega)]; exact hC1 k hk
  refine jok_b (t_gR w79 ta0 rfl rfl) (fun p81 t81 => ?_)
  refine jok_b (t_alC w79 t81 (by omega) (by omega)) (fun v87 l87 => ?_)
  have l87 : v87 = upd (upd C (1285 + 4 * m) s2) (1286 + 4 * m) q76.1 (x2 + (1 : Int32)).toInt.toNat := l87
  rw [y1, upd_eq] at l87
  subst l87
  refine jok_le (fun c => ?_) (fun _ => jok_s (Or.inl ⟨rfl, _, hC2, w79⟩))
  have hmo : jmo a0 1 h53 q76.2 := by
    rcases l76 with z | z
    · rw [z, e0, em] at c
      omega
    · exact z.2.2
  obtain ⟨u2, eu2, lu2⟩ := hmo u (fI (f53 10 a0 10) e10)
  have e16b : jgI 10 h79 a0 16 = some st := fI (f79 10 a0 16) (fI (r76 16 (by decide) (by decide)) (fI (f53 10 a0 16) e16))
  have e10b : jgI 10 h79 a0 10 = some u2 := fI (f79 10 a0 10) eu2
  refine jok_b (t_gR w79 ta0 rfl rfl) (fun p94 t94 => ?_)
  refine jok_r e16b (jok_b (t_asC w79 hu t94 (by omega) (by omega)) (fun h104 w104 => ?_))
  obtain ⟨w104, f104⟩ := w104
  rw [y2] at w104
  generalize hC3 : upd (upd (upd C (1285 + 4 * m) s2) (1286 + 4 * m) q76.1) (1287 + 4 * m) st = C3
  have w104 : jW (jKd (g.1, g.2.1, g.2.2.1, C3, g.2.2.2.2)) Γ h104 := by rw [← hC3]; exact w104
  have hC4 : ∀ k, k < 1284 → C3 k = C0 k := fun k hk => by rw [← hC3, upd_ne (by omega)]; exact hC2 k hk
  have hs : C3 (1287 + 4 * m) = st := by rw [← hC3, upd_eq]
  have hlo : ∀ i : Nat, i < m → C3 (1287 + 4 * i) = C (1287 + 4 * i) ∧ C3 (1288 + 4 * i) = C (1288 + 4 * i) := fun i hi => by
    rw [← hC3, upd_ne (by omega), upd_ne (by omega), upd_ne (by omega), upd_ne (by omega), upd_ne (by omega), upd_ne (by omega)]
    exact ⟨rfl, rfl⟩
  have hl3 : ∀ i : Nat, i < m → 0 ≤ (C3 (1287 + 4 * i)).toInt ∧ (C3 (1287 + 4 * i)).toInt ≤ (C3 (1288 + 4 * i)).toInt ∧ (C3 (1288 + 4 * i)).toInt ≤ st.toInt ∧ (jhgt (jdr C3) (C3 (1287 + 4 * i)).toInt.toNat ((C3 (1288 + 4 * i)).toInt.toNat - (C3 (1287 + 4 * i)).toInt.toNat)).isSome = true := fun i hi => by
    rw [(hlo i hi).1, (hlo i hi).2]
    have hj : ∀ s l : Nat, jhgt (jdr C3) s l = jhgt (jdr C) s l := fun s l => jhgt_eq l (fun k _ _ => by
      show C3 (484 + 2 * k + 849) = C (484 + 2 * k + 849)
      rw [← hC3, upd_ne (by omega), upd_ne (by omega), upd_ne (by omega)])
    rw [hj]
    exact hl i hi
  refine jok_b (t_pI w104 ta0 rfl rfl trivial) (fun h107 w107 => ?_)
  obtain ⟨w107, q107, f107⟩ := w107
  have hj : jls g Γ a0 C3 st.toInt.toNat 0 1 b 0 h107 := by
    refine ⟨C3, fun _ _ => rfl, w107, st, u2, 0, fI (f107 10 a0 16 (Or.inr (by decide))) (fI (f104 10 a0 16) e16b), fI (f107 10 a0 10 (Or.inr (by decide))) (fI (f104 10 a0 10) e10b), fJ q107, rfl, by omega, by omega, by omega, ?_⟩
    rw [Nat.sub_self]
    rfl
  rw [t_cv w107 ta0 rfl]
  refine jok_b (L_passes hn ta0 (by decide) (by decide +kernel) hj) (fun q113 w113 => ?_)
  rcases w113 with ⟨e, j⟩ | ⟨e, j⟩
  · rw [if_pos e]
    exact L_lineEnd hu ta0 hm hx hC4 l0 hs hl3 (by omega) (Int.le_refl _) j
  · rw [if_neg (by rw [e]; decide)]
    obtain ⟨C9, w9⟩ := jls_w j
    rw [t_cv w9 ta0 rfl]
    refine jok_b ((L_MC hn hu ta0 30 (p := 0) (by omega) (by omega)).1 (by omega) 0 (1 + 1) (b + 1) q113.2 (by omega) (by omega) j) (fun q120 w120 => ?_)
    rcases w120 with ⟨e, j⟩ | ⟨e, j⟩
    · rw [if_pos e]
      exact jok_s (Or.inl ⟨rfl, jlg_f hC4 j⟩)
    · rw [if_neg (by rw [e]; decide)]
      exact L_lineEnd hu ta0 hm hx hC4 l0 hs hl3 (by omega) (by omega) j
theorem L_readLawLine {g : jGh} {Γ : Nat → Option Nat} {n a0 : Nat} {C0 : Nat → Int32} {m : Nat} {b : Int} {x1 : Int32} {h : jH} (hn : 6000 ≤ n) (hu : ∀ a b c, 9 ≤ c → Γ a = some c → Γ b = some c → a = b) (ta0 : Γ a0 = some 20) (hm : m < 12) (hx : x1.toInt = (m : Int)) (hb : 0 ≤ b) (a : jln g Γ a0 C0 m b h) : jok (F_X12_readLawLine n a0 x1 h) (fun q => (q.1 = 0 ∧ jlg g Γ C0 q.2) ∨ (q.1 = 1 ∧ jln g Γ a0 C0 (m + 1) b q.2)) := by
  have e4 : (4 : Int32).toInt = 4 := rfl
  have ek : (1285 : Int32).toInt = 1285 := rfl
  have z4 : ((4 : Int32) * x1).toInt = 4 * x1.toInt := jmulL e4 (by omega) (by omega)
  have zx : ((1285 : Int32) + ((4 : Int32) * x1)).toInt = 1285 + 4 * (m : Int) := by rw [jadd (by omega) (by omega), z4, ek, hx]
  have w : ∃ C : Nat → Int32, jW (jKd (g.1, g.2.1, g.2.2.1, C, g.2.2.2.2)) Γ h := by
    obtain ⟨C, -, w, -⟩ := a
    exact ⟨C, w⟩
  obtain ⟨C, w⟩ := w
  unfold F_X12_readLawLine
  refine jok_b (t_gR w ta0 rfl rfl) (fun p9 t9 => ?_)
  rw [t_cv w ta0 rfl]
  refine jok_b (S_X12_isWord hn w ta0 (by decide)) (fun _ _ => jok_if (fun _ => ?_) (fun _ => L_readLawLine_53 hn hu ta0 t9 hm zx hb a))
  rw [t_cv w ta0 rfl]
  refine jok_b (S_X12_isWord hn w ta0 (by decide)) (fun _ _ => jok_if (fun _ => ?_) (fun _ => L_readLawLine_53 hn hu ta0 t9 hm zx hb a))
  rw [t_cv w ta0 rfl]
  exact jok_b (S_X12_isWord hn w ta0 (by decide)) (fun _ _ => jok_if (fun _ => L_readLawLine_53 hn hu ta0 t9 hm zx hb a) (fun _ => L_readLawLine_53 hn hu ta0 t9 hm zx hb a))
