section
theorem L_readLawLine_53 {g : jGh} {Γ : Nat → Option Nat} {n a0 p0 : Nat} {C0 : Nat → Int32} {m : Nat} {b : Int} {x2 s2 : Int32} {h : jH} (hn : 6000 ≤ n) (hu : ∀ a b c, 9 ≤ c → Γ a = some c → Γ b = some c → a = b) (ta0 : Γ a0 = some 20) (tp : Γ p0 = some 21) (hm : m < 12) (hx : x2.toInt = 1285 + 4 * (m : Int)) (hb : 0 ≤ b) (a : jln g Γ a0 C0 m b h) : jok (F_X12_readLawLine_53 n a0 x2 p0 x2 s2 h) (fun q => (q.1 = 0 ∧ jlg g Γ C0 q.2) ∨ (q.1 = 1 ∧ jln g Γ a0 C0 (m + 1) b q.2)) := by
  obtain ⟨C, hC, w, st, u, e16, e10, l0, l1, l2, hl⟩ := a
  have e0 : (0 : Int32).toInt = 0 := rfl
  have eo : (1 : Int32).toInt = 1 := rfl
  have e2' : (2 : Int32).toInt = 2 := rfl
  have em : (-1 : Int32).toInt = -1 := rfl
  have x1n : (x2 + (1 : Int32)).toInt = 1286 + 4 * (m : Int) := by rw [jadd (by omega) (by omega), hx, eo]; omega
  have x2n : (x2 + (2 : Int32)).toInt = 1287 + 4 * (m : Int) := by rw [jadd (by omega) (by omega), hx, e2']; omega
  have y0 : x2.toInt.toNat = 1285 + 4 * m := by omega
  have y1 : (x2 + (1 : Int32)).toInt.toNat = 1286 + 4 * m := by omega
  have y2 : (x2 + (2 : Int32)).toInt.toNat = 1287 + 4 * m := by omega
  unfold F_X12_readLawLine_53
  refine jok_b (t_asC w hu tp (by omega) (by omega)) (fun h53 w53 => ?_)
  obtain ⟨w53, f53⟩ := w53
  rw [y0] at w53
  have hC1 : ∀ k, k < 1284 → upd C (1285 + 4 * m) s2 k = C0 k := fun k hk => by rw [upd_ne (by omega)]; exact hC k hk
  refine jok_b (t_gR w53 ta0 rfl rfl) (fun p55 t55 => ?_)
  refine jok_b (t_al w53 t55 rfl (by omega) (by omega)) (fun v59 _ => ?_)
  refine jok_if (fun _ => ?_) (fun _ => jok_s (Or.inl ⟨rfl, _, hC1, w53⟩))
  refine jok_b (t_gR w53 ta0 rfl rfl) (fun p66 t66 => ?_)
  rw [t_cv w53 ta0 rfl]
  refine jok_b (T_X12_number hn w53 ta0) (fun q76 w76 => ?_)
  obtain ⟨⟨w76, r76⟩, -, l76⟩ := w76
  refine jok_b (t_asC w76 hu t66 (by omega) (by omega)) (fun h79 w79 => ?_)
  obtain ⟨w79, f79⟩ := w79
  rw [y1] at w79
  have hC2 : ∀ k, k < 1284 → upd (upd C (1285 + 4 * m) s2) (1286 + 4 * m) q76.1 k = C0 k := fun k hk => by rw [upd_ne (by omega)]; exact hC1 k hk
  refine jok_b (t_gR w79 ta0 rfl rfl) (fun p81 t81 => ?_)
  refine jok_b (t_alC w79 t81 (by omega) (by omega)) (fun v87 l87 => ?_)
  have l87 : v87 = upd (upd C (1285 + 4 * m) s2) (1286 + 4 * m) q76.1 (x2 + (1 : Int32)).toInt.toNat := l87
  rw [y1, upd_eq] at l87
  subst l87
  refine jok_le (fun c => ?_) (fun _ => jok_s (Or.inl ⟨rfl, _, hC2, w79⟩))
  have hmo : jmo a0 1 h53 q76.2 := by
    rcases l76 with z | z
    · rw [z, e0, em] at c
      omega
    · exact z.2.2
  obtain ⟨u2, eu2, lu2⟩ := hmo u (fI (f53 10 a0 10) e10)
  have e16b : jgI 10 h79 a0 16 = some st := fI (f79 10 a0 16) (fI (r76 16 (by decide) (by decide)) (fI (f53 10 a0 16) e16))
  have e10b : jgI 10 h79 a0 10 = some u2 := fI (f79 10 a0 10) eu2
  refine jok_b (t_gR w79 ta0 rfl rfl) (fun p94 t94 => ?_)
  refine jok_r e16b (jok_b (t_asC w79 hu t94 (by omega) (by omega)) (fun h104 w104 => ?_))
  obtain ⟨w104, f104⟩ := w104
  rw [y2] at w104
  generalize hC3 : upd (upd (upd C (1285 + 4 * m) s2) (1286 + 4 * m) q76.1) (1287 + 4 * m) st = C3
  have w104 : jW (jKd (g.1, g.2.1, g.2.2.1, C3, g.2.2.2.2)) Γ h104 := by rw [← hC3]; exact w104
  have hC4 : ∀ k, k < 1284 → C3 k = C0 k := fun k hk => by rw [← hC3, upd_ne (by omega)]; exact hC2 k hk
  have hs : C3 (1287 + 4 * m) = st := by rw [← hC3, upd_eq]
  have hlo : ∀ i : Nat, i < m → C3 (1287 + 4 * i) = C (1287 + 4 * i) ∧ C3 (1288 + 4 * i) = C (1288 + 4 * i) := fun i hi => by
    rw [← hC3, upd_ne (by omega), upd_ne (by omega), upd_ne (by omega), upd_ne (by omega), upd_ne (by omega), upd_ne (by omega)]
    exact ⟨rfl, rfl⟩
  have hl3 : ∀ i : Nat, i < m → 0 ≤ (C3 (1287 + 4 * i)).toInt ∧ (C3 (1287 + 4 * i)).toInt ≤ (C3 (1288 + 4 * i)).toInt ∧ (C3 (1288 + 4 * i)).toInt ≤ st.toInt ∧ (jhgt (jdr C3) (C3 (1287 + 4 * i)).toInt.toNat ((C3 (1288 + 4 * i)).toInt.toNat - (C3 (1287 + 4 * i)).toInt.toNat)).isSome = true := fun i hi => by
    rw [(hlo i hi).1, (hlo i hi).2]
    have hj : ∀ s l : Nat, jhgt (jdr C3) s l = jhgt (jdr C) s l := fun s l => jhgt_eq l (fun k _ _ => by
      show C3 (484 + 2 * k + 849) = C (484 + 2 * k + 849)
      rw [← hC3, upd_ne (by omega), upd_ne (by omega), upd_ne (by omega)])
    rw [hj]
    exact hl i hi
  refine jok_b (t_pI w104 ta0 rfl rfl trivial) (fun h107 w107 => ?_)
  obtain ⟨w107, q107, f107⟩ := w107
  have hj : jls g Γ a0 C3 st.toInt.toNat 0 1 b 0 h107 := by
    refine ⟨C3, fun _ _ => rfl, w107, st, u2, 0, fI (f107 10 a0 16 (Or.inr (by decide))) (fI (f104 10 a0 16) e16b), fI (f107 10 a0 10 (Or.inr (by decide))) (fI (f104 10 a0 10) e10b), fJ q107, rfl, by omega, by omega, by omega, ?_⟩
    rw [Nat.sub_self]
    rfl
  rw [t_cv w107 ta0 rfl]
  refine jok_b (L_passes hn ta0 (by decide) (by decide +kernel) hj) (fun q113 w113 => ?_)
  rcases w113 with ⟨e, j⟩ | ⟨e, j⟩
  · rw [if_pos e]
    exact L_lineEnd hu ta0 hm hx hC4 l0 hs hl3 (by omega) (Int.le_refl _) j
  · rw [if_neg (by rw [e]; decide)]
    obtain ⟨C9, w9⟩ := jls_w j
    rw [t_cv w9 ta0 rfl]
    refine jok_b ((L_MC hn hu ta0 30 (p := 0) (by omega) (by omega)).1 (by omega) 0 (1 + 1) (b + 1) q113.2 (by omega) (by omega) j) (fun q120 w120 => ?_)
    rcases w120 with ⟨e, j⟩ | ⟨e, j⟩
    · rw [if_pos e]
      exact jok_s (Or.inl ⟨rfl, jlg_f hC4 j⟩)
    · rw [if_neg (by rw [e]; decide)]
      exact L_lineEnd hu ta0 hm hx hC4 l0 hs hl3 (by omega) (by omega) j
theorem L_readLawLine {g : jGh} {Γ : Nat → Option Nat} {n a0 : Nat} {C0 : Nat → Int32} {m : Nat} {b : Int} {x1 : Int32} {h : jH} (hn : 6000 ≤ n) (hu : ∀ a b c, 9 ≤ c → Γ a = some c → Γ b = some c → a = b) (ta0 : Γ a0 = some 20) (hm : m < 12) (hx : x1.toInt = (m : Int)) (hb : 0 ≤ b) (a : jln g Γ a0 C0 m b h) : jok (F_X12_readLawLine n a0 x1 h) (fun q => (q.1 = 0 ∧ jlg g Γ C0 q.2) ∨ (q.1 = 1 ∧ jln g Γ a0 C0 (m + 1) b q.2)) := by
  have e4 : (4 : Int32).toInt = 4 := rfl
  have ek : (1285 : Int32).toInt = 1285 := rfl
  have z4 : ((4 : Int32) * x1).toInt = 4 * x1.toInt := jmulL e4 (by omega) (by omega)
  have zx : ((1285 : Int32) + ((4 : Int32) * x1)).toInt = 1285 + 4 * (m : Int) := by rw [jadd (by omega) (by omega), z4, ek, hx]
  have w : ∃ C : Nat → Int32, jW (jKd (g.1, g.2.1, g.2.2.1, C, g.2.2.2.2)) Γ h := by
    obtain ⟨C, -, w, -⟩ := a
    exact ⟨C, w⟩
  obtain ⟨C, w⟩ := w
  unfold F_X12_readLawLine
  refine jok_b (t_gR w ta0 rfl rfl) (fun p9 t9 => ?_)
  rw [t_cv w ta0 rfl]
  refine jok_b (S_X12_isWord hn w ta0 (by decide)) (fun _ _ => jok_if (fun _ => ?_) (fun _ => L_readLawLine_53 hn hu ta0 t9 hm zx hb a))
  rw [t_cv w ta0 rfl]
  refine jok_b (S_X12_isWord hn w ta0 (by decide)) (fun _ _ => jok_if (fun _ => ?_) (fun _ => L_readLawLine_53 hn hu ta0 t9 hm zx hb a))
  rw [t_cv w ta0 rfl]
  exact jok_b (S_X12_isWord hn w ta0 (by decide)) (fun _ _ => jok_if (fun _ => L_readLawLine_53 hn hu ta0 t9 hm zx hb a) (fun _ => L_readLawLine_53 hn hu ta0 t9 hm zx hb a))
end
section
theorem jln_mo {g : jGh} {Γ : Nat → Option Nat} {a0 : Nat} {C0 C : Nat → Int32} {m : Nat} {b e : Int} {h q : jH} (he : 0 ≤ e) (hC : ∀ k, k < 1284 → C k = C0 k) (r : jrw (g.1, g.2.1, g.2.2.1, C, g.2.2.2.2) Γ a0 h q) (mo : jmo a0 e h q) (a : ∃ st u : Int32, jgI 10 h a0 16 = some st ∧ jgI 10 h a0 10 = some u ∧ 0 ≤ st.toInt ∧ st.toInt ≤ u.toInt ∧ b ≤ u.toInt ∧ ∀ i : Nat, i < m → 0 ≤ (C (1287 + 4 * i)).toInt ∧ (C (1287 + 4 * i)).toInt ≤ (C (1288 + 4 * i)).toInt ∧ (C (1288 + 4 * i)).toInt ≤ st.toInt ∧ (jhgt (jdr C) (C (1287 + 4 * i)).toInt.toNat ((C (1288 + 4 * i)).toInt.toNat - (C (1287 + 4 * i)).toInt.toNat)).isSome = true) : jln g Γ a0 C0 m (b + e) q := by
  obtain ⟨st, u, e1, e2, l0, l1, l2, hl⟩ := a
  obtain ⟨v, ev, lv⟩ := mo u e2
  exact ⟨C, hC, r.1, st, v, fI (r.2 16 (by decide) (by decide)) e1, ev, l0, by omega, by omega, hl⟩
theorem jln_g {g : jGh} {Γ : Nat → Option Nat} {a0 : Nat} {C0 : Nat → Int32} {m : Nat} {b : Int} {h : jH} (a : jln g Γ a0 C0 m b h) : jlg g Γ C0 h := by
  obtain ⟨C, a, z, -⟩ := a
  exact ⟨C, a, z⟩
theorem jln_b {g : jGh} {Γ : Nat → Option Nat} {a0 : Nat} {C0 : Nat → Int32} {m : Nat} {b c : Int} {h : jH} (a : jln g Γ a0 C0 m b h) (hc : c ≤ b) : jln g Γ a0 C0 m c h := by
  obtain ⟨C, a1, w, st, u, e1, e2, l0, l1, l2, hl⟩ := a
  exact ⟨C, a1, w, st, u, e1, e2, l0, l1, by omega, hl⟩
theorem jln_b4 {g : jGh} {Γ : Nat → Option Nat} {a0 : Nat} {C0 : Nat → Int32} {m : Nat} {b : Int} {h : jH} (ta0 : Γ a0 = some 20) (a : jln g Γ a0 C0 m b h) : b ≤ 400 := by
  obtain ⟨C, a1, w, st, u, e1, e2, l0, l1, l2, hl⟩ := a
  obtain ⟨v, ev, lv⟩ := t_gI (k := 10) w ta0 rfl rfl
  have lv : 0 ≤ v.toInt ∧ v.toInt ≤ 400 := lv
  have qz : v = u := Option.some.inj (ev.symm.trans e2)
  subst qz
  omega
theorem L_readLine0 {g : jGh} {Γ : Nat → Option Nat} {n a0 : Nat} {C0 : Nat → Int32} {m : Nat} {b : Int} {x2 : Int32} {h : jH} (hn : 6000 ≤ n) (hu : ∀ a b c, 9 ≤ c → Γ a = some c → Γ b = some c → a = b) (ta0 : Γ a0 = some 20) (hx : x2.toInt = (m : Int)) (hb : 0 ≤ b) (a : jln g Γ a0 C0 m b h) : jok (F_X12_readLine n a0 (0 : Int32) x2 h) (fun q => (q.1 = 0 ∧ jlg g Γ C0 q.2) ∨ (q.1 = 1 ∧ m < 12 ∧ jln g Γ a0 C0 (m + 1) b q.2)) := by
  have e12 : (12 : Int32).toInt = 12 := rfl
  obtain ⟨C, hC, w, st, u, e1, e2, l0, l1, l2, hl⟩ := a
  unfold F_X12_readLine
  rw [t_cv w ta0 rfl]
  refine jok_b (T_X12_letters hn w ta0 e2) (fun h1 w1 => ?_)
  obtain ⟨w1, z, v, ez, ev, lz, lv⟩ := w1
  have j : jln g Γ a0 C0 m b h1 := by
    have j := jln_mo (b := b) (e := 0) (by omega) hC w1 (fun u9 e9 => by
      have qz : u = u9 := Option.some.inj (e2.symm.trans e9)
      subst qz
      exact ⟨v, ev, by omega⟩) ⟨st, u, e1, e2, l0, l1, l2, hl⟩
    rw [show b + 0 = b by omega] at j
    exact j
  rw [if_pos rfl]
  unfold F_X12_readLine_16
  refine jok_le (fun _ => jok_s (Or.inl ⟨rfl, jln_g j⟩)) (fun c => ?_)
  rw [if_pos rfl, t_cv w1.1 ta0 rfl]
  refine jok_b (L_readLawLine hn hu ta0 (by omega) hx hb j) (fun q35 w35 => ?_)
  rcases w35 with ⟨e, j9⟩ | ⟨e, j9⟩
  · rw [if_pos e]
    exact jok_s (Or.inl ⟨rfl, j9⟩)
  · rw [if_neg (by rw [e]; decide)]
    exact jok_s (Or.inr ⟨rfl, by omega, j9⟩)
theorem L_readAll_28 {g : jGh} {Γ : Nat → Option Nat} {n a0 : Nat} {C0 : Nat → Int32} (hn : 6000 ≤ n) (hu : ∀ a b c, 9 ≤ c → Γ a = some c → Γ b = some c → a = b) (ta0 : Γ a0 = some 20) : ∀ (k : Nat) {m : Nat} {b : Int} {x2 : Int32} {h : jH}, m ≤ 12 → x2.toInt = (m : Int) → 0 ≤ b → jln g Γ a0 C0 m b h → 400 - b < k → jok (F_X12_readAll_28 n k a0 (0 : Int32) x2 h) (fun q => (q.1 = -1 ∧ jlg g Γ C0 q.2) ∨ (∃ m2 : Nat, m2 ≤ 12 ∧ q.1.toInt = (m2 : Int) ∧ jln g Γ a0 C0 m2 0 q.2))
  | 0, m, b, x2, h, hm, hx, hb, a, hk => by
    have := jln_b4 ta0 a
    omega
  | k + 1, m, b, x2, h, hm, hx, hb, a, hk => by
    show jok (F_X12_readAll_28_b n (F_X12_readAll_28 n k) a0 (0 : Int32) x2 h) _
    unfold F_X12_readAll_28_b
    have eo : (1 : Int32).toInt = 1 := rfl
    have ex : (x2 + (1 : Int32)).toInt = ((m + 1 : Nat) : Int) := by rw [jadd (by omega) (by omega), hx, eo]; omega
    obtain ⟨C, hC, w, -⟩ := id a
    rw [t_cv w ta0 rfl]
    refine jok_b (L_readLine0 hn hu ta0 hx hb a) (fun q31 w31 => ?_)
    rcases w31 with ⟨e, j⟩ | ⟨e, hm2, j⟩
    · rw [if_pos e]
      exact jok_s (Or.inl ⟨rfl, j⟩)
    · rw [if_neg (by rw [e]; decide)]
      obtain ⟨C, hC, w, st, u, e1, e2, l0, l1, l2, hl⟩ := j
      rw [t_cv w ta0 rfl]
      refine jok_b (T_X12_blanks hn w ta0 e2) (fun h40 w40 => ?_)
      obtain ⟨w40, v, ev, -, lv⟩ := w40
      have hm0 : ∀ e : Int, u.toInt + e ≤ v.toInt → jmo a0 e q31.2 h40 := fun e he u9 e9 => by
        have qz : u = u9 := Option.some.inj (e2.symm.trans e9)
        subst qz
        exact ⟨v, ev, he⟩
      have hA : ∃ st u : Int32, jgI 10 q31.2 a0 16 = some st ∧ jgI 10 q31.2 a0 10 = some u ∧ 0 ≤ st.toInt ∧ st.toInt ≤ u.toInt ∧ b ≤ u.toInt ∧ ∀ i : Nat, i < m + 1 → 0 ≤ (C (1287 + 4 * i)).toInt ∧ (C (1287 + 4 * i)).toInt ≤ (C (1288 + 4 * i)).toInt ∧ (C (1288 + 4 * i)).toInt ≤ st.toInt ∧ (jhgt (jdr C) (C (1287 + 4 * i)).toInt.toNat ((C (1288 + 4 * i)).toInt.toNat - (C (1287 + 4 * i)).toInt.toNat)).isSome = true := ⟨st, u, e1, e2, l0, l1, l2, hl⟩
      have j40 := jln_mo (e := 0) (by omega) hC w40 (hm0 0 (by omega)) hA
      refine jok_r ev (jok_b (t_gI w40.1 ta0 rfl rfl) (fun v48 _ => ?_))
      refine jok_if (fun _ => jok_s (Or.inr ⟨m + 1, by omega, ex, jln_b j40 (by omega)⟩)) (fun _ => ?_)
      rw [t_cv w40.1 ta0 rfl]
      refine jok_b (S_X12_isAt w40.1 ta0) (fun v63 l63 => ?_)
      refine jok_eq (fun _ _ => jok_s (Or.inl ⟨rfl, jln_g j40⟩)) (fun c => ?_)
      have hp := l63.2 c v ev
      obtain ⟨v9, ev9, lv9⟩ := t_gI (k := 10) w40.1 ta0 rfl rfl
      have lv9 : 0 ≤ v9.toInt ∧ v9.toInt ≤ 400 := lv9
      have qz : v9 = v := Option.some.inj (ev9.symm.trans ev)
      subst qz
      have ea : (v9 + (1 : Int32)).toInt = v9.toInt + 1 := by rw [jadd (by omega) (by omega), eo]
      refine jok_r ev9 (jok_b (t_rw w40.1 ta0 (Or.inl rfl) (by omega) (by omega)) (fun h78 w78 => ?_))
      have j78 : jln g Γ a0 C0 (m + 1) (b + 1) h78 := jln_mo (e := 1) (by omega) hC (jrw_tr w40 w78.1) (fun u9 e9 => by
        have qz : u = u9 := Option.some.inj (e2.symm.trans e9)
        subst qz
        exact ⟨_, fJ w78.2.1, by omega⟩) hA
      exact L_readAll_28 hn hu ta0 k (by omega) ex (by omega) j78 (by omega)
end
section
theorem S_X12_readLine1 {g : jGh} {Γ : Nat → Option Nat} {n a0 : Nat} {x2 : Int32} {h : jH} (hn : 6000 ≤ n) (hg : jgok g) (w : jW (jKd g) Γ h) (ta0 : Γ a0 = some 20) : jok (F_X12_readLine n a0 (1 : Int32) x2 h) (fun q => jW (jKd g) Γ q.2 ∧ (q.1 = 0 ∨ (q.1 = 1 ∧ x2.toInt < 14))) := by
  have e14 : (14 : Int32).toInt = 14 := rfl
  unfold F_X12_readLine
  rw [t_cv w ta0 rfl]
  refine jok_b (S_X12_letters hn w ta0) (fun h1 w1 => ?_)
  rw [if_neg (by decide)]
  unfold F_X12_readLine_16
  refine jok_le (fun _ => jok_s ⟨w1.1, Or.inl rfl⟩) (fun c => ?_)
  rw [if_neg (by decide), t_cv w1.1 ta0 rfl]
  refine jok_b (S_X12_readPoleLine hn hg w1.1 ta0) (fun q24 w24 => ?_)
  exact jok_if (fun _ => jok_s ⟨w24.1, Or.inl rfl⟩) (fun _ => jok_s ⟨w24.1, Or.inr ⟨rfl, by omega⟩⟩)
theorem S_X12_readAll_28 {g : jGh} {Γ : Nat → Option Nat} {n a0 : Nat} (hn : 6000 ≤ n) (hg : jgok g) (ta0 : Γ a0 = some 20) : ∀ (k : Nat) {x2 : Int32} {h : jH}, jW (jKd g) Γ h → 0 ≤ x2.toInt → x2.toInt ≤ 14 → 14 - x2.toInt < k → jok (F_X12_readAll_28 n k a0 (1 : Int32) x2 h) (fun q => jW (jKd g) Γ q.2)
  | 0, x2, h, w, l0, l1, hk => by omega
  | k + 1, x2, h, w, l0, l1, hk => by
    show jok (F_X12_readAll_28_b n (F_X12_readAll_28 n k) a0 (1 : Int32) x2 h) _
    unfold F_X12_readAll_28_b
    have eo : (1 : Int32).toInt = 1 := rfl
    rw [t_cv w ta0 rfl]
    refine jok_b (S_X12_readLine1 hn hg w ta0) (fun q31 w31 => ?_)
    obtain ⟨w31, e | ⟨e, hx⟩⟩ := w31
    · rw [if_pos e]
      exact jok_s w31
    · rw [if_neg (by rw [e]; decide)]
      have ex : (x2 + (1 : Int32)).toInt = x2.toInt + 1 := by rw [jadd (by omega) (by omega), eo]
      rw [t_cv w31 ta0 rfl]
      refine jok_b (S_X12_blanks hn w31 ta0) (fun h40 w40 => ?_)
      obtain ⟨w40, -⟩ := w40
      obtain ⟨v, ev, lv⟩ := t_gI (k := 10) w40 ta0 rfl rfl
      have lv : 0 ≤ v.toInt ∧ v.toInt ≤ 400 := lv
      refine jok_r ev (jok_b (t_gI w40 ta0 rfl rfl) (fun v48 _ => ?_))
      refine jok_if (fun _ => jok_s w40) (fun _ => ?_)
      rw [t_cv w40 ta0 rfl]
      refine jok_b (S_X12_isAt w40 ta0) (fun v63 l63 => ?_)
      refine jok_eq (fun _ _ => jok_s w40) (fun c => ?_)
      have hp := l63.2 c v ev
      have ea : (v + (1 : Int32)).toInt = v.toInt + 1 := by rw [jadd (by omega) (by omega), eo]
      refine jok_r ev (jok_b (t_rw w40 ta0 (Or.inl rfl) (by omega) (by omega)) (fun h78 w78 => ?_))
      exact S_X12_readAll_28 hn hg ta0 k w78.1.1 (by omega) (by omega) (by omega)
/-- the ghosts behind 'uses' -/
abbrev jg20 (g : jGh) : jGh := (g.1, g.2.1, (0 : Int32).toInt, g.2.2.2)
theorem jg20_ok {g : jGh} (hg : jgok g) : jgok (jg20 g) := ⟨hg.1, by show (0 : Int) ≤ (0 : Int32).toInt; decide, by show (0 : Int32).toInt ≤ 400; decide, hg.2.2.2⟩
theorem S_X12_readAll1 {g : jGh} {Γ : Nat → Option Nat} {n a0 : Nat} {h : jH} (hn : 6000 ≤ n) (hg : jgok g) (w : jW (jKd g) Γ h) (ta0 : Γ a0 = some 20) (hu : ∀ a b c, 9 ≤ c → Γ a = some c → Γ b = some c → a = b) : jok (F_X12_readAll n a0 (1 : Int32) h) (fun q => jW (jKd (jg20 g)) Γ q.2) := by
  unfold F_X12_readAll
  rw [t_cv w ta0 rfl]
  refine jok_b (S_X12_uses hg w ta0 hu) (fun h1 w1 => ?_)
  refine jok_b (t_pI w1 ta0 rfl rfl (by constructor <;> decide)) (fun h6 w6 => ?_)
  obtain ⟨w6, -, -⟩ := w6
  rw [t_cv w6 ta0 rfl]
  refine jok_b (S_X12_blanks hn w6 ta0) (fun h10 w10 => ?_)
  refine jok_b (t_gI w10.1 ta0 rfl rfl) (fun v14 _ => ?_)
  refine jok_b (t_gI w10.1 ta0 rfl rfl) (fun v18 _ => ?_)
  exact jok_if (fun _ => jok_s w10.1) (fun _ => S_X12_readAll_28 hn (jg20_ok hg) ta0 n w10.1 (by decide) (by decide) (by show 14 - (0 : Int) < _; omega))
theorem L_readAll0 {g : jGh} {Γ : Nat → Option Nat} {n a0 : Nat} {h : jH} (hn : 6000 ≤ n) (hg : jgok g) (w : jW (jKd g) Γ h) (ta0 : Γ a0 = some 20) (hu : ∀ a b c, 9 ≤ c → Γ a = some c → Γ b = some c → a = b) : jok (F_X12_readAll n a0 (0 : Int32) h) (fun q => (q.1 = -1 ∧ jlg (jg20 g) Γ g.2.2.2.1 q.2) ∨ (∃ m2 : Nat, m2 ≤ 12 ∧ q.1.toInt = (m2 : Int) ∧ jln (jg20 g) Γ a0 g.2.2.2.1 m2 0 q.2)) := by
  unfold F_X12_readAll
  rw [t_cv w ta0 rfl]
  refine jok_b (S_X12_uses hg w ta0 hu) (fun h1 w1 => ?_)
  refine jok_b (t_pI w1 ta0 rfl rfl (by constructor <;> decide)) (fun h6 w6 => ?_)
  obtain ⟨w6, q6, -⟩ := w6
  obtain ⟨u, eu, lu⟩ := t_gI (k := 10) w6 ta0 rfl rfl
  have lu : 0 ≤ u.toInt ∧ u.toInt ≤ 400 := lu
  rw [t_cv w6 ta0 rfl]
  refine jok_b (T_X12_blanks hn w6 ta0 eu) (fun h10 w10 => ?_)
  obtain ⟨w10, v, ev, -, lv⟩ := w10
  have j : jln (jg20 g) Γ a0 g.2.2.2.1 0 0 h10 := by
    refine ⟨g.2.2.2.1, fun _ _ => rfl, w10.1, 0, v, fI (w10.2 16 (by decide) (by decide)) (fJ q6), ev, by decide, ?_, (show (0 : Int) ≤ v.toInt by omega), fun i hi => absurd hi (Nat.not_lt_zero i)⟩
    show (0 : Int) ≤ v.toInt
    omega
  refine jok_r ev (jok_b (t_gI w10.1 ta0 rfl rfl) (fun v18 _ => ?_))
  exact jok_if (fun _ => jok_s (Or.inr ⟨0, by omega, rfl, j⟩)) (fun _ => L_readAll_28 (m := 0) (b := 0) hn hu ta0 n (by omega) rfl (by omega) j (by omega))
end
section
theorem jlawOK_eq {C C0 : Nat → Int32} (h : ∀ k, k < 1284 → C k = C0 k) (a : jlawOK C0) : jlawOK C := by
  obtain ⟨a1, a2, a3⟩ := a
  have e0 := h 435 (by decide)
  refine ⟨by rw [e0]; exact a1, by rw [e0]; exact a2, fun i hi => ?_⟩
  rw [e0] at hi
  obtain ⟨b1, b2, b3, b4⟩ := a3 i hi
  have i12 : i < 12 := by omega
  rw [h (438 + 4 * i) (by omega), h (439 + 4 * i) (by omega)]
  refine ⟨b1, b2, b3, ?_⟩
  rw [jhgt_eq (d := C0) _ (fun k c1 c2 => h _ (by omega))]
  exact b4
theorem jg_C {g : jGh} {C : Nat → Int32} (hg : jgok g) (h : jlawOK C) : jgok (g.1, g.2.1, g.2.2.1, C, g.2.2.2.2) := ⟨hg.1, hg.2.1, hg.2.2.1, h⟩
theorem L_law_52 {g : jGh} {Γ : Nat → Option Nat} {n a0 : Nat} {D : Nat → Int32} {x1 : Int32} (hu : ∀ a b c, 9 ≤ c → Γ a = some c → Γ b = some c → a = b) (ta0 : Γ a0 = some 20) : ∀ (k : Nat) {x2 : Int32} {C : Nat → Int32} {h : jH}, 0 ≤ x2.toInt → x2.toInt ≤ 849 → 849 - x2.toInt < k → (∀ j : Nat, (j : Int) < x2.toInt → C (435 + j) = D (1284 + j)) → (∀ j, 1284 ≤ j → C j = D j) → jW (jKd (g.1, g.2.1, g.2.2.1, C, g.2.2.2.2)) Γ h → jok (F_X12_law_52 n k a0 x1 x2 h) (fun q => ∃ C2 : Nat → Int32, (∀ j : Nat, j < 849 → C2 (435 + j) = D (1284 + j)) ∧ jW (jKd (g.1, g.2.1, g.2.2.1, C2, g.2.2.2.2)) Γ q.2)
  | 0, x2, C, h, l0, l1, hk, h1, h2, w => by omega
  | k + 1, x2, C, h, l0, l1, hk, h1, h2, w => by
    show jok (F_X12_law_52_b n (F_X12_law_52 n k) a0 x1 x2 h) _
    unfold F_X12_law_52_b
    have eo : (1 : Int32).toInt = 1 := rfl
    have e2 : (2 : Int32).toInt = 2 := rfl
    have e4 : (435 : Int32).toInt = 435 := rfl
    have e12 : (1284 : Int32).toInt = 1284 := rfl
    have e8 : (849 : Int32).toInt = 849 := rfl
    refine jok_le (fun c => ?_) (fun c => ?_)
    · refine jok_b (t_gR w ta0 rfl rfl) (fun p86 t86 => ?_)
      refine jok_b (t_asW w t86 (by omega) (by omega) (by omega) (by omega)) (fun h91 w91 => ?_)
      obtain ⟨w91, -⟩ := w91
      refine jok_b (t_pI w91 ta0 rfl rfl (by constructor <;> decide)) (fun h94 w94 => ?_)
      exact jok_s ⟨C, fun j hj => h1 j (by omega), w94.1⟩
    · have ea : ((1284 : Int32) + x2).toInt = 1284 + x2.toInt := by rw [jadd (by omega) (by omega), e12]
      have eb : ((435 : Int32) + x2).toInt = 435 + x2.toInt := by rw [jadd (by omega) (by omega), e4]
      have ec : (x2 + (1 : Int32)).toInt = x2.toInt + 1 := by rw [jadd (by omega) (by omega), eo]
      have ean : ((1284 : Int32) + x2).toInt.toNat = 1284 + x2.toInt.toNat := by omega
      have ebn : ((435 : Int32) + x2).toInt.toNat = 435 + x2.toInt.toNat := by omega
      refine jok_b (t_gR w ta0 rfl rfl) (fun p60 t60 => ?_)
      refine jok_b (t_gR w ta0 rfl rfl) (fun p69 t69 => ?_)
      refine jok_b (t_alC w t69 (by omega) (by omega)) (fun v77 l77 => ?_)
      have l77 : v77 = C ((1284 : Int32) + x2).toInt.toNat := l77
      rw [ean] at l77
      refine jok_b (t_asC w hu t60 (by omega) (by omega)) (fun h78 w78 => ?_)
      obtain ⟨w78, -⟩ := w78
      rw [ebn] at w78
      refine L_law_52 hu ta0 k (C := upd C (435 + x2.toInt.toNat) v77) (by omega) (by omega) (by omega) (fun j hj => ?_) (fun j hj => ?_) w78
      · by_cases q : j = x2.toInt.toNat
        · subst q
          rw [upd_eq, l77]
          exact h2 _ (by omega)
        · rw [upd_ne (by omega)]
          exact h1 j (by omega)
      · rw [upd_ne (by omega)]
        exact h2 j hj
theorem L_law_32 {g : jGh} {Γ : Nat → Option Nat} {n a0 : Nat} {C0 : Nat → Int32} {x1 s1 : Int32} {h : jH} (hn : 6000 ≤ n) (hg : jgok g) (hC0 : jlawOK C0) (hu : ∀ a b c, 9 ≤ c → Γ a = some c → Γ b = some c → a = b) (ta0 : Γ a0 = some 20) (hs : s1 = 1 ∨ (s1 = 0 ∧ ∃ m : Nat, m ≤ 12 ∧ x1.toInt = (m : Int) ∧ jln g Γ a0 C0 m 0 h)) (a : jlg g Γ C0 h) : jok (F_X12_law_32 n a0 x1 a0 s1 h) (fun q => ∃ C2 : Nat → Int32, jlawOK C2 ∧ jW (jKd (g.1, g.2.1, g.2.2.1, C2, g.2.2.2.2)) Γ q.2) := by
  have hb : 0 ≤ s1.toInt ∧ s1.toInt ≤ 1 := by rcases hs with rfl | ⟨rfl, -⟩ <;> decide
  have e12 : (1284 : Int32).toInt = 1284 := rfl
  unfold F_X12_law_32
  rcases hs with rfl | ⟨rfl, m, hm, hx, j⟩
  · obtain ⟨C, hC, w⟩ := a
    rw [t_cv w ta0 rfl]
    refine jok_b2 (S_X12_throwsIf hn (jg_C hg (jlawOK_eq hC hC0)) w ta0 hb.1 hb.2) (fun q33 e33 w33 => ?_)
    rw [if_neg (by rw [jthr1 e33]; decide)]
    exact jok_s ⟨C, jlawOK_eq hC hC0, w33.1⟩
  · obtain ⟨C, hC, w, st, u, e1, e2, l0, l1, l2, hl⟩ := j
    obtain ⟨v, ev, lv⟩ := t_gI (k := 16) w ta0 rfl rfl
    have lv : 0 ≤ v.toInt ∧ v.toInt ≤ 400 := lv
    have qz : v = st := Option.some.inj (ev.symm.trans e1)
    subst qz
    rw [t_cv w ta0 rfl]
    refine jok_b2 (S_X12_throwsIf hn (jg_C hg (jlawOK_eq hC hC0)) w ta0 hb.1 hb.2) (fun q33 e33 w33 => ?_)
    have eh := jthr0 e33
    obtain ⟨r33, h33⟩ := q33
    have eh : h33 = h := eh
    subst eh
    refine jok_if (fun _ => ?_) (fun _ => jok_s ⟨C, jlawOK_eq hC hC0, w⟩)
    refine jok_b (t_gR w ta0 rfl rfl) (fun p42 t42 => ?_)
    refine jok_b (t_asC w hu t42 (by omega) (by omega)) (fun h49 w49 => ?_)
    obtain ⟨w49, -⟩ := w49
    have w49 : jW (jKd (g.1, g.2.1, g.2.2.1, upd C 1284 x1, g.2.2.2.2)) Γ h49 := w49
    refine jok_w (L_law_52 (D := upd C 1284 x1) (x1 := x1) (x2 := 0) hu ta0 n (by decide) (by decide) (by show 849 - (0 : Int) < _; omega) (fun j hj => absurd hj (by show ¬ (j : Int) < 0; omega)) (fun j hj => rfl) w49) (fun q wq => ?_)
    obtain ⟨C2, h2, w2⟩ := wq
    have hc : C2 435 = x1 := by rw [h2 0 (by decide)]; exact upd_eq
    refine ⟨C2, ⟨by rw [hc]; omega, by rw [hc]; omega, fun i hi => ?_⟩, w2⟩
    rw [hc, hx] at hi
    obtain ⟨z1, z2, z3, z4⟩ := hl i (by omega)
    have ha : C2 (438 + 4 * i) = C (1287 + 4 * i) := by
      have := h2 (3 + 4 * i) (by omega)
      rw [show 435 + (3 + 4 * i) = 438 + 4 * i by omega, show 1284 + (3 + 4 * i) = 1287 + 4 * i by omega, upd_ne (by omega)] at this
      exact this
    have hb : C2 (439 + 4 * i) = C (1288 + 4 * i) := by
      have := h2 (4 + 4 * i) (by omega)
      rw [show 435 + (4 + 4 * i) = 439 + 4 * i by omega, show 1284 + (4 + 4 * i) = 1288 + 4 * i by omega, upd_ne (by omega)] at this
      exact this
    rw [ha, hb]
    refine ⟨z1, z2, by omega, ?_⟩
    rw [jhgt_eq (d := jdr C) _ (fun k c1 c2 => by
      have := h2 (49 + 2 * k) (by omega)
      rw [show 435 + (49 + 2 * k) = 484 + 2 * k by omega, show 1284 + (49 + 2 * k) = 484 + 2 * k + 849 by omega, upd_ne (by omega)] at this
      exact this)]
    exact z4
end
section
theorem S_X12_law {g : jGh} {Γ : Nat → Option Nat} {n a0 : Nat} {h : jH} (hn : 6000 ≤ n) (hg : jgok g) (w : jW (jKd g) Γ h) (ta0 : Γ a0 = some 20) (hu : ∀ a b c, 9 ≤ c → Γ a = some c → Γ b = some c → a = b) : jok (F_X12_law n a0 h) (fun q => ∃ C2 : Nat → Int32, jlawOK C2 ∧ jW (jKd (g.1, g.2.1, (0 : Int32).toInt, C2, g.2.2.2.2)) Γ q.2) := by
  unfold F_X12_law
  have e0 : (0 : Int32).toInt = 0 := rfl
  rw [t_cv w ta0 rfl]
  refine jok_b (L_readAll0 hn hg w ta0 hu) (fun q2 w2 => ?_)
  rcases w2 with ⟨e, j⟩ | ⟨m, hm, hx, j⟩
  · have hneg : ¬ (0 : Int32) ≤ q2.1 := by rw [e]; decide
    rw [if_neg hneg]
    obtain ⟨C, hC, wC⟩ := j
    refine jok_b (t_gI wC ta0 rfl rfl) (fun v12 _ => ?_)
    refine jok_b (t_pI wC ta0 rfl rfl trivial) (fun h19 w19 => ?_)
    rw [if_neg hneg]
    exact L_law_32 hn (jg20_ok hg) hg.2.2.2 hu ta0 (Or.inl rfl) ⟨C, hC, w19.1⟩
  · have hpos : (0 : Int32) ≤ q2.1 := Int32.le_iff_toInt_le.mpr (by omega)
    rw [if_pos hpos]
    obtain ⟨C, hC, wC, st, u, e1, e2, l0, l1, l2, hl⟩ := j
    refine jok_b (t_pI wC ta0 rfl rfl trivial) (fun h19 w19 => ?_)
    obtain ⟨w19, -, f19⟩ := w19
    rw [if_pos hpos]
    exact L_law_32 hn (jg20_ok hg) hg.2.2.2 hu ta0 (Or.inr ⟨rfl, m, hm, hx, ⟨C, hC, w19, st, u, fI (f19 10 a0 16 (Or.inr (by decide))) e1, fI (f19 10 a0 10 (Or.inr (by decide))) e2, l0, l1, l2, hl⟩⟩) ⟨C, hC, w19⟩
/-! the image of the reference: its ghost -/
theorem jKd_E {g : jGh} {C : Nat → Int32} {c : Nat} (hc : c ≠ 23) : jKd (g.1, g.2.1, g.2.2.1, g.2.2.2.1, C, g.2.2.2.2.2) c = jKd g c := by
  unfold jKd
  split <;> first | rfl | exact absurd rfl hc
/-- a write to 'earlier': its ghost anew -/
theorem t_asE {g : jGh} {Γ : Nat → Option Nat} {h : jH} {a : Nat} {i x : Int32} (w : jW (jKd g) Γ h) (hu : ∀ a b c, 9 ≤ c → Γ a = some c → Γ b = some c → a = b) (ha : Γ a = some 23) (h0 : 0 ≤ i.toInt) (h1 : i.toInt < 1284) (hx : jR3 i.toInt.toNat x) : jok (jas 0 h a i x) (fun h1 => jW (jKd (g.1, g.2.1, g.2.2.1, g.2.2.2.1, upd g.2.2.2.2.1 i.toInt.toNat x, g.2.2.2.2.2)) Γ h1 ∧ jfa h h1) := by
  obtain ⟨f, e1, e2⟩ := t_arr w ha rfl
  have hi : i.toNatClampNeg = i.toInt.toNat := rfl
  refine ⟨jup h a (.inr (.inl (0, 1284, upd f i.toNatClampNeg (jnar 0 x)))), ?_, ?_, jfa_up e1⟩
  · unfold jas
    rw [e1]
    dsimp only
    rw [if_pos ⟨rfl, jnoob (by omega) (by omega), fun q => by cases q⟩]
  · intro b c hb
    refine ⟨(w b c hb).1, ?_⟩
    show okE Γ (jKd (g.1, g.2.1, g.2.2.1, g.2.2.2.1, upd g.2.2.2.2.1 i.toInt.toNat x, g.2.2.2.2.2) c) (if b = a then some _ else h.2 b)
    by_cases hq : b = a
    · subst hq
      cases ha.symm.trans hb
      rw [if_pos rfl]
      refine ⟨_, rfl, fun k hk => ?_⟩
      have e2k := e2 k hk
      show jR3 k (upd f i.toNatClampNeg (jnar 0 x) k) ∧ (k < 435 ∨ upd f i.toNatClampNeg (jnar 0 x) k = upd g.2.2.2.2.1 i.toInt.toNat x k)
      rw [hi]
      by_cases hk2 : k = i.toInt.toNat
      · subst hk2
        rw [upd_eq, upd_eq]
        exact ⟨hx, Or.inr rfl⟩
      · rw [upd_ne hk2, upd_ne hk2]
        exact e2k
    · rw [if_neg hq]
      have hc : c ≠ 23 := fun q => hq (hu b a 23 (by decide) (by rw [hb, q]) ha)
      rw [jKd_E hc]
      exact (w b c hb).2
end
section
/-- 'earlier' holds the law that stands -/
def jeq (g : jGh) : Prop := ∀ k, 435 ≤ k → k < 1284 → g.2.2.2.2.1 k = g.2.2.2.1 k
theorem S_X12_pole_92 {g : jGh} {Γ : Nat → Option Nat} {n a0 : Nat} (he : jeq g) (ta0 : Γ a0 = some 20) : ∀ (k : Nat) {x2 : Int32} {h : jH}, jW (jKd g) Γ h → 0 ≤ x2.toInt → x2.toInt ≤ 1284 → 1284 - x2.toInt < k → jok (F_X12_pole_92 n k a0 x2 h) (fun q => jW (jKd g) Γ q.2)
  | 0, x2, h, w, l0, l1, hk => by omega
  | k + 1, x2, h, w, l0, l1, hk => by
    show jok (F_X12_pole_92_b n (F_X12_pole_92 n k) a0 x2 h) _
    unfold F_X12_pole_92_b
    have eo : (1 : Int32).toInt = 1 := rfl
    have e12 : (1284 : Int32).toInt = 1284 := rfl
    refine jok_le (fun _ => jok_s w) (fun c => ?_)
    refine jok_b (t_gR w ta0 rfl rfl) (fun p100 t100 => ?_)
    refine jok_b (t_gR w ta0 rfl rfl) (fun p105 t105 => ?_)
    refine jok_b (t_al w t105 rfl (by omega) (by omega)) (fun v l => ?_)
    have l : jR3 x2.toInt.toNat v ∧ (x2.toInt.toNat < 435 ∨ v = g.2.2.2.2.1 x2.toInt.toNat) := l
    refine jok_b (t_as w t100 rfl (by omega) (by omega) (show jRw g x2.toInt.toNat v from ⟨l.1, ?_⟩) (fun q => by cases q)) (fun h110 w110 => ?_)
    · by_cases q : x2.toInt.toNat < 435
      · exact Or.inl q
      · rcases l.2 with z | z
        · exact Or.inl z
        · exact Or.inr (z.trans (he _ (by omega) (by omega)))
    have ec : (x2 + (1 : Int32)).toInt = x2.toInt + 1 := by rw [jadd (by omega) (by omega), eo]
    exact S_X12_pole_92 he ta0 k w110.1 (by omega) (by omega) (by omega)
theorem S_X12_pole_83 {g : jGh} {Γ : Nat → Option Nat} {n a0 : Nat} {s1 : Int32} {h : jH} (hn : 6000 ≤ n) (hg : jgok g) (he : jeq g) (w : jW (jKd g) Γ h) (ta0 : Γ a0 = some 20) (hs : s1 = 0 ∨ s1 = 1) : jok (F_X12_pole_83 n a0 a0 s1 h) (fun q => jW (jKd g) Γ q.2) := by
  have hb : 0 ≤ s1.toInt ∧ s1.toInt ≤ 1 := by rcases hs with rfl | rfl <;> decide
  have eo : (1 : Int32).toInt = 1 := rfl
  unfold F_X12_pole_83
  rw [t_cv w ta0 rfl]
  refine jok_b (S_X12_throwsIf hn hg w ta0 hb.1 hb.2) (fun q84 w84 => ?_)
  obtain ⟨w84, -⟩ := w84
  refine jok_if (fun _ => ?_) (fun _ => S_X12_pole_92 he ta0 n w84 (by decide) (by decide) (by show 1284 - (0 : Int) < _; omega))
  refine jok_b (t_gR w84 ta0 rfl rfl) (fun p t => ?_)
  refine jok_b (t_al w84 t rfl (by omega) (by omega)) (fun v _ => ?_)
  refine jok_b (t_asW w84 t (by omega) (by omega) (by omega) (by omega)) (fun h128 w128 => ?_)
  obtain ⟨w128, -⟩ := w128
  refine jok_b (t_pI w128 ta0 rfl rfl (by constructor <;> decide)) (fun h131 w131 => ?_)
  obtain ⟨w131, -, -⟩ := w131
  refine jok_b (t_gR w131 ta0 rfl rfl) (fun p2 t2 => ?_)
  refine jok_b (t_al w131 t2 rfl (by omega) (by omega)) (fun v2 _ => ?_)
  exact jok_s w131
theorem S_X12_pole_59 {g : jGh} {Γ : Nat → Option Nat} {n a0 : Nat} {s1 : Int32} {h : jH} (hn : 6000 ≤ n) (hg : jgok g) (he : jeq g) (w : jW (jKd g) Γ h) (ta0 : Γ a0 = some 20) (hs : s1 = 0 ∨ s1 = 1) : jok (F_X12_pole_59 n a0 a0 s1 h) (fun q => jW (jKd g) Γ q.2) := by
  have hb : 0 ≤ s1.toInt ∧ s1.toInt ≤ 1 := by rcases hs with rfl | rfl <;> decide
  have eo : (1 : Int32).toInt = 1 := rfl
  unfold F_X12_pole_59
  rw [t_cv w ta0 rfl]
  refine jok_b (S_X12_throwsIf hn hg w ta0 hb.1 hb.2) (fun q60 w60 => ?_)
  obtain ⟨w60, -⟩ := w60
  refine jok_if (fun _ => ?_) (fun _ => S_X12_pole_92 he ta0 n w60 (by decide) (by decide) (by show 1284 - (0 : Int) < _; omega))
  refine jok_b (t_gR w60 ta0 rfl rfl) (fun p t => ?_)
  refine jok_b (t_al w60 t rfl (by omega) (by omega)) (fun v _ => ?_)
  exact jok_if (fun _ => S_X12_pole_83 hn hg he w60 ta0 (Or.inr rfl)) (fun _ => S_X12_pole_83 hn hg he w60 ta0 (Or.inl rfl))
theorem S_X12_pole_2 {g0 : jGh} {Γ : Nat → Option Nat} {n a0 : Nat} (hn : 6000 ≤ n) (hg0 : jgok g0) (ta0 : Γ a0 = some 20) (hu : ∀ a b c, 9 ≤ c → Γ a = some c → Γ b = some c → a = b) : ∀ (k : Nat) {E : Nat → Int32} {x1 : Int32} {h : jH}, jW (jKd (g0.1, g0.2.1, g0.2.2.1, g0.2.2.2.1, E, g0.2.2.2.2.2)) Γ h → 0 ≤ x1.toInt → x1.toInt ≤ 1284 → 1284 - x1.toInt < k → (∀ j : Nat, 435 ≤ j → (j : Int) < x1.toInt → E j = g0.2.2.2.1 j) → jok (F_X12_pole_2 n k a0 x1 h) (fun q => ∃ E2 : Nat → Int32, jW (jKd (g0.1, g0.2.1, (0 : Int32).toInt, g0.2.2.2.1, E2, g0.2.2.2.2.2)) Γ q.2)
  | 0, E, x1, h, w, l0, l1, hk, hE => by omega
  | k + 1, E, x1, h, w, l0, l1, hk, hE => by
    show jok (F_X12_pole_2_b n (F_X12_pole_2 n k) a0 x1 h) _
    unfold F_X12_pole_2_b
    have eo : (1 : Int32).toInt = 1 := rfl
    have e12 : (1284 : Int32).toInt = 1284 := rfl
    have hg : jgok (g0.1, g0.2.1, g0.2.2.1, g0.2.2.2.1, E, g0.2.2.2.2.2) := hg0
    refine jok_le (fun c => ?_) (fun c => ?_)
    · rw [t_cv w ta0 rfl]
      refine jok_b (S_X12_readAll1 hn hg w ta0 hu) (fun q29 w29 => ?_)
      have he : jeq (jg20 (g0.1, g0.2.1, g0.2.2.1, g0.2.2.2.1, E, g0.2.2.2.2.2)) := fun j h4 h12 => hE j h4 (by omega)
      have fin : ∀ {h46 : jH} {s1 : Int32}, jW (jKd (jg20 (g0.1, g0.2.1, g0.2.2.1, g0.2.2.2.1, E, g0.2.2.2.2.2))) Γ h46 → (s1 = 0 ∨ s1 = 1) → jok (F_X12_pole_59 n a0 a0 s1 h46) (fun q => ∃ E2 : Nat → Int32, jW (jKd (g0.1, g0.2.1, (0 : Int32).toInt, g0.2.2.2.1, E2, g0.2.2.2.2.2)) Γ q.2) := fun w46 hs => jok_w (S_X12_pole_59 hn (jg20_ok hg) he w46 ta0 hs) (fun q wq => ⟨E, wq⟩)
      refine jok_if (fun _ => ?_) (fun _ => ?_)
      · refine jok_b (t_pI w29 ta0 rfl rfl trivial) (fun h46 w46 => ?_)
        exact jok_if (fun _ => fin w46.1 (Or.inl rfl)) (fun _ => fin w46.1 (Or.inr rfl))
      · refine jok_b (t_gI w29 ta0 rfl rfl) (fun v39 _ => ?_)
        refine jok_b (t_pI w29 ta0 rfl rfl trivial) (fun h46 w46 => ?_)
        exact jok_if (fun _ => fin w46.1 (Or.inl rfl)) (fun _ => fin w46.1 (Or.inr rfl))
    · refine jok_b (t_gR w ta0 rfl rfl) (fun p10 t10 => ?_)
      refine jok_b (t_gR w ta0 rfl rfl) (fun p15 t15 => ?_)
      refine jok_b (t_al w t15 rfl (by omega) (by omega)) (fun v l => ?_)
      have l : jR3 x1.toInt.toNat v ∧ (x1.toInt.toNat < 435 ∨ v = g0.2.2.2.1 x1.toInt.toNat) := l
      refine jok_b (t_asE w hu t10 (by omega) (by omega) l.1) (fun h20 w20 => ?_)
      have ec : (x1 + (1 : Int32)).toInt = x1.toInt + 1 := by rw [jadd (by omega) (by omega), eo]
      refine S_X12_pole_2 hn hg0 ta0 hu k (E := upd E x1.toInt.toNat v) w20.1 (by omega) (by omega) (by omega) (fun j h4 hj => ?_)
      by_cases q : j = x1.toInt.toNat
      · subst q
        rw [upd_eq]
        rcases l.2 with z | z
        · omega
        · exact z
      · rw [upd_ne q]
        exact hE j h4 (by omega)
theorem S_X12_pole {g : jGh} {Γ : Nat → Option Nat} {n a0 : Nat} {h : jH} (hn : 6000 ≤ n) (hg : jgok g) (w : jW (jKd g) Γ h) (ta0 : Γ a0 = some 20) (hu : ∀ a b c, 9 ≤ c → Γ a = some c → Γ b = some c → a = b) : jok (F_X12_pole n a0 h) (fun q => ∃ E2 : Nat → Int32, jW (jKd (g.1, g.2.1, (0 : Int32).toInt, g.2.2.2.1, E2, g.2.2.2.2.2)) Γ q.2) := by
  unfold F_X12_pole
  exact S_X12_pole_2 (g0 := g) hn hg ta0 hu n (E := g.2.2.2.2.1) w (by decide) (by decide) (by show 1284 - (0 : Int) < _; omega) (fun j h4 hj => absurd hj (by show ¬ (j : Int) < 0; omega))
end
section
theorem jlawOK_eq2 {C C0 : Nat → Int32} (h : ∀ k, 435 ≤ k → k < 1284 → C k = C0 k) (a : jlawOK C0) : jlawOK C := by
  obtain ⟨a1, a2, a3⟩ := a
  have e0 := h 435 (by decide) (by decide)
  refine ⟨by rw [e0]; exact a1, by rw [e0]; exact a2, fun i hi => ?_⟩
  rw [e0] at hi
  obtain ⟨b1, b2, b3, b4⟩ := a3 i hi
  have i12 : i < 12 := by omega
  rw [h (438 + 4 * i) (by omega) (by omega), h (439 + 4 * i) (by omega) (by omega)]
  refine ⟨b1, b2, b3, ?_⟩
  rw [jhgt_eq (d := C0) _ (fun k c1 c2 => h _ (by omega) (by omega))]
  exact b4
theorem S_X12_back_16 {g0 : jGh} {Γ : Nat → Option Nat} {n a0 : Nat} (hi : jlawOK g0.2.2.2.2.2.1) (ta0 : Γ a0 = some 20) (hu : ∀ a b c, 9 ≤ c → Γ a = some c → Γ b = some c → a = b) : ∀ (k : Nat) {C : Nat → Int32} {x1 : Int32} {h : jH}, jW (jKd (g0.1, g0.2.1, g0.2.2.1, C, g0.2.2.2.2)) Γ h → 0 ≤ x1.toInt → x1.toInt ≤ 1284 → 1284 - x1.toInt < k → (∀ j : Nat, 435 ≤ j → (j : Int) < x1.toInt → C j = g0.2.2.2.2.2.1 j) → jok (F_X12_back_16 n k a0 x1 h) (fun q => (∃ C2 : Nat → Int32, jlawOK C2 ∧ jW (jKd (g0.1, g0.2.1, g0.2.2.1, C2, g0.2.2.2.2)) Γ q.2) ∧ q.1 = 1)
  | 0, C, x1, h, w, l0, l1, hk, hE => by omega
  | k + 1, C, x1, h, w, l0, l1, hk, hE => by
    show jok (F_X12_back_16_b n (F_X12_back_16 n k) a0 x1 h) _
    unfold F_X12_back_16_b
    have eo : (1 : Int32).toInt = 1 := rfl
    have e12 : (1284 : Int32).toInt = 1284 := rfl
    refine jok_le (fun c => ?_) (fun c => ?_)
    · refine jok_b (t_pI w ta0 rfl rfl (by constructor <;> decide)) (fun h43 w43 => ?_)
      exact jok_s ⟨⟨C, jlawOK_eq2 (fun j h4 h12 => hE j h4 (by omega)) hi, w43.1⟩, rfl⟩
    · refine jok_b (t_gR w ta0 rfl rfl) (fun p24 t24 => ?_)
      refine jok_b (t_gR w ta0 rfl rfl) (fun p29 t29 => ?_)
      refine jok_b (t_al w t29 rfl (by omega) (by omega)) (fun v l => ?_)
      have l : jR3 x1.toInt.toNat v ∧ (x1.toInt.toNat < 435 ∨ v = g0.2.2.2.2.2.1 x1.toInt.toNat) := l
      have ec : (x1 + (1 : Int32)).toInt = x1.toInt + 1 := by rw [jadd (by omega) (by omega), eo]
      by_cases q : x1.toInt.toNat < 435
      · refine jok_b (t_as w t24 rfl (by omega) (by omega) (show jRw (g0.1, g0.2.1, g0.2.2.1, C, g0.2.2.2.2) x1.toInt.toNat v from ⟨l.1, Or.inl q⟩) (fun q => by cases q)) (fun h34 w34 => ?_)
        exact S_X12_back_16 hi ta0 hu k w34.1 (by omega) (by omega) (by omega) (fun j h4 hj => hE j h4 (by omega))
      · refine jok_b (t_asC w hu t24 (by omega) (by omega)) (fun h34 w34 => ?_)
        obtain ⟨w34, -⟩ := w34
        refine S_X12_back_16 hi ta0 hu k (C := upd C x1.toInt.toNat v) w34 (by omega) (by omega) (by omega) (fun j h4 hj => ?_)
        by_cases q2 : j = x1.toInt.toNat
        · subst q2
          rw [upd_eq]
          rcases l.2 with z | z
          · exact absurd z q
          · exact z
        · rw [upd_ne q2]
          exact hE j h4 (by omega)
theorem S_X12_back {g : jGh} {Γ : Nat → Option Nat} {n a0 : Nat} {h : jH} (hn : 6000 ≤ n) (hg : jgok g) (w : jW (jKd g) Γ h) (ta0 : Γ a0 = some 20) (hu : ∀ a b c, 9 ≤ c → Γ a = some c → Γ b = some c → a = b) : jok (F_X12_back n a0 h) (fun q => (∃ C2 : Nat → Int32, jlawOK C2 ∧ jW (jKd (g.1, g.2.1, g.2.2.1, C2, g.2.2.2.2)) Γ q.2) ∧ q.1 = (if g.2.2.2.2.2.2.2.2 = 0 then 0 else 1)) := by
  unfold F_X12_back
  have e0 : (0 : Int32).toInt = 0 := rfl
  refine jok_b (t_pI w ta0 rfl rfl trivial) (fun h2 w2 => ?_)
  obtain ⟨w2, -, -⟩ := w2
  refine jok_b (t_gI w2 ta0 rfl rfl) (fun v6 l6 => ?_)
  have l6 : v6 = g.2.2.2.2.2.2.2.2 ∧ (v6.toInt = 0 ∨ jlawOK g.2.2.2.2.2.1) := l6
  refine jok_eq (fun _ z => jok_s ⟨⟨g.2.2.2.1, hg.2.2.2, w2⟩, by rw [if_pos (l6.1.symm.trans z)]⟩) (fun c => ?_)
  have cz : ¬ g.2.2.2.2.2.2.2.2 = 0 := fun q => c (by rw [l6.1, q])
  rw [if_neg cz]
  rw [e0] at c
  rcases l6.2 with z | z
  · exact absurd z c
  · exact S_X12_back_16 (g0 := g) z ta0 hu n (C := g.2.2.2.1) w2 (by decide) (by decide) (by show 1284 - (0 : Int) < _; omega) (fun j h4 hj => absurd hj (by show ¬ (j : Int) < 0; omega))
end
section
/-! the image of the reference: while it is copied, whether there is one may be anything -/
def jKi (g : jGh) (c : Nat) : jD := if c = 20 then .inr (.inr (10, [.inl (jAny), .inr (.inl 21), .inr (.inl 22), .inr (.inl 23), .inr (.inl 24), .inr (.inl 25), .inl (jAny), .inl (jI 0 12), .inr (.inl 26), .inl (fun x => x.toInt = g.2.2.1), .inl (jI 0 400), .inl (jI 0 400), .inl (jI 0 400), .inl (jAny), .inl (jAny), .inr (.inl 27), .inl (jI 0 400), .inr (.inl 28), .inl (jAny), .inr (.inl 29), .inr (.inl 30), .inr (.inl 31)])) else jKd g c
theorem jKi_ne {g : jGh} {c : Nat} (h : c ≠ 20) : jKi g c = jKd g c := if_neg h
theorem jKi_eq {g : jGh} {C : Nat → Int32} {c : Nat} (hc : c ≠ 22) : jKi (g.1, g.2.1, g.2.2.1, g.2.2.2.1, g.2.2.2.2.1, C, g.2.2.2.2.2.2) c = jKi g c := by
  by_cases q : c = 20
  · subst q
    unfold jKi
    rw [if_pos rfl, if_pos rfl]
  · rw [jKi_ne q, jKi_ne q]
    unfold jKd
    split <;> first | exact absurd rfl hc | exact absurd rfl q | rfl
theorem jW_i {g : jGh} {Γ : Nat → Option Nat} {h : jH} (w : jW (jKd g) Γ h) : jW (jKi g) Γ h := by
  intro a c ha
  obtain ⟨w1, w2⟩ := w a c ha
  refine ⟨w1, ?_⟩
  by_cases q : c = 20
  · subst q
    obtain ⟨vs, e1, e2, e3⟩ := w2
    refine ⟨vs, e1, e2, fun j F hj => ?_⟩
    by_cases hq : j = 6
    · subst hq
      cases hj
      obtain ⟨v, f1, x, f2, -⟩ := e3 6 _ rfl
      exact ⟨v, f1, x, f2, trivial⟩
    · have hj2 : (match jKd g 20 with | .inr (.inr q) => q.2 | _ => [])[j]? = some F := by
        match j, hq, hj with
        | 0, _, hj => exact hj
        | 1, _, hj => exact hj
        | 2, _, hj => exact hj
        | 3, _, hj => exact hj
        | 4, _, hj => exact hj
        | 5, _, hj => exact hj
        | 7, _, hj => exact hj
        | 8, _, hj => exact hj
        | 9, _, hj => exact hj
        | 10, _, hj => exact hj
        | 11, _, hj => exact hj
        | 12, _, hj => exact hj
        | 13, _, hj => exact hj
        | 14, _, hj => exact hj
        | 15, _, hj => exact hj
        | 16, _, hj => exact hj
        | 17, _, hj => exact hj
        | 18, _, hj => exact hj
        | 19, _, hj => exact hj
        | 20, _, hj => exact hj
        | 21, _, hj => exact hj
        | j + 22, _, hj => cases hj
      exact e3 j F hj2
  · rw [jKi_ne q]
    exact w2
abbrev jgR9 (g : jGh) : jGh := (g.1, g.2.1, g.2.2.1, g.2.2.2.1, g.2.2.2.2.1, g.2.2.2.2.2.1, g.2.2.2.2.2.2.1, g.2.2.2.2.2.2.2.1, 1)
theorem jKd_R9 {g : jGh} {c : Nat} (hc : c ≠ 20) : jKd (jgR9 g) c = jKd g c := by
  unfold jKd
  split <;> first | rfl | exact absurd rfl hc
theorem t_im {g : jGh} {Γ : Nat → Option Nat} {h : jH} {a : Nat} (w : jW (jKi g) Γ h) (hu : ∀ a b c, 9 ≤ c → Γ a = some c → Γ b = some c → a = b) (ha : Γ a = some 20) (hi : jlawOK g.2.2.2.2.2.1) : jok (jpf 10 h a 6 (.int (1 : Int32))) (fun h1 => jW (jKd (jgR9 g)) Γ h1) := by
  obtain ⟨vs, e1, e2, e3⟩ := t_obj w ha rfl
  have hlt : 6 < vs.length := by rw [e2]; exact Nat.le_of_ble_eq_true rfl
  refine ⟨jup h a (.inl (10, vs.set 6 (.int (1 : Int32)))), ?_, ?_⟩
  · unfold jpf
    rw [e1]
    dsimp only
    rw [if_pos ⟨rfl, hlt⟩]
  · intro b c hb
    refine ⟨(w b c hb).1, ?_⟩
    show okE Γ (jKd (jgR9 g) c) (if b = a then some _ else h.2 b)
    by_cases hq : b = a
    · subst hq
      cases ha.symm.trans hb
      rw [if_pos rfl]
      refine ⟨_, rfl, by rw [List.length_set]; exact e2, fun j F9 hj => ?_⟩
      by_cases hq : j = 6
      · subst hq
        cases hj
        exact ⟨.int (1 : Int32), by rw [List.getElem?_set_self hlt], (1 : Int32), rfl, rfl, Or.inr hi⟩
      · have hj2 : (match jKi g 20 with | .inr (.inr q) => q.2 | _ => [])[j]? = some F9 := by
          match j, hq, hj with
          | 0, _, hj => exact hj
          | 1, _, hj => exact hj
          | 2, _, hj => exact hj
          | 3, _, hj => exact hj
          | 4, _, hj => exact hj
          | 5, _, hj => exact hj
          | 7, _, hj => exact hj
          | 8, _, hj => exact hj
          | 9, _, hj => exact hj
          | 10, _, hj => exact hj
          | 11, _, hj => exact hj
          | 12, _, hj => exact hj
          | 13, _, hj => exact hj
          | 14, _, hj => exact hj
          | 15, _, hj => exact hj
          | 16, _, hj => exact hj
          | 17, _, hj => exact hj
          | 18, _, hj => exact hj
          | 19, _, hj => exact hj
          | 20, _, hj => exact hj
          | 21, _, hj => exact hj
          | j + 22, _, hj => cases hj
        obtain ⟨v9, f1, f2⟩ := e3 j F9 hj2
        exact ⟨v9, by rw [List.getElem?_set_ne (Ne.symm hq)]; exact f1, f2⟩
    · rw [if_neg hq]
      have hc : c ≠ 20 := fun q => hq (hu b a 20 (by decide) (by rw [hb, q]) ha)
      have h9 := (w b c hb).2
      rw [jKi_ne hc] at h9
      rw [jKd_R9 hc]
      exact h9
theorem t_asI {g : jGh} {Γ : Nat → Option Nat} {h : jH} {a : Nat} {i x : Int32} (w : jW (jKi g) Γ h) (hu : ∀ a b c, 9 ≤ c → Γ a = some c → Γ b = some c → a = b) (ha : Γ a = some 22) (h0 : 0 ≤ i.toInt) (h1 : i.toInt < 1284) (hx : jR3 i.toInt.toNat x) : jok (jas 0 h a i x) (fun h1 => jW (jKi (g.1, g.2.1, g.2.2.1, g.2.2.2.1, g.2.2.2.2.1, upd g.2.2.2.2.2.1 i.toInt.toNat x, g.2.2.2.2.2.2)) Γ h1 ∧ jfa h h1) := by
  obtain ⟨f, e1, e2⟩ := t_arr w ha (show jKi g 22 = .inl (0, 1284, fun k x => jR3 k x ∧ (k < 435 ∨ x = g.2.2.2.2.2.1 k)) from jKi_ne (by decide))
  have hi : i.toNatClampNeg = i.toInt.toNat := rfl
  refine ⟨jup h a (.inr (.inl (0, 1284, upd f i.toNatClampNeg (jnar 0 x)))), ?_, ?_, jfa_up e1⟩
  · unfold jas
    rw [e1]
    dsimp only
    rw [if_pos ⟨rfl, jnoob (by omega) (by omega), fun q => by cases q⟩]
  · intro b c hb
    refine ⟨(w b c hb).1, ?_⟩
    show okE Γ (jKi (g.1, g.2.1, g.2.2.1, g.2.2.2.1, g.2.2.2.2.1, upd g.2.2.2.2.2.1 i.toInt.toNat x, g.2.2.2.2.2.2) c) (if b = a then some _ else h.2 b)
    by_cases hq : b = a
    · subst hq
      cases ha.symm.trans hb
      rw [if_pos rfl, jKi_ne (show (22 : Nat) ≠ 20 by decide)]
      refine ⟨_, rfl, fun k hk => ?_⟩
      have e2k := e2 k hk
      show jR3 k (upd f i.toNatClampNeg (jnar 0 x) k) ∧ (k < 435 ∨ upd f i.toNatClampNeg (jnar 0 x) k = upd g.2.2.2.2.2.1 i.toInt.toNat x k)
      rw [hi]
      by_cases hk2 : k = i.toInt.toNat
      · subst hk2
        rw [upd_eq, upd_eq]
        exact ⟨hx, Or.inr rfl⟩
      · rw [upd_ne hk2, upd_ne hk2]
        exact e2k
    · rw [if_neg hq]
      have hc : c ≠ 22 := fun q => hq (hu b a 22 (by decide) (by rw [hb, q]) ha)
      rw [jKi_eq hc]
      exact (w b c hb).2
theorem S_X12_image_7 {g0 : jGh} {Γ : Nat → Option Nat} {n a0 : Nat} (hg : jgok g0) (ta0 : Γ a0 = some 20) (hu : ∀ a b c, 9 ≤ c → Γ a = some c → Γ b = some c → a = b) : ∀ (k : Nat) {C : Nat → Int32} {x1 : Int32} {h : jH}, jW (jKi (g0.1, g0.2.1, g0.2.2.1, g0.2.2.2.1, g0.2.2.2.2.1, C, g0.2.2.2.2.2.2)) Γ h → 0 ≤ x1.toInt → x1.toInt ≤ 1284 → 1284 - x1.toInt < k → (∀ j : Nat, 435 ≤ j → (j : Int) < x1.toInt → C j = g0.2.2.2.1 j) → jok (F_X12_image_7 n k a0 x1 h) (fun q => ∃ C2 : Nat → Int32, jW (jKd (g0.1, g0.2.1, g0.2.2.1, g0.2.2.2.1, g0.2.2.2.2.1, C2, g0.2.2.2.2.2.2.1, g0.2.2.2.2.2.2.2.1, 1)) Γ q)
  | 0, C, x1, h, w, l0, l1, hk, hE => by omega
  | k + 1, C, x1, h, w, l0, l1, hk, hE => by
    show jok (F_X12_image_7_b n (F_X12_image_7 n k) a0 x1 h) _
    unfold F_X12_image_7_b
    have eo : (1 : Int32).toInt = 1 := rfl
    have e12 : (1284 : Int32).toInt = 1284 := rfl
    refine jok_le (fun c => ?_) (fun c => ?_)
    · refine jok_b (t_im w hu ta0 (jlawOK_eq2 (fun j h4 h12 => hE j h4 (by omega)) hg.2.2.2)) (fun h34 w34 => ?_)
      exact jok_s ⟨C, w34⟩
    · refine jok_b (t_gR w ta0 rfl rfl) (fun p15 t15 => ?_)
      refine jok_b (t_gR w ta0 rfl rfl) (fun p20 t20 => ?_)
      refine jok_b (t_al w t20 rfl (by omega) (by omega)) (fun v l => ?_)
      have l : jR3 x1.toInt.toNat v ∧ (x1.toInt.toNat < 435 ∨ v = g0.2.2.2.1 x1.toInt.toNat) := l
      have ec : (x1 + (1 : Int32)).toInt = x1.toInt + 1 := by rw [jadd (by omega) (by omega), eo]
      refine jok_b (t_asI w hu t15 (by omega) (by omega) l.1) (fun h25 w25 => ?_)
      refine S_X12_image_7 hg ta0 hu k (C := upd C x1.toInt.toNat v) w25.1 (by omega) (by omega) (by omega) (fun j h4 hj => ?_)
      by_cases q2 : j = x1.toInt.toNat
      · subst q2
        rw [upd_eq]
        rcases l.2 with z | z
        · omega
        · exact z
      · rw [upd_ne q2]
        exact hE j h4 (by omega)
theorem S_X12_image {g : jGh} {Γ : Nat → Option Nat} {n a0 : Nat} {h : jH} (hn : 6000 ≤ n) (hg : jgok g) (w : jW (jKd g) Γ h) (ta0 : Γ a0 = some 20) (hu : ∀ a b c, 9 ≤ c → Γ a = some c → Γ b = some c → a = b) : jok (F_X12_image n a0 h) (fun q => ∃ C2 : Nat → Int32, jW (jKd (g.1, g.2.1, g.2.2.1, g.2.2.2.1, g.2.2.2.2.1, C2, g.2.2.2.2.2.2.1, g.2.2.2.2.2.2.2.1, 1)) Γ q) := by
  unfold F_X12_image
  refine jok_b (t_pI w ta0 rfl rfl trivial) (fun h2 w2 => ?_)
  obtain ⟨w2, -, -⟩ := w2
  exact S_X12_image_7 (g0 := g) hg ta0 hu n (C := g.2.2.2.2.2.1) (jW_i w2) (by decide) (by decide) (by show 1284 - (0 : Int) < _; omega) (fun j h4 hj => absurd hj (by show ¬ (j : Int) < 0; omega))
end
section
/-! what a heap shows: the value in each place of each cell -/
def oc (h : jH) (a k : Nat) : Value := match h.2 a with
  | some (.inl o) => o.2.getD k .null
  | some (.inr (.inl y)) => .int (y.2.2 k)
  | some (.inr (.inr (.inl z))) => va_rf (z.2 k)
  | _ => .null
abbrev jO : Type := Nat → Nat → Value
def u2 (O : jO) (a k : Nat) (v : Value) : jO := fun b j => if b = a ∧ j = k then v else O b j
def vi (v : Value) : Int32 := match v with | .int x => x | _ => 0
def oi (O : jO) (a k : Nat) : Int32 := vi (O a k)
theorem u2_ne {O : jO} {a k b j : Nat} {v : Value} (h : b ≠ a ∨ j ≠ k) : u2 O a k v b j = O b j := by
  unfold u2
  rw [if_neg (fun q => h.elim (fun z => z q.1) (fun z => z q.2))]
theorem u2_eq {O : jO} {a k : Nat} {v : Value} : u2 O a k v a k = v := by
  unfold u2
  rw [if_pos ⟨rfl, rfl⟩]
theorem oi_ne {O : jO} {a k b j : Nat} {v : Value} (h : b ≠ a ∨ j ≠ k) : oi (u2 O a k v) b j = oi O b j := by
  unfold oi
  rw [u2_ne h]
theorem oi_eq {O : jO} {a k : Nat} {x : Int32} : oi (u2 O a k (.int x)) a k = x := by
  unfold oi
  rw [u2_eq]
  rfl
theorem oc_gf {ci : Nat} {h : jH} {a k : Nat} {v : Value} (e : jgf ci h a k = some v) : oc h a k = v := by
  obtain ⟨fs, e1, e2⟩ := jgf_o e
  unfold oc
  rw [e1]
  show fs.getD k .null = v
  rw [List.getD_eq_getElem?_getD, e2]
  rfl
theorem oc_gI {ci : Nat} {h : jH} {a k : Nat} {x : Int32} (e : jgI ci h a k = some x) : oi (oc h) a k = x := by
  unfold oi
  rw [oc_gf (jgI_f e)]
  rfl
theorem oc_gR {ci : Nat} {h : jH} {a k b : Nat} (e : jgR ci h a k = some b) : oc h a k = .ref b := oc_gf (jgR_f e)
theorem oc_gQ {ci : Nat} {h : jH} {a k : Nat} {b : Option Nat} (e : jgQ ci h a k = some b) : oc h a k = va_rf b := oc_gf (jgQ_f e)
theorem oc_al {t : Nat} {h : jH} {a : Nat} {i x : Int32} (e : jal t h a i = some x) : oi (oc h) a i.toNatClampNeg = x ∧ 0 ≤ i.toInt := by
  obtain ⟨n, f, e1, e2, e3⟩ := jal_o e
  refine ⟨?_, ?_⟩
  · unfold oi oc
    rw [e1]
    exact e3.symm
  · have h1 : ¬ i < 0 := fun q => e2 (Or.inl q)
    have h2 := Int.not_lt.mp (fun q => h1 (Int32.lt_iff_toInt_lt.mpr q))
    exact h2
theorem oc_alq {h : jH} {a : Nat} {i : Int32} {x : Option Nat} (e : jalq h a i = some x) : oc h a i.toNatClampNeg = va_rf x := by
  obtain ⟨n, f, e1, -, e3⟩ := jalq_o e
  unfold oc
  rw [e1, e3]
theorem oc_up_ne {h : jH} {a b k : Nat} {e : jE} (hb : b ≠ a) : oc (jup h a e) b k = oc h b k := by
  unfold oc
  show (match (if b = a then some e else h.2 b) with | some (.inl o) => o.2.getD k .null | some (.inr (.inl y)) => .int (y.2.2 k) | some (.inr (.inr (.inl z))) => va_rf (z.2 k) | _ => .null) = _
  rw [if_neg hb]
theorem oc_up_eq {h : jH} {a k : Nat} {e : jE} : oc (jup h a e) a k = (match e with | .inl o => o.2.getD k .null | .inr (.inl y) => .int (y.2.2 k) | .inr (.inr (.inl z)) => va_rf (z.2 k) | _ => .null) := by
  unfold oc
  show (match (if a = a then some e else h.2 a) with | some (.inl o) => o.2.getD k .null | some (.inr (.inl y)) => .int (y.2.2 k) | some (.inr (.inr (.inl z))) => va_rf (z.2 k) | _ => .null) = _
  rw [if_pos rfl]
  rcases e with o | y | z | w <;> rfl
theorem oc_pf {ci : Nat} {h h1 : jH} {a k : Nat} {v : Value} (e : jpf ci h a k v = some h1) : oc h1 = u2 (oc h) a k v ∧ h1.1 = h.1 := by
  obtain ⟨fs, e1, e2, rfl⟩ := jpf_o e
  refine ⟨funext fun b => funext fun j => ?_, rfl⟩
  by_cases hb : b = a
  · subst hb
    rw [oc_up_eq]
    show (fs.set k v).getD j .null = _
    by_cases hj : j = k
    · subst hj
      rw [u2_eq, List.getD_eq_getElem?_getD, List.getElem?_set_self e2]
      rfl
    · rw [u2_ne (Or.inr hj), List.getD_eq_getElem?_getD, List.getElem?_set_ne (Ne.symm hj)]
      unfold oc
      rw [e1]
      show _ = fs.getD j .null
      rw [List.getD_eq_getElem?_getD]
  · rw [oc_up_ne hb, u2_ne (Or.inl hb)]
theorem oc_as {t : Nat} {h h1 : jH} {a : Nat} {i x : Int32} (e : jas t h a i x = some h1) : oc h1 = u2 (oc h) a i.toNatClampNeg (.int (jnar t x)) ∧ h1.1 = h.1 ∧ 0 ≤ i.toInt := by
  obtain ⟨n, f, e1, e2, -, rfl⟩ := jas_o e
  refine ⟨funext fun b => funext fun j => ?_, rfl, ?_⟩
  · by_cases hb : b = a
    · subst hb
      rw [oc_up_eq]
      show Value.int (upd f i.toNatClampNeg (jnar t x) j) = _
      by_cases hj : j = i.toNatClampNeg
      · subst hj
        rw [u2_eq]
        simp only [upd, if_pos]
      · rw [u2_ne (Or.inr hj)]
        simp only [upd, if_neg hj]
        unfold oc
        rw [e1]
    · rw [oc_up_ne hb, u2_ne (Or.inl hb)]
  · have h1 : ¬ i < 0 := fun q => e2 (Or.inl q)
    exact Int.not_lt.mp (fun q => h1 (Int32.lt_iff_toInt_lt.mpr q))
theorem oc_asq {ci : Nat} {h h1 : jH} {a v : Nat} {i : Int32} (e : jasq ci h a i v = some h1) : oc h1 = u2 (oc h) a i.toNatClampNeg (.ref v) ∧ h1.1 = h.1 := by
  obtain ⟨n, f, fs, e1, -, -, rfl⟩ := jasq_o e
  refine ⟨funext fun b => funext fun j => ?_, rfl⟩
  by_cases hb : b = a
  · subst hb
    rw [oc_up_eq]
    show va_rf (va_up f i.toNatClampNeg (some v) j) = _
    by_cases hj : j = i.toNatClampNeg
    · subst hj
      rw [u2_eq]
      simp only [va_up, if_pos]
      rfl
    · rw [u2_ne (Or.inr hj)]
      simp only [va_up, if_neg hj]
      unfold oc
      rw [e1]
  · rw [oc_up_ne hb, u2_ne (Or.inl hb)]
/-- n places of a0 from s on into a from d on -/
def ucp (O : jO) (a0 s a d n : Nat) : jO := fun b j => if b = a ∧ d ≤ j ∧ j < d + n then O a0 (s + (j - d)) else O b j
theorem oc_cp {h h1 : jH} {a0 a : Nat} {sp dp n : Int32} (e : jcp h a0 sp a dp n = some h1) : oc h1 = ucp (oc h) a0 sp.toNatClampNeg a dp.toNatClampNeg n.toNatClampNeg ∧ h1.1 = h.1 := by
  obtain ⟨n0, f, n1, g, e0, e1, -, -, -, -, -, rfl⟩ := jcp_o e
  refine ⟨funext fun b => funext fun j => ?_, rfl⟩
  unfold ucp
  by_cases hb : b = a
  · subst hb
    rw [oc_up_eq]
    show Value.int (va_cpy f g sp.toNatClampNeg dp.toNatClampNeg n.toNatClampNeg j) = _
    unfold va_cpy
    by_cases hj : dp.toNatClampNeg ≤ j ∧ j < dp.toNatClampNeg + n.toNatClampNeg
    · rw [if_pos hj, if_pos ⟨rfl, hj⟩]
      unfold oc
      rw [e0]
    · rw [if_neg hj, if_neg (fun q => hj q.2)]
      unfold oc
      rw [e1]
  · rw [oc_up_ne hb, if_neg (fun q => hb q.1)]
theorem oc_new {h : jH} {e : jE} {b k : Nat} (hb : b ≠ h.1) : oc (jnew h e) b k = oc h b k := by
  unfold oc
  show (match (if b = h.1 then some e else h.2 b) with | some (.inl o) => o.2.getD k .null | some (.inr (.inl y)) => .int (y.2.2 k) | some (.inr (.inr (.inl z))) => va_rf (z.2 k) | _ => .null) = _
  rw [if_neg hb]
/-- heaps whose first free place alone differs show the same -/
theorem oc_z {h : jH} {z : Nat} : oc (z, h.2) = oc h := rfl
theorem jnar0 {x : Int32} : jnar 0 x = x := rfl
theorem jnar2 {x : Int32} : jnar 2 x = x := rfl
theorem jite {α : Type} {c : Prop} [Decidable c] {a b : Option α} {r : α} (h : (if c then a else b) = some r) : (c ∧ a = some r) ∨ (¬ c ∧ b = some r) := by
  by_cases q : c
  · rw [if_pos q] at h; exact Or.inl ⟨q, h⟩
  · rw [if_neg q] at h; exact Or.inr ⟨q, h⟩
end
section
/-! rows on bits, shifts and unsigned numbers, to paste: each family out of a closed proof of our own, whole with what it rests on; each by itself clean at Lean in its own claim (generation 39, form 5). Take a family whole -/
/-! ===== Int32 by its bits: bt x i ===== -/
def bt (x : Int32) (i : Nat) : Bool := x.toBitVec.getLsbD i
theorem b_ext {x y : Int32} (h : ∀ i, i < 32 → bt x i = bt y i) : x = y := Int32.toBitVec_inj.mp (BitVec.eq_of_getLsbD_eq (fun i hi => h i hi))
theorem b_or (x y : Int32) (i : Nat) : bt (x ||| y) i = (bt x i || bt y i) := by unfold bt; rw [Int32.toBitVec_or, BitVec.getLsbD_or]
theorem b_and (x y : Int32) (i : Nat) : bt (x &&& y) i = (bt x i && bt y i) := by unfold bt; rw [Int32.toBitVec_and, BitVec.getLsbD_and]
theorem b_xor (x y : Int32) (i : Nat) : bt (x ^^^ y) i = (bt x i ^^ bt y i) := by unfold bt; rw [Int32.toBitVec_xor, BitVec.getLsbD_xor]
theorem b_big {x : Int32} {i : Nat} (h : 32 ≤ i) : bt x i = false := BitVec.getLsbD_of_ge _ _ h
theorem b_255 (i : Nat) : bt 255 i = decide (i < 8) := by
  rcases Nat.lt_or_ge i 32 with h | h
  · exact (by decide +kernel : ∀ i, i < 32 → bt 255 i = decide (i < 8)) i h
  · rw [b_big h, decide_eq_false (by omega)]
theorem b_65535 (i : Nat) : bt 65535 i = decide (i < 16) := by
  rcases Nat.lt_or_ge i 32 with h | h
  · exact (by decide +kernel : ∀ i, i < 32 → bt 65535 i = decide (i < 16)) i h
  · rw [b_big h, decide_eq_false (by omega)]
theorem b_m1 : ∀ i, i < 32 → bt (-1) i = true := by decide +kernel
theorem b_0 (i : Nat) : bt 0 i = false := BitVec.getLsbD_zero
theorem s_l : ∀ n, n < 32 → ((nI n &&& 31).toBitVec.smod 32).toNat = n := by decide +kernel
theorem s_u : ∀ n, n < 32 → (((nI n).toUInt32 &&& Int32.toUInt32 31).toBitVec % 32).toNat = n := by decide +kernel
theorem b_shl (n : Nat) (hn : n < 32) (x : Int32) {i : Nat} (hi : i < 32) : bt (x <<< (nI n &&& 31)) i = (decide (n ≤ i) && bt x (i - n)) := by
  unfold bt
  rw [Int32.toBitVec_shiftLeft]
  show (x.toBitVec <<< ((nI n &&& 31).toBitVec.smod 32).toNat).getLsbD i = _
  rw [s_l n hn, BitVec.getLsbD_shiftLeft]
  rcases Nat.lt_or_ge i n with h | h
  · simp [h, Nat.not_le.mpr h]
  · simp [hi, h, Nat.not_lt.mpr h]
theorem b_ushr (n : Nat) (hn : n < 32) (x : Int32) (i : Nat) : bt ((x.toUInt32 >>> ((nI n).toUInt32 &&& Int32.toUInt32 31)).toInt32) i = bt x (n + i) := by
  show (x.toUInt32 >>> ((nI n).toUInt32 &&& Int32.toUInt32 31)).toBitVec.getLsbD i = x.toUInt32.toBitVec.getLsbD (n + i)
  rw [UInt32.toBitVec_shiftRight]
  show (x.toUInt32.toBitVec >>> (((nI n).toUInt32 &&& Int32.toUInt32 31).toBitVec % 32).toNat).getLsbD i = _
  rw [s_u n hn, BitVec.getLsbD_ushiftRight]
theorem b_sshr (n : Nat) (hn : n < 32) (x : Int32) {i : Nat} (hi : i < 32) : bt (x >>> (nI n &&& 31)) i = if n + i < 32 then bt x (n + i) else bt x 31 := by
  unfold bt
  rw [Int32.toBitVec_shiftRight]
  show (x.toBitVec.sshiftRight ((nI n &&& 31).toBitVec.smod 32).toNat).getLsbD i = _
  rw [s_l n hn, BitVec.getLsbD_sshiftRight, BitVec.msb_eq_getLsbD_last]
  simp [hi]
/-! one bit, as class and reference ask for it and set it -/
theorem nI_on {x : Int32} (h : 0 ≤ x.toInt) : x = nI x.toInt.toNat := by
  apply Int32.toInt_inj.mp
  have h2 := Int32.toInt_lt x
  rw [nI_toInt (by omega)]
  omega
theorem nI_k {x : Int32} {k : Nat} (h : x.toInt = (k : Int)) : x = nI k := by
  rw [nI_on (x := x) (by omega), h]
  rfl
theorem b_1 (i : Nat) : bt 1 i = decide (i = 0) := by
  rcases Nat.lt_or_ge i 32 with h | h
  · exact (by decide +kernel : ∀ i, i < 32 → bt 1 i = decide (i = 0)) i h
  · rw [b_big h, decide_eq_false (by omega)]
theorem b_and1 (x : Int32) : (x &&& 1 = 1) ↔ bt x 0 = true := by
  constructor
  · intro h
    have := congrArg (fun y => bt y 0) h
    simp only [b_and, b_1] at this
    simpa using this
  · intro h
    refine b_ext fun i hi => ?_
    rw [b_and, b_1]
    by_cases q : i = 0
    · subst q; rw [h]; rfl
    · rw [decide_eq_false q, Bool.and_false]
theorem b_ask {x : Int32} {k : Nat} (hk : k < 32) : ((jushr x (nI k)) &&& (1 : Int32) = 1) ↔ bt x k = true := by
  rw [b_and1]
  unfold jushr
  rw [b_ushr k hk, Nat.add_zero]
theorem b_ask0 {x : Int32} {k : Nat} (hk : k < 32) : (jushr x (nI k)) &&& (1 : Int32) = if bt x k then 1 else 0 := by
  by_cases q : bt x k = true
  · rw [q, if_pos rfl]; exact (b_ask hk).mpr q
  · rw [if_neg q]
    refine b_ext fun i hi => ?_
    rw [b_and, b_1, b_0]
    unfold jushr
    rw [b_ushr k hk]
    by_cases z : i = 0
    · subst z; rw [Nat.add_zero]; simp at q; rw [q]; rfl
    · rw [decide_eq_false z, Bool.and_false]
theorem b_has {x : Int32} {k : Nat} (hk : k < 32) : ((x >>> (nI k &&& 31)) &&& (1 : Int32) = 1) ↔ bt x k = true := by
  rw [b_and1, b_sshr k hk x (by decide), Nat.add_zero, if_pos hk]
theorem b_one {k i : Nat} (hk : k < 32) (hi : i < 32) : bt ((1 : Int32) <<< (nI k &&& 31)) i = decide (i = k) := by
  rw [b_shl k hk 1 hi, b_1]
  by_cases q : i = k
  · subst q; simp
  · rw [decide_eq_false q]
    by_cases z : k ≤ i
    · rw [decide_eq_false (by omega : ¬ i - k = 0), Bool.and_false]
    · rw [decide_eq_false z, Bool.false_and]
theorem b_set {x : Int32} {k i : Nat} (hk : k < 32) (hi : i < 32) : bt (x ||| ((1 : Int32) <<< (nI k &&& 31))) i = (bt x i || decide (i = k)) := by
  rw [b_or, b_one hk hi]
theorem b_clr {x : Int32} {k i : Nat} (hk : k < 32) (hi : i < 32) : bt (x &&& (((1 : Int32) <<< (nI k &&& 31)) ^^^ (-1 : Int32))) i = (bt x i && !decide (i = k)) := by
  rw [b_and, b_xor, b_one hk hi, b_m1 i hi]
  simp
theorem b_msk : ∀ lo, lo < 8 → ∀ hi, hi < 8 → lo ≤ hi → ∀ i, i < 32 → bt (((1 : Int32) <<< (nI (hi + 1) &&& 31)) - ((1 : Int32) <<< (nI lo &&& 31))) i = decide (lo ≤ i ∧ i ≤ hi) := by decide +kernel
theorem b_zero {x : Int32} : x = 0 ↔ ∀ i, i < 32 → bt x i = false := by
  constructor
  · intro h i hi; rw [h, b_0]
  · intro h; exact b_ext fun i hi => by rw [h i hi, b_0]
end
section
/-! worlds: what both sides tell of the rod, in the reference's own places; and the class's rod that tells the same -/
abbrev jWd : Type := Nat → Int32
/-- what always holds of a world's rod -/
def wOK (W : jWd) : Prop :=
  (0 ≤ (W 0).toInt ∧ (W 0).toInt ≤ 8) ∧
  (∀ i : Nat, (i : Int) < (W 0).toInt → (0 ≤ (W (11 + 8 * i)).toInt ∧ (W (11 + 8 * i)).toInt ≤ 31) ∧ (1 ≤ (W (12 + 8 * i)).toInt ∧ (W (12 + 8 * i)).toInt ≤ 9) ∧ (W (13 + 8 * i) = 0 ∨ W (13 + 8 * i) = 1) ∧ (W (14 + 8 * i) = 0 ∨ W (14 + 8 * i) = 1) ∧ (0 ≤ (W (15 + 8 * i)).toInt ∧ (W (15 + 8 * i)).toInt ≤ 99) ∧ (0 ≤ (W (16 + 8 * i)).toInt ∧ (W (16 + 8 * i)).toInt ≤ 9) ∧ (W (17 + 8 * i) = 0 ∨ W (17 + 8 * i) = 1) ∧ (W (18 + 8 * i) = 0 ∨ W (18 + 8 * i) = 1)) ∧
  (∀ i : Nat, (i : Int) + 1 < (W 0).toInt → (W (11 + 8 * i)).toInt < (W (11 + 8 * (i + 1))).toInt) ∧
  (∀ i : Nat, (i : Int) + 1 = (W 0).toInt → W (18 + 8 * i) = 0) ∧
  (0 ≤ (W 3).toInt ∧ (W 3).toInt ≤ 7) ∧ (0 ≤ (W 4).toInt ∧ (W 4).toInt ≤ 9999) ∧ (1 ≤ (W 5).toInt ∧ (W 5).toInt ≤ 31) ∧ (0 ≤ (W 6).toInt ∧ (W 6).toInt ≤ 31) ∧ (0 ≤ (W 8).toInt ∧ (W 8).toInt ≤ 9999) ∧ (0 ≤ (W 9).toInt ∧ (W 9).toInt ≤ 60) ∧ (0 ≤ (W 1).toInt ∧ (W 1).toInt ≤ 12)
/-- the class's rod at r: its parts lie behind it -/
def rodS (O : jO) (r : Nat) : Prop := O r 0 = .ref (r + 1) ∧ O r 1 = .ref (r + 2) ∧ O r 2 = .ref (r + 3) ∧ O r 3 = .ref (r + 4) ∧ O r 4 = .ref (r + 5) ∧ O (r + 5) 0 = .ref (r + 6)
/-- the log's rows of the class, at l, are those of the world -/
def logE (O : jO) (l : Nat) (W : jWd) : Prop :=
  oi O l 1 = W 9 ∧ (0 ≤ (oi O l 2).toInt ∧ (oi O l 2).toInt ≤ 59) ∧ ∀ a : Nat, (a : Int) < (W 9).toInt →
    ∃ d q i k f p : Nat, d < 16384 ∧ q < 8 ∧ i < 8 ∧ k < 4 ∧ f < 32 ∧ p < 32 ∧ oi O (l + 1) (((oi O l 2).toInt + 59 - (a : Int)) % 60).toNat = nI (((((d * 8 + q) * 8 + i) * 4 + k) * 32 + f) * 32 + p) ∧
      W (75 + 6 * a) = nI d ∧ W (76 + 6 * a) = nI q ∧ W (77 + 6 * a) = nI i ∧ W (78 + 6 * a) = nI k ∧ W (79 + 6 * a) = nI f ∧ W (80 + 6 * a) = nI p
/-- the class's rod at r tells what the world tells -/
def rodE (O : jO) (r : Nat) (W : jWd) : Prop :=
  rodS O r ∧ (oi O r 5 = W 0 ∧ oi O r 10 = W 7 ∧ oi O r 11 = W 5 ∧ oi O r 12 = W 6 ∧ oi O r 13 = W 3 ∧ oi O r 14 = W 4 ∧ oi O r 15 = W 8 ∧ oi O r 16 = W 10 ∧ oi O r 17 = W 1) ∧
  (∀ i : Nat, (i : Int) < (W 0).toInt → oi O (r + 1) i = W (11 + 8 * i) ∧ oi O (r + 2) i = W (12 + 8 * i) ∧ (bt (oi O r 6) i = true ↔ W (13 + 8 * i) = 1) ∧ (bt (oi O r 7) i = true ↔ W (14 + 8 * i) = 1) ∧ oi O (r + 3) i = W (15 + 8 * i) ∧ oi O (r + 4) i = W (16 + 8 * i) ∧ (bt (oi O r 8) i = true ↔ W (17 + 8 * i) = 1) ∧ (bt (oi O r 9) i = true ↔ W (18 + 8 * i) = 1)) ∧
  (∀ i : Nat, (W 0).toInt ≤ (i : Int) → i < 32 → bt (oi O r 7) i = false ∧ bt (oi O r 9) i = false) ∧ logE O (r + 5) W
/-- one ring and the next one go together; d: the other one is ahead -/
def tog (W : jWd) (i : Nat) (d : Bool) : Prop := W (18 + 8 * i) = 1 ∨ (if d = true then (W (11 + 8 * (i + 1))).toInt - (W (11 + 8 * i)).toInt = 1 else (W (12 + 8 * i)).toInt ≤ (W (11 + 8 * (i + 1))).toInt - (W (11 + 8 * i)).toInt)
/-- a ring can't go -/
def stp (W : jWd) (i : Nat) (d : Bool) : Prop := (W (11 + 8 * i)).toInt = (if d = true then 31 else 0) ∨ (W (13 + 8 * i) = 1 ∧ (W (11 + 8 * i)).toInt = (if d = true then (W 5).toInt - 1 else (W 5).toInt))
/-- who goes along by a step of ring r -/
def gos (W : jWd) (r : Nat) (d : Bool) (i : Nat) : Prop := (i : Int) < (W 0).toInt ∧ ((r ≤ i ∧ ∀ j, r ≤ j → j < i → tog W j d) ∨ (i ≤ r ∧ ∀ j, i ≤ j → j < r → tog W j (!d)))
def goB (W : jWd) (r : Nat) (d : Bool) (v : Int32) : Prop := ∀ i, i < 32 → (bt v i = true ↔ (gos W r d i ∧ ∀ j, gos W r d j → ¬ stp W j d))
theorem goB_u {W : jWd} {r : Nat} {d : Bool} {v w : Int32} (a : goB W r d v) (b : goB W r d w) : v = w := by
  refine b_ext fun i hi => ?_
  have h := (a i hi).trans (b i hi).symm
  cases h1 : bt v i <;> cases h2 : bt w i <;> simp_all
/-- a side, as an int -/
def dI (d : Bool) : Int32 := if d = true then 1 else 0
end
