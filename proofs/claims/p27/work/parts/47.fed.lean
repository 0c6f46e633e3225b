section
theorem jKd_B {g : jGh} {B : Nat → Int32} {c : Nat} (hc : c ≠ 9) : jKd (g.1, B, g.2.2) c = jKd g c := by
  unfold jKd
  split <;> first | rfl | exact absurd rfl hc
theorem t_pB {g : jGh} {Γ : Nat → Option Nat} {h : jH} {a : Nat} {i x : Int32} (w : jW (jKd g) Γ h) (hu : ∀ a b, Γ a = some 9 → Γ b = some 9 → a = b) (ha : Γ a = some 9) (h0 : 0 ≤ i.toInt) (h1 : i.toInt < 400) : jok (jas 1 h a i x) (fun h1 => ∃ B : Nat → Int32, jW (jKd (g.1, B, g.2.2)) Γ h1 ∧ jfa h h1) := by
  obtain ⟨f, e1, e2⟩ := t_arr w ha rfl
  refine ⟨jup h a (.inr (.inl (1, 400, upd f i.toNatClampNeg (jnar 1 x)))), ?_, upd f i.toNatClampNeg (jnar 1 x), ?_, jfa_up e1⟩
  · unfold jas
    rw [e1]
    dsimp only
    rw [if_pos ⟨rfl, jnoob h0 h1, fun q => by cases q⟩]
  · intro b c hb
    refine ⟨(w b c hb).1, ?_⟩
    show okE Γ (jKd (g.1, upd f i.toNatClampNeg (jnar 1 x), g.2.2) c) (if b = a then some _ else h.2 b)
    by_cases hq : b = a
    · subst hq
      cases ha.symm.trans hb
      rw [if_pos rfl]
      exact ⟨_, rfl, fun k _ => rfl⟩
    · rw [if_neg hq]
      have hc : c ≠ 9 := fun q => hq (hu b a (by rw [hb, q]) ha)
      rw [jKd_B hc]
      exact (w b c hb).2
theorem S_X10_put_3 {Γ : Nat → Option Nat} {n : Nat} (hu : ∀ a b c, 9 ≤ c → Γ a = some c → Γ b = some c → a = b) : ∀ (j k : Nat) {g : jGh} {a0 : Nat} {x1 x2 : Int32} {h : jH}, jW (jKd g) Γ h → Γ a0 = some 10 → j < k → j < 6 → x2.toInt = 8 * (j : Int) - 8 → 0 ≤ g.1 → g.1 + j ≤ 400 → jok (F_X10_put_3 n k a0 x1 x2 h) (fun h1 => ∃ B : Nat → Int32, jW (jKd (g.1 + j, B, g.2.2)) Γ h1)
  | 0, k + 1, g, a0, x1, x2, h, w, ta, _, _, hx, h0, h4 => by
    show jok (F_X10_put_3_b n (F_X10_put_3 n k) a0 x1 x2 h) _
    unfold F_X10_put_3_b
    have e : x2 < 0 := Int32.lt_iff_toInt_lt.mpr (by rw [hx]; show (8 * ((0 : Nat) : Int) - 8 : Int) < 0; decide)
    rw [if_pos e]
    refine jok_s ⟨g.2.1, ?_⟩
    have e2 : g.1 + ((0 : Nat) : Int) = g.1 := Int.add_zero _
    rw [e2]
    exact w
  | j + 1, k + 1, g, a0, x1, x2, h, w, ta, hk, hj, hx, h0, h4 => by
    show jok (F_X10_put_3_b n (F_X10_put_3 n k) a0 x1 x2 h) _
    unfold F_X10_put_3_b
    have ez : (0 : Int32).toInt = 0 := rfl
    have e4 : (400 : Int32).toInt = 400 := rfl
    have e8 : (-8 : Int32).toInt = -8 := rfl
    have e1 : (1 : Int32).toInt = 1 := rfl
    refine jok_lt (fun c => absurd c (by rw [hx, ez]; omega)) (fun _ => ?_)
    refine jok_b (t_gI w ta rfl rfl) (fun v8 l8 => ?_)
    have l8 : v8.toInt = g.1 := l8
    refine jok_le (fun c => absurd c (by rw [l8, e4]; omega)) (fun _ => ?_)
    refine jok_b (t_gR w ta rfl rfl) (fun p18 t18 => ?_)
    refine jok_b (t_gI w ta rfl rfl) (fun v22 l22 => ?_)
    have l22 : v22.toInt = g.1 := l22
    refine jok_b (t_pB w (fun a b => hu a b 9 (by decide)) t18 (by omega) (by omega)) (fun h29 w29 => ?_)
    obtain ⟨B, w29, -⟩ := w29
    refine jok_b (t_gI w29 ta rfl rfl) (fun v32 l32 => ?_)
    have l32 : v32.toInt = g.1 := l32
    refine jok_b (t_pL w29 (fun a b => hu a b 10 (by decide)) ta) (fun h37 w37 => ?_)
    have e5 : (v32 + (1 : Int32)).toInt = g.1 + 1 := by rw [jadd (by omega) (by omega), l32, e1]
    have w37 := w37.1
    rw [e5] at w37
    have e6 : (x2 + (-8 : Int32)).toInt = 8 * (j : Int) - 8 := by rw [jadd (by omega) (by omega), hx, e8]; omega
    refine jok_w (S_X10_put_3 hu j k w37 ta (by omega) (by omega) e6 (by show 0 ≤ g.1 + 1; omega) (by show g.1 + 1 + (j : Int) ≤ 400; omega)) (fun h1 q => ?_)
    obtain ⟨B2, q⟩ := q
    have q : jW (jKd (g.1 + 1 + (j : Int), B2, g.2.2)) Γ h1 := q
    refine ⟨B2, ?_⟩
    have e7 : g.1 + 1 + (j : Int) = g.1 + ((j + 1 : Nat) : Int) := by omega
    rw [e7] at q
    exact q
theorem S_X10_put {g : jGh} {Γ : Nat → Option Nat} {n a0 : Nat} {x1 : Int32} {h : jH} (hn : 6000 ≤ n) (w : jW (jKd g) Γ h) (ta0 : Γ a0 = some 10) (hu : ∀ a b c, 9 ≤ c → Γ a = some c → Γ b = some c → a = b) (h0 : 0 ≤ g.1) (h4 : g.1 ≤ 396) : jok (F_X10_put n a0 x1 h) (fun h1 => ∃ B : Nat → Int32, jW (jKd (g.1 + 4, B, g.2.2)) Γ h1) := by
  unfold F_X10_put
  exact S_X10_put_3 hu 4 n w ta0 (by omega) (by omega) rfl h0 (by omega)
theorem S_X11_feed {g : jGh} {Γ : Nat → Option Nat} {n a0 : Nat} {x1 x2 x3 x4 x5 : Int32} {h : jH} (hn : 6000 ≤ n) (hg : jgok g) (w : jW (jKd g) Γ h) (ta0 : Γ a0 = some 19) (hu : ∀ a b c, 9 ≤ c → Γ a = some c → Γ b = some c → a = b) : jok (F_X11_feed n a0 x1 x2 x3 x4 x5 h) (fun q => (∃ B : Nat → Int32, jW (jKd (if 380 < g.1 then g.1 else g.1 + 20, B, g.2.2)) Γ q.2) ∧ q.1.toInt = (if 380 < g.1 then -1 else g.1 + 20)) := by
  obtain ⟨⟨g0, g4⟩, -⟩ := id hg
  have ez : (0 : Int32).toInt = 0 := rfl
  unfold F_X11_feed
  refine jok_b (t_gR w ta0 rfl rfl) (fun p1 t1 => ?_)
  rw [t_cv w t1 rfl]
  refine jok_b (S_X10_hasRoom hn hg w t1) (fun v4 l4 => ?_)
  refine jok_eq (fun c _ => ?_) (fun c => ?_)
  · rw [ez] at c
    refine jok_s ⟨⟨g.2.1, ?_⟩, ?_⟩
    · rw [if_pos (by omega)]
      exact w
    · rw [if_pos (by omega)]
      rfl
  · rw [ez] at c
    have k4 : g.1 ≤ 380 := by omega
    rw [if_neg (show ¬ 380 < g.1 by omega), if_neg (show ¬ 380 < g.1 by omega)]
    refine jok_b (t_gR w ta0 rfl rfl) (fun p13 t13 => ?_)
    rw [t_cv w t13 rfl]
    refine jok_b (S_X10_put hn w t13 hu g0 (by omega)) (fun h17 w17 => ?_)
    obtain ⟨B1, w17⟩ := w17
    refine jok_b (t_gR w17 ta0 rfl rfl) (fun p21 t21 => ?_)
    rw [t_cv w17 t21 rfl]
    refine jok_b (S_X10_put hn w17 t21 hu (by show 0 ≤ g.1 + 4; omega) (by show g.1 + 4 ≤ 396; omega)) (fun h25 w25 => ?_)
    obtain ⟨B2, w25⟩ := w25
    refine jok_b (t_gR w25 ta0 rfl rfl) (fun p29 t29 => ?_)
    rw [t_cv w25 t29 rfl]
    refine jok_b (S_X10_put hn w25 t29 hu (by show 0 ≤ g.1 + 4 + 4; omega) (by show g.1 + 4 + 4 ≤ 396; omega)) (fun h33 w33 => ?_)
    obtain ⟨B3, w33⟩ := w33
    refine jok_b (t_gR w33 ta0 rfl rfl) (fun p37 t37 => ?_)
    rw [t_cv w33 t37 rfl]
    refine jok_b (S_X10_put hn w33 t37 hu (by show 0 ≤ g.1 + 4 + 4 + 4; omega) (by show g.1 + 4 + 4 + 4 ≤ 396; omega)) (fun h42 w42 => ?_)
    obtain ⟨B4, w42⟩ := w42
    refine jok_b (t_gR w42 ta0 rfl rfl) (fun p46 t46 => ?_)
    rw [t_cv w42 t46 rfl]
    refine jok_b (S_X10_put hn w42 t46 hu (by show 0 ≤ g.1 + 4 + 4 + 4 + 4; omega) (by show g.1 + 4 + 4 + 4 + 4 ≤ 396; omega)) (fun h51 w51 => ?_)
    obtain ⟨B5, w51⟩ := w51
    refine jok_b (t_gR w51 ta0 rfl rfl) (fun p55 t55 => ?_)
    refine jok_b (t_gI w51 t55 rfl rfl) (fun v58 l58 => ?_)
    have l58 : v58.toInt = g.1 + 4 + 4 + 4 + 4 + 4 := l58
    refine jok_s ⟨⟨B5, ?_⟩, (show v58.toInt = g.1 + 20 by omega)⟩
    have e : g.1 + 4 + 4 + 4 + 4 + 4 = g.1 + 20 := by omega
    have w51 : jW (jKd (g.1 + 4 + 4 + 4 + 4 + 4, B5, g.2.2)) Γ h51 := w51
    rw [e] at w51
    exact w51
theorem S_X11_end {g : jGh} {Γ : Nat → Option Nat} {n a0 : Nat} {x1 : Int32} {h : jH} (w : jW (jKd g) Γ h) (ta0 : Γ a0 = some 19) (hu : ∀ a b c, 9 ≤ c → Γ a = some c → Γ b = some c → a = b) : jok (F_X11_end n a0 x1 h) (fun q => jW (jKd (if 0 ≤ x1.toInt ∧ x1.toInt ≤ g.1 then x1.toInt else g.1, g.2)) Γ q.2 ∧ q.1 = (if 0 ≤ x1.toInt ∧ x1.toInt ≤ g.1 then 1 else 0)) := by
  have ez : (0 : Int32).toInt = 0 := rfl
  unfold F_X11_end
  refine jok_lt (fun c => ?_) (fun c => ?_)
  · rw [if_neg (by omega), if_neg (by omega)]
    exact jok_s ⟨w, rfl⟩
  refine jok_b (t_gR w ta0 rfl rfl) (fun p6 t6 => ?_)
  refine jok_b (t_gI w t6 rfl rfl) (fun v9 l9 => ?_)
  have l9 : v9.toInt = g.1 := l9
  refine jok_le (fun d => ?_) (fun d => ?_)
  · rw [if_pos (by omega), if_pos (by omega)]
    refine jok_b (t_gR w ta0 rfl rfl) (fun p18 t18 => ?_)
    refine jok_b (t_pL w (fun a b => hu a b 10 (by decide)) t18) (fun h22 w22 => ?_)
    exact jok_s ⟨w22.1, rfl⟩
  · rw [if_neg (by omega), if_neg (by omega)]
    exact jok_s ⟨w, rfl⟩
end
section
/-- fields of classes other than 4 and 6 are left alone -/
def jf0 (h h1 : jH) : Prop := ∀ c b k : Nat, c ≠ 4 → c ≠ 6 → jgf c h1 b k = jgf c h b k
theorem jf0_rfl {h : jH} : jf0 h h := fun _ _ _ _ _ => rfl
theorem jf0_tr {h h1 h2 : jH} (a : jf0 h h1) (b : jf0 h1 h2) : jf0 h h2 := fun c x k h4 h6 => (b c x k h4 h6).trans (a c x k h4 h6)
theorem f0_pf {h h1 : jH} {a k c : Nat} {v : Value} (hc : c = 4 ∨ c = 6) (e : jpf c h a k v = some h1) : jf0 h h1 := by
  obtain ⟨fs, e1, -, rfl⟩ := jpf_o e
  intro c2 b k2 h4 h6
  have hn : c ≠ c2 := by omega
  unfold jgf
  show (match (if b = a then some _ else h.2 b) with | some (.inl o) => if o.1 = c2 then o.2[k2]? else none | _ => none) = _
  by_cases hb : b = a
  · subst hb
    rw [if_pos rfl, e1]
    dsimp only
    rw [if_neg hn, if_neg hn]
  · rw [if_neg hb]
    rfl
theorem f0_as {t a : Nat} {i x : Int32} {h h1 : jH} (e : jas t h a i x = some h1) : jf0 h h1 := by
  obtain ⟨n, f, e1, -, -, rfl⟩ := jas_o e
  exact fun c b k _ _ => jfa_up e1 c b k
theorem f0_cp {a0 a : Nat} {sp dp n : Int32} {h h1 : jH} (e : jcp h a0 sp a dp n = some h1) : jf0 h h1 := by
  obtain ⟨n0, f, n1, g, e0, e1, -, -, -, -, -, rfl⟩ := jcp_o e
  exact fun c b k _ _ => jfa_up e1 c b k
theorem F0_X8_hangAs {n : Nat} {a0 : Nat} {a1 : Nat} {h : jH} {q : jH} (hf : F_X8_hangAs n a0 a1 h = some q) : jf0 h q := by
  unfold F_X8_hangAs at hf
  obtain ⟨p1, e1, hf⟩ := jbind hf
  obtain ⟨p6, e2, hf⟩ := jbind hf
  obtain ⟨h12, e3, hf⟩ := jbind hf
  obtain ⟨v17, e4, hf⟩ := jbind hf
  obtain ⟨h20, e5, hf⟩ := jbind hf
  obtain ⟨v25, e6, hf⟩ := jbind hf
  obtain ⟨h28, e7, hf⟩ := jbind hf
  cases hf
  have z9 := (jf0_tr (jf0_tr (f0_cp e3) (f0_pf (by decide) e5)) (f0_pf (by decide) e7))
  exact z9
theorem F0_X5_copyFrom {n : Nat} {a0 : Nat} {a1 : Nat} {h : jH} {q : jH} (hf : F_X5_copyFrom n a0 a1 h = some q) : jf0 h q := by
  unfold F_X5_copyFrom at hf
  obtain ⟨p1, e1, hf⟩ := jbind hf
  obtain ⟨p6, e2, hf⟩ := jbind hf
  obtain ⟨h12, e3, hf⟩ := jbind hf
  obtain ⟨v17, e4, hf⟩ := jbind hf
  obtain ⟨h20, e5, hf⟩ := jbind hf
  obtain ⟨v25, e6, hf⟩ := jbind hf
  obtain ⟨h28, e7, hf⟩ := jbind hf
  cases hf
  have z9 := (jf0_tr (jf0_tr (f0_cp e3) (f0_pf (by decide) e5)) (f0_pf (by decide) e7))
  exact z9
theorem F0_X8_copyFrom {n : Nat} {a0 : Nat} {a1 : Nat} {h : jH} {q : jH} (hf : F_X8_copyFrom n a0 a1 h = some q) : jf0 h q := by
  unfold F_X8_copyFrom at hf
  obtain ⟨p1, e1, hf⟩ := jbind hf
  obtain ⟨p6, e2, hf⟩ := jbind hf
  obtain ⟨h12, e3, hf⟩ := jbind hf
  obtain ⟨p16, e4, hf⟩ := jbind hf
  obtain ⟨p21, e5, hf⟩ := jbind hf
  obtain ⟨h27, e6, hf⟩ := jbind hf
  obtain ⟨p31, e7, hf⟩ := jbind hf
  obtain ⟨p36, e8, hf⟩ := jbind hf
  obtain ⟨h42, e9, hf⟩ := jbind hf
  obtain ⟨p46, e10, hf⟩ := jbind hf
  obtain ⟨p50, e11, hf⟩ := jbind hf
  obtain ⟨h53, e12, hf⟩ := jbind hf
  obtain ⟨-, e12⟩ := jcv_o e12
  obtain ⟨v58, e13, hf⟩ := jbind hf
  obtain ⟨h61, e14, hf⟩ := jbind hf
  obtain ⟨v66, e15, hf⟩ := jbind hf
  obtain ⟨h69, e16, hf⟩ := jbind hf
  obtain ⟨v74, e17, hf⟩ := jbind hf
  obtain ⟨h77, e18, hf⟩ := jbind hf
  obtain ⟨v82, e19, hf⟩ := jbind hf
  obtain ⟨h85, e20, hf⟩ := jbind hf
  obtain ⟨v90, e21, hf⟩ := jbind hf
  obtain ⟨h93, e22, hf⟩ := jbind hf
  obtain ⟨v98, e23, hf⟩ := jbind hf
  obtain ⟨h101, e24, hf⟩ := jbind hf
  obtain ⟨v106, e25, hf⟩ := jbind hf
  obtain ⟨h109, e26, hf⟩ := jbind hf
  obtain ⟨v114, e27, hf⟩ := jbind hf
  obtain ⟨h117, e28, hf⟩ := jbind hf
  obtain ⟨v122, e29, hf⟩ := jbind hf
  obtain ⟨h125, e30, hf⟩ := jbind hf
  obtain ⟨v130, e31, hf⟩ := jbind hf
  obtain ⟨h133, e32, hf⟩ := jbind hf
  obtain ⟨v138, e33, hf⟩ := jbind hf
  obtain ⟨h141, e34, hf⟩ := jbind hf
  obtain ⟨h146, e35, hf⟩ := jbind hf
  obtain ⟨-, e35⟩ := jcv_o e35
  cases hf
  have z9 := (jf0_tr (jf0_tr (jf0_tr (jf0_tr (jf0_tr (jf0_tr (jf0_tr (jf0_tr (jf0_tr (jf0_tr (jf0_tr (jf0_tr (jf0_tr (jf0_tr (jf0_tr (f0_cp e3) (f0_cp e6)) (f0_cp e9)) (F0_X5_copyFrom e12)) (f0_pf (by decide) e14)) (f0_pf (by decide) e16)) (f0_pf (by decide) e18)) (f0_pf (by decide) e20)) (f0_pf (by decide) e22)) (f0_pf (by decide) e24)) (f0_pf (by decide) e26)) (f0_pf (by decide) e28)) (f0_pf (by decide) e30)) (f0_pf (by decide) e32)) (f0_pf (by decide) e34)) (F0_X8_hangAs e35))
  exact z9
theorem t_rod {g : jGh} {Γ : Nat → Option Nat} {n : Nat} {h : jH} (w : jW (jKd g) Γ h) : jok (F_X8_init n h.1 (jnew h (.inl (6, [.null, .null, .null, .null, .null, .int 0, .int 0, .int 0, .int 0, .int 0, .int 0, .int 0, .int 0, .int 0, .int 0, .int 0, .int 0, .int 0])))) (fun h2 => ∃ G2, jle Γ G2 ∧ jW (jKd g) G2 h2 ∧ G2 h.1 = some 3 ∧ ∀ b, b < h.1 → h2.2 b = h.2 b) := by
  refine jok_w (I_X8_init (n := n) (h := h)) (fun h2 j => ?_)
  obtain ⟨w2, hm⟩ := jx_jW (ks := kX8_init) j rfl w (chkX8_init (fun i c q => jext_at q))
  refine ⟨_, ⟨hm, fun a c hc ha => ?_⟩, w2, jext_at (i := 0) rfl, j.2.1⟩
  unfold jext at ha
  by_cases q : a < h.1
  · rw [if_pos q] at ha; exact ha
  · rw [if_neg q] at ha
    have hl : ∀ c ∈ kX8_init, c < 9 := by decide
    have := hl c (List.mem_of_getElem? ha)
    omega
theorem t_law {g : jGh} {Γ : Nat → Option Nat} {n : Nat} {h : jH} (w : jW (jKd g) Γ h) : jok (F_X2_init n h.1 (jnew h (.inl (2, [.null, .null, .null, .null, .null, .int 0, .int 0, .int 0, .int 0])))) (fun h2 => ∃ G2, jle Γ G2 ∧ jW (jKd g) G2 h2 ∧ G2 h.1 = some 8 ∧ ∀ b, b < h.1 → h2.2 b = h.2 b) := by
  refine jok_w (I_X2_init (n := n) (h := h)) (fun h2 j => ?_)
  obtain ⟨w2, hm⟩ := jx_jW (ks := kX2_init) j rfl w (chkX2_init (fun i c q => jext_at q))
  refine ⟨_, ⟨hm, fun a c hc ha => ?_⟩, w2, jext_at (i := 0) rfl, j.2.1⟩
  unfold jext at ha
  by_cases q : a < h.1
  · rw [if_pos q] at ha; exact ha
  · rw [if_neg q] at ha
    have hl : ∀ c ∈ kX2_init, c < 9 := by decide
    have := hl c (List.mem_of_getElem? ha)
    omega
theorem fR {h h1 : jH} {ci b k : Nat} {v : Nat} (e : jgf ci h1 b k = jgf ci h b k) (q : jgR ci h b k = some v) : jgR ci h1 b k = some v := by
  unfold jgR at q ⊢
  rw [e]
  exact q
theorem fQ {h h1 : jH} {ci b k : Nat} {v : Option Nat} (e : jgf ci h1 b k = jgf ci h b k) (q : jgQ ci h b k = some v) : jgQ ci h1 b k = some v := by
  unfold jgQ at q ⊢
  rw [e]
  exact q
theorem S_X0_remember_63 {g : jGh} {Γ : Nat → Option Nat} {n a0 : Nat} {s1 : Int32} {h : jH} (w : jW (jKd g) Γ h) (ta0 : Γ a0 = some 12) (l0 : 0 ≤ s1.toInt) (l1 : s1.toInt ≤ 11) : jok (F_X0_remember_63 n a0 a0 s1 h) (fun q => jW (jKd g) Γ q) := by
  have e1 : (1 : Int32).toInt = 1 := rfl
  have e12 : (12 : Int32).toInt = 12 := rfl
  unfold F_X0_remember_63
  refine jok_b (t_pI w ta0 rfl rfl ⟨l0, l1⟩) (fun h63 w63 => ?_)
  obtain ⟨w63, -, -⟩ := w63
  refine jok_b (t_gI w63 ta0 rfl rfl) (fun v70 l70 => ?_)
  have l70 : 0 ≤ v70.toInt ∧ v70.toInt ≤ 12 := l70
  have ea : (v70 + (1 : Int32)).toInt = v70.toInt + 1 := by rw [jadd (by omega) (by omega), e1]
  refine jok_b (t_pI w63 ta0 rfl rfl (jif_lt (fun _ => by omega) (fun _ => by omega))) (fun h78 w78 => ?_)
  exact jok_s w78.1
theorem S_X0_remember_28 {g : jGh} {Γ : Nat → Option Nat} {n a0 a1 p b : Nat} {v : Int32} {h : jH} (hn : 6000 ≤ n) (hg : jgok g) (w : jW (jKd g) Γ h) (ta0 : Γ a0 = some 12) (ta1 : Γ a1 = some 3) (hp : jgR 0 h a0 0 = some p) (hv : jgI 0 h a0 1 = some v) (hb : jalq h p v = some (some b)) (tb : Γ b = some 3) : jok (F_X0_remember_28 n a0 a1 h) (fun q => jW (jKd g) Γ q) := by
  have e1 : (1 : Int32).toInt = 1 := rfl
  have e12 : (12 : Int32).toInt = 12 := rfl
  unfold F_X0_remember_28
  refine jok_r hp (jok_r hv (jok_r hb ?_))
  dsimp only
  rw [t_cv w tb rfl]
  refine jok_b (S_X8_copyFrom hn hg w tb ta1) (fun h38 w38 => ?_)
  obtain ⟨v43, e43, l43⟩ := t_gI (k := 1) w38 ta0 rfl rfl
  have l43 : 0 ≤ v43.toInt ∧ v43.toInt ≤ 11 := l43
  have ea : (v43 + (1 : Int32)).toInt = v43.toInt + 1 := by rw [jadd (by omega) (by omega), e1]
  refine jok_r e43 ?_
  refine jok_le (fun _ => S_X0_remember_63 w38 ta0 (by decide) (by decide)) (fun d => ?_)
  exact jok_r e43 (S_X0_remember_63 w38 ta0 (by omega) (by omega))
theorem S_X0_remember {g : jGh} {Γ : Nat → Option Nat} {n a0 a1 : Nat} {h : jH} (hn : 6000 ≤ n) (hg : jgok g) (w : jW (jKd g) Γ h) (ta0 : Γ a0 = some 12) (ta1 : Γ a1 = some 3) : jok (F_X0_remember n a0 a1 h) (fun q => ∃ G2, jle Γ G2 ∧ jW (jKd g) G2 q) := by
  unfold F_X0_remember
  obtain ⟨p1, e1, t1⟩ := t_gR (k := 0) w ta0 rfl rfl
  obtain ⟨v5, e5, l5⟩ := t_gI (k := 1) w ta0 rfl rfl
  have l5 : 0 ≤ v5.toInt ∧ v5.toInt ≤ 11 := l5
  obtain ⟨o8, e8, t8⟩ := t_alq w t1 rfl (by decide) l5.1 (by omega)
  refine jok_r e1 (jok_r e5 (jok_r e8 ?_))
  cases o8 with
  | some p9 => exact jok_w (S_X0_remember_28 hn hg w ta0 ta1 e1 e5 e8 (t8 p9 rfl)) (fun q wq => ⟨Γ, jle_rfl, wq⟩)
  | none =>
    dsimp only
    refine jok_r e1 (jok_r e5 ?_)
    refine jok_r (show jnw h _ = some _ from rfl) ?_
    refine jok_b (t_rod w) (fun h24 w24 => ?_)
    obtain ⟨G2, hle, w24, tz, hs⟩ := w24
    have ta2 := hle.1 a0 12 ta0
    have t12 := hle.1 p1 11 t1
    have eo : ∀ k2 : Nat, jgf 0 h24 a0 k2 = jgf 0 h a0 k2 := fun k2 => by
      unfold jgf
      rw [hs a0 (w a0 12 ta0).1]
    refine jok_b (t_asq w24 t12 rfl (by decide) tz rfl l5.1 (by omega)) (fun h27 w27 => ?_)
    obtain ⟨w27, f27, b27⟩ := w27
    exact jok_w (S_X0_remember_28 hn hg w27 ta2 (hle.1 a1 3 ta1) (fR ((f27 0 a0 0).trans (eo 0)) e1) (fI ((f27 0 a0 1).trans (eo 1)) e5) b27 tz) (fun q wq => ⟨G2, hle, wq⟩)
theorem S_X0_takeBack_18 {g : jGh} {Γ : Nat → Option Nat} {n a0 a1 : Nat} {s0 : Int32} {h : jH} (hn : 6000 ≤ n) (hg : jgok g) (w : jW (jKd g) Γ h) (ta0 : Γ a0 = some 12) (ta1 : Γ a1 = some 3) (l0 : 0 ≤ s0.toInt) (l1 : s0.toInt ≤ 11) : jok (F_X0_takeBack_18 n a0 a1 s0 h) (fun q => jW (jKd g) Γ q.2 ∧ (q.1 = 0 ∨ q.1 = 1)) := by
  have ez : (0 : Int32).toInt = 0 := rfl
  have e1 : (1 : Int32).toInt = 1 := rfl
  unfold F_X0_takeBack_18
  obtain ⟨v20, e20, l20⟩ := t_gI (k := 2) w ta0 rfl rfl
  refine jok_r e20 (jok_eq (fun _ _ => jok_s ⟨w, Or.inl rfl⟩) (fun n20 => ?_))
  obtain ⟨p27, e27, t27⟩ := t_gR (k := 0) w ta0 rfl rfl
  obtain ⟨o31, e31, t31⟩ := t_alq w t27 rfl (by decide) l0 (by omega)
  refine jok_r e27 (jok_r e31 ?_)
  cases o31 with
  | none => exact jok_s ⟨w, Or.inl rfl⟩
  | some p32 =>
    dsimp only
    refine jok_r e27 (jok_r e31 ?_)
    dsimp only
    rw [t_cv w ta1 rfl]
    refine jok_b2 (S_X8_copyFrom hn hg w ta1 (t31 p32 rfl)) (fun h44 e44 w44 => ?_)
    have f44 := F0_X8_copyFrom e44
    refine jok_b (t_pI w44 ta0 rfl rfl ⟨l0, l1⟩) (fun h49 w49 => ?_)
    obtain ⟨w49, -, f49⟩ := w49
    have q54 := fI (f49 0 a0 2 (Or.inr (by decide))) (fI (f44 0 a0 2 (by decide) (by decide)) e20)
    refine jok_r q54 ?_
    have l20 : 0 ≤ v20.toInt ∧ v20.toInt ≤ 12 := l20
    rw [ez] at n20
    have es : (v20 - (1 : Int32)).toInt = v20.toInt - 1 := by rw [jsub (by omega) (by omega), e1]
    refine jok_b (t_pI w49 ta0 rfl rfl (by constructor <;> omega)) (fun h59 w59 => ?_)
    exact jok_s ⟨w59.1, Or.inr rfl⟩
theorem S_X0_takeBack {g : jGh} {Γ : Nat → Option Nat} {n a0 a1 : Nat} {h : jH} (hn : 6000 ≤ n) (hg : jgok g) (w : jW (jKd g) Γ h) (ta0 : Γ a0 = some 12) (ta1 : Γ a1 = some 3) : jok (F_X0_takeBack n a0 a1 h) (fun q => jW (jKd g) Γ q.2 ∧ (q.1 = 0 ∨ q.1 = 1)) := by
  have ez : (0 : Int32).toInt = 0 := rfl
  have eo : (1 : Int32).toInt = 1 := rfl
  unfold F_X0_takeBack
  obtain ⟨v1, e1, l1⟩ := t_gI (k := 1) w ta0 rfl rfl
  have l1 : 0 ≤ v1.toInt ∧ v1.toInt ≤ 11 := l1
  refine jok_r e1 (jok_le (fun _ => S_X0_takeBack_18 hn hg w ta0 ta1 (by decide) (by decide)) (fun d => ?_))
  refine jok_r e1 ?_
  rw [ez] at d
  have es : (v1 - (1 : Int32)).toInt = v1.toInt - 1 := by rw [jsub (by omega) (by omega), eo]
  exact S_X0_takeBack_18 hn hg w ta0 ta1 (by omega) (by omega)
theorem S_X11_undo {g : jGh} {Γ : Nat → Option Nat} {n a0 : Nat} {h : jH} (hn : 6000 ≤ n) (hg : jgok g) (w : jW (jKd g) Γ h) (ta0 : Γ a0 = some 19) : jok (F_X11_undo n a0 h) (fun q => jW (jKd g) Γ q.2) := by
  unfold F_X11_undo
  refine jok_b (t_gR w ta0 rfl rfl) (fun p1 t1 => ?_)
  refine jok_b (t_gR w ta0 rfl rfl) (fun p5 t5 => ?_)
  rw [t_cv w t1 rfl]
  refine jok_b (S_X0_takeBack hn hg w t1 t5) (fun q8 w8 => ?_)
  rw [if_pos w8.2]
  exact jok_s w8.1
/-! the image of the class: two fields that are null, or not, by the ghosts -/
abbrev jghF (g : jGh) (u v : Int32) : jGh := (g.1, g.2.1, g.2.2.1, g.2.2.2.1, g.2.2.2.2.1, g.2.2.2.2.2.1, u, v, g.2.2.2.2.2.2.2.2)
theorem jKd_F {g : jGh} {u v : Int32} {c : Nat} (hc : c ≠ 19) : jKd (jghF g u v) c = jKd g c := by
  unfold jKd
  split <;> first | rfl | exact absurd rfl hc
theorem t_k10 {g : jGh} {Γ : Nat → Option Nat} {h : jH} {a : Nat} (w : jW (jKd g) Γ h) (ha : Γ a = some 19) (h41 : ∀ b, Γ b ≠ some 41) : (g.2.2.2.2.2.2.1 = 0 ∧ jgQ 9 h a 10 = some none) ∨ (g.2.2.2.2.2.2.1 ≠ 0 ∧ ∃ b, jgQ 9 h a 10 = some (some b) ∧ Γ b = some 3) := by
  obtain ⟨v, e, hv⟩ := t_gf (k := 10) w ha rfl rfl
  by_cases q : g.2.2.2.2.2.2.1 = 0
  · left
    rw [if_pos q] at hv
    rcases hv with rfl | ⟨b, rfl, hb⟩
    · exact ⟨q, by unfold jgQ; rw [e]⟩
    · exact absurd hb (h41 b)
  · right
    rw [if_neg q] at hv
    obtain ⟨b, rfl, hb⟩ := hv
    exact ⟨q, b, by unfold jgQ; rw [e], hb⟩
theorem t_k11 {g : jGh} {Γ : Nat → Option Nat} {h : jH} {a : Nat} (w : jW (jKd g) Γ h) (ha : Γ a = some 19) (h41 : ∀ b, Γ b ≠ some 41) : (g.2.2.2.2.2.2.2.1 = 0 ∧ jgQ 9 h a 11 = some none) ∨ (g.2.2.2.2.2.2.2.1 ≠ 0 ∧ ∃ b, jgQ 9 h a 11 = some (some b) ∧ Γ b = some 8) := by
  obtain ⟨v, e, hv⟩ := t_gf (k := 11) w ha rfl rfl
  by_cases q : g.2.2.2.2.2.2.2.1 = 0
  · left
    rw [if_pos q] at hv
    rcases hv with rfl | ⟨b, rfl, hb⟩
    · exact ⟨q, by unfold jgQ; rw [e]⟩
    · exact absurd hb (h41 b)
  · right
    rw [if_neg q] at hv
    obtain ⟨b, rfl, hb⟩ := hv
    exact ⟨q, b, by unfold jgQ; rw [e], hb⟩
theorem t_p10 {g : jGh} {Γ : Nat → Option Nat} {h : jH} {a b : Nat} (w : jW (jKd g) Γ h) (hu : ∀ a b c, 9 ≤ c → Γ a = some c → Γ b = some c → a = b) (ha : Γ a = some 19) (hb : Γ b = some 3) : jok (jpf 9 h a 10 (.ref b)) (fun h1 => jW (jKd (jghF g 1 g.2.2.2.2.2.2.2.1)) Γ h1 ∧ jgf 9 h1 a 10 = some (.ref b) ∧ jfr h h1 a 10) := by
  obtain ⟨vs, e1, e2, e3⟩ := t_obj w ha rfl
  have hlt : 10 < vs.length := by rw [e2]; exact Nat.le_of_ble_eq_true rfl
  refine ⟨jup h a (.inl (9, vs.set 10 (.ref b))), ?_, ?_, ?_, jfr_up e1⟩
  · unfold jpf
    rw [e1]
    dsimp only
    rw [if_pos ⟨rfl, hlt⟩]
  · intro b9 c hb9
    refine ⟨(w b9 c hb9).1, ?_⟩
    show okE Γ (jKd (jghF g 1 g.2.2.2.2.2.2.2.1) c) (if b9 = a then some _ else h.2 b9)
    by_cases hq : b9 = a
    · subst hq
      cases ha.symm.trans hb9
      rw [if_pos rfl]
      refine ⟨_, rfl, by rw [List.length_set]; exact e2, fun j F9 hj => ?_⟩
      by_cases hq : j = 10
      · subst hq
        cases hj
        exact ⟨.ref b, by rw [List.getElem?_set_self hlt], by rw [if_neg (show ¬ (1 : Int32) = 0 by decide)]; exact ⟨b, rfl, hb⟩⟩
      · have hj2 : (match jKd g 19 with | .inr (.inr q) => q.2 | _ => [])[j]? = some F9 := by
          match j, hq, hj with
          | 0, _, hj => exact hj
          | 1, _, hj => exact hj
          | 2, _, hj => exact hj
          | 3, _, hj => exact hj
          | 4, _, hj => exact hj
          | 5, _, hj => exact hj
          | 6, _, hj => exact hj
          | 7, _, hj => exact hj
          | 8, _, hj => exact hj
          | 9, _, hj => exact hj
          | 11, _, hj => exact hj
          | 12, _, hj => exact hj
          | j + 13, _, hj => cases hj
        obtain ⟨v9, f1, f2⟩ := e3 j F9 hj2
        exact ⟨v9, by rw [List.getElem?_set_ne (Ne.symm hq)]; exact f1, f2⟩
    · rw [if_neg hq]
      have hc : c ≠ 19 := fun q => hq (hu b9 a 19 (by decide) (by rw [hb9, q]) ha)
      rw [jKd_F hc]
      exact (w b9 c hb9).2
  · unfold jgf
    show (match (if a = a then some _ else h.2 a) with | some (.inl o) => if o.1 = 9 then o.2[10]? else none | _ => none) = _
    rw [if_pos rfl]
    dsimp only
    rw [if_pos rfl, List.getElem?_set_self hlt]
theorem t_p11 {g : jGh} {Γ : Nat → Option Nat} {h : jH} {a b : Nat} (w : jW (jKd g) Γ h) (hu : ∀ a b c, 9 ≤ c → Γ a = some c → Γ b = some c → a = b) (ha : Γ a = some 19) (hb : Γ b = some 8) : jok (jpf 9 h a 11 (.ref b)) (fun h1 => jW (jKd (jghF g g.2.2.2.2.2.2.1 1)) Γ h1 ∧ jgf 9 h1 a 11 = some (.ref b) ∧ jfr h h1 a 11) := by
  obtain ⟨vs, e1, e2, e3⟩ := t_obj w ha rfl
  have hlt : 11 < vs.length := by rw [e2]; exact Nat.le_of_ble_eq_true rfl
  refine ⟨jup h a (.inl (9, vs.set 11 (.ref b))), ?_, ?_, ?_, jfr_up e1⟩
  · unfold jpf
    rw [e1]
    dsimp only
    rw [if_pos ⟨rfl, hlt⟩]
  · intro b9 c hb9
    refine ⟨(w b9 c hb9).1, ?_⟩
    show okE Γ (jKd (jghF g g.2.2.2.2.2.2.1 1) c) (if b9 = a then some _ else h.2 b9)
    by_cases hq : b9 = a
    · subst hq
      cases ha.symm.trans hb9
      rw [if_pos rfl]
      refine ⟨_, rfl, by rw [List.length_set]; exact e2, fun j F9 hj => ?_⟩
      by_cases hq : j = 11
      · subst hq
        cases hj
        exact ⟨.ref b, by rw [List.getElem?_set_self hlt], by rw [if_neg (show ¬ (1 : Int32) = 0 by decide)]; exact ⟨b, rfl, hb⟩⟩
      · have hj2 : (match jKd g 19 with | .inr (.inr q) => q.2 | _ => [])[j]? = some F9 := by
          match j, hq, hj with
          | 0, _, hj => exact hj
          | 1, _, hj => exact hj
          | 2, _, hj => exact hj
          | 3, _, hj => exact hj
          | 4, _, hj => exact hj
          | 5, _, hj => exact hj
          | 6, _, hj => exact hj
          | 7, _, hj => exact hj
          | 8, _, hj => exact hj
          | 9, _, hj => exact hj
          | 10, _, hj => exact hj
          | 12, _, hj => exact hj
          | j + 13, _, hj => cases hj
        obtain ⟨v9, f1, f2⟩ := e3 j F9 hj2
        exact ⟨v9, by rw [List.getElem?_set_ne (Ne.symm hq)]; exact f1, f2⟩
    · rw [if_neg hq]
      have hc : c ≠ 19 := fun q => hq (hu b9 a 19 (by decide) (by rw [hb9, q]) ha)
      rw [jKd_F hc]
      exact (w b9 c hb9).2
  · unfold jgf
    show (match (if a = a then some _ else h.2 a) with | some (.inl o) => if o.1 = 9 then o.2[11]? else none | _ => none) = _
    rw [if_pos rfl]
    dsimp only
    rw [if_pos rfl, List.getElem?_set_self hlt]
theorem S_X11_image_36 {g : jGh} {Γ : Nat → Option Nat} {n a0 p q : Nat} {h : jH} (hn : 6000 ≤ n) (hg : jgok g) (w : jW (jKd g) Γ h) (ta0 : Γ a0 = some 19) (e10 : jgQ 9 h a0 10 = some (some p)) (tp : Γ p = some 3) (e11 : jgQ 9 h a0 11 = some (some q)) (tq : Γ q = some 8) : jok (F_X11_image_36 n a0 h) (fun q => jW (jKd g) Γ q) := by
  unfold F_X11_image_36
  refine jok_r e10 ?_
  refine jok_b (t_gR w ta0 rfl rfl) (fun p41 t41 => ?_)
  dsimp only
  rw [t_cv w tp rfl]
  refine jok_b2 (S_X8_copyFrom hn hg w tp t41) (fun h44 e44 w44 => ?_)
  have f44 := F0_X8_copyFrom e44
  refine jok_r (fQ (f44 9 a0 11 (by decide) (by decide)) e11) ?_
  refine jok_b (t_gR w44 ta0 rfl rfl) (fun p52 t52 => ?_)
  dsimp only
  rw [t_cv w44 tq rfl]
  refine jok_b (S_X2_copyFrom hn hg w44 tq t52) (fun h55 w55 => ?_)
  exact jok_s w55
theorem S_X11_image_18 {g : jGh} {Γ : Nat → Option Nat} {n a0 p : Nat} {h : jH} (hn : 6000 ≤ n) (hg : jgok g) (w : jW (jKd g) Γ h) (ta0 : Γ a0 = some 19) (hu : ∀ a b c, 9 ≤ c → Γ a = some c → Γ b = some c → a = b) (h41 : ∀ b, Γ b ≠ some 41) (e10 : jgQ 9 h a0 10 = some (some p)) (tp : Γ p = some 3) : jok (F_X11_image_18 n a0 h) (fun q => ∃ (G2 : Nat → Option Nat) (v : Int32), jle Γ G2 ∧ v ≠ 0 ∧ jW (jKd (jghF g g.2.2.2.2.2.2.1 v)) G2 q) := by
  unfold F_X11_image_18
  rcases t_k11 w ta0 h41 with ⟨-, eo⟩ | ⟨z9, p22, eo, to⟩
  · refine jok_r eo ?_
    dsimp only
    refine jok_r (show jnw h _ = some _ from rfl) ?_
    refine jok_b (t_law w) (fun h30 w30 => ?_)
    obtain ⟨G2, hle, w30, tz, hs⟩ := w30
    have ta2 := hle.1 a0 19 ta0
    have hu2 : ∀ a b c, 9 ≤ c → G2 a = some c → G2 b = some c → a = b := fun a b c k p q => hu a b c k (hle.2 a c k p) (hle.2 b c k q)
    have eo2 : ∀ k2 : Nat, jgf 9 h30 a0 k2 = jgf 9 h a0 k2 := fun k2 => by
      unfold jgf
      rw [hs a0 (w a0 19 ta0).1]
    refine jok_b (t_p11 w30 hu2 ta2 tz) (fun h33 w33 => ?_)
    obtain ⟨w33, q33, f33⟩ := w33
    have e11 : jgQ 9 h33 a0 11 = some (some h.1) := by unfold jgQ; rw [q33]
    have e10b := fQ ((f33 9 a0 10 (Or.inr (by decide))).trans (eo2 10)) e10
    exact jok_w (S_X11_image_36 hn (show jgok (jghF g g.2.2.2.2.2.2.1 1) from hg) w33 ta2 e10b (hle.1 _ _ tp) e11 tz) (fun q wq => ⟨G2, 1, hle, by decide, wq⟩)
  · refine jok_r eo ?_
    dsimp only
    exact jok_w (S_X11_image_36 hn hg w ta0 e10 tp eo to) (fun q wq => ⟨Γ, g.2.2.2.2.2.2.2.1, jle_rfl, z9, wq⟩)
theorem S_X11_image {g : jGh} {Γ : Nat → Option Nat} {n a0 : Nat} {h : jH} (hn : 6000 ≤ n) (hg : jgok g) (w : jW (jKd g) Γ h) (ta0 : Γ a0 = some 19) (hu : ∀ a b c, 9 ≤ c → Γ a = some c → Γ b = some c → a = b) (h41 : ∀ b, Γ b ≠ some 41) : jok (F_X11_image n a0 h) (fun q => ∃ (G2 : Nat → Option Nat) (u v : Int32), jle Γ G2 ∧ u ≠ 0 ∧ v ≠ 0 ∧ jW (jKd (jghF g u v)) G2 q) := by
  unfold F_X11_image
  rcases t_k10 w ta0 h41 with ⟨-, eo⟩ | ⟨z9, p4, eo, to⟩
  · refine jok_r eo ?_
    dsimp only
    refine jok_r (show jnw h _ = some _ from rfl) ?_
    refine jok_b (t_rod w) (fun h12 w12 => ?_)
    obtain ⟨G2, hle, w12, tz, hs⟩ := w12
    have ta2 := hle.1 a0 19 ta0
    have hu2 : ∀ a b c, 9 ≤ c → G2 a = some c → G2 b = some c → a = b := fun a b c k p q => hu a b c k (hle.2 a c k p) (hle.2 b c k q)
    have h412 : ∀ b, G2 b ≠ some 41 := fun b q => h41 b (hle.2 b 41 (by decide) q)
    refine jok_b (t_p10 w12 hu2 ta2 tz) (fun h15 w15 => ?_)
    obtain ⟨w15, q15, f15⟩ := w15
    have e10 : jgQ 9 h15 a0 10 = some (some h.1) := by unfold jgQ; rw [q15]
    refine jok_w (S_X11_image_18 hn (show jgok (jghF g 1 g.2.2.2.2.2.2.2.1) from hg) w15 ta2 hu2 h412 e10 tz) (fun q wq => ?_)
    obtain ⟨G3, v, hle3, hv, wq⟩ := wq
    exact ⟨G3, 1, v, jle_tr hle hle3, by decide, hv, wq⟩
  · refine jok_r eo ?_
    dsimp only
    refine jok_w (S_X11_image_18 hn hg w ta0 hu h41 eo to) (fun q wq => ?_)
    obtain ⟨G3, v, hle3, hv, wq⟩ := wq
    exact ⟨G3, _, v, hle3, z9, hv, wq⟩
theorem S_X11_back {g : jGh} {Γ : Nat → Option Nat} {n a0 : Nat} {h : jH} (hn : 6000 ≤ n) (hg : jgok g) (w : jW (jKd g) Γ h) (ta0 : Γ a0 = some 19) (h41 : ∀ b, Γ b ≠ some 41) : jok (F_X11_back n a0 h) (fun q => jW (jKd g) Γ q.2 ∧ q.1 = (if g.2.2.2.2.2.2.1 = 0 ∨ g.2.2.2.2.2.2.2.1 = 0 then 0 else 1)) := by
  unfold F_X11_back
  rcases t_k10 w ta0 h41 with ⟨z1, e1⟩ | ⟨z1, p4, e1, t4⟩
  · refine jok_r e1 ?_
    exact jok_s ⟨w, by rw [if_pos (Or.inl z1)]⟩
  refine jok_r e1 ?_
  dsimp only
  rcases t_k11 w ta0 h41 with ⟨z8, e8⟩ | ⟨z8, p11, e8, t11⟩
  · refine jok_r e8 ?_
    exact jok_s ⟨w, by rw [if_pos (Or.inr z8)]⟩
  refine jok_r e8 ?_
  dsimp only
  refine jok_b (t_gR w ta0 rfl rfl) (fun p17 t17 => ?_)
  refine jok_r e1 ?_
  dsimp only
  rw [t_cv w t17 rfl]
  refine jok_b2 (S_X8_copyFrom hn hg w t17 t4) (fun h24 e24 w24 => ?_)
  have f24 := F0_X8_copyFrom e24
  refine jok_b (t_gR w24 ta0 rfl rfl) (fun p28 t28 => ?_)
  refine jok_r (fQ (f24 9 a0 11 (by decide) (by decide)) e8) ?_
  dsimp only
  rw [t_cv w24 t28 rfl]
  refine jok_b (S_X2_copyFrom hn hg w24 t28 t11) (fun h35 w35 => ?_)
  refine jok_b (t_gR w35 ta0 rfl rfl) (fun p39 t39 => ?_)
  rw [t_cv w35 t39 rfl]
  refine jok_b (S_X0_forget hn hg w35 t39) (fun h42 w42 => ?_)
  exact jok_s ⟨w42, by rw [if_neg (fun q => q.elim z1 z8)]⟩
end
section
set_option maxHeartbeats 1000000 in
theorem S_X11_pull {g : jGh} {Γ : Nat → Option Nat} {n : Nat} {a0 : Nat} {x1 : Int32} {x2 : Int32} {x3 : Int32} {h : jH} (hn : 6000 ≤ n) (hg : jgok g) (w : jW (jKd g) Γ h) (ta0 : Γ a0 = some 19) : jok (F_X11_pull n a0 x1 x2 x3 h) (fun q => ∃ Γ2, jle Γ Γ2 ∧ jW (jKd g) Γ2 q.2 ∧ jXok [2, 0] (fun v => True) q.1) := by
  unfold F_X11_pull
  try rw [t_cv w ta0 rfl]
  refine jok_b (S_X11_requireRing hn hg w ta0) (fun q2_1 wq2_1 => ?_)
  obtain ⟨wq2_1, pq2_1⟩ := wq2_1
  refine jok_t pq2_1 (fun k9 q9 => ⟨Γ, jle_rfl, ⟨wq2_1, jX_r (jsub9 q9 (by decide))⟩⟩) (fun r2_2 pr2_2 => ?_)
  have pr2_2_9 := pr2_2
  try dsimp only at pr2_2_9
  try rw [t_cv wq2_1 ta0 rfl]
  refine jok_b (S_X11_requireNumber hn hg wq2_1 ta0) (fun q10_3 wq10_3 => ?_)
  obtain ⟨wq10_3, pq10_3⟩ := wq10_3
  refine jok_t pq10_3 (fun k9 q9 => ⟨Γ, jle_rfl, ⟨wq10_3, jX_r (jsub9 q9 (by decide))⟩⟩) (fun r10_4 pr10_4 => ?_)
  have f5 : ((1 : Int32)).toInt = 1 := rfl
  have f6 : ((31 : Int32)).toInt = 31 := rfl
  have pr10_4_9 := pr10_4
  try dsimp only at pr10_4_9
  refine jok_b (t_gR wq10_3 ta0 rfl rfl) (fun p14_7 tp14_7 => ?_)
  refine jok_b (t_gR wq10_3 ta0 rfl rfl) (fun p18_8 tp18_8 => ?_)
  try rw [t_cv wq10_3 tp14_7 rfl]
  refine jok_b (S_X0_remember hn hg wq10_3 tp14_7 tp18_8) (fun h21_9 wh21_9 => ?_)
  obtain ⟨Γ10, leh21_9, wh21_9⟩ := wh21_9
  replace ta0 := leh21_9.1 _ _ ta0
  replace tp14_7 := leh21_9.1 _ _ tp14_7
  replace tp18_8 := leh21_9.1 _ _ tp18_8
  refine jok_b (t_gR wh21_9 ta0 rfl rfl) (fun p25_11 tp25_11 => ?_)
  try rw [t_cv wh21_9 tp25_11 rfl]
  refine jok_b (S_X8_move hn hg wh21_9 tp25_11 (by omega) (by omega) (by omega) (by omega)) (fun q31_12 wq31_12 => ?_)
  obtain ⟨wq31_12, pq31_12⟩ := wq31_12
  obtain ⟨lq31_12, uq31_12⟩ := pq31_12
  refine jok_b (t_gR wq31_12 ta0 rfl rfl) (fun p37_13 tp37_13 => ?_)
  refine jok_b (t_gR wq31_12 tp37_13 rfl rfl) (fun p40_14 tp40_14 => ?_)
  refine jok_b (t_gR wq31_12 ta0 rfl rfl) (fun p44_15 tp44_15 => ?_)
  try rw [t_cv wq31_12 tp40_14 rfl]
  refine jok_b (S_X5_add hn hg wq31_12 tp40_14 tp44_15 (by omega) (by omega)) (fun h51_16 wh51_16 => ?_)
  exact jok_s ⟨Γ10, leh21_9, ⟨wh51_16, jX_l trivial⟩⟩
set_option maxHeartbeats 1000000 in
theorem S_X11_free {g : jGh} {Γ : Nat → Option Nat} {n : Nat} {a0 : Nat} {x1 : Int32} {h : jH} (hn : 6000 ≤ n) (hg : jgok g) (w : jW (jKd g) Γ h) (ta0 : Γ a0 = some 19) : jok (F_X11_free n a0 x1 h) (fun q => ∃ Γ2, jle Γ Γ2 ∧ jW (jKd g) Γ2 q.2 ∧ jXok [2, 1] (fun v => True) q.1) := by
  unfold F_X11_free
  try rw [t_cv w ta0 rfl]
  refine jok_b (S_X11_requireRing hn hg w ta0) (fun q2_1 wq2_1 => ?_)
  obtain ⟨wq2_1, pq2_1⟩ := wq2_1
  refine jok_t pq2_1 (fun k9 q9 => ⟨Γ, jle_rfl, ⟨wq2_1, jX_r (jsub9 q9 (by decide))⟩⟩) (fun r2_2 pr2_2 => ?_)
  have pr2_2_9 := pr2_2
  try dsimp only at pr2_2_9
  refine jok_b (t_gR wq2_1 ta0 rfl rfl) (fun p6_3 tp6_3 => ?_)
  refine jok_b2 (t_gI wq2_1 tp6_3 rfl rfl) (fun v9_4 ev9_4 pv9_4 => ?_)
  refine jok_b (S_X11_bit hn hg wq2_1) (fun v13_5 pv13_5 => ?_)
  obtain ⟨lv13_5, uv13_5⟩ := pv13_5
  have f6 : ((0 : Int32)).toInt = 0 := rfl
  refine jok_eq (fun c7 d7 => ?_) (fun c7 => ?_)
  · exact jok_s ⟨Γ, jle_rfl, ⟨wq2_1, jX_r (by decide)⟩⟩
  · refine jok_b (t_gR wq2_1 ta0 rfl rfl) (fun p30_8 tp30_8 => ?_)
    refine jok_b (t_gR wq2_1 ta0 rfl rfl) (fun p34_9 tp34_9 => ?_)
    try rw [t_cv wq2_1 tp30_8 rfl]
    refine jok_b (S_X0_remember hn hg wq2_1 tp30_8 tp34_9) (fun h37_10 wh37_10 => ?_)
    obtain ⟨Γ11, leh37_10, wh37_10⟩ := wh37_10
    replace ta0 := leh37_10.1 _ _ ta0
    replace tp6_3 := leh37_10.1 _ _ tp6_3
    replace tp30_8 := leh37_10.1 _ _ tp30_8
    replace tp34_9 := leh37_10.1 _ _ tp34_9
    refine jok_b (t_gR wh37_10 ta0 rfl rfl) (fun p41_12 tp41_12 => ?_)
    refine jok_b (t_gR wh37_10 ta0 rfl rfl) (fun p45_13 tp45_13 => ?_)
    refine jok_b2 (t_gI wh37_10 tp45_13 rfl rfl) (fun v48_14 ev48_14 pv48_14 => ?_)
    refine jok_b (S_X11_withBit hn hg wh37_10) (fun v53_15 pv53_15 => ?_)
    refine jok_b (t_pI wh37_10 tp41_12 rfl rfl trivial) (fun h56_16 wh56_16 => ?_)
    obtain ⟨wh56_16, jh56_16, rh56_16⟩ := wh56_16
    refine jok_b (t_gR wh56_16 ta0 rfl rfl) (fun p60_17 tp60_17 => ?_)
    try rw [t_cv wh56_16 tp60_17 rfl]
    refine jok_b (S_X8_gap hn hg wh56_16 tp60_17) (fun v65_18 pv65_18 => ?_)
    exact jok_s ⟨Γ11, leh37_10, ⟨wh56_16, jX_l trivial⟩⟩
set_option maxHeartbeats 1000000 in
theorem S_X11_snag {g : jGh} {Γ : Nat → Option Nat} {n : Nat} {a0 : Nat} {x1 : Int32} {h : jH} (hn : 6000 ≤ n) (hg : jgok g) (w : jW (jKd g) Γ h) (ta0 : Γ a0 = some 19) : jok (F_X11_snag n a0 x1 h) (fun q => ∃ Γ2, jle Γ Γ2 ∧ jW (jKd g) Γ2 q.2 ∧ jXok [2, 1] (fun v => True) q.1) := by
  unfold F_X11_snag
  try rw [t_cv w ta0 rfl]
  refine jok_b (S_X11_requireRing hn hg w ta0) (fun q2_1 wq2_1 => ?_)
  obtain ⟨wq2_1, pq2_1⟩ := wq2_1
  refine jok_t pq2_1 (fun k9 q9 => ⟨Γ, jle_rfl, ⟨wq2_1, jX_r (jsub9 q9 (by decide))⟩⟩) (fun r2_2 pr2_2 => ?_)
  have pr2_2_9 := pr2_2
  try dsimp only at pr2_2_9
  refine jok_b (t_gR wq2_1 ta0 rfl rfl) (fun p7_3 tp7_3 => ?_)
  refine jok_b2 (t_gI wq2_1 tp7_3 rfl rfl) (fun v10_4 ev10_4 pv10_4 => ?_)
  obtain ⟨lv10_4, uv10_4⟩ := pv10_4
  have f5 : ((1 : Int32)).toInt = 1 := rfl
  have f6 : ((v10_4 - (1 : Int32))).toInt = (v10_4).toInt - ((1 : Int32)).toInt := jsub (by omega) (by omega)
  refine jok_eq (fun c7 d7 => ?_) (fun c7 => ?_)
  · exact jok_s ⟨Γ, jle_rfl, ⟨wq2_1, jX_r (by decide)⟩⟩
  · refine jok_b (t_gR wq2_1 ta0 rfl rfl) (fun p19_8 tp19_8 => ?_)
    refine jok_b2 (t_gI wq2_1 tp19_8 rfl rfl) (fun v22_9 ev22_9 pv22_9 => ?_)
    refine jok_b (S_X11_bit hn hg wq2_1) (fun v26_10 pv26_10 => ?_)
    obtain ⟨lv26_10, uv26_10⟩ := pv26_10
    refine jok_eq (fun c11 d11 => ?_) (fun c11 => ?_)
    · exact jok_s ⟨Γ, jle_rfl, ⟨wq2_1, jX_r (by decide)⟩⟩
    · refine jok_b (t_gR wq2_1 ta0 rfl rfl) (fun p44_12 tp44_12 => ?_)
      refine jok_b (t_gR wq2_1 ta0 rfl rfl) (fun p48_13 tp48_13 => ?_)
      try rw [t_cv wq2_1 tp44_12 rfl]
      refine jok_b (S_X0_remember hn hg wq2_1 tp44_12 tp48_13) (fun h51_14 wh51_14 => ?_)
      obtain ⟨Γ15, leh51_14, wh51_14⟩ := wh51_14
      replace ta0 := leh51_14.1 _ _ ta0
      replace tp7_3 := leh51_14.1 _ _ tp7_3
      replace tp19_8 := leh51_14.1 _ _ tp19_8
      replace tp44_12 := leh51_14.1 _ _ tp44_12
      replace tp48_13 := leh51_14.1 _ _ tp48_13
      refine jok_b (t_gR wh51_14 ta0 rfl rfl) (fun p55_16 tp55_16 => ?_)
      refine jok_b (t_gR wh51_14 ta0 rfl rfl) (fun p59_17 tp59_17 => ?_)
      refine jok_b2 (t_gI wh51_14 tp59_17 rfl rfl) (fun v62_18 ev62_18 pv62_18 => ?_)
      refine jok_b (S_X11_withBit hn hg wh51_14) (fun v67_19 pv67_19 => ?_)
      refine jok_b (t_pI wh51_14 tp55_16 rfl rfl trivial) (fun h70_20 wh70_20 => ?_)
      obtain ⟨wh70_20, jh70_20, rh70_20⟩ := wh70_20
      refine jok_b (t_gR wh70_20 ta0 rfl rfl) (fun p74_21 tp74_21 => ?_)
      try rw [t_cv wh70_20 tp74_21 rfl]
      refine jok_b (S_X8_gap hn hg wh70_20 tp74_21) (fun v79_22 pv79_22 => ?_)
      exact jok_s ⟨Γ15, leh51_14, ⟨wh70_20, jX_l trivial⟩⟩
set_option maxHeartbeats 1000000 in
theorem S_X11_hook {g : jGh} {Γ : Nat → Option Nat} {n : Nat} {a0 : Nat} {x1 : Int32} {x2 : Int32} {h : jH} (hn : 6000 ≤ n) (hg : jgok g) (w : jW (jKd g) Γ h) (ta0 : Γ a0 = some 19) : jok (F_X11_hook n a0 x1 x2 h) (fun q => ∃ Γ2, jle Γ Γ2 ∧ jW (jKd g) Γ2 q.2 ∧ jXok [2] (fun v => 0 ≤ v.toInt ∧ v.toInt ≤ 1) q.1) := by
  unfold F_X11_hook
  try rw [t_cv w ta0 rfl]
  refine jok_b (S_X11_requireRing hn hg w ta0) (fun q2_1 wq2_1 => ?_)
  obtain ⟨wq2_1, pq2_1⟩ := wq2_1
  refine jok_t pq2_1 (fun k9 q9 => ⟨Γ, jle_rfl, ⟨wq2_1, jX_r (jsub9 q9 (by decide))⟩⟩) (fun r2_2 pr2_2 => ?_)
  have pr2_2_9 := pr2_2
  try dsimp only at pr2_2_9
  refine jok_b (t_gR wq2_1 ta0 rfl rfl) (fun p6_3 tp6_3 => ?_)
  refine jok_b (t_gR wq2_1 ta0 rfl rfl) (fun p10_4 tp10_4 => ?_)
  try rw [t_cv wq2_1 tp6_3 rfl]
  refine jok_b (S_X0_remember hn hg wq2_1 tp6_3 tp10_4) (fun h13_5 wh13_5 => ?_)
  obtain ⟨Γ6, leh13_5, wh13_5⟩ := wh13_5
  replace ta0 := leh13_5.1 _ _ ta0
  replace tp6_3 := leh13_5.1 _ _ tp6_3
  replace tp10_4 := leh13_5.1 _ _ tp10_4
  refine jok_b (t_gR wh13_5 ta0 rfl rfl) (fun p17_7 tp17_7 => ?_)
  refine jok_b2 (t_gI wh13_5 tp17_7 rfl rfl) (fun v20_8 ev20_8 pv20_8 => ?_)
  refine jok_b (t_gR wh13_5 ta0 rfl rfl) (fun p25_9 tp25_9 => ?_)
  refine jok_b (S_X11_withBit hn hg wh13_5) (fun v31_10 pv31_10 => ?_)
  refine jok_b (t_pI wh13_5 tp25_9 rfl rfl trivial) (fun h34_11 wh34_11 => ?_)
  obtain ⟨wh34_11, jh34_11, rh34_11⟩ := wh34_11
  refine jok_b (t_gR wh34_11 ta0 rfl rfl) (fun p38_12 tp38_12 => ?_)
  refine jok_b2 (t_gI wh34_11 tp38_12 rfl rfl) (fun v41_13 ev41_13 pv41_13 => ?_)
  refine jok_eq (fun c14 d14 => ?_) (fun c14 => ?_)
  · have f15 : ((0 : Int32)).toInt = 0 := rfl
    exact jok_s ⟨Γ6, leh13_5, ⟨wh34_11, jX_l (show jI 0 1 (0 : Int32) from ⟨by omega, by omega⟩)⟩⟩
  · have f16 : ((1 : Int32)).toInt = 1 := rfl
    exact jok_s ⟨Γ6, leh13_5, ⟨wh34_11, jX_l (show jI 0 1 (1 : Int32) from ⟨by omega, by omega⟩)⟩⟩
set_option maxHeartbeats 1000000 in
theorem S_X11_sew {g : jGh} {Γ : Nat → Option Nat} {n : Nat} {a0 : Nat} {x1 : Int32} {x2 : Int32} {h : jH} (hn : 6000 ≤ n) (hg : jgok g) (w : jW (jKd g) Γ h) (ta0 : Γ a0 = some 19) : jok (F_X11_sew n a0 x1 x2 h) (fun q => ∃ Γ2, jle Γ Γ2 ∧ jW (jKd g) Γ2 q.2 ∧ jXok [2, 0, 1] (fun v => True) q.1) := by
  unfold F_X11_sew
  try rw [t_cv w ta0 rfl]
  refine jok_b (S_X11_requirePlace hn hg w ta0) (fun q2_1 wq2_1 => ?_)
  obtain ⟨wq2_1, pq2_1⟩ := wq2_1
  refine jok_t pq2_1 (fun k9 q9 => ⟨Γ, jle_rfl, ⟨wq2_1, jX_r (jsub9 q9 (by decide))⟩⟩) (fun r2_2 pr2_2 => ?_)
  try rw [t_cv wq2_1 ta0 rfl]
  refine jok_b (S_X11_requireNumber hn hg wq2_1 ta0) (fun q10_3 wq10_3 => ?_)
  obtain ⟨wq10_3, pq10_3⟩ := wq10_3
  refine jok_t pq10_3 (fun k9 q9 => ⟨Γ, jle_rfl, ⟨wq10_3, jX_r (jsub9 q9 (by decide))⟩⟩) (fun r10_4 pr10_4 => ?_)
  have f5 : ((1 : Int32)).toInt = 1 := rfl
  have f6 : ((9 : Int32)).toInt = 9 := rfl
  have pr10_4_9 := pr10_4
  try dsimp only at pr10_4_9
  refine jok_b (t_gR wq10_3 ta0 rfl rfl) (fun p14_7 tp14_7 => ?_)
  refine jok_b2 (t_gI wq10_3 tp14_7 rfl rfl) (fun v17_8 ev17_8 pv17_8 => ?_)
  obtain ⟨lv17_8, uv17_8⟩ := pv17_8
  have f9 : ((8 : Int32)).toInt = 8 := rfl
  refine jok_le (fun c10 => ?_) (fun c10 => ?_)
  · exact jok_s ⟨Γ, jle_rfl, ⟨wq10_3, jX_r (by decide)⟩⟩
  · refine jok_b (t_gR wq10_3 ta0 rfl rfl) (fun p27_11 tp27_11 => ?_)
    try rw [t_cv wq10_3 tp27_11 rfl]
    refine jok_b (S_X8_nearestNew hn hg wq10_3 tp27_11) (fun v30_12 pv30_12 => ?_)
    refine jok_lt (fun c13 => ?_) (fun c13 => ?_)
    · exact jok_s ⟨Γ, jle_rfl, ⟨wq10_3, jX_r (by decide)⟩⟩
    · refine jok_b (t_gR wq10_3 ta0 rfl rfl) (fun p38_14 tp38_14 => ?_)
      try rw [t_cv wq10_3 tp38_14 rfl]
      refine jok_b (S_X8_farthestNew hn hg wq10_3 tp38_14) (fun v41_15 pv41_15 => ?_)
      refine jok_le (fun c16 => ?_) (fun c16 => ?_)
      · refine jok_b (t_gR wq10_3 ta0 rfl rfl) (fun p58_17 tp58_17 => ?_)
        refine jok_b (t_gR wq10_3 ta0 rfl rfl) (fun p62_18 tp62_18 => ?_)
        try rw [t_cv wq10_3 tp58_17 rfl]
        refine jok_b (S_X0_remember hn hg wq10_3 tp58_17 tp62_18) (fun h65_19 wh65_19 => ?_)
        obtain ⟨Γ20, leh65_19, wh65_19⟩ := wh65_19
        replace ta0 := leh65_19.1 _ _ ta0
        replace tp14_7 := leh65_19.1 _ _ tp14_7
        replace tp27_11 := leh65_19.1 _ _ tp27_11
        replace tp38_14 := leh65_19.1 _ _ tp38_14
        replace tp58_17 := leh65_19.1 _ _ tp58_17
        replace tp62_18 := leh65_19.1 _ _ tp62_18
        refine jok_b (t_gR wh65_19 ta0 rfl rfl) (fun p69_21 tp69_21 => ?_)
        try rw [t_cv wh65_19 tp69_21 rfl]
        refine jok_b (S_X8_add hn hg wh65_19 tp69_21) (fun h74_22 wh74_22 => ?_)
        refine jok_b (t_gR wh74_22 ta0 rfl rfl) (fun p78_23 tp78_23 => ?_)
        refine jok_b2 (t_gI wh74_22 tp78_23 rfl rfl) (fun v81_24 ev81_24 pv81_24 => ?_)
        obtain ⟨lv81_24, uv81_24⟩ := pv81_24
        exact jok_s ⟨Γ20, leh65_19, ⟨wh74_22, jX_l trivial⟩⟩
      · exact jok_s ⟨Γ, jle_rfl, ⟨wq10_3, jX_r (by decide)⟩⟩
set_option maxHeartbeats 1000000 in
theorem S_X11_let {g : jGh} {Γ : Nat → Option Nat} {n : Nat} {a0 : Nat} {x1 : Int32} {x2 : Int32} {h : jH} (hn : 6000 ≤ n) (hg : jgok g) (w : jW (jKd g) Γ h) (ta0 : Γ a0 = some 19) : jok (F_X11_let n a0 x1 x2 h) (fun q => ∃ Γ2, jle Γ Γ2 ∧ jW (jKd g) Γ2 q.2 ∧ jXok [2, 0] (fun v => True) q.1) := by
  unfold F_X11_let
  try rw [t_cv w ta0 rfl]
  refine jok_b (S_X11_requireRing hn hg w ta0) (fun q2_1 wq2_1 => ?_)
  obtain ⟨wq2_1, pq2_1⟩ := wq2_1
  refine jok_t pq2_1 (fun k9 q9 => ⟨Γ, jle_rfl, ⟨wq2_1, jX_r (jsub9 q9 (by decide))⟩⟩) (fun r2_2 pr2_2 => ?_)
  have pr2_2_9 := pr2_2
  try dsimp only at pr2_2_9
  try rw [t_cv wq2_1 ta0 rfl]
  refine jok_b (S_X11_requireNumber hn hg wq2_1 ta0) (fun q10_3 wq10_3 => ?_)
  obtain ⟨wq10_3, pq10_3⟩ := wq10_3
  refine jok_t pq10_3 (fun k9 q9 => ⟨Γ, jle_rfl, ⟨wq10_3, jX_r (jsub9 q9 (by decide))⟩⟩) (fun r10_4 pr10_4 => ?_)
  have f5 : ((0 : Int32)).toInt = 0 := rfl
  have f6 : ((9 : Int32)).toInt = 9 := rfl
  have pr10_4_9 := pr10_4
  try dsimp only at pr10_4_9
  refine jok_b (t_gR wq10_3 ta0 rfl rfl) (fun p14_7 tp14_7 => ?_)
  refine jok_b (t_gR wq10_3 ta0 rfl rfl) (fun p18_8 tp18_8 => ?_)
  try rw [t_cv wq10_3 tp14_7 rfl]
  refine jok_b (S_X0_remember hn hg wq10_3 tp14_7 tp18_8) (fun h21_9 wh21_9 => ?_)
  obtain ⟨Γ10, leh21_9, wh21_9⟩ := wh21_9
  replace ta0 := leh21_9.1 _ _ ta0
  replace tp14_7 := leh21_9.1 _ _ tp14_7
  replace tp18_8 := leh21_9.1 _ _ tp18_8
  refine jok_b (t_gR wh21_9 ta0 rfl rfl) (fun p25_11 tp25_11 => ?_)
  refine jok_b (t_gR wh21_9 tp25_11 rfl rfl) (fun p28_12 tp28_12 => ?_)
  refine jok_b (t_al wh21_9 tp28_12 rfl (by omega) (by omega)) (fun v32_13 pv32_13 => ?_)
  refine jok_b (t_gR wh21_9 ta0 rfl rfl) (fun p35_14 tp35_14 => ?_)
  refine jok_b (t_gR wh21_9 tp35_14 rfl rfl) (fun p38_15 tp38_15 => ?_)
  refine jok_b (t_as wh21_9 tp38_15 rfl (by omega) (by omega) trivial (fun q => by cases q)) (fun h43_16 wh43_16 => ?_)
  obtain ⟨wh43_16, rh43_16⟩ := wh43_16
  exact jok_s ⟨Γ10, leh21_9, ⟨wh43_16, jX_l trivial⟩⟩
set_option maxHeartbeats 1000000 in
theorem S_X11_chair {g : jGh} {Γ : Nat → Option Nat} {n : Nat} {a0 : Nat} {x1 : Int32} {x2 : Int32} {h : jH} (hn : 6000 ≤ n) (hg : jgok g) (w : jW (jKd g) Γ h) (ta0 : Γ a0 = some 19) : jok (F_X11_chair n a0 x1 x2 h) (fun q => ∃ Γ2, jle Γ Γ2 ∧ jW (jKd g) Γ2 q.2 ∧ jXok [2] (fun v => 0 ≤ v.toInt ∧ v.toInt ≤ 1) q.1) := by
  unfold F_X11_chair
  try rw [t_cv w ta0 rfl]
  refine jok_b (S_X11_requirePlace hn hg w ta0) (fun q2_1 wq2_1 => ?_)
  obtain ⟨wq2_1, pq2_1⟩ := wq2_1
  refine jok_t pq2_1 (fun k9 q9 => ⟨Γ, jle_rfl, ⟨wq2_1, jX_r (jsub9 q9 (by decide))⟩⟩) (fun r2_2 pr2_2 => ?_)
  refine jok_b (t_gR wq2_1 ta0 rfl rfl) (fun p6_3 tp6_3 => ?_)
  refine jok_b (t_gR wq2_1 ta0 rfl rfl) (fun p10_4 tp10_4 => ?_)
  try rw [t_cv wq2_1 tp6_3 rfl]
  refine jok_b (S_X0_remember hn hg wq2_1 tp6_3 tp10_4) (fun h13_5 wh13_5 => ?_)
  obtain ⟨Γ6, leh13_5, wh13_5⟩ := wh13_5
  replace ta0 := leh13_5.1 _ _ ta0
  replace tp6_3 := leh13_5.1 _ _ tp6_3
  replace tp10_4 := leh13_5.1 _ _ tp10_4
  refine jok_b (t_gR wh13_5 ta0 rfl rfl) (fun p17_7 tp17_7 => ?_)
  refine jok_b2 (t_gI wh13_5 tp17_7 rfl rfl) (fun v20_8 ev20_8 pv20_8 => ?_)
  refine jok_b (t_gR wh13_5 ta0 rfl rfl) (fun p25_9 tp25_9 => ?_)
  refine jok_b (S_X11_withBit hn hg wh13_5) (fun v31_10 pv31_10 => ?_)
  refine jok_b (t_pI wh13_5 tp25_9 rfl rfl trivial) (fun h34_11 wh34_11 => ?_)
  obtain ⟨wh34_11, jh34_11, rh34_11⟩ := wh34_11
  refine jok_b (t_gR wh34_11 ta0 rfl rfl) (fun p38_12 tp38_12 => ?_)
  refine jok_b2 (t_gI wh34_11 tp38_12 rfl rfl) (fun v41_13 ev41_13 pv41_13 => ?_)
  refine jok_eq (fun c14 d14 => ?_) (fun c14 => ?_)
  · have f15 : ((0 : Int32)).toInt = 0 := rfl
    exact jok_s ⟨Γ6, leh13_5, ⟨wh34_11, jX_l (show jI 0 1 (0 : Int32) from ⟨by omega, by omega⟩)⟩⟩
  · have f16 : ((1 : Int32)).toInt = 1 := rfl
    exact jok_s ⟨Γ6, leh13_5, ⟨wh34_11, jX_l (show jI 0 1 (1 : Int32) from ⟨by omega, by omega⟩)⟩⟩
set_option maxHeartbeats 1000000 in
theorem S_X11_hours {g : jGh} {Γ : Nat → Option Nat} {n : Nat} {a0 : Nat} {x1 : Int32} {h : jH} (hn : 6000 ≤ n) (hg : jgok g) (w : jW (jKd g) Γ h) (ta0 : Γ a0 = some 19) : jok (F_X11_hours n a0 x1 h) (fun q => ∃ Γ2, jle Γ Γ2 ∧ jW (jKd g) Γ2 q.2 ∧ jXok [0] (fun v => True) q.1) := by
  unfold F_X11_hours
  try rw [t_cv w ta0 rfl]
  refine jok_b (S_X11_requireNumber hn hg w ta0) (fun q5_1 wq5_1 => ?_)
  obtain ⟨wq5_1, pq5_1⟩ := wq5_1
  refine jok_t pq5_1 (fun k9 q9 => ⟨Γ, jle_rfl, ⟨wq5_1, jX_r (jsub9 q9 (by decide))⟩⟩) (fun r5_2 pr5_2 => ?_)
  have f3 : ((1 : Int32)).toInt = 1 := rfl
  have f4 : ((80 : Int32)).toInt = 80 := rfl
  have pr5_2_9 := pr5_2
  try dsimp only at pr5_2_9
  refine jok_b (t_gR wq5_1 ta0 rfl rfl) (fun p9_5 tp9_5 => ?_)
  refine jok_b (t_gR wq5_1 ta0 rfl rfl) (fun p13_6 tp13_6 => ?_)
  try rw [t_cv wq5_1 tp9_5 rfl]
  refine jok_b (S_X0_remember hn hg wq5_1 tp9_5 tp13_6) (fun h16_7 wh16_7 => ?_)
  obtain ⟨Γ8, leh16_7, wh16_7⟩ := wh16_7
  replace ta0 := leh16_7.1 _ _ ta0
  replace tp9_5 := leh16_7.1 _ _ tp9_5
  replace tp13_6 := leh16_7.1 _ _ tp13_6
  refine jok_b (t_gR wh16_7 ta0 rfl rfl) (fun p20_9 tp20_9 => ?_)
  refine jok_b (t_gR wh16_7 ta0 rfl rfl) (fun p24_10 tp24_10 => ?_)
  try rw [t_cv wh16_7 tp20_9 rfl]
  refine jok_b (S_X1_run hn hg wh16_7 tp20_9 tp24_10 (by omega) (by omega)) (fun q28_11 wq28_11 => ?_)
  obtain ⟨wq28_11, pq28_11⟩ := wq28_11
  exact jok_s ⟨Γ8, leh16_7, ⟨wq28_11, jX_l trivial⟩⟩
end
section
/-! the reference: the tape's length anew -/
theorem jKd_L2 {g : jGh} {x : Int} {c : Nat} (hc : c ≠ 20) : jKd (g.1, g.2.1, x, g.2.2.2) c = jKd g c := by
  unfold jKd
  split <;> first | rfl | exact absurd rfl hc
theorem t_pL2 {g : jGh} {Γ : Nat → Option Nat} {h : jH} {a : Nat} {x : Int32} (w : jW (jKd g) Γ h) (hu : ∀ a b c, 9 ≤ c → Γ a = some c → Γ b = some c → a = b) (ha : Γ a = some 20) : jok (jpf 10 h a 9 (.int x)) (fun h1 => jW (jKd (g.1, g.2.1, x.toInt, g.2.2.2)) Γ h1 ∧ jgf 10 h1 a 9 = some (.int x) ∧ jfr h h1 a 9) := by
  obtain ⟨vs, e1, e2, e3⟩ := t_obj w ha rfl
  have hlt : 9 < vs.length := by rw [e2]; exact Nat.le_of_ble_eq_true rfl
  refine ⟨jup h a (.inl (10, vs.set 9 (.int x))), ?_, ?_, ?_, jfr_up e1⟩
  · unfold jpf
    rw [e1]
    dsimp only
    rw [if_pos ⟨rfl, hlt⟩]
  · intro b c hb
    refine ⟨(w b c hb).1, ?_⟩
    show okE Γ (jKd (g.1, g.2.1, x.toInt, g.2.2.2) c) (if b = a then some _ else h.2 b)
    by_cases hq : b = a
    · subst hq
      cases ha.symm.trans hb
      rw [if_pos rfl]
      refine ⟨_, rfl, by rw [List.length_set]; exact e2, fun j F9 hj => ?_⟩
      by_cases hq : j = 9
      · subst hq
        cases hj
        exact ⟨.int x, by rw [List.getElem?_set_self hlt], x, rfl, rfl⟩
      · have hj2 : (match jKd g 20 with | .inr (.inr q) => q.2 | _ => [])[j]? = some F9 := by
          match j, hq, hj with
          | 0, _, hj => exact hj
          | 1, _, hj => exact hj
          | 2, _, hj => exact hj
          | 3, _, hj => exact hj
          | 4, _, hj => exact hj
          | 5, _, hj => exact hj
          | 6, _, hj => exact hj
          | 7, _, hj => exact hj
          | 8, _, hj => exact hj
          | 10, _, hj => exact hj
          | 11, _, hj => exact hj
          | 12, _, hj => exact hj
          | 13, _, hj => exact hj
          | 14, _, hj => exact hj
          | 15, _, hj => exact hj
          | 16, _, hj => exact hj
          | 17, _, hj => exact hj
          | 18, _, hj => exact hj
          | 19, _, hj => exact hj
          | 20, _, hj => exact hj
          | 21, _, hj => exact hj
          | j + 22, _, hj => cases hj
        obtain ⟨v9, f1, f2⟩ := e3 j F9 hj2
        exact ⟨v9, by rw [List.getElem?_set_ne (Ne.symm hq)]; exact f1, f2⟩
    · rw [if_neg hq]
      have hc : c ≠ 20 := fun q => hq (hu b a 20 (by decide) (by rw [hb, q]) ha)
      rw [jKd_L2 hc]
      exact (w b c hb).2
  · unfold jgf
    show (match (if a = a then some _ else h.2 a) with | some (.inl o) => if o.1 = 10 then o.2[9]? else none | _ => none) = _
    rw [if_pos rfl]
    dsimp only
    rw [if_pos rfl, List.getElem?_set_self hlt]
theorem S_X12_uses {g : jGh} {Γ : Nat → Option Nat} {n a0 : Nat} {h : jH} (hg : jgok g) (w : jW (jKd g) Γ h) (ta0 : Γ a0 = some 20) (hu : ∀ a b c, 9 ≤ c → Γ a = some c → Γ b = some c → a = b) : jok (F_X12_uses n a0 h) (fun q => jW (jKd (g.1, g.2.1, (0 : Int32).toInt, g.2.2.2)) Γ q) := by
  obtain ⟨-, q0, q4, -⟩ := id hg
  unfold F_X12_uses
  refine jok_b (t_pI w ta0 rfl rfl trivial) (fun h2 w2 => ?_)
  obtain ⟨w2, -, -⟩ := w2
  refine jok_b (t_gI w2 ta0 rfl rfl) (fun v7 l7 => ?_)
  have l7 : v7.toInt = g.2.2.1 := l7
  refine jok_b (t_pI w2 ta0 rfl rfl (by constructor <;> omega)) (fun h10 w10 => ?_)
  obtain ⟨w10, -, -⟩ := w10
  refine jok_b (t_pL2 w10 hu ta0) (fun h15 w15 => ?_)
  obtain ⟨w15, -, -⟩ := w15
  refine jok_b (t_pI w15 ta0 rfl rfl (by constructor <;> decide)) (fun h20 w20 => ?_)
  exact jok_s w20.1
theorem S_X12_end {g : jGh} {Γ : Nat → Option Nat} {n a0 : Nat} {x1 : Int32} {h : jH} (w : jW (jKd g) Γ h) (ta0 : Γ a0 = some 20) (hu : ∀ a b c, 9 ≤ c → Γ a = some c → Γ b = some c → a = b) : jok (F_X12_end n a0 x1 h) (fun q => jW (jKd (g.1, g.2.1, if 0 ≤ x1.toInt ∧ x1.toInt ≤ g.2.2.1 then x1.toInt else g.2.2.1, g.2.2.2)) Γ q.2 ∧ q.1 = (if 0 ≤ x1.toInt ∧ x1.toInt ≤ g.2.2.1 then 1 else 0)) := by
  have ez : (0 : Int32).toInt = 0 := rfl
  unfold F_X12_end
  refine jok_b (t_pI w ta0 rfl rfl trivial) (fun h2 w2 => ?_)
  obtain ⟨w2, -, -⟩ := w2
  refine jok_lt (fun c => ?_) (fun c => ?_)
  · rw [if_neg (by omega), if_neg (by omega)]
    exact jok_s ⟨w2, rfl⟩
  refine jok_b (t_gI w2 ta0 rfl rfl) (fun v11 l11 => ?_)
  have l11 : v11.toInt = g.2.2.1 := l11
  refine jok_le (fun d => ?_) (fun d => ?_)
  · rw [if_pos (by omega), if_pos (by omega)]
    refine jok_b (t_pL2 w2 hu ta0) (fun h21 w21 => ?_)
    exact jok_s ⟨w21.1, rfl⟩
  · rw [if_neg (by omega), if_neg (by omega)]
    exact jok_s ⟨w2, rfl⟩
theorem jbyte (x : Int32) : jI (-128) 127 (jnar 1 (x.toInt8.toInt32)) := by
  have h : ∀ y : Int8, jI (-128) 127 y.toInt32 := fun y => by
    have e : y.toInt32.toInt = y.toInt := Int8.toInt_toInt32 y
    have h1 := Int8.le_toInt y
    have h2 := Int8.toInt_le y
    exact ⟨by rw [e]; exact h1, by rw [e]; exact h2⟩
  exact h _
theorem S_X12_feed_60 {Γ : Nat → Option Nat} {n : Nat} (hn : 6000 ≤ n) (hu : ∀ a b c, 9 ≤ c → Γ a = some c → Γ b = some c → a = b) : ∀ (k : Nat) {g : jGh} {a0 : Nat} {x6 : Int32} {h : jH}, jW (jKd g) Γ h → Γ a0 = some 20 → 0 ≤ g.2.2.1 → g.2.2.1 ≤ 380 → 0 ≤ x6.toInt → x6.toInt ≤ 20 → 20 - x6.toInt < k → jok (F_X12_feed_60 n k a0 x6 h) (fun q => jW (jKd (g.1, g.2.1, g.2.2.1 + 20, g.2.2.2)) Γ q.2 ∧ q.1.toInt = g.2.2.1 + 20)
  | 0, g, a0, x6, h, w, ta, h0, h4, l0, l1, hk => by omega
  | k + 1, g, a0, x6, h, w, ta, h0, h4, l0, l1, hk => by
    show jok (F_X12_feed_60_b n (F_X12_feed_60 n k) a0 x6 h) _
    unfold F_X12_feed_60_b
    have e20 : (20 : Int32).toInt = 20 := rfl
    have e4 : (4 : Int32).toInt = 4 := rfl
    have e1 : (1 : Int32).toInt = 1 := rfl
    refine jok_le (fun c => ?_) (fun c => ?_)
    · refine jok_b (t_gI w ta rfl rfl) (fun v108 l108 => ?_)
      have l108 : v108.toInt = g.2.2.1 := l108
      refine jok_b (t_pL2 w hu ta) (fun h114 w114 => ?_)
      obtain ⟨w114, -, -⟩ := w114
      have ea : (v108 + (20 : Int32)).toInt = g.2.2.1 + 20 := by rw [jadd (by omega) (by omega), l108, e20]
      rw [ea] at w114
      refine jok_b (t_gI w114 ta rfl rfl) (fun v118 l118 => ?_)
      exact jok_s ⟨w114, l118⟩
    · refine jok_b (t_gR w ta rfl rfl) (fun p68 t68 => ?_)
      refine jok_b (t_gI w ta rfl rfl) (fun v72 l72 => ?_)
      have l72 : v72.toInt = g.2.2.1 := l72
      refine jok_b (t_gR w ta rfl rfl) (fun p79 t79 => ?_)
      have ed : (x6 / (4 : Int32)).toInt = x6.toInt / 4 := jdivL l0 e4 (by decide)
      refine jok_b (t_al w t79 rfl (by omega) (by omega)) (fun v86 l86 => ?_)
      have ea : (v72 + x6).toInt = v72.toInt + x6.toInt := jadd (by omega) (by omega)
      refine jok_b (t_as w t68 rfl (by omega) (by omega) ?_ (fun q => by cases q)) (fun h99 w99 => ?_)
      · exact jbyte _
      obtain ⟨w99, -⟩ := w99
      have es : (x6 + (1 : Int32)).toInt = x6.toInt + 1 := by rw [jadd (by omega) (by omega), e1]
      exact S_X12_feed_60 hn hu k w99 ta h0 h4 (by omega) (by omega) (by omega)
theorem S_X12_feed {g : jGh} {Γ : Nat → Option Nat} {n a0 : Nat} {x1 x2 x3 x4 x5 : Int32} {h : jH} (hn : 6000 ≤ n) (hg : jgok g) (w : jW (jKd g) Γ h) (ta0 : Γ a0 = some 20) (hu : ∀ a b c, 9 ≤ c → Γ a = some c → Γ b = some c → a = b) : jok (F_X12_feed n a0 x1 x2 x3 x4 x5 h) (fun q => jW (jKd (g.1, g.2.1, if 380 < g.2.2.1 then g.2.2.1 else g.2.2.1 + 20, g.2.2.2)) Γ q.2 ∧ q.1.toInt = (if 380 < g.2.2.1 then -1 else g.2.2.1 + 20)) := by
  obtain ⟨-, q0, q4, -⟩ := id hg
  have e400 : (400 : Int32).toInt = 400 := rfl
  have e20 : (20 : Int32).toInt = 20 := rfl
  unfold F_X12_feed
  refine jok_b (t_pI w ta0 rfl rfl trivial) (fun h2 w2 => ?_)
  obtain ⟨w2, -, -⟩ := w2
  refine jok_b (t_gI w2 ta0 rfl rfl) (fun v6 l6 => ?_)
  have l6 : v6.toInt = g.2.2.1 := l6
  have ea : (v6 + (20 : Int32)).toInt = v6.toInt + 20 := by rw [jadd (by omega) (by omega), e20]
  refine jok_le (fun c => ?_) (fun c => ?_)
  · rw [if_neg (by omega), if_neg (by omega)]
    refine jok_b (t_gR w2 ta0 rfl rfl) (fun p21 t21 => ?_)
    refine jok_b (t_as w2 t21 rfl (by decide) (by decide) trivial (fun q => by cases q)) (fun h26 w26 => ?_)
    obtain ⟨w26, -⟩ := w26
    refine jok_b (t_gR w26 ta0 rfl rfl) (fun p28 t28 => ?_)
    refine jok_b (t_as w26 t28 rfl (by decide) (by decide) trivial (fun q => by cases q)) (fun h33 w33 => ?_)
    obtain ⟨w33, -⟩ := w33
    refine jok_b (t_gR w33 ta0 rfl rfl) (fun p35 t35 => ?_)
    refine jok_b (t_as w33 t35 rfl (by decide) (by decide) trivial (fun q => by cases q)) (fun h40 w40 => ?_)
    obtain ⟨w40, -⟩ := w40
    refine jok_b (t_gR w40 ta0 rfl rfl) (fun p42 t42 => ?_)
    refine jok_b (t_as w40 t42 rfl (by decide) (by decide) trivial (fun q => by cases q)) (fun h48 w48 => ?_)
    obtain ⟨w48, -⟩ := w48
    refine jok_b (t_gR w48 ta0 rfl rfl) (fun p50 t50 => ?_)
    refine jok_b (t_as w48 t50 rfl (by decide) (by decide) trivial (fun q => by cases q)) (fun h56 w56 => ?_)
    obtain ⟨w56, -⟩ := w56
    exact S_X12_feed_60 hn hu n w56 ta0 q0 (by omega) (by decide) (by decide) (by show 20 - (0 : Int) < _; omega)
  · rw [if_pos (by omega), if_pos (by omega)]
    exact jok_s ⟨w2, rfl⟩
end
section
/-! sewing: the number of rings is not changed by what is remembered -/
theorem rings_as2 {n a0 p p1 t : Nat} {i x : Int32} {h h1 : jH} (ep : jgR 10 h a0 1 = some p1) (hne : p ≠ p1) (e : jas t h p i x = some h1) : F_X12_rings n a0 h1 = F_X12_rings n a0 h := by
  unfold F_X12_rings
  rw [jgR_as e, ep]
  show (jal 0 h1 p1 _).bind _ = (jal 0 h p1 _).bind _
  have e9 : jal 0 h1 p1 (0 : Int32) = jal 0 h p1 (0 : Int32) := by
    obtain ⟨N, f, e1, -, -, rfl⟩ := jas_o e
    unfold jal
    show (match (if p1 = p then some _ else h.2 p1) with | some (.inr (.inl x)) => if x.1 = 0 ∧ ¬ ((0 : Int32) < 0 ∨ x.2.1 ≤ (0 : Int32).toNatClampNeg) then some (x.2.2 (0 : Int32).toNatClampNeg) else none | _ => none) = _
    rw [if_neg (Ne.symm hne)]
    rfl
  rw [e9]
theorem Q_remembers_55 {n a0 p5 p1 : Nat} (hne : p5 ≠ p1) : ∀ (k : Nat) {x1 : Int32} {h q : jH}, F_X12_remembers_55 n k a0 x1 h = some q → jgR 10 h a0 5 = some p5 → jgR 10 h a0 1 = some p1 → F_X12_rings n a0 q = F_X12_rings n a0 h
  | 0, x1, h, q, e, e5, e1 => by cases e
  | k + 1, x1, h, q, e, e5, e1 => by
    have e : F_X12_remembers_55_b n (F_X12_remembers_55 n k) a0 x1 h = some q := e
    unfold F_X12_remembers_55_b at e
    split at e
    · cases e; rfl
    · obtain ⟨p63, q1, e⟩ := jbind e
      cases e5.symm.trans q1
      obtain ⟨v70, q2, e⟩ := jbind e
      obtain ⟨p79, q3, e⟩ := jbind e
      obtain ⟨v83, q4, e⟩ := jbind e
      obtain ⟨h84, q5, e⟩ := jbind e
      rw [Q_remembers_55 hne k e (by rw [jgR_as q5]; exact e5) (by rw [jgR_as q5]; exact e1)]
      exact rings_as2 e1 hne q5
theorem Q_remembers_11 {n a0 p5 p1 : Nat} (hne : p5 ≠ p1) : ∀ (k : Nat) {x1 : Int32} {h q : jH}, F_X12_remembers_11 n k a0 x1 h = some q → jgR 10 h a0 5 = some p5 → jgR 10 h a0 1 = some p1 → F_X12_rings n a0 q = F_X12_rings n a0 h
  | 0, x1, h, q, e, e5, e1 => by cases e
  | k + 1, x1, h, q, e, e5, e1 => by
    have e : F_X12_remembers_11_b n (F_X12_remembers_11 n k) a0 x1 h = some q := e
    unfold F_X12_remembers_11_b at e
    split at e
    · exact Q_remembers_55 hne n e e5 e1
    · obtain ⟨p19, q1, e⟩ := jbind e
      cases e5.symm.trans q1
      obtain ⟨p24, q2, e⟩ := jbind e
      obtain ⟨v32, q3, e⟩ := jbind e
      obtain ⟨h33, q5, e⟩ := jbind e
      rw [Q_remembers_11 hne k e (by rw [jgR_as q5]; exact e5) (by rw [jgR_as q5]; exact e1)]
      exact rings_as2 e1 hne q5
theorem rings_pf2 {n a0 k : Nat} {v : Value} {h h1 : jH} (hk : k ≠ 1) (e : jpf 10 h a0 k v = some h1) : F_X12_rings n a0 h1 = F_X12_rings n a0 h := by
  obtain ⟨fs, e1, -, rfl⟩ := jpf_o e
  unfold F_X12_rings
  have er : jgR 10 (jup h a0 (.inl (10, fs.set k v))) a0 1 = jgR 10 h a0 1 := by
    unfold jgR
    rw [jfr_up e1 10 a0 1 (Or.inr (Ne.symm hk))]
  rw [er]
  congr 1
  funext p
  have e9 : jal 0 (jup h a0 (.inl (10, fs.set k v))) p (0 : Int32) = jal 0 h p (0 : Int32) := by
    unfold jal
    show (match (if p = a0 then some _ else h.2 p) with | some (.inr (.inl x)) => if x.1 = 0 ∧ ¬ ((0 : Int32) < 0 ∨ x.2.1 ≤ (0 : Int32).toNatClampNeg) then some (x.2.2 (0 : Int32).toNatClampNeg) else none | _ => none) = _
    by_cases q : p = a0
    · subst q
      rw [if_pos rfl, e1]
    · rw [if_neg q]
      rfl
  rw [e9]
theorem Q_remembers {g : jGh} {Γ : Nat → Option Nat} {n a0 : Nat} {h q : jH} (w : jW (jKd g) Γ h) (ta0 : Γ a0 = some 20) (e : F_X12_remembers n a0 h = some q) : F_X12_rings n a0 q = F_X12_rings n a0 h := by
  obtain ⟨p5, e5, t5⟩ := t_gR (k := 5) w ta0 rfl rfl
  obtain ⟨p1, e1, t1⟩ := t_gR (k := 1) w ta0 rfl rfl
  have hne : p5 ≠ p1 := jneq t5 t1 (by decide)
  unfold F_X12_remembers at e
  obtain ⟨v1, q1, e⟩ := jbind e
  split at e
  · exact Q_remembers_11 hne n e e5 e1
  · obtain ⟨v45, q2, e⟩ := jbind e
    obtain ⟨h50, q3, e⟩ := jbind e
    have er : ∀ k, k ≠ 7 → jgR 10 h50 a0 k = jgR 10 h a0 k := fun k hk => by
      obtain ⟨fs, z1, -, rfl⟩ := jpf_o q3
      unfold jgR
      rw [jfr_up z1 10 a0 k (Or.inr hk)]
    rw [Q_remembers_55 hne n e (by rw [er 5 (by decide)]; exact e5) (by rw [er 1 (by decide)]; exact e1)]
    exact rings_pf2 (by decide) q3
theorem jat_ne {v : Int32} (h : 11 ≤ v.toInt) : ¬ (0 : Int32).toNatClampNeg = v.toNatClampNeg := by
  have h9 : v.toNatClampNeg = v.toInt.toNat := rfl
  have h8 : (0 : Int32).toNatClampNeg = 0 := rfl
  omega
theorem S_X12_hangs_8 {g : jGh} {Γ : Nat → Option Nat} {n : Nat} (hn : 6000 ≤ n) (hg : jgok g) : ∀ (k : Nat) {a0 : Nat} {x1 x2 x3 x4 : Int32} {h : jH}, jW (jKd g) Γ h → Γ a0 = some 20 → 0 ≤ x1.toInt → x1.toInt ≤ 31 → 0 ≤ x3.toInt → x3.toInt ≤ 7 → 0 ≤ x4.toInt → x4.toInt ≤ 8 → 8 - x4.toInt < k → (∀ r, F_X12_rings n a0 h = some r → 0 ≤ r.toInt ∧ r.toInt ≤ 7) → jok (F_X12_hangs_8 n k a0 x1 x2 x3 x4 h) (fun q => jW (jKd g) Γ q)
  | 0, a0, x1, x2, x3, x4, h, w, ta, l1, u1, l3, u3, l4, u4, hk, hr => by omega
  | k + 1, a0, x1, x2, x3, x4, h, w, ta, l1, u1, l3, u3, l4, u4, hk, hr => by
    show jok (F_X12_hangs_8_b n (F_X12_hangs_8 n k) a0 x1 x2 x3 x4 h) _
    unfold F_X12_hangs_8_b
    have e0 : (0 : Int32).toInt = 0 := rfl
    have e1 : (1 : Int32).toInt = 1 := rfl
    have e6 : (6 : Int32).toInt = 6 := rfl
    have e8 : (8 : Int32).toInt = 8 := rfl
    obtain ⟨p, ep, tp⟩ := t_gR (k := 1) w ta rfl rfl
    refine jok_le (fun c => ?_) (fun c => ?_)
    · refine jok_r ep ?_
      refine jok_b (S_X12_at hn hg w (by omega) (by omega) (by omega) (by omega)) (fun v39 l39 => ?_)
      refine jok_b2 (t_as w tp rfl (by omega) (by omega) (show jRw g v39.toInt.toNat x1 from ⟨⟨by omega, by omega, by omega⟩, Or.inl (by omega)⟩) (fun q => by cases q)) (fun h43 q43 w43 => ?_)
      obtain ⟨w43, -⟩ := w43
      have r43 := rings_as (n := n) ep q43 (jat_ne (by omega))
      have ep43 : jgR 10 h43 a0 1 = some p := by rw [jgR_as q43]; exact ep
      refine jok_r ep43 ?_
      refine jok_b (S_X12_at hn hg w43 (by omega) (by omega) (by omega) (by omega)) (fun v50 l50 => ?_)
      refine jok_b2 (t_as w43 tp rfl (by omega) (by omega) (show jRw g v50.toInt.toNat x2 from ⟨⟨by omega, by omega, by omega⟩, Or.inl (by omega)⟩) (fun q => by cases q)) (fun h54 q54 w54 => ?_)
      obtain ⟨w54, -⟩ := w54
      have r54 := rings_as (n := n) ep43 q54 (jat_ne (by omega))
      have ep54 : jgR 10 h54 a0 1 = some p := by rw [jgR_as q54]; exact ep43
      refine jok_r ep54 ?_
      refine jok_b (S_X12_at hn hg w54 (by omega) (by omega) (by omega) (by omega)) (fun v62 l62 => ?_)
      refine jok_b2 (t_as w54 tp rfl (by omega) (by omega) (show jRw g v62.toInt.toNat 1 from ⟨⟨by omega, by omega, by omega⟩, Or.inl (by omega)⟩) (fun q => by cases q)) (fun h66 q66 w66 => ?_)
      obtain ⟨w66, -⟩ := w66
      have r66 := rings_as (n := n) ep54 q66 (jat_ne (by omega))
      have ep66 : jgR 10 h66 a0 1 = some p := by rw [jgR_as q66]; exact ep54
      refine jok_r ep66 ?_
      refine jok_b2 (t_al w66 tp rfl (by omega) (by omega)) (fun v73 q73 l73 => ?_)
      have er : F_X12_rings n a0 h66 = some v73 := by
        unfold F_X12_rings
        rw [ep66]
        show (jal 0 h66 p (0 : Int32)).bind _ = _
        rw [q73]
        rfl
      have hb := hr v73 (by rw [← r43, ← r54, ← r66]; exact er)
      have ea : (v73 + (1 : Int32)).toInt = v73.toInt + 1 := by rw [jadd (by omega) (by omega), e1]
      refine jok_b (t_as w66 tp rfl (by omega) (by omega) (show jRw g (0 : Int32).toInt.toNat (v73 + (1 : Int32)) from ⟨⟨by omega, by omega, by omega⟩, Or.inl (by omega)⟩) (fun q => by cases q)) (fun h76 w76 => ?_)
      exact jok_s w76.1
    · refine jok_r ep ?_
      refine jok_b (S_X12_at hn hg w (by omega) (by omega) (by omega) (by omega)) (fun v22 l22 => ?_)
      refine jok_b2 (t_as w tp rfl (by omega) (by omega) (show jRw g v22.toInt.toNat 0 from ⟨⟨by omega, by omega, by omega⟩, Or.inl (by omega)⟩) (fun q => by cases q)) (fun h26 q26 w26 => ?_)
      obtain ⟨w26, -⟩ := w26
      have r26 := rings_as (n := n) ep q26 (jat_ne (by omega))
      have ea : (x4 + (1 : Int32)).toInt = x4.toInt + 1 := by rw [jadd (by omega) (by omega), e1]
      exact S_X12_hangs_8 hn hg k w26 ta l1 u1 l3 u3 (by omega) (by omega) (by omega) (by rw [r26]; exact hr)
theorem S_X12_hangs {g : jGh} {Γ : Nat → Option Nat} {n a0 : Nat} {x1 x2 : Int32} {h : jH} (hn : 6000 ≤ n) (hg : jgok g) (w : jW (jKd g) Γ h) (ta0 : Γ a0 = some 20) (l1 : 0 ≤ x1.toInt) (u1 : x1.toInt ≤ 31) (hr : ∀ r, F_X12_rings n a0 h = some r → 0 ≤ r.toInt ∧ r.toInt ≤ 7) : jok (F_X12_hangs n a0 x1 x2 h) (fun q => jW (jKd g) Γ q) := by
  unfold F_X12_hangs
  rw [t_cv w ta0 rfl]
  refine jok_b2 (S_X12_rings hn hg w ta0) (fun v1 q1 _ => ?_)
  obtain ⟨l, u⟩ := hr v1 q1
  exact S_X12_hangs_8 hn hg n w ta0 l1 u1 l u (by decide) (by decide) (by show 8 - (0 : Int) < _; omega) hr
theorem jthr0 {n a0 : Nat} {x2 : Int32} {h : jH} {q : Int32 × jH} (e : F_X12_throwsIf n a0 0 x2 h = some q) : q.2 = h := by
  unfold F_X12_throwsIf at e
  rw [if_pos rfl, if_pos (Or.inl rfl)] at e
  cases e
  rfl
theorem jthr1 {n a0 : Nat} {x2 : Int32} {h : jH} {q : Int32 × jH} (e : F_X12_throwsIf n a0 1 x2 h = some q) : q.1 = 1 := by
  unfold F_X12_throwsIf at e
  rw [if_neg (by decide)] at e
  obtain ⟨h6, -, e⟩ := jbind e
  rw [if_pos (Or.inr rfl)] at e
  cases e
  rfl
theorem S_X12_sew_70 {g : jGh} {Γ : Nat → Option Nat} {n a0 : Nat} {x1 x2 s1 : Int32} {h : jH} (hn : 6000 ≤ n) (hg : jgok g) (w : jW (jKd g) Γ h) (ta0 : Γ a0 = some 20) (hs : s1 = 1 ∨ (s1 = 0 ∧ 0 ≤ x1.toInt ∧ x1.toInt ≤ 31 ∧ ∀ r, F_X12_rings n a0 h = some r → 0 ≤ r.toInt ∧ r.toInt ≤ 7)) : jok (F_X12_sew_70 n a0 x1 x2 a0 s1 h) (fun q => jW (jKd g) Γ q.2) := by
  unfold F_X12_sew_70
  rw [t_cv w ta0 rfl]
  have hb : 0 ≤ s1.toInt ∧ s1.toInt ≤ 1 := by rcases hs with rfl | ⟨rfl, -⟩ <;> decide
  refine jok_b2 (S_X12_throwsIf hn hg w ta0 hb.1 hb.2) (fun q71 e71 w71 => ?_)
  obtain ⟨w71, -⟩ := w71
  rcases hs with rfl | ⟨rfl, l1, u1, hr⟩
  · rw [if_neg (by rw [jthr1 e71]; decide)]
    exact jok_s w71
  · have eh := jthr0 e71
    obtain ⟨r71, h71⟩ := q71
    have eh : h71 = h := eh
    subst eh
    dsimp only
    by_cases c : r71 = 0
    · rw [if_pos c, t_cv w71 ta0 rfl]
      refine jok_b2 (S_X12_remembers hn hg w71 ta0) (fun h80 e80 w80 => ?_)
      have r80 := Q_remembers w71 ta0 e80
      rw [t_cv w80 ta0 rfl]
      refine jok_b (S_X12_hangs hn hg w80 ta0 l1 u1 (by rw [r80]; exact hr)) (fun h86 w86 => ?_)
      rw [t_cv w86 ta0 rfl]
      refine jok_b (S_X12_lastRing hn hg w86 ta0) (fun v90 _ => ?_)
      exact jok_s w86
    · rw [if_neg c]
      exact jok_s w71
theorem S_X12_sew_33 {g : jGh} {Γ : Nat → Option Nat} {n a0 : Nat} {x1 x2 s1 : Int32} {h : jH} (hn : 6000 ≤ n) (hg : jgok g) (w : jW (jKd g) Γ h) (ta0 : Γ a0 = some 20) (hs : s1 = 0 ∨ s1 = 1) (l1 : 0 ≤ x1.toInt) (u1 : x1.toInt ≤ 31) : jok (F_X12_sew_33 n a0 x1 x2 a0 s1 h) (fun q => jW (jKd g) Γ q.2) := by
  unfold F_X12_sew_33
  rw [t_cv w ta0 rfl]
  have hb : 0 ≤ s1.toInt ∧ s1.toInt ≤ 1 := by rcases hs with rfl | rfl <;> decide
  have e8 : (8 : Int32).toInt = 8 := rfl
  refine jok_b (S_X12_throwsIf hn hg w ta0 hb.1 hb.2) (fun q34 w34 => ?_)
  obtain ⟨w34, -⟩ := w34
  refine jok_eq (fun _ _ => ?_) (fun _ => jok_s w34)
  rw [t_cv w34 ta0 rfl]
  refine jok_b2 (S_X12_rings hn hg w34 ta0) (fun v42 e42 l42 => ?_)
  refine jok_eq (fun _ _ => S_X12_sew_70 hn hg w34 ta0 (Or.inl rfl)) (fun c => ?_)
  have hr : ∀ r, F_X12_rings n a0 q34.2 = some r → 0 ≤ r.toInt ∧ r.toInt ≤ 7 := fun r er => by
    cases e42.symm.trans er
    omega
  rw [t_cv w34 ta0 rfl]
  refine jok_b (S_X12_leastPlace hn hg w34 ta0) (fun v52 _ => ?_)
  rw [t_cv w34 ta0 rfl]
  refine jok_b (S_X12_mostPlace hn hg w34 ta0) (fun v56 _ => ?_)
  refine jok_b (S_X12_in hn hg w34) (fun v59 _ => ?_)
  exact jok_eq (fun _ _ => S_X12_sew_70 hn hg w34 ta0 (Or.inl rfl)) (fun _ => S_X12_sew_70 hn hg w34 ta0 (Or.inr ⟨rfl, l1, u1, hr⟩))
theorem S_X12_sew {g : jGh} {Γ : Nat → Option Nat} {n a0 : Nat} {x1 x2 : Int32} {h : jH} (hn : 6000 ≤ n) (hg : jgok g) (w : jW (jKd g) Γ h) (ta0 : Γ a0 = some 20) : jok (F_X12_sew n a0 x1 x2 h) (fun q => jW (jKd g) Γ q.2) := by
  have ez : (0 : Int32).toInt = 0 := rfl
  unfold F_X12_sew
  refine jok_b (t_pI w ta0 rfl rfl trivial) (fun h2 w2 => ?_)
  obtain ⟨w2, -, -⟩ := w2
  refine jok_b (S_X12_noPlace hn hg w2) (fun v7 l7 => ?_)
  rw [t_cv w2 ta0 rfl]
  refine jok_b (S_X12_throwsIf hn hg w2 ta0 (by omega) (by omega)) (fun q11 w11 => ?_)
  obtain ⟨w11, l11⟩ := w11
  have l11 : q11.1.toInt = v7.toInt := l11
  refine jok_eq (fun c _ => ?_) (fun _ => jok_s w11)
  rw [ez] at c
  refine jok_b (S_X12_in hn hg w11) (fun v22 _ => ?_)
  exact jok_eq (fun _ _ => S_X12_sew_33 hn hg w11 ta0 (Or.inr rfl) (by omega) (by omega)) (fun _ => S_X12_sew_33 hn hg w11 ta0 (Or.inl rfl) (by omega) (by omega))
end
section
theorem S_X12_lets_48 {g : jGh} {Γ : Nat → Option Nat} {n : Nat} (hn : 6000 ≤ n) (hg : jgok g) : ∀ (k : Nat) {a0 : Nat} {x1 x2 x3 x4 r : Int32} {h : jH}, jW (jKd g) Γ h → Γ a0 = some 20 → 0 ≤ x4.toInt → x4.toInt ≤ 8 → 8 - x4.toInt < k → F_X12_rings n a0 h = some r → 1 ≤ r.toInt → jok (F_X12_lets_48 n k a0 x1 x2 x3 x4 h) (fun q => jW (jKd g) Γ q.2)
  | 0, a0, x1, x2, x3, x4, r, h, w, ta, l4, u4, hk, er, hr => by omega
  | k + 1, a0, x1, x2, x3, x4, r, h, w, ta, l4, u4, hk, er, hr => by
    show jok (F_X12_lets_48_b n (F_X12_lets_48 n k) a0 x1 x2 x3 x4 h) _
    unfold F_X12_lets_48_b
    have e1 : (1 : Int32).toInt = 1 := rfl
    have e5 : (5 : Int32).toInt = 5 := rfl
    obtain ⟨r2, er2, l2⟩ := S_X12_rings hn hg w ta
    cases er.symm.trans er2
    have hz : ¬ r = 0 := fun q => by rw [q] at hr; exact absurd hr (by decide)
    rw [t_cv w ta rfl]
    refine jok_r er (jok_le (fun c => ?_) (fun c => ?_))
    · try rw [t_cv w ta rfl]
      refine jok_r er ?_
      rw [if_neg hz]
      try rw [t_cv w ta rfl]
      refine jok_r er ?_
      rw [if_neg hz]
      have hl : ∀ {a b c d e : Int32}, jok (F_X12_lets_103 n a b c d e h) (fun q => jW (jKd g) Γ q.2) := by
        intro a b c d e
        unfold F_X12_lets_103
        exact jok_if (fun _ => jok_if (fun _ => jok_s w) (fun _ => jok_s w)) (fun _ => jok_s w)
      exact jok_if (fun _ => hl) (fun _ => hl)
    · rw [t_cv w ta rfl]
      refine jok_b (S_X12_of hn hg w ta (by omega) (by omega) (by omega) (by omega)) (fun v62 _ => ?_)
      have ea : (x4 + (1 : Int32)).toInt = x4.toInt + 1 := by rw [jadd (by omega) (by omega), e1]
      exact S_X12_lets_48 hn hg k w ta (by omega) (by omega) (by omega) er hr
theorem S_X12_lets_34 {g : jGh} {Γ : Nat → Option Nat} {n a0 : Nat} {x1 x2 s1 r : Int32} {h : jH} (hn : 6000 ≤ n) (hg : jgok g) (w : jW (jKd g) Γ h) (ta0 : Γ a0 = some 20) (hs : s1 = 0 ∨ s1 = 1) (er : F_X12_rings n a0 h = some r) (hr : 1 ≤ r.toInt) : jok (F_X12_lets_34 n a0 x1 x2 a0 s1 h) (fun q => jW (jKd g) Γ q.2) := by
  unfold F_X12_lets_34
  rw [t_cv w ta0 rfl]
  have hb : 0 ≤ s1.toInt ∧ s1.toInt ≤ 1 := by rcases hs with rfl | rfl <;> decide
  refine jok_b2 (S_X12_throwsIf hn hg w ta0 hb.1 hb.2) (fun q35 e35 w35 => ?_)
  obtain ⟨w35, -⟩ := w35
  rcases hs with rfl | rfl
  · have eh := jthr0 e35
    obtain ⟨r35, h35⟩ := q35
    have eh : h35 = h := eh
    subst eh
    exact jok_if (fun _ => S_X12_lets_48 hn hg n w35 ta0 (by decide) (by decide) (by show 8 - (0 : Int) < _; omega) er hr) (fun _ => jok_s w35)
  · rw [if_neg (by rw [jthr1 e35]; decide)]
    exact jok_s w35
theorem S_X12_lets {g : jGh} {Γ : Nat → Option Nat} {n a0 : Nat} {x1 x2 : Int32} {h : jH} (hn : 6000 ≤ n) (hg : jgok g) (w : jW (jKd g) Γ h) (ta0 : Γ a0 = some 20) : jok (F_X12_lets n a0 x1 x2 h) (fun q => jW (jKd g) Γ q.2) := by
  have ez : (0 : Int32).toInt = 0 := rfl
  have eo : (1 : Int32).toInt = 1 := rfl
  unfold F_X12_lets
  refine jok_b (t_pI w ta0 rfl rfl trivial) (fun h2 w2 => ?_)
  obtain ⟨w2, -, -⟩ := w2
  rw [t_cv w2 ta0 rfl]
  refine jok_b2 (S_X12_noRing hn hg w2 ta0) (fun v8 e8 l8 => ?_)
  rw [t_cv w2 ta0 rfl]
  refine jok_b2 (S_X12_throwsIf hn hg w2 ta0 (by omega) (by omega)) (fun q12 e12 w12 => ?_)
  obtain ⟨w12, l12⟩ := w12
  have l12 : q12.1.toInt = v8.toInt := l12
  refine jok_eq (fun c _ => ?_) (fun _ => jok_s w12)
  rw [ez] at c
  have z8 : v8 = 0 := Int32.toInt_inj.mp (by omega)
  subst z8
  have eh := jthr0 e12
  obtain ⟨r12, h12⟩ := q12
  have eh : h12 = h2 := eh
  subst eh
  -- there is a ring
  obtain ⟨r, er, lr⟩ := S_X12_rings hn hg w12 ta0
  have hr : 1 ≤ r.toInt := by
    unfold F_X12_noRing F_X12_lastRing at e8
    rw [t_cv w12 ta0 rfl, t_cv w12 ta0 rfl, er] at e8
    have e8 : ((F_X12_in n x1 0 (r - 1) h12).bind fun v6 => if v6 = 0 then some (1 : Int32) else some 0) = some 0 := e8
    obtain ⟨v6, q6, e8⟩ := jbind e8
    obtain ⟨v9, q9, l9⟩ := S_X12_in (x0 := x1) (x1 := 0) (x2 := r - 1) hn hg w12
    cases q6.symm.trans q9
    have es : (r - (1 : Int32)).toInt = r.toInt - 1 := by rw [jsub (by omega) (by omega), eo]
    by_cases c6 : v6 = 0
    · rw [if_pos c6] at e8
      cases e8
    · have : v6.toInt ≠ 0 := fun q => c6 (Int32.toInt_inj.mp (by rw [q]; rfl))
      omega
  refine jok_b (S_X12_in hn hg w12) (fun v23 _ => ?_)
  exact jok_if (fun _ => S_X12_lets_34 hn hg w12 ta0 (Or.inr rfl) er hr) (fun _ => S_X12_lets_34 hn hg w12 ta0 (Or.inl rfl) er hr)
set_option maxHeartbeats 1000000 in
theorem S_X12_snags_36 {g : jGh} {Γ : Nat → Option Nat} {n : Nat} (hn : 6000 ≤ n) (hg : jgok g)  (k : Nat) : ∀ {a0 : Nat} {x1 : Int32} {x2 : Int32} {x3 : Int32} {x4 : Int32} {h : jH}, jW (jKd g) Γ h → (Γ a0 = some 20) → (0 ≤ x4.toInt) → (x4.toInt ≤ 128) → (128 : Int) - x4.toInt < (k : Int) → jok (F_X12_snags_36 n k a0 x1 x2 x3 x4 h) (fun q => jW (jKd g) Γ q.2 ∧ (fun v : Int32 => True) q.1) := by
  induction k with
  | zero =>
    intro a0 x1 x2 x3 x4 h w ta0 lx4 ux4 mk
    omega
  | succ k ih =>
    intro a0 x1 x2 x3 x4 h w ta0 lx4 ux4 mk
    show jok (F_X12_snags_36_b n (F_X12_snags_36 n k) a0 x1 x2 x3 x4 h) _
    unfold F_X12_snags_36_b
    try rw [t_cv w ta0 rfl]
    refine jok_b (S_X12_thatCanCatch hn hg w ta0) (fun v39_1 pv39_1 => ?_)
    obtain ⟨lv39_1, uv39_1⟩ := pv39_1
    refine jok_lt (fun c2 => ?_) (fun c2 => ?_)
    · have f3 : ((0 : Int32)).toInt = 0 := rfl
      refine jok_eq (fun c4 d4 => ?_) (fun c4 => ?_)
      · exact jok_s ⟨w, trivial⟩
      · refine jok_eq (fun c5 d5 => ?_) (fun c5 => ?_)
        · exact jok_s ⟨w, trivial⟩
        · exact jok_s ⟨w, trivial⟩
    · try rw [t_cv w ta0 rfl]
      refine jok_b (S_X12_fits hn hg w ta0) (fun q48_6 wq48_6 => ?_)
      obtain ⟨wq48_6, pq48_6⟩ := wq48_6
      obtain ⟨lq48_6, uq48_6⟩ := pq48_6
      have f7 : ((0 : Int32)).toInt = 0 := rfl
      refine jok_eq (fun c8 d8 => ?_) (fun c8 => ?_)
      · have f9 : ((1 : Int32)).toInt = 1 := rfl
        have f10 : ((x4 + (1 : Int32))).toInt = (x4).toInt + ((1 : Int32)).toInt := jadd (by omega) (by omega)
        exact ih wq48_6 ta0 (by omega) (by omega) (by omega)
      · have f11 : ((1 : Int32)).toInt = 1 := rfl
        have f12 : ((x4 + (1 : Int32))).toInt = (x4).toInt + ((1 : Int32)).toInt := jadd (by omega) (by omega)
        exact ih wq48_6 ta0 (by omega) (by omega) (by omega)
set_option maxHeartbeats 1000000 in
theorem S_X12_snags {g : jGh} {Γ : Nat → Option Nat} {n : Nat} {a0 : Nat} {x1 : Int32} {h : jH} (hn : 6000 ≤ n) (hg : jgok g) (w : jW (jKd g) Γ h) (ta0 : Γ a0 = some 20) (hu : ∀ a b c, 9 ≤ c → Γ a = some c → Γ b = some c → a = b) : jok (F_X12_snags n a0 x1 h) (fun q => jW (jKd (g.1, g.2.1, (0 : Int32).toInt, g.2.2.2)) Γ q.2 ∧ (fun v : Int32 => True) q.1) := by
  unfold F_X12_snags
  try rw [t_cv w ta0 rfl]
  refine jok_b (S_X12_uses hg w ta0 hu) (fun h1_1 wh1_1 => ?_)
  have hgh1_1 : jgok (g.1, g.2.1, (0 : Int32).toInt, g.2.2.2) := ⟨hg.1, by show (0 : Int) ≤ (0 : Int32).toInt; decide, by show (0 : Int32).toInt ≤ 400; decide, hg.2.2.2⟩
  try rw [t_cv wh1_1 ta0 rfl]
  refine jok_b (S_X12_isTold hn hgh1_1 wh1_1 ta0) (fun v6_2 pv6_2 => ?_)
  obtain ⟨lv6_2, uv6_2⟩ := pv6_2
  have f3 : ((0 : Int32)).toInt = 0 := rfl
  refine jok_eq (fun c4 d4 => ?_) (fun c4 => ?_)
  · unfold F_X12_snags_17
    try rw [t_cv wh1_1 ta0 rfl]
    have f6 : ((1 : Int32)).toInt = 1 := rfl
    refine jok_b (S_X12_throwsIf hn hgh1_1 wh1_1 ta0 (by omega) (by omega)) (fun q18_5 wq18_5 => ?_)
    obtain ⟨wq18_5, pq18_5⟩ := wq18_5
    have pq18_5_9 := pq18_5
    try dsimp only at pq18_5_9
    refine jok_eq (fun c7 d7 => ?_) (fun c7 => ?_)
    · try rw [t_cv wq18_5 ta0 rfl]
      refine jok_b (S_X12_thatCanCatch hn hgh1_1 wq18_5 ta0) (fun v29_8 pv29_8 => ?_)
      obtain ⟨lv29_8, uv29_8⟩ := pv29_8
      exact S_X12_snags_36 hn hgh1_1  n wq18_5 ta0 (by omega) (by omega) (by omega)
    · exact jok_s ⟨wq18_5, trivial⟩
  · unfold F_X12_snags_17
    try rw [t_cv wh1_1 ta0 rfl]
    refine jok_b (S_X12_throwsIf hn hgh1_1 wh1_1 ta0 (by omega) (by omega)) (fun q18_9 wq18_9 => ?_)
    obtain ⟨wq18_9, pq18_9⟩ := wq18_9
    have f10 : ((1 : Int32)).toInt = 1 := rfl
    have pq18_9_9 := pq18_9
    try dsimp only at pq18_9_9
    refine jok_eq (fun c11 d11 => ?_) (fun c11 => ?_)
    · try rw [t_cv wq18_9 ta0 rfl]
      refine jok_b (S_X12_thatCanCatch hn hgh1_1 wq18_9 ta0) (fun v29_12 pv29_12 => ?_)
      obtain ⟨lv29_12, uv29_12⟩ := pv29_12
      exact S_X12_snags_36 hn hgh1_1  n wq18_9 ta0 (by omega) (by omega) (by omega)
    · exact jok_s ⟨wq18_9, trivial⟩
set_option maxHeartbeats 1000000 in
theorem S_X12_tries_81 {g : jGh} {Γ : Nat → Option Nat} {n : Nat} (hn : 6000 ≤ n) (hg : jgok g)  (k : Nat) : ∀ {a0 : Nat} {x1 : Int32} {x2 : Int32} {x3 : Int32} {x4 : Int32} {h : jH}, jW (jKd g) Γ h → (Γ a0 = some 20) → (0 ≤ x4.toInt) → (x4.toInt ≤ 16) → (16 : Int) - x4.toInt < (k : Int) → jok (F_X12_tries_81 n k a0 x1 x2 x3 x4 h) (fun q => jW (jKd g) Γ q.2 ∧ (fun v : Int32 => True) q.1) := by
  induction k with
  | zero =>
    intro a0 x1 x2 x3 x4 h w ta0 lx4 ux4 mk
    omega
  | succ k ih =>
    intro a0 x1 x2 x3 x4 h w ta0 lx4 ux4 mk
    show jok (F_X12_tries_81_b n (F_X12_tries_81 n k) a0 x1 x2 x3 x4 h) _
    unfold F_X12_tries_81_b
    try rw [t_cv w ta0 rfl]
    refine jok_b2 (S_X12_rings hn hg w ta0) (fun v85_1 ev85_1 pv85_1 => ?_)
    obtain ⟨lv85_1, uv85_1⟩ := pv85_1
    have f2 : ((2 : Int32)).toInt = 2 := rfl
    have f3 : (((2 : Int32) * v85_1)).toInt = 2 * (v85_1).toInt := jmulL (c := 2) (by omega) (by omega) (by omega)
    refine jok_le (fun c4 => ?_) (fun c4 => ?_)
    · exact jok_s ⟨w, trivial⟩
    · have f5 : ((1 : Int32)).toInt = 1 := rfl
      refine jok_le (fun c6 => ?_) (fun c6 => ?_)
      · exact jok_s ⟨w, trivial⟩
      · have f7 : ((x4 / (2 : Int32))).toInt = (x4).toInt / 2 := jdivL (c := 2) (by omega) rfl (by decide)
        have f8 : (((x4 / (2 : Int32)) * (2 : Int32))).toInt = 2 * ((x4 / (2 : Int32))).toInt := jmulR (c := 2) (by omega) (by omega) (by omega)
        have f9 : ((x4 - ((x4 / (2 : Int32)) * (2 : Int32)))).toInt = (x4).toInt - (((x4 / (2 : Int32)) * (2 : Int32))).toInt := jsub (by omega) (by omega)
        refine jok_eq (fun c10 d10 => ?_) (fun c10 => ?_)
        · unfold F_X12_tries_115
          try rw [t_cv w ta0 rfl]
          refine jok_b (S_X12_partBy hn hg w ta0 (by omega) (by omega)) (fun q115_11 wq115_11 => ?_)
          obtain ⟨wq115_11, pq115_11⟩ := wq115_11
          refine jok_le (fun c12 => ?_) (fun c12 => ?_)
          · unfold F_X12_tries_132
            have f13 : ((x4 + (1 : Int32))).toInt = (x4).toInt + ((1 : Int32)).toInt := jadd (by omega) (by omega)
            exact ih wq115_11 ta0 (by omega) (by omega) (by omega)
          · unfold F_X12_tries_132
            have f14 : ((x4 + (1 : Int32))).toInt = (x4).toInt + ((1 : Int32)).toInt := jadd (by omega) (by omega)
            exact ih wq115_11 ta0 (by omega) (by omega) (by omega)
        · unfold F_X12_tries_115
          try rw [t_cv w ta0 rfl]
          refine jok_b (S_X12_partBy hn hg w ta0 (by omega) (by omega)) (fun q115_15 wq115_15 => ?_)
          obtain ⟨wq115_15, pq115_15⟩ := wq115_15
          refine jok_le (fun c16 => ?_) (fun c16 => ?_)
          · unfold F_X12_tries_132
            have f17 : ((x4 + (1 : Int32))).toInt = (x4).toInt + ((1 : Int32)).toInt := jadd (by omega) (by omega)
            exact ih wq115_15 ta0 (by omega) (by omega) (by omega)
          · unfold F_X12_tries_132
            have f18 : ((x4 + (1 : Int32))).toInt = (x4).toInt + ((1 : Int32)).toInt := jadd (by omega) (by omega)
            exact ih wq115_15 ta0 (by omega) (by omega) (by omega)
set_option maxHeartbeats 1000000 in
theorem S_X12_tries_30 {g : jGh} {Γ : Nat → Option Nat} {n : Nat} (hn : 6000 ≤ n) (hg : jgok g)  (k : Nat) : ∀ {a0 : Nat} {x1 : Int32} {x2 : Int32} {h : jH}, jW (jKd g) Γ h → (Γ a0 = some 20) → (0 ≤ x2.toInt) → (x2.toInt ≤ 128) → (128 : Int) - x2.toInt < (k : Int) → jok (F_X12_tries_30 n k a0 x1 x2 h) (fun q => jW (jKd g) Γ q.2 ∧ (fun v : Int32 => True) q.1) := by
  induction k with
  | zero =>
    intro a0 x1 x2 h w ta0 lx2 ux2 mk
    omega
  | succ k ih =>
    intro a0 x1 x2 h w ta0 lx2 ux2 mk
    show jok (F_X12_tries_30_b n (F_X12_tries_30 n k) a0 x1 x2 h) _
    unfold F_X12_tries_30_b
    try rw [t_cv w ta0 rfl]
    refine jok_b (S_X12_thatCanCatch hn hg w ta0) (fun v32_1 pv32_1 => ?_)
    obtain ⟨lv32_1, uv32_1⟩ := pv32_1
    refine jok_lt (fun c2 => ?_) (fun c2 => ?_)
    · have f3 : ((0 : Int32)).toInt = 0 := rfl
      exact S_X12_tries_81 hn hg  n w ta0 (by omega) (by omega) (by omega)
    · refine jok_b (t_gR w ta0 rfl rfl) (fun p39_4 tp39_4 => ?_)
      try rw [t_cv w ta0 rfl]
      refine jok_b (S_X12_fits hn hg w ta0) (fun q45_5 wq45_5 => ?_)
      obtain ⟨wq45_5, pq45_5⟩ := wq45_5
      obtain ⟨lq45_5, uq45_5⟩ := pq45_5
      refine jok_b (t_as wq45_5 tp39_4 rfl (by omega) (by omega) trivial (fun _ => j01 (by omega) (by omega))) (fun h48_6 wh48_6 => ?_)
      obtain ⟨wh48_6, rh48_6⟩ := wh48_6
      refine jok_b (t_gR wh48_6 ta0 rfl rfl) (fun p51_7 tp51_7 => ?_)
      refine jok_b (t_al wh48_6 tp51_7 rfl (by omega) (by omega)) (fun v55_8 pv55_8 => ?_)
      have f9 : ((0 : Int32)).toInt = 0 := rfl
      refine jok_eq (fun c10 d10 => ?_) (fun c10 => ?_)
      · have f11 : ((1 : Int32)).toInt = 1 := rfl
        have f12 : ((x2 + (1 : Int32))).toInt = (x2).toInt + ((1 : Int32)).toInt := jadd (by omega) (by omega)
        exact ih wh48_6 ta0 (by omega) (by omega) (by omega)
      · have f13 : ((1 : Int32)).toInt = 1 := rfl
        have f14 : ((x2 + (1 : Int32))).toInt = (x2).toInt + ((1 : Int32)).toInt := jadd (by omega) (by omega)
        exact ih wh48_6 ta0 (by omega) (by omega) (by omega)
set_option maxHeartbeats 1000000 in
theorem S_X12_tries {g : jGh} {Γ : Nat → Option Nat} {n : Nat} {a0 : Nat} {h : jH} (hn : 6000 ≤ n) (hg : jgok g) (w : jW (jKd g) Γ h) (ta0 : Γ a0 = some 20) (hu : ∀ a b c, 9 ≤ c → Γ a = some c → Γ b = some c → a = b) : jok (F_X12_tries n a0 h) (fun q => jW (jKd (g.1, g.2.1, (0 : Int32).toInt, g.2.2.2)) Γ q.2 ∧ (fun v : Int32 => True) q.1) := by
  unfold F_X12_tries
  try rw [t_cv w ta0 rfl]
  refine jok_b (S_X12_uses hg w ta0 hu) (fun h1_1 wh1_1 => ?_)
  have hgh1_1 : jgok (g.1, g.2.1, (0 : Int32).toInt, g.2.2.2) := ⟨hg.1, by show (0 : Int) ≤ (0 : Int32).toInt; decide, by show (0 : Int32).toInt ≤ 400; decide, hg.2.2.2⟩
  try rw [t_cv wh1_1 ta0 rfl]
  refine jok_b (S_X12_isTold hn hgh1_1 wh1_1 ta0) (fun v6_2 pv6_2 => ?_)
  obtain ⟨lv6_2, uv6_2⟩ := pv6_2
  have f3 : ((0 : Int32)).toInt = 0 := rfl
  refine jok_eq (fun c4 d4 => ?_) (fun c4 => ?_)
  · unfold F_X12_tries_17
    try rw [t_cv wh1_1 ta0 rfl]
    have f6 : ((1 : Int32)).toInt = 1 := rfl
    refine jok_b (S_X12_throwsIf hn hgh1_1 wh1_1 ta0 (by omega) (by omega)) (fun q18_5 wq18_5 => ?_)
    obtain ⟨wq18_5, pq18_5⟩ := wq18_5
    have pq18_5_9 := pq18_5
    try dsimp only at pq18_5_9
    refine jok_eq (fun c7 d7 => ?_) (fun c7 => ?_)
    · exact S_X12_tries_30 hn hgh1_1  n wq18_5 ta0 (by omega) (by omega) (by omega)
    · exact jok_s ⟨wq18_5, trivial⟩
  · unfold F_X12_tries_17
    try rw [t_cv wh1_1 ta0 rfl]
    refine jok_b (S_X12_throwsIf hn hgh1_1 wh1_1 ta0 (by omega) (by omega)) (fun q18_8 wq18_8 => ?_)
    obtain ⟨wq18_8, pq18_8⟩ := wq18_8
    have f9 : ((1 : Int32)).toInt = 1 := rfl
    have pq18_8_9 := pq18_8
    try dsimp only at pq18_8_9
    refine jok_eq (fun c10 d10 => ?_) (fun c10 => ?_)
    · exact S_X12_tries_30 hn hgh1_1  n wq18_8 ta0 (by omega) (by omega) (by omega)
    · exact jok_s ⟨wq18_8, trivial⟩
end
section
/-! the reference reads a text -/
theorem S_X12_isAt {g : jGh} {Γ : Nat → Option Nat} {n a0 : Nat} {x1 x2 : Int32} {h : jH} (w : jW (jKd g) Γ h) (ta0 : Γ a0 = some 20) : jok (F_X12_isAt n a0 x1 x2 h) (fun v => (v = 0 ∨ v = 1) ∧ (¬ v.toInt = 0 → ∀ u, jgI 10 h a0 10 = some u → u.toInt ≤ 399)) := by
  unfold F_X12_isAt
  have ez : (0 : Int32).toInt = 0 := rfl
  obtain ⟨v1, e1, l1⟩ := t_gI (k := 10) w ta0 rfl rfl
  obtain ⟨v5, e5, l5⟩ := t_gI (k := 11) w ta0 rfl rfl
  have l1 : 0 ≤ v1.toInt ∧ v1.toInt ≤ 400 := l1
  have l5 : 0 ≤ v5.toInt ∧ v5.toInt ≤ 400 := l5
  obtain ⟨p, ep, tp⟩ := t_gR (k := 8) w ta0 rfl rfl
  have hz : ∀ {P : Prop}, ¬ (0 : Int32).toInt = 0 → P := fun q => absurd rfl q
  refine jok_r e1 (jok_r e5 (jok_le (fun _ => jok_s ⟨Or.inl rfl, hz⟩) (fun c => ?_)))
  refine jok_r ep (jok_r e1 ?_)
  obtain ⟨v, ev, -⟩ := t_al (i := v1) w tp rfl (by omega) (by omega)
  refine jok_r ev (jok_lt (fun _ => jok_s ⟨Or.inl rfl, hz⟩) (fun _ => ?_))
  refine jok_r ep (jok_r e1 (jok_r ev (jok_lt (fun _ => jok_s ⟨Or.inl rfl, hz⟩) (fun _ => ?_))))
  refine jok_s ⟨Or.inr rfl, fun _ u eu => ?_⟩
  have qz : v1 = u := Option.some.inj (e1.symm.trans eu)
  subst qz
  omega
/-- where the reading stands -/
def jrd (g : jGh) (Γ : Nat → Option Nat) (n a0 : Nat) (h q : jH) : Prop := jW (jKd g) Γ q ∧ F_X12_rings n a0 q = F_X12_rings n a0 h
theorem jrd_tr {g : jGh} {Γ : Nat → Option Nat} {n a0 : Nat} {h h1 h2 : jH} (a : jrd g Γ n a0 h h1) (b : jrd g Γ n a0 h1 h2) : jrd g Γ n a0 h h2 := ⟨b.1, b.2.trans a.2⟩
/-- a write of the place where the reading stands -/
theorem t_rdp {g : jGh} {Γ : Nat → Option Nat} {n a0 k : Nat} {x : Int32} {h : jH} (w : jW (jKd g) Γ h) (ta0 : Γ a0 = some 20) (hk : k = 10 ∨ k = 12) (l0 : 0 ≤ x.toInt) (l4 : x.toInt ≤ 400) : jok (jpf 10 h a0 k (.int x)) (fun h1 => jrd g Γ n a0 h h1 ∧ jgf 10 h1 a0 k = some (.int x) ∧ jfr h h1 a0 k) := by
  rcases hk with rfl | rfl
  · obtain ⟨h1, e, w1⟩ := t_pI (k := 10) w ta0 rfl rfl (show jI 0 400 x from ⟨l0, l4⟩)
    exact ⟨h1, e, ⟨w1.1, rings_pf2 (by decide) e⟩, w1.2⟩
  · obtain ⟨h1, e, w1⟩ := t_pI (k := 12) w ta0 rfl rfl (show jI 0 400 x from ⟨l0, l4⟩)
    exact ⟨h1, e, ⟨w1.1, rings_pf2 (by decide) e⟩, w1.2⟩
theorem S_X12_blanks_0 {g : jGh} {Γ : Nat → Option Nat} {n : Nat} : ∀ (k : Nat) {a0 : Nat} {u : Int32} {h : jH}, jW (jKd g) Γ h → Γ a0 = some 20 → jgI 10 h a0 10 = some u → 400 - u.toInt < k → jok (F_X12_blanks_0 n k a0 h) (fun q => jrd g Γ n a0 h q)
  | 0, a0, u, h, w, ta, eu, hk => by
    obtain ⟨v1, e1, l1⟩ := t_gI (k := 10) w ta rfl rfl
    have l1 : 0 ≤ v1.toInt ∧ v1.toInt ≤ 400 := l1
    have qz : v1 = u := Option.some.inj (e1.symm.trans eu)
    subst qz
    omega
  | k + 1, a0, u, h, w, ta, eu, hk => by
    show jok (F_X12_blanks_0_b n (F_X12_blanks_0 n k) a0 h) _
    unfold F_X12_blanks_0_b
    obtain ⟨v1, e1, l1⟩ := t_gI (k := 10) w ta rfl rfl
    have l1 : 0 ≤ v1.toInt ∧ v1.toInt ≤ 400 := l1
    have qz : v1 = u := Option.some.inj (e1.symm.trans eu)
    subst qz
    have eo : (1 : Int32).toInt = 1 := rfl
    rw [t_cv w ta rfl]
    refine jok_b (S_X12_isAt w ta) (fun v5 l5 => ?_)
    refine jok_eq (fun _ _ => ?_) (fun c => ?_)
    · refine jok_r e1 (jok_b (t_rdp (n := n) w ta (Or.inr rfl) l1.1 l1.2) (fun h29 w29 => ?_))
      exact jok_s w29.1
    · have hp := l5.2 c _ e1
      have ea : (v1 + (1 : Int32)).toInt = v1.toInt + 1 := by rw [jadd (by omega) (by omega), eo]
      refine jok_r e1 (jok_b (t_rdp (n := n) w ta (Or.inl rfl) (by omega) (by omega)) (fun h18 w18 => ?_))
      obtain ⟨w18, q18, -⟩ := w18
      exact jok_w (S_X12_blanks_0 k w18.1 ta (fJ q18) (by omega)) (fun q wq => jrd_tr w18 wq)
theorem S_X12_blanks {g : jGh} {Γ : Nat → Option Nat} {n a0 : Nat} {h : jH} (hn : 6000 ≤ n) (w : jW (jKd g) Γ h) (ta0 : Γ a0 = some 20) : jok (F_X12_blanks n a0 h) (fun q => jrd g Γ n a0 h q) := by
  obtain ⟨v1, e1, l1⟩ := t_gI (k := 10) w ta0 rfl rfl
  have l1 : 0 ≤ v1.toInt ∧ v1.toInt ≤ 400 := l1
  unfold F_X12_blanks
  exact S_X12_blanks_0 n w ta0 e1 (by omega)
theorem S_X12_letters_4 {g : jGh} {Γ : Nat → Option Nat} {n : Nat} : ∀ (k : Nat) {a0 : Nat} {u : Int32} {h : jH}, jW (jKd g) Γ h → Γ a0 = some 20 → jgI 10 h a0 10 = some u → 400 - u.toInt < k → jok (F_X12_letters_4 n k a0 h) (fun q => jrd g Γ n a0 h q)
  | 0, a0, u, h, w, ta, eu, hk => by
    obtain ⟨v1, e1, l1⟩ := t_gI (k := 10) w ta rfl rfl
    have l1 : 0 ≤ v1.toInt ∧ v1.toInt ≤ 400 := l1
    have qz : v1 = u := Option.some.inj (e1.symm.trans eu)
    subst qz
    omega
  | k + 1, a0, u, h, w, ta, eu, hk => by
    show jok (F_X12_letters_4_b n (F_X12_letters_4 n k) a0 h) _
    unfold F_X12_letters_4_b
    obtain ⟨v1, e1, l1⟩ := t_gI (k := 10) w ta rfl rfl
    have l1 : 0 ≤ v1.toInt ∧ v1.toInt ≤ 400 := l1
    have qz : v1 = u := Option.some.inj (e1.symm.trans eu)
    subst qz
    have eo : (1 : Int32).toInt = 1 := rfl
    rw [t_cv w ta rfl]
    refine jok_b (S_X12_isAt w ta) (fun v5 l5 => ?_)
    refine jok_eq (fun _ _ => jok_s ⟨w, rfl⟩) (fun c => ?_)
    have hp := l5.2 c _ e1
    have ea : (v1 + (1 : Int32)).toInt = v1.toInt + 1 := by rw [jadd (by omega) (by omega), eo]
    refine jok_r e1 (jok_b (t_rdp (n := n) w ta (Or.inl rfl) (by omega) (by omega)) (fun h18 w18 => ?_))
    obtain ⟨w18, q18, -⟩ := w18
    exact jok_w (S_X12_letters_4 k w18.1 ta (fJ q18) (by omega)) (fun q wq => jrd_tr w18 wq)
theorem S_X12_letters {g : jGh} {Γ : Nat → Option Nat} {n a0 : Nat} {h : jH} (hn : 6000 ≤ n) (w : jW (jKd g) Γ h) (ta0 : Γ a0 = some 20) : jok (F_X12_letters n a0 h) (fun q => jrd g Γ n a0 h q) := by
  unfold F_X12_letters
  rw [t_cv w ta0 rfl]
  refine jok_b (S_X12_blanks hn w ta0) (fun h1 w1 => ?_)
  obtain ⟨v1, e1, l1⟩ := t_gI (k := 10) w1.1 ta0 rfl rfl
  have l1 : 0 ≤ v1.toInt ∧ v1.toInt ≤ 400 := l1
  exact jok_w (S_X12_letters_4 n w1.1 ta0 e1 (by omega)) (fun q wq => jrd_tr w1 wq)
theorem jtb_lt : ∀ t, t < 36 → (jtb t).length < 1000 := by decide +kernel
theorem S_X12_isWord_24 {g : jGh} {Γ : Nat → Option Nat} {n : Nat} : ∀ (k : Nat) {a0 t1 : Nat} {x2 x3 : Int32} {h : jH}, jW (jKd g) Γ h → Γ a0 = some 20 → t1 < 36 → (x2 = 0 ∨ (x2 = 1 ∧ ∀ s, jgI 10 h a0 12 = some s → s.toInt + ((jtb t1).length : Int) ≤ 400)) → 0 ≤ x3.toInt → x3.toInt ≤ 1000 → 1000 - x3.toInt < k → jok (F_X12_isWord_24 n k a0 t1 x2 x3 h) (fun v => v = 0 ∨ v = 1)
  | 0, a0, t1, x2, x3, h, w, ta, ht, hx, l3, u3, hk => by omega
  | k + 1, a0, t1, x2, x3, h, w, ta, ht, hx, l3, u3, hk => by
    show jok (F_X12_isWord_24_b n (F_X12_isWord_24 n k) a0 t1 x2 x3 h) _
    unfold F_X12_isWord_24_b
    have eo : (1 : Int32).toInt = 1 := rfl
    have hl := jtb_lt t1 ht
    rcases hx with rfl | ⟨rfl, hs⟩
    · rw [if_pos rfl, if_pos (Or.inl rfl)]
      exact jok_s (Or.inl rfl)
    · rw [if_neg (by decide)]
      refine jok_b (t_tl ht ⟨rfl, hl⟩) (fun v30 l30 => ?_)
      refine jok_le (fun _ => ?_) (fun c => ?_)
      · rw [if_pos (Or.inr rfl)]
        exact jok_s (Or.inr rfl)
      · refine jok_b (t_gR w ta rfl rfl) (fun p37 t37 => ?_)
        obtain ⟨s, es, ls⟩ := t_gI (k := 12) w ta rfl rfl
        have ls : 0 ≤ s.toInt ∧ s.toInt ≤ 400 := ls
        have hs1 := hs s es
        have ea : (s + x3).toInt = s.toInt + x3.toInt := jadd (by omega) (by omega)
        refine jok_r es (jok_b (t_al w t37 rfl (by omega) (by omega)) (fun v46 _ => ?_))
        refine jok_b (t_tc rfl (by omega) (by omega)) (fun v49 _ => ?_)
        have e3 : (x3 + (1 : Int32)).toInt = x3.toInt + 1 := by rw [jadd (by omega) (by omega), eo]
        exact jok_if (fun _ => S_X12_isWord_24 k w ta ht (Or.inr ⟨rfl, hs⟩) (by omega) (by omega) (by omega)) (fun _ => S_X12_isWord_24 k w ta ht (Or.inl rfl) (by omega) (by omega) (by omega))
theorem S_X12_isWord {g : jGh} {Γ : Nat → Option Nat} {n a0 t1 : Nat} {h : jH} (hn : 6000 ≤ n) (w : jW (jKd g) Γ h) (ta0 : Γ a0 = some 20) (ht : t1 < 36) : jok (F_X12_isWord n a0 t1 h) (fun v => v = 0 ∨ v = 1) := by
  unfold F_X12_isWord
  have hl := jtb_lt t1 ht
  obtain ⟨v1, e1, l1⟩ := t_gI (k := 10) w ta0 rfl rfl
  have l1 : 0 ≤ v1.toInt ∧ v1.toInt ≤ 400 := l1
  obtain ⟨v5, e5, l5⟩ := t_gI (k := 12) w ta0 rfl rfl
  have l5 : 0 ≤ v5.toInt ∧ v5.toInt ≤ 400 := l5
  refine jok_r e1 (jok_r e5 (jok_b (t_tl ht ⟨rfl, hl⟩) (fun v10 l10 => ?_)))
  have es : (v1 - v5).toInt = v1.toInt - v5.toInt := jsub (by omega) (by omega)
  have z0 : (0 : Int32).toInt = 0 := rfl
  refine jok_eq (fun c _ => ?_) (fun _ => S_X12_isWord_24 n w ta0 ht (Or.inl rfl) (by decide) (by decide) (by omega))
  refine S_X12_isWord_24 n w ta0 ht (Or.inr ⟨rfl, fun s q => ?_⟩) (by decide) (by decide) (by omega)
  cases e5.symm.trans q
  omega
theorem S_X12_passes {g : jGh} {Γ : Nat → Option Nat} {n a0 t1 : Nat} {h : jH} (hn : 6000 ≤ n) (w : jW (jKd g) Γ h) (ta0 : Γ a0 = some 20) (ht : t1 < 36) : jok (F_X12_passes n a0 t1 h) (fun q => jrd g Γ n a0 h q.2) := by
  unfold F_X12_passes
  rw [t_cv w ta0 rfl]
  refine jok_b (S_X12_letters hn w ta0) (fun h1 w1 => ?_)
  rw [t_cv w1.1 ta0 rfl]
  refine jok_b (S_X12_isWord hn w1.1 ta0 ht) (fun v6 _ => ?_)
  refine jok_if (fun _ => ?_) (fun _ => jok_s w1)
  refine jok_b (t_gI w1.1 ta0 rfl rfl) (fun v16 l16 => ?_)
  refine jok_b (t_rdp (n := n) w1.1 ta0 (Or.inl rfl) l16.1 l16.2) (fun h19 w19 => ?_)
  exact jok_s (jrd_tr w1 w19.1)
theorem S_X12_sign {g : jGh} {Γ : Nat → Option Nat} {n a0 : Nat} {x1 : Int32} {h : jH} (hn : 6000 ≤ n) (w : jW (jKd g) Γ h) (ta0 : Γ a0 = some 20) : jok (F_X12_sign n a0 x1 h) (fun q => jrd g Γ n a0 h q.2) := by
  unfold F_X12_sign
  have eo : (1 : Int32).toInt = 1 := rfl
  rw [t_cv w ta0 rfl]
  refine jok_b (S_X12_blanks hn w ta0) (fun h1 w1 => ?_)
  rw [t_cv w1.1 ta0 rfl]
  refine jok_b (S_X12_isAt w1.1 ta0) (fun v7 l7 => ?_)
  refine jok_eq (fun _ _ => jok_s w1) (fun c => ?_)
  obtain ⟨v17, e17, l17⟩ := t_gI (k := 10) w1.1 ta0 rfl rfl
  have l17 : 0 ≤ v17.toInt ∧ v17.toInt ≤ 400 := l17
  have hp := l7.2 c _ e17
  have ea : (v17 + (1 : Int32)).toInt = v17.toInt + 1 := by rw [jadd (by omega) (by omega), eo]
  refine jok_r e17 (jok_b (t_rdp (n := n) w1.1 ta0 (Or.inl rfl) (by omega) (by omega)) (fun h22 w22 => ?_))
  exact jok_s (jrd_tr w1 w22.1)
theorem S_X12_number_6 {g : jGh} {Γ : Nat → Option Nat} {n : Nat} : ∀ (k : Nat) {a0 : Nat} {x1 x2 x3 u : Int32} {h : jH}, jW (jKd g) Γ h → Γ a0 = some 20 → jgI 10 h a0 10 = some u → 400 - u.toInt < k → jok (F_X12_number_6 n k a0 x1 x2 x3 h) (fun q => jrd g Γ n a0 h q.2 ∧ (q.1 = -1 ∨ (x1.toInt ≤ q.1.toInt ∧ q.1.toInt ≤ x2.toInt)))
  | 0, a0, x1, x2, x3, u, h, w, ta, eu, hk => by
    obtain ⟨v1, e1, l1⟩ := t_gI (k := 10) w ta rfl rfl
    have l1 : 0 ≤ v1.toInt ∧ v1.toInt ≤ 400 := l1
    have qz : v1 = u := Option.some.inj (e1.symm.trans eu)
    subst qz
    omega
  | k + 1, a0, x1, x2, x3, u, h, w, ta, eu, hk => by
    show jok (F_X12_number_6_b n (F_X12_number_6 n k) a0 x1 x2 x3 h) _
    unfold F_X12_number_6_b
    obtain ⟨v1, e1, l1⟩ := t_gI (k := 10) w ta rfl rfl
    have l1 : 0 ≤ v1.toInt ∧ v1.toInt ≤ 400 := l1
    have qz : v1 = u := Option.some.inj (e1.symm.trans eu)
    subst qz
    obtain ⟨s, es, ls⟩ := t_gI (k := 12) w ta rfl rfl
    have eo : (1 : Int32).toInt = 1 := rfl
    rw [t_cv w ta rfl]
    have hm : ∀ {P : Prop}, ((-1 : Int32) = -1 ∨ P) := Or.inl rfl
    refine jok_b (S_X12_isAt w ta) (fun v5 l5 => ?_)
    refine jok_eq (fun _ _ => ?_) (fun c => ?_)
    · refine jok_r e1 (jok_r es (jok_if (fun _ => jok_s ⟨⟨w, rfl⟩, hm⟩) (fun _ => ?_)))
      refine jok_r e1 (jok_r es (jok_if (fun _ => jok_s ⟨⟨w, rfl⟩, hm⟩) (fun _ => ?_)))
      refine jok_lt (fun _ => jok_s ⟨⟨w, rfl⟩, hm⟩) (fun c1 => jok_le (fun c2 => jok_s ⟨⟨w, rfl⟩, Or.inr ⟨c1, c2⟩⟩) (fun _ => jok_s ⟨⟨w, rfl⟩, hm⟩))
    · have hp := l5.2 c _ e1
      have ea : (v1 + (1 : Int32)).toInt = v1.toInt + 1 := by rw [jadd (by omega) (by omega), eo]
      have hn9 : ∀ {x : Int32}, jok ((jpf 10 h a0 10 (.int (v1 + (1 : Int32)))).bind fun h59 => F_X12_number_6 n k a0 x1 x2 x h59) (fun q => jrd g Γ n a0 h q.2 ∧ (q.1 = -1 ∨ (x1.toInt ≤ q.1.toInt ∧ q.1.toInt ≤ x2.toInt))) := by
        intro x
        refine jok_b (t_rdp (n := n) w ta (Or.inl rfl) (by omega) (by omega)) (fun h18 w18 => ?_)
        obtain ⟨w18, q18, -⟩ := w18
        exact jok_w (S_X12_number_6 k w18.1 ta (fJ q18) (by omega)) (fun q wq => ⟨jrd_tr w18 wq.1, wq.2⟩)
      refine jok_r e1 (jok_r es (jok_if (fun _ => jok_r e1 hn9) (fun _ => ?_)))
      refine jok_b (t_gR w ta rfl rfl) (fun p35 t35 => ?_)
      refine jok_r e1 (jok_b (t_al w t35 rfl (by omega) (by omega)) (fun v42 _ => jok_r e1 hn9))
theorem S_X12_number {g : jGh} {Γ : Nat → Option Nat} {n a0 : Nat} {x1 x2 : Int32} {h : jH} (hn : 6000 ≤ n) (w : jW (jKd g) Γ h) (ta0 : Γ a0 = some 20) : jok (F_X12_number n a0 x1 x2 h) (fun q => jrd g Γ n a0 h q.2 ∧ (q.1 = -1 ∨ (x1.toInt ≤ q.1.toInt ∧ q.1.toInt ≤ x2.toInt))) := by
  unfold F_X12_number
  rw [t_cv w ta0 rfl]
  refine jok_b (S_X12_blanks hn w ta0) (fun h1 w1 => ?_)
  obtain ⟨v1, e1, l1⟩ := t_gI (k := 10) w1.1 ta0 rfl rfl
  have l1 : 0 ≤ v1.toInt ∧ v1.toInt ≤ 400 := l1
  exact jok_w (S_X12_number_6 n w1.1 ta0 e1 (by omega)) (fun q wq => ⟨jrd_tr w1 wq.1, wq.2⟩)
theorem S_X12_after {g : jGh} {Γ : Nat → Option Nat} {n a0 t1 : Nat} {x2 x3 : Int32} {h : jH} (hn : 6000 ≤ n) (w : jW (jKd g) Γ h) (ta0 : Γ a0 = some 20) (ht : t1 < 36) : jok (F_X12_after n a0 t1 x2 x3 h) (fun q => jrd g Γ n a0 h q.2 ∧ (q.1 = -1 ∨ (x2.toInt ≤ q.1.toInt ∧ q.1.toInt ≤ x3.toInt))) := by
  unfold F_X12_after
  rw [t_cv w ta0 rfl]
  refine jok_b (S_X12_letters hn w ta0) (fun h1 w1 => ?_)
  rw [t_cv w1.1 ta0 rfl]
  refine jok_b (S_X12_isWord hn w1.1 ta0 ht) (fun v6 _ => ?_)
  refine jok_if (fun _ => jok_s ⟨w1, Or.inl rfl⟩) (fun _ => ?_)
  rw [t_cv w1.1 ta0 rfl]
  refine jok_b (S_X12_number hn w1.1 ta0) (fun q15 w15 => ?_)
  exact jok_s ⟨jrd_tr w1 w15.1, w15.2⟩
end
section
/-! the reference reads a pole -/
theorem jneg1 : ¬ (0 : Int32) ≤ -1 := by decide
/-- a write to the world below 435, at a place that is not bound -/
theorem t_asW {g : jGh} {Γ : Nat → Option Nat} {h : jH} {a : Nat} {i x : Int32} (w : jW (jKd g) Γ h) (ha : Γ a = some 21) (h0 : 1 ≤ i.toInt) (h9 : i.toInt ≠ 9) (h1 : i.toInt < 435) (h8 : i.toInt < 11 ∨ 75 ≤ i.toInt ∨ (i.toInt - 11) % 8 ≠ 0) : jok (jas 0 h a i x) (fun h1 => jW (jKd g) Γ h1 ∧ jfa h h1) :=
  t_as w ha rfl (by omega) (by omega) (show jRw g i.toInt.toNat x from ⟨⟨Or.inl (by omega), Or.inl (by omega), by omega⟩, Or.inl (by omega)⟩) (fun q => by cases q)
theorem j01s {g : jGh} {Γ : Nat → Option Nat} {h : jH} (w : jW (jKd g) Γ h) (c : Prop) [Decidable c] : jok (if c then some ((0 : Int32), h) else some ((1 : Int32), h)) (fun q => jW (jKd g) Γ q.2 ∧ (q.1 = 0 ∨ q.1 = 1)) :=
  jok_if (fun _ => jok_s ⟨w, Or.inl rfl⟩) (fun _ => jok_s ⟨w, Or.inr rfl⟩)
theorem S_X12_readNumber {g : jGh} {Γ : Nat → Option Nat} {n a0 : Nat} {x1 x2 x3 : Int32} {h : jH} (hn : 6000 ≤ n) (w : jW (jKd g) Γ h) (ta0 : Γ a0 = some 20) (h0 : 1 ≤ x1.toInt) (h1 : x1.toInt ≤ 8) : jok (F_X12_readNumber n a0 x1 x2 x3 h) (fun q => jW (jKd g) Γ q.2 ∧ (q.1 = 0 ∨ q.1 = 1)) := by
  unfold F_X12_readNumber
  rw [t_cv w ta0 rfl]
  refine jok_b (S_X12_number hn w ta0) (fun q3 w3 => ?_)
  obtain ⟨⟨w3, -⟩, -⟩ := w3
  refine jok_b (t_gR w3 ta0 rfl rfl) (fun p9 t9 => ?_)
  refine jok_if (fun _ => ?_) (fun _ => ?_)
  · refine jok_b (t_asW w3 t9 h0 (by omega) (by omega) (by omega)) (fun h29 w29 => ?_)
    exact j01s w29.1 _
  · refine jok_b (t_gR w3 ta0 rfl rfl) (fun p19 t19 => ?_)
    refine jok_b (t_al w3 t19 rfl (by omega) (by omega)) (fun v23 _ => ?_)
    refine jok_b (t_asW w3 t9 h0 (by omega) (by omega) (by omega)) (fun h29 w29 => ?_)
    exact j01s w29.1 _
theorem S_X12_readRing_171 {g : jGh} {Γ : Nat → Option Nat} {n a0 p : Nat} {x1 x6 x7 s1 s2 : Int32} {h : jH} (hn : 6000 ≤ n) (hg : jgok g) (w : jW (jKd g) Γ h) (ta0 : Γ a0 = some 20) (tp : Γ p = some 21) (l1 : 0 ≤ x1.toInt) (u1 : x1.toInt ≤ 7) (ls : s1.toInt = 11 + 8 * x1.toInt + 3) : jok (F_X12_readRing_171 n a0 x1 x6 x7 p s1 s2 h) (fun q => jW (jKd g) Γ q.2 ∧ (q.1 = 0 ∨ q.1 = 1)) := by
  have e4 : (4 : Int32).toInt = 4 := rfl
  have e5 : (5 : Int32).toInt = 5 := rfl
  unfold F_X12_readRing_171
  refine jok_b (t_asW w tp (by omega) (by omega) (by omega) (by omega)) (fun h171 w171 => ?_)
  obtain ⟨w171, -⟩ := w171
  refine jok_b (t_gR w171 ta0 rfl rfl) (fun p173 t173 => ?_)
  refine jok_b (S_X12_at hn hg w171 l1 (by omega) (by omega) (by omega)) (fun v178 l178 => ?_)
  refine jok_b (t_asW w171 t173 (by omega) (by omega) (by omega) (by omega)) (fun h183 w183 => ?_)
  obtain ⟨w183, -⟩ := w183
  refine jok_b (t_gR w183 ta0 rfl rfl) (fun p185 t185 => ?_)
  refine jok_b (S_X12_at hn hg w183 l1 (by omega) (by omega) (by omega)) (fun v190 l190 => ?_)
  refine jok_b (t_asW w183 t185 (by omega) (by omega) (by omega) (by omega)) (fun h195 w195 => ?_)
  exact jok_s ⟨w195.1, Or.inr rfl⟩
theorem S_X12_readRing_151 {g : jGh} {Γ : Nat → Option Nat} {n a0 p : Nat} {x1 x5 x6 x7 s1 s2 : Int32} {h : jH} (hn : 6000 ≤ n) (hg : jgok g) (w : jW (jKd g) Γ h) (ta0 : Γ a0 = some 20) (tp : Γ p = some 21) (l1 : 0 ≤ x1.toInt) (u1 : x1.toInt ≤ 7) (ls : s1.toInt = 11 + 8 * x1.toInt + 2) : jok (F_X12_readRing_151 n a0 x1 x5 x6 x7 p s1 s2 h) (fun q => jW (jKd g) Γ q.2 ∧ (q.1 = 0 ∨ q.1 = 1)) := by
  have e3 : (3 : Int32).toInt = 3 := rfl
  unfold F_X12_readRing_151
  refine jok_b (t_asW w tp (by omega) (by omega) (by omega) (by omega)) (fun h151 w151 => ?_)
  obtain ⟨w151, -⟩ := w151
  refine jok_b (t_gR w151 ta0 rfl rfl) (fun p153 t153 => ?_)
  refine jok_b (S_X12_at hn hg w151 l1 (by omega) (by omega) (by omega)) (fun v158 l158 => ?_)
  exact jok_if (fun _ => S_X12_readRing_171 hn hg w151 ta0 t153 l1 u1 (by omega)) (fun _ => S_X12_readRing_171 hn hg w151 ta0 t153 l1 u1 (by omega))
theorem S_X12_readRing_117 {g : jGh} {Γ : Nat → Option Nat} {n a0 : Nat} {x1 x2 x3 x4 x5 x6 s0 : Int32} {h : jH} (hn : 6000 ≤ n) (hg : jgok g) (w : jW (jKd g) Γ h) (ta0 : Γ a0 = some 20) (l1 : 0 ≤ x1.toInt) (u1 : x1.toInt ≤ 7) (l2 : 0 ≤ x2.toInt) (u2 : x2.toInt ≤ 31) (hr : ∀ r, F_X12_rings n a0 h = some r → 0 ≤ r.toInt ∧ r.toInt ≤ 7) : jok (F_X12_readRing_117 n a0 x1 x2 x3 x4 x5 x6 s0 h) (fun q => jW (jKd g) Γ q.2 ∧ (q.1 = 0 ∨ q.1 = 1)) := by
  have e2 : (2 : Int32).toInt = 2 := rfl
  unfold F_X12_readRing_117
  refine jok_if (fun _ => ?_) (fun _ => jok_s ⟨w, Or.inl rfl⟩)
  rw [t_cv w ta0 rfl]
  refine jok_b (S_X12_hangs hn hg w ta0 l2 u2 hr) (fun h129 w129 => ?_)
  refine jok_b (t_gR w129 ta0 rfl rfl) (fun p133 t133 => ?_)
  refine jok_b (S_X12_at hn hg w129 l1 (by omega) (by omega) (by omega)) (fun v138 l138 => ?_)
  exact jok_if (fun _ => S_X12_readRing_151 hn hg w129 ta0 t133 l1 u1 (by omega)) (fun _ => S_X12_readRing_151 hn hg w129 ta0 t133 l1 u1 (by omega))
theorem S_X12_readRing_88 {g : jGh} {Γ : Nat → Option Nat} {n a0 : Nat} {x1 x2 x3 x4 x5 s0 : Int32} {h : jH} (hn : 6000 ≤ n) (hg : jgok g) (w : jW (jKd g) Γ h) (ta0 : Γ a0 = some 20) (l1 : 0 ≤ x1.toInt) (u1 : x1.toInt ≤ 7) (l2 : 0 ≤ x2.toInt) (u2 : x2.toInt ≤ 31) (hr : ∀ r, F_X12_rings n a0 h = some r → 0 ≤ r.toInt ∧ r.toInt ≤ 7) : jok (F_X12_readRing_88 n a0 x1 x2 x3 x4 x5 s0 h) (fun q => jW (jKd g) Γ q.2 ∧ (q.1 = 0 ∨ q.1 = 1)) := by
  unfold F_X12_readRing_88
  refine jok_if (fun _ => ?_) (fun _ => jok_s ⟨w, Or.inl rfl⟩)
  rw [t_cv w ta0 rfl]
  refine jok_b (S_X12_passes hn w ta0 (by decide)) (fun q100 w100 => ?_)
  refine jok_if (fun _ => S_X12_readRing_117 hn hg w100.1 ta0 l1 u1 l2 u2 (by rw [w100.2]; exact hr)) (fun _ => ?_)
  rw [t_cv w100.1 ta0 rfl]
  refine jok_b (S_X12_number hn w100.1 ta0) (fun q110 w110 => ?_)
  exact S_X12_readRing_117 hn hg w110.1.1 ta0 l1 u1 l2 u2 (by rw [w110.1.2, w100.2]; exact hr)
theorem S_X12_readRing_45 {g : jGh} {Γ : Nat → Option Nat} {n a0 : Nat} {x1 x2 s0 : Int32} {h : jH} (hn : 6000 ≤ n) (hg : jgok g) (w : jW (jKd g) Γ h) (ta0 : Γ a0 = some 20) (l1 : 0 ≤ x1.toInt) (u1 : x1.toInt ≤ 7) (l2 : (0 : Int32) ≤ s0 → 0 ≤ x2.toInt ∧ x2.toInt ≤ 31) (hr : ∀ r, F_X12_rings n a0 h = some r → 0 ≤ r.toInt ∧ r.toInt ≤ 7) : jok (F_X12_readRing_45 n a0 x1 x2 s0 h) (fun q => jW (jKd g) Γ q.2 ∧ (q.1 = 0 ∨ q.1 = 1)) := by
  unfold F_X12_readRing_45
  refine jok_if (fun c => ?_) (fun _ => jok_s ⟨w, Or.inl rfl⟩)
  obtain ⟨l2, u2⟩ := l2 c
  rw [t_cv w ta0 rfl]
  refine jok_b (S_X12_passes hn w ta0 (by decide)) (fun q55 w55 => ?_)
  rw [t_cv w55.1 ta0 rfl]
  refine jok_b (S_X12_passes hn w55.1 ta0 (by decide)) (fun q63 w63 => ?_)
  rw [t_cv w63.1 ta0 rfl]
  refine jok_b (S_X12_passes hn w63.1 ta0 (by decide)) (fun q71 w71 => ?_)
  refine jok_if (fun _ => S_X12_readRing_88 hn hg w71.1 ta0 l1 u1 l2 u2 (by rw [w71.2, w63.2, w55.2]; exact hr)) (fun _ => ?_)
  rw [t_cv w71.1 ta0 rfl]
  refine jok_b (S_X12_number hn w71.1 ta0) (fun q81 w81 => ?_)
  exact S_X12_readRing_88 hn hg w81.1.1 ta0 l1 u1 l2 u2 (by rw [w81.1.2, w71.2, w63.2, w55.2]; exact hr)
theorem S_X12_readRing {g : jGh} {Γ : Nat → Option Nat} {n a0 : Nat} {h : jH} (hn : 6000 ≤ n) (hg : jgok g) (w : jW (jKd g) Γ h) (ta0 : Γ a0 = some 20) : jok (F_X12_readRing n a0 h) (fun q => jW (jKd g) Γ q.2 ∧ (q.1 = 0 ∨ q.1 = 1)) := by
  have e8 : (8 : Int32).toInt = 8 := rfl
  have e0 : (0 : Int32).toInt = 0 := rfl
  have em : (-1 : Int32).toInt = -1 := rfl
  unfold F_X12_readRing
  rw [t_cv w ta0 rfl]
  refine jok_b2 (S_X12_rings hn hg w ta0) (fun v1 q1 l1 => ?_)
  refine jok_eq (fun _ _ => jok_s ⟨w, Or.inl rfl⟩) (fun c => ?_)
  have hr : ∀ r, F_X12_rings n a0 h = some r → 0 ≤ r.toInt ∧ r.toInt ≤ 7 := fun r er => by
    cases q1.symm.trans er
    omega
  rw [t_cv w ta0 rfl]
  refine jok_b (S_X12_leastPlace hn hg w ta0) (fun v17 l17 => ?_)
  rw [t_cv w ta0 rfl]
  refine jok_b (S_X12_mostPlace hn hg w ta0) (fun v21 l21 => ?_)
  rw [t_cv w ta0 rfl]
  refine jok_b (S_X12_after hn w ta0 (by decide)) (fun q24 w24 => ?_)
  obtain ⟨w24, l24⟩ := w24
  refine jok_le (fun d => ?_) (fun d => ?_)
  · have hb : 0 ≤ q24.1.toInt ∧ q24.1.toInt ≤ 31 := by
      rcases l24 with z | z
      · rw [z, e0, em] at d
        omega
      · omega
    rw [t_cv w24.1 ta0 rfl]
    refine jok_b (S_X12_after hn w24.1 ta0 (by decide)) (fun q42 w42 => ?_)
    exact S_X12_readRing_45 hn hg w42.1.1 ta0 l1.1 (by omega) (fun _ => hb) (by rw [w42.1.2, w24.2]; exact hr)
  · exact S_X12_readRing_45 hn hg w24.1 ta0 l1.1 (by omega) (fun q => absurd q jneg1) (by rw [w24.2]; exact hr)
theorem S_X12_readCaught {g : jGh} {Γ : Nat → Option Nat} {n a0 : Nat} {h : jH} (hn : 6000 ≤ n) (hg : jgok g) (w : jW (jKd g) Γ h) (ta0 : Γ a0 = some 20) : jok (F_X12_readCaught n a0 h) (fun q => jW (jKd g) Γ q.2 ∧ (q.1 = 0 ∨ q.1 = 1)) := by
  have e0 : (0 : Int32).toInt = 0 := rfl
  have e1 : (1 : Int32).toInt = 1 := rfl
  have e7 : (7 : Int32).toInt = 7 := rfl
  have em : (-1 : Int32).toInt = -1 := rfl
  unfold F_X12_readCaught
  rw [t_cv w ta0 rfl]
  refine jok_b (S_X12_lastRing hn hg w ta0) (fun v3 l3 => ?_)
  have es : (v3 - (1 : Int32)).toInt = v3.toInt - 1 := by rw [jsub (by omega) (by omega), e1]
  rw [t_cv w ta0 rfl]
  refine jok_b (S_X12_number hn w ta0) (fun q8 w8 => ?_)
  obtain ⟨⟨w8, -⟩, l8⟩ := w8
  refine jok_le (fun d => ?_) (fun d => jok_s ⟨w8, Or.inl rfl⟩)
  have hb : 0 ≤ q8.1.toInt ∧ q8.1.toInt ≤ 6 := by
    rcases l8 with z | z
    · rw [z, e0, em] at d
      omega
    · omega
  refine jok_b (t_gR w8 ta0 rfl rfl) (fun p19 t19 => ?_)
  refine jok_b (S_X12_at hn hg w8 hb.1 (by omega) (by omega) (by omega)) (fun v25 l25 => ?_)
  refine jok_b (t_asW w8 t19 (by omega) (by omega) (by omega) (by omega)) (fun h29 w29 => ?_)
  exact jok_s ⟨w29.1, Or.inr rfl⟩
theorem S_X12_readChair {g : jGh} {Γ : Nat → Option Nat} {n a0 : Nat} {h : jH} (hn : 6000 ≤ n) (w : jW (jKd g) Γ h) (ta0 : Γ a0 = some 20) : jok (F_X12_readChair n a0 h) (fun q => jW (jKd g) Γ q.2 ∧ (q.1 = 0 ∨ q.1 = 1)) := by
  have e7 : (7 : Int32).toInt = 7 := rfl
  unfold F_X12_readChair
  rw [t_cv w ta0 rfl]
  refine jok_b (S_X12_number hn w ta0) (fun q4 w4 => ?_)
  obtain ⟨⟨w4, -⟩, -⟩ := w4
  refine jok_if (fun d => ?_) (fun d => jok_s ⟨w4, Or.inl rfl⟩)
  refine jok_b (t_gR w4 ta0 rfl rfl) (fun p15 t15 => ?_)
  refine jok_b (t_al w4 t15 rfl (by omega) (by omega)) (fun v21 _ => ?_)
  refine jok_b (t_asW w4 t15 (by omega) (by omega) (by omega) (by omega)) (fun h26 w26 => ?_)
  exact jok_s ⟨w26.1, Or.inr rfl⟩
theorem j01p {g : jGh} {Γ : Nat → Option Nat} {o : Option (Int32 × jH)} (h : jok o (fun q => jW (jKd g) Γ q.2 ∧ (q.1 = 0 ∨ q.1 = 1))) : jok (o.bind fun q => if q.1 = 0 ∨ q.1 = 1 then some (q.1, q.2) else none) (fun q => jW (jKd g) Γ q.2 ∧ (q.1 = 0 ∨ q.1 = 1)) :=
  jok_b h (fun q w => by rw [if_pos w.2]; exact jok_s w)
theorem S_X12_readPoleLine {g : jGh} {Γ : Nat → Option Nat} {n a0 : Nat} {h : jH} (hn : 6000 ≤ n) (hg : jgok g) (w : jW (jKd g) Γ h) (ta0 : Γ a0 = some 20) : jok (F_X12_readPoleLine n a0 h) (fun q => jW (jKd g) Γ q.2 ∧ (q.1 = 0 ∨ q.1 = 1)) := by
  unfold F_X12_readPoleLine
  rw [t_cv w ta0 rfl]
  refine jok_b (S_X12_isWord hn w ta0 (by decide)) (fun v3 _ => jok_if (fun _ => ?_) (fun _ => by rw [t_cv w ta0 rfl]; exact j01p (S_X12_readRing hn hg w ta0)))
  rw [t_cv w ta0 rfl]
  refine jok_b (S_X12_isWord hn w ta0 (by decide)) (fun v17 _ => jok_if (fun _ => ?_) (fun _ => by rw [t_cv w ta0 rfl]; exact j01p (S_X12_readCaught hn hg w ta0)))
  rw [t_cv w ta0 rfl]
  refine jok_b (S_X12_isWord hn w ta0 (by decide)) (fun v31 _ => jok_if (fun _ => ?_) (fun _ => by rw [t_cv w ta0 rfl]; exact j01p (S_X12_readChair hn w ta0)))
  rw [t_cv w ta0 rfl]
  refine jok_b (S_X12_isWord hn w ta0 (by decide)) (fun v45 _ => jok_if (fun _ => ?_) (fun _ => by rw [t_cv w ta0 rfl]; exact j01p (S_X12_readNumber hn w ta0 (by decide) (by decide))))
  rw [t_cv w ta0 rfl]
  refine jok_b (S_X12_isWord hn w ta0 (by decide)) (fun v63 _ => jok_if (fun _ => ?_) (fun _ => by rw [t_cv w ta0 rfl]; exact j01p (S_X12_readNumber hn w ta0 (by decide) (by decide))))
  rw [t_cv w ta0 rfl]
  refine jok_b (S_X12_isWord hn w ta0 (by decide)) (fun v82 _ => jok_if (fun _ => ?_) (fun _ => by rw [t_cv w ta0 rfl]; exact j01p (S_X12_readNumber hn w ta0 (by decide) (by decide))))
  rw [t_cv w ta0 rfl]
  refine jok_b (S_X12_isWord hn w ta0 (by decide)) (fun v100 _ => jok_if (fun _ => jok_s ⟨w, Or.inl rfl⟩) (fun _ => ?_))
  rw [t_cv w ta0 rfl]
  refine jok_b (S_X12_readNumber hn w ta0 (by decide) (by decide)) (fun q112 w112 => j01s w112.1 _)
end
section
/-! the reference reads: what is left alone, and how far the reading comes -/
def jrx (a0 : Nat) (h q : jH) : Prop := ∀ k, k ≠ 10 → k ≠ 12 → jgf 10 q a0 k = jgf 10 h a0 k
/-- the reading comes on by d at least -/
def jmo (a0 : Nat) (d : Int) (h q : jH) : Prop := ∀ u, jgI 10 h a0 10 = some u → ∃ v, jgI 10 q a0 10 = some v ∧ u.toInt + d ≤ v.toInt
def jrw (g : jGh) (Γ : Nat → Option Nat) (a0 : Nat) (h q : jH) : Prop := jW (jKd g) Γ q ∧ jrx a0 h q
theorem jrw_tr {g : jGh} {Γ : Nat → Option Nat} {a0 : Nat} {h h1 h2 : jH} (a : jrw g Γ a0 h h1) (b : jrw g Γ a0 h1 h2) : jrw g Γ a0 h h2 := ⟨b.1, fun k c d => (b.2 k c d).trans (a.2 k c d)⟩
theorem jmo_tr {a0 : Nat} {d e : Int} {h h1 h2 : jH} (a : jmo a0 d h h1) (b : jmo a0 e h1 h2) : jmo a0 (d + e) h h2 := by
  intro u eu
  obtain ⟨v, ev, hv⟩ := a u eu
  obtain ⟨z, ez, hz⟩ := b v ev
  exact ⟨z, ez, by omega⟩
theorem jmo_0 {a0 : Nat} {h : jH} : jmo a0 0 h h := fun u eu => ⟨u, eu, by omega⟩
theorem jmo_le {a0 : Nat} {d e : Int} {h q : jH} (a : jmo a0 d h q) (hd : e ≤ d) : jmo a0 e h q := by
  intro u eu
  obtain ⟨v, ev, hv⟩ := a u eu
  exact ⟨v, ev, by omega⟩
theorem t_rw {g : jGh} {Γ : Nat → Option Nat} {a0 k : Nat} {x : Int32} {h : jH} (w : jW (jKd g) Γ h) (ta0 : Γ a0 = some 20) (hk : k = 10 ∨ k = 12) (l0 : 0 ≤ x.toInt) (l4 : x.toInt ≤ 400) : jok (jpf 10 h a0 k (.int x)) (fun h1 => jrw g Γ a0 h h1 ∧ jgf 10 h1 a0 k = some (.int x) ∧ jfr h h1 a0 k) := by
  rcases hk with rfl | rfl
  · obtain ⟨h1, e, w1⟩ := t_pI (k := 10) w ta0 rfl rfl (show jI 0 400 x from ⟨l0, l4⟩)
    exact ⟨h1, e, ⟨w1.1, fun k c _ => w1.2.2 10 a0 k (Or.inr c)⟩, w1.2⟩
  · obtain ⟨h1, e, w1⟩ := t_pI (k := 12) w ta0 rfl rfl (show jI 0 400 x from ⟨l0, l4⟩)
    exact ⟨h1, e, ⟨w1.1, fun k _ d => w1.2.2 10 a0 k (Or.inr d)⟩, w1.2⟩
theorem T_X12_blanks_0 {g : jGh} {Γ : Nat → Option Nat} {n : Nat} : ∀ (k : Nat) {a0 : Nat} {u : Int32} {h : jH}, jW (jKd g) Γ h → Γ a0 = some 20 → jgI 10 h a0 10 = some u → 400 - u.toInt < k → jok (F_X12_blanks_0 n k a0 h) (fun q => jrw g Γ a0 h q ∧ ∃ v, jgI 10 q a0 10 = some v ∧ jgI 10 q a0 12 = some v ∧ u.toInt ≤ v.toInt)
  | 0, a0, u, h, w, ta, eu, hk => by
    obtain ⟨v1, e1, l1⟩ := t_gI (k := 10) w ta rfl rfl
    have l1 : 0 ≤ v1.toInt ∧ v1.toInt ≤ 400 := l1
    have qz : v1 = u := Option.some.inj (e1.symm.trans eu)
    subst qz
    omega
  | k + 1, a0, u, h, w, ta, eu, hk => by
    show jok (F_X12_blanks_0_b n (F_X12_blanks_0 n k) a0 h) _
    unfold F_X12_blanks_0_b
    obtain ⟨v1, e1, l1⟩ := t_gI (k := 10) w ta rfl rfl
    have l1 : 0 ≤ v1.toInt ∧ v1.toInt ≤ 400 := l1
    have qz : v1 = u := Option.some.inj (e1.symm.trans eu)
    subst qz
    have eo : (1 : Int32).toInt = 1 := rfl
    rw [t_cv w ta rfl]
    refine jok_b (S_X12_isAt w ta) (fun v5 l5 => ?_)
    refine jok_eq (fun _ _ => ?_) (fun c => ?_)
    · refine jok_r e1 (jok_b (t_rw w ta (Or.inr rfl) l1.1 l1.2) (fun h29 w29 => ?_))
      exact jok_s ⟨w29.1, v1, fI (w29.2.2 10 a0 10 (Or.inr (by decide))) e1, fJ w29.2.1, Int.le_refl _⟩
    · have hp := l5.2 c _ e1
      have ea : (v1 + (1 : Int32)).toInt = v1.toInt + 1 := by rw [jadd (by omega) (by omega), eo]
      refine jok_r e1 (jok_b (t_rw w ta (Or.inl rfl) (by omega) (by omega)) (fun h18 w18 => ?_))
      obtain ⟨w18, q18, -⟩ := w18
      refine jok_w (T_X12_blanks_0 k w18.1 ta (fJ q18) (by omega)) (fun q wq => ?_)
      obtain ⟨wq, v, a, b, c⟩ := wq
      exact ⟨jrw_tr w18 wq, v, a, b, by omega⟩
theorem T_X12_blanks {g : jGh} {Γ : Nat → Option Nat} {n a0 : Nat} {u : Int32} {h : jH} (hn : 6000 ≤ n) (w : jW (jKd g) Γ h) (ta0 : Γ a0 = some 20) (eu : jgI 10 h a0 10 = some u) : jok (F_X12_blanks n a0 h) (fun q => jrw g Γ a0 h q ∧ ∃ v, jgI 10 q a0 10 = some v ∧ jgI 10 q a0 12 = some v ∧ u.toInt ≤ v.toInt) := by
  obtain ⟨v1, e1, l1⟩ := t_gI (k := 10) w ta0 rfl rfl
  have l1 : 0 ≤ v1.toInt ∧ v1.toInt ≤ 400 := l1
  have qz : v1 = u := Option.some.inj (e1.symm.trans eu)
  subst qz
  unfold F_X12_blanks
  exact T_X12_blanks_0 n w ta0 e1 (by omega)
theorem T_X12_letters_4 {g : jGh} {Γ : Nat → Option Nat} {n : Nat} : ∀ (k : Nat) {a0 : Nat} {u s : Int32} {h : jH}, jW (jKd g) Γ h → Γ a0 = some 20 → jgI 10 h a0 10 = some u → jgI 10 h a0 12 = some s → 400 - u.toInt < k → jok (F_X12_letters_4 n k a0 h) (fun q => jrw g Γ a0 h q ∧ jgI 10 q a0 12 = some s ∧ ∃ v, jgI 10 q a0 10 = some v ∧ u.toInt ≤ v.toInt)
  | 0, a0, u, s, h, w, ta, eu, es, hk => by
    obtain ⟨v1, e1, l1⟩ := t_gI (k := 10) w ta rfl rfl
    have l1 : 0 ≤ v1.toInt ∧ v1.toInt ≤ 400 := l1
    have qz : v1 = u := Option.some.inj (e1.symm.trans eu)
    subst qz
    omega
  | k + 1, a0, u, s, h, w, ta, eu, es, hk => by
    show jok (F_X12_letters_4_b n (F_X12_letters_4 n k) a0 h) _
    unfold F_X12_letters_4_b
    obtain ⟨v1, e1, l1⟩ := t_gI (k := 10) w ta rfl rfl
    have l1 : 0 ≤ v1.toInt ∧ v1.toInt ≤ 400 := l1
    have qz : v1 = u := Option.some.inj (e1.symm.trans eu)
    subst qz
    have eo : (1 : Int32).toInt = 1 := rfl
    rw [t_cv w ta rfl]
    refine jok_b (S_X12_isAt w ta) (fun v5 l5 => ?_)
    refine jok_eq (fun _ _ => jok_s ⟨⟨w, fun _ _ _ => rfl⟩, es, v1, e1, Int.le_refl _⟩) (fun c => ?_)
    have hp := l5.2 c _ e1
    have ea : (v1 + (1 : Int32)).toInt = v1.toInt + 1 := by rw [jadd (by omega) (by omega), eo]
    refine jok_r e1 (jok_b (t_rw w ta (Or.inl rfl) (by omega) (by omega)) (fun h18 w18 => ?_))
    obtain ⟨w18, q18, f18⟩ := w18
    refine jok_w (T_X12_letters_4 k w18.1 ta (fJ q18) (fI (f18 10 a0 12 (Or.inr (by decide))) es) (by omega)) (fun q wq => ?_)
    obtain ⟨wq, a, v, b, c⟩ := wq
    exact ⟨jrw_tr w18 wq, a, v, b, by omega⟩
theorem T_X12_letters {g : jGh} {Γ : Nat → Option Nat} {n a0 : Nat} {u : Int32} {h : jH} (hn : 6000 ≤ n) (w : jW (jKd g) Γ h) (ta0 : Γ a0 = some 20) (eu : jgI 10 h a0 10 = some u) : jok (F_X12_letters n a0 h) (fun q => jrw g Γ a0 h q ∧ ∃ s v, jgI 10 q a0 12 = some s ∧ jgI 10 q a0 10 = some v ∧ u.toInt ≤ s.toInt ∧ s.toInt ≤ v.toInt) := by
  unfold F_X12_letters
  rw [t_cv w ta0 rfl]
  refine jok_b (T_X12_blanks hn w ta0 eu) (fun h1 w1 => ?_)
  obtain ⟨w1, v1, e1, e2, l1⟩ := w1
  obtain ⟨v9, e9, l9⟩ := t_gI (k := 10) w1.1 ta0 rfl rfl
  have l9 : 0 ≤ v9.toInt ∧ v9.toInt ≤ 400 := l9
  have qz : v9 = v1 := Option.some.inj (e9.symm.trans e1)
  subst qz
  refine jok_w (T_X12_letters_4 n w1.1 ta0 e1 e2 (by omega)) (fun q wq => ?_)
  obtain ⟨wq, a, v, b, c⟩ := wq
  exact ⟨jrw_tr w1 wq, v9, v, a, b, l1, c⟩
theorem T_X12_isWord {g : jGh} {Γ : Nat → Option Nat} {n a0 t1 : Nat} {u s : Int32} {h : jH} (hn : 6000 ≤ n) (w : jW (jKd g) Γ h) (ta0 : Γ a0 = some 20) (ht : t1 < 36) (eu : jgI 10 h a0 10 = some u) (es : jgI 10 h a0 12 = some s) : jok (F_X12_isWord n a0 t1 h) (fun v => v = 0 ∨ (v = 1 ∧ u.toInt = s.toInt + ((jtb t1).length : Int))) := by
  unfold F_X12_isWord
  have hl := jtb_lt t1 ht
  obtain ⟨v1, e1, l1⟩ := t_gI (k := 10) w ta0 rfl rfl
  have l1 : 0 ≤ v1.toInt ∧ v1.toInt ≤ 400 := l1
  obtain ⟨v5, e5, l5⟩ := t_gI (k := 12) w ta0 rfl rfl
  have l5 : 0 ≤ v5.toInt ∧ v5.toInt ≤ 400 := l5
  have qz : v1 = u := Option.some.inj (e1.symm.trans eu)
  subst qz
  have qz : v5 = s := Option.some.inj (e5.symm.trans es)
  subst qz
  refine jok_r e1 (jok_r e5 (jok_b (t_tl ht ⟨rfl, hl⟩) (fun v10 l10 => ?_)))
  have ez : (v1 - v5).toInt = v1.toInt - v5.toInt := jsub (by omega) (by omega)
  refine jok_eq (fun c _ => ?_) (fun _ => ?_)
  · refine jok_w (S_X12_isWord_24 n w ta0 ht (Or.inr ⟨rfl, fun s q => ?_⟩) (by decide) (by decide) (by have z0 : (0 : Int32).toInt = 0 := rfl; omega)) (fun v hv => ?_)
    · cases e5.symm.trans q
      omega
    · rcases hv with hv | hv
      · exact Or.inl hv
      · exact Or.inr ⟨hv, by omega⟩
  · have z : jok (F_X12_isWord_24 n n a0 t1 (0 : Int32) (0 : Int32) h) (fun v => v = 0) := by
      obtain ⟨m, rfl⟩ : ∃ m, n = m + 1 := ⟨n - 1, by omega⟩
      show jok (F_X12_isWord_24_b (m + 1) (F_X12_isWord_24 (m + 1) m) a0 t1 (0 : Int32) (0 : Int32) h) _
      unfold F_X12_isWord_24_b
      rw [if_pos rfl, if_pos (Or.inl rfl)]
      exact jok_s rfl
    exact jok_w z (fun v hv => Or.inl hv)
theorem T_X12_passes {g : jGh} {Γ : Nat → Option Nat} {n a0 t1 : Nat} {h : jH} (hn : 6000 ≤ n) (w : jW (jKd g) Γ h) (ta0 : Γ a0 = some 20) (ht : t1 < 36) : jok (F_X12_passes n a0 t1 h) (fun q => jrw g Γ a0 h q.2 ∧ ((q.1 = 0 ∧ jmo a0 0 h q.2) ∨ (q.1 = 1 ∧ jmo a0 ((jtb t1).length : Int) h q.2))) := by
  unfold F_X12_passes
  obtain ⟨u, eu, -⟩ := t_gI (k := 10) w ta0 rfl rfl
  rw [t_cv w ta0 rfl]
  refine jok_b (T_X12_letters hn w ta0 eu) (fun h1 w1 => ?_)
  obtain ⟨w1, s, v, es, ev, l1, l2⟩ := w1
  rw [t_cv w1.1 ta0 rfl]
  refine jok_b (T_X12_isWord hn w1.1 ta0 ht ev es) (fun v6 l6 => ?_)
  rcases l6 with rfl | ⟨rfl, l6⟩
  · rw [if_pos rfl]
    obtain ⟨v16, e16, l16⟩ := t_gI (k := 12) w1.1 ta0 rfl rfl
    have qz : v16 = s := Option.some.inj (e16.symm.trans es)
    subst qz
    refine jok_r e16 (jok_b (t_rw w1.1 ta0 (Or.inl rfl) l16.1 l16.2) (fun h19 w19 => ?_))
    refine jok_s ⟨jrw_tr w1 w19.1, Or.inl ⟨rfl, fun u9 e9 => ⟨v16, fJ w19.2.1, ?_⟩⟩⟩
    have qz : u = u9 := Option.some.inj (eu.symm.trans e9)
    subst qz
    omega
  · rw [if_neg (by decide)]
    refine jok_s ⟨w1, Or.inr ⟨rfl, fun u9 e9 => ⟨v, ev, ?_⟩⟩⟩
    have qz : u = u9 := Option.some.inj (eu.symm.trans e9)
    subst qz
    omega
theorem T_X12_sign {g : jGh} {Γ : Nat → Option Nat} {n a0 : Nat} {x1 : Int32} {h : jH} (hn : 6000 ≤ n) (w : jW (jKd g) Γ h) (ta0 : Γ a0 = some 20) : jok (F_X12_sign n a0 x1 h) (fun q => jrw g Γ a0 h q.2 ∧ ((q.1 = 0 ∧ jmo a0 0 h q.2) ∨ (q.1 = 1 ∧ jmo a0 1 h q.2))) := by
  unfold F_X12_sign
  have eo : (1 : Int32).toInt = 1 := rfl
  obtain ⟨u, eu, -⟩ := t_gI (k := 10) w ta0 rfl rfl
  rw [t_cv w ta0 rfl]
  refine jok_b (T_X12_blanks hn w ta0 eu) (fun h1 w1 => ?_)
  obtain ⟨w1, v, ev, -, lv⟩ := w1
  rw [t_cv w1.1 ta0 rfl]
  refine jok_b (S_X12_isAt w1.1 ta0) (fun v7 l7 => ?_)
  refine jok_eq (fun _ _ => jok_s ⟨w1, Or.inl ⟨rfl, fun u9 e9 => ⟨v, ev, ?_⟩⟩⟩) (fun c => ?_)
  · have qz : u = u9 := Option.some.inj (eu.symm.trans e9)
    subst qz
    omega
  obtain ⟨v17, e17, l17⟩ := t_gI (k := 10) w1.1 ta0 rfl rfl
  have l17 : 0 ≤ v17.toInt ∧ v17.toInt ≤ 400 := l17
  have qz : v17 = v := Option.some.inj (e17.symm.trans ev)
  subst qz
  have hp := l7.2 c _ e17
  have ea : (v17 + (1 : Int32)).toInt = v17.toInt + 1 := by rw [jadd (by omega) (by omega), eo]
  refine jok_r e17 (jok_b (t_rw w1.1 ta0 (Or.inl rfl) (by omega) (by omega)) (fun h22 w22 => ?_))
  refine jok_s ⟨jrw_tr w1 w22.1, Or.inr ⟨rfl, fun u9 e9 => ⟨_, fJ w22.2.1, ?_⟩⟩⟩
  have qz : u = u9 := Option.some.inj (eu.symm.trans e9)
  subst qz
  omega
end
section
theorem T_X12_number_6 {g : jGh} {Γ : Nat → Option Nat} {n : Nat} : ∀ (k : Nat) {a0 : Nat} {x1 x2 x3 u s : Int32} {h : jH}, jW (jKd g) Γ h → Γ a0 = some 20 → jgI 10 h a0 10 = some u → jgI 10 h a0 12 = some s → 400 - u.toInt < k → jok (F_X12_number_6 n k a0 x1 x2 x3 h) (fun q => jrw g Γ a0 h q.2 ∧ ∃ v, jgI 10 q.2 a0 10 = some v ∧ u.toInt ≤ v.toInt ∧ (q.1 = -1 ∨ (x1.toInt ≤ q.1.toInt ∧ q.1.toInt ≤ x2.toInt ∧ v.toInt ≠ s.toInt)))
  | 0, a0, x1, x2, x3, u, s, h, w, ta, eu, es, hk => by
    obtain ⟨v1, e1, l1⟩ := t_gI (k := 10) w ta rfl rfl
    have l1 : 0 ≤ v1.toInt ∧ v1.toInt ≤ 400 := l1
    have qz : v1 = u := Option.some.inj (e1.symm.trans eu)
    subst qz
    omega
  | k + 1, a0, x1, x2, x3, u, s, h, w, ta, eu, es, hk => by
    show jok (F_X12_number_6_b n (F_X12_number_6 n k) a0 x1 x2 x3 h) _
    unfold F_X12_number_6_b
    obtain ⟨v1, e1, l1⟩ := t_gI (k := 10) w ta rfl rfl
    have l1 : 0 ≤ v1.toInt ∧ v1.toInt ≤ 400 := l1
    have qz : v1 = u := Option.some.inj (e1.symm.trans eu)
    subst qz
    have eo : (1 : Int32).toInt = 1 := rfl
    rw [t_cv w ta rfl]
    have hr : jrw g Γ a0 h h := ⟨w, fun _ _ _ => rfl⟩
    have hm : ∀ {x : Int32}, x = -1 → jok (some (x, h)) (fun q => jrw g Γ a0 h q.2 ∧ ∃ v, jgI 10 q.2 a0 10 = some v ∧ v1.toInt ≤ v.toInt ∧ (q.1 = -1 ∨ (x1.toInt ≤ q.1.toInt ∧ q.1.toInt ≤ x2.toInt ∧ v.toInt ≠ s.toInt))) := fun hx => jok_s ⟨hr, v1, e1, Int.le_refl _, Or.inl hx⟩
    refine jok_b (S_X12_isAt w ta) (fun v5 l5 => ?_)
    refine jok_eq (fun _ _ => ?_) (fun c => ?_)
    · refine jok_r e1 (jok_r es (jok_eq (fun _ _ => hm rfl) (fun hne => ?_)))
      refine jok_r e1 (jok_r es (jok_if (fun _ => hm rfl) (fun _ => ?_)))
      refine jok_lt (fun _ => hm rfl) (fun c1 => jok_le (fun c2 => jok_s ⟨hr, v1, e1, Int.le_refl _, Or.inr ⟨c1, c2, hne⟩⟩) (fun _ => hm rfl))
    · have hp := l5.2 c _ e1
      have ea : (v1 + (1 : Int32)).toInt = v1.toInt + 1 := by rw [jadd (by omega) (by omega), eo]
      have hn9 : ∀ {x : Int32}, jok ((jpf 10 h a0 10 (.int (v1 + (1 : Int32)))).bind fun h59 => F_X12_number_6 n k a0 x1 x2 x h59) (fun q => jrw g Γ a0 h q.2 ∧ ∃ v, jgI 10 q.2 a0 10 = some v ∧ v1.toInt ≤ v.toInt ∧ (q.1 = -1 ∨ (x1.toInt ≤ q.1.toInt ∧ q.1.toInt ≤ x2.toInt ∧ v.toInt ≠ s.toInt))) := by
        intro x
        refine jok_b (t_rw w ta (Or.inl rfl) (by omega) (by omega)) (fun h18 w18 => ?_)
        obtain ⟨w18, q18, f18⟩ := w18
        refine jok_w (T_X12_number_6 k w18.1 ta (fJ q18) (fI (f18 10 a0 12 (Or.inr (by decide))) es) (by omega)) (fun q wq => ?_)
        obtain ⟨wq, v, b, c, d⟩ := wq
        exact ⟨jrw_tr w18 wq, v, b, by omega, d⟩
      refine jok_r e1 (jok_r es (jok_if (fun _ => jok_r e1 hn9) (fun _ => ?_)))
      refine jok_b (t_gR w ta rfl rfl) (fun p35 t35 => ?_)
      refine jok_r e1 (jok_b (t_al w t35 rfl (by omega) (by omega)) (fun v42 _ => jok_r e1 hn9))
theorem T_X12_number {g : jGh} {Γ : Nat → Option Nat} {n a0 : Nat} {x1 x2 : Int32} {h : jH} (hn : 6000 ≤ n) (w : jW (jKd g) Γ h) (ta0 : Γ a0 = some 20) : jok (F_X12_number n a0 x1 x2 h) (fun q => jrw g Γ a0 h q.2 ∧ jmo a0 0 h q.2 ∧ (q.1 = -1 ∨ (x1.toInt ≤ q.1.toInt ∧ q.1.toInt ≤ x2.toInt ∧ jmo a0 1 h q.2))) := by
  unfold F_X12_number
  obtain ⟨u, eu, -⟩ := t_gI (k := 10) w ta0 rfl rfl
  rw [t_cv w ta0 rfl]
  refine jok_b (T_X12_blanks hn w ta0 eu) (fun h1 w1 => ?_)
  obtain ⟨w1, v1, e1, e2, l1⟩ := w1
  obtain ⟨v9, e9, l9⟩ := t_gI (k := 10) w1.1 ta0 rfl rfl
  have l9 : 0 ≤ v9.toInt ∧ v9.toInt ≤ 400 := l9
  have qz : v9 = v1 := Option.some.inj (e9.symm.trans e1)
  subst qz
  refine jok_w (T_X12_number_6 n w1.1 ta0 e1 e2 (by omega)) (fun q wq => ?_)
  obtain ⟨wq, v, ev, lv, d⟩ := wq
  have hm : ∀ e : Int, v9.toInt + e ≤ v.toInt → jmo a0 e h q.2 := fun e he u9 e99 => by
    have qz : u = u9 := Option.some.inj (eu.symm.trans e99)
    subst qz
    exact ⟨v, ev, by omega⟩
  refine ⟨jrw_tr w1 wq, hm 0 (by omega), ?_⟩
  rcases d with d | ⟨d1, d2, d3⟩
  · exact Or.inl d
  · exact Or.inr ⟨d1, d2, hm 1 (by omega)⟩
/-! the reference reads a law: its codes -/
/-- the draft's codes, as law's -/
def jdr (C : Nat → Int32) : Nat → Int32 := fun k => C (k + 849)
theorem jhgt_eq {c d : Nat → Int32} {s : Nat} : ∀ l : Nat, (∀ k, s ≤ k → k < s + l → c (484 + 2 * k) = d (484 + 2 * k)) → jhgt c s l = jhgt d s l
  | 0, _ => rfl
  | l + 1, h => by
    show (jhgt c s l).bind _ = (jhgt d s l).bind _
    rw [jhgt_eq l (fun k a b => h k a (by omega)), h (s + l) (by omega) (by omega)]
/-- while a line of the law is read: its codes from s on, at height t; d steps behind the reading; depth p -/
def jls (g : jGh) (Γ : Nat → Option Nat) (a0 : Nat) (C0 : Nat → Int32) (s t : Nat) (d b p : Int) (h : jH) : Prop := ∃ C : Nat → Int32, (∀ k, k < 1333 + 2 * s → C k = C0 k) ∧ jW (jKd (g.1, g.2.1, g.2.2.1, C, g.2.2.2.2)) Γ h ∧ ∃ st u dp : Int32, jgI 10 h a0 16 = some st ∧ jgI 10 h a0 10 = some u ∧ jgI 10 h a0 13 = some dp ∧ dp.toInt = p ∧ (s : Int) ≤ st.toInt ∧ st.toInt + d ≤ u.toInt ∧ b ≤ u.toInt ∧ jhgt (jdr C) s (st.toInt.toNat - s) = some t
/-- the line could not be read -/
def jlf (g : jGh) (Γ : Nat → Option Nat) (C0 : Nat → Int32) (s : Nat) (h : jH) : Prop := ∃ C : Nat → Int32, (∀ k, k < 1333 + 2 * s → C k = C0 k) ∧ jW (jKd (g.1, g.2.1, g.2.2.1, C, g.2.2.2.2)) Γ h
theorem jls_f {g : jGh} {Γ : Nat → Option Nat} {a0 : Nat} {C0 : Nat → Int32} {s t : Nat} {d b p : Int} {h : jH} (a : jls g Γ a0 C0 s t d b p h) : jlf g Γ C0 s h := by
  obtain ⟨C, a, z, -⟩ := a
  exact ⟨C, a, z⟩
theorem jls_le {g : jGh} {Γ : Nat → Option Nat} {a0 : Nat} {C0 : Nat → Int32} {s t : Nat} {d e b p : Int} {h : jH} (a : jls g Γ a0 C0 s t d b p h) (he : e ≤ d) : jls g Γ a0 C0 s t e b p h := by
  obtain ⟨C, a, z, st, u, dp, e1, e2, e3, e4, e5, e6, e8, e7⟩ := a
  exact ⟨C, a, z, st, u, dp, e1, e2, e3, e4, e5, by omega, e8, e7⟩
/-- reading on: only where the reading stands changes -/
theorem jls_mo {g : jGh} {Γ : Nat → Option Nat} {a0 : Nat} {C0 C : Nat → Int32} {s t : Nat} {d e b p : Int} {h q : jH} (hC : ∀ k, k < 1333 + 2 * s → C k = C0 k) (r : jrw (g.1, g.2.1, g.2.2.1, C, g.2.2.2.2) Γ a0 h q) (m : jmo a0 e h q) (a : ∃ st u dp : Int32, jgI 10 h a0 16 = some st ∧ jgI 10 h a0 10 = some u ∧ jgI 10 h a0 13 = some dp ∧ dp.toInt = p ∧ (s : Int) ≤ st.toInt ∧ st.toInt + d ≤ u.toInt ∧ b ≤ u.toInt ∧ jhgt (jdr C) s (st.toInt.toNat - s) = some t) : jls g Γ a0 C0 s t (d + e) (b + e) p q := by
  obtain ⟨st, u, dp, e1, e2, e3, e4, e5, e6, e8, e7⟩ := a
  obtain ⟨v, ev, hv⟩ := m u e2
  exact ⟨C, hC, r.1, st, v, dp, fI (r.2 16 (by decide) (by decide)) e1, ev, fI (r.2 13 (by decide) (by decide)) e3, e4, e5, by omega, by omega, e7⟩
end
section
theorem jKd_C {g : jGh} {C : Nat → Int32} {c : Nat} (hc : c ≠ 21) : jKd (g.1, g.2.1, g.2.2.1, C, g.2.2.2.2) c = jKd g c := by
  unfold jKd
  split <;> first | rfl | exact absurd rfl hc
/-- a write to the world from 435 on: law's ghost anew -/
theorem t_asC {g : jGh} {Γ : Nat → Option Nat} {h : jH} {a : Nat} {i x : Int32} (w : jW (jKd g) Γ h) (hu : ∀ a b c, 9 ≤ c → Γ a = some c → Γ b = some c → a = b) (ha : Γ a = some 21) (h0 : 435 ≤ i.toInt) (h1 : i.toInt < 2133) : jok (jas 0 h a i x) (fun h1 => jW (jKd (g.1, g.2.1, g.2.2.1, upd g.2.2.2.1 i.toInt.toNat x, g.2.2.2.2)) Γ h1 ∧ jfa h h1) := by
  obtain ⟨f, e1, e2⟩ := t_arr w ha rfl
  have hi : i.toNatClampNeg = i.toInt.toNat := rfl
  refine ⟨jup h a (.inr (.inl (0, 2133, upd f i.toNatClampNeg (jnar 0 x)))), ?_, ?_, jfa_up e1⟩
  · unfold jas
    rw [e1]
    dsimp only
    rw [if_pos ⟨rfl, jnoob (by omega) (by omega), fun q => by cases q⟩]
  · intro b c hb
    refine ⟨(w b c hb).1, ?_⟩
    show okE Γ (jKd (g.1, g.2.1, g.2.2.1, upd g.2.2.2.1 i.toInt.toNat x, g.2.2.2.2) c) (if b = a then some _ else h.2 b)
    by_cases hq : b = a
    · subst hq
      cases ha.symm.trans hb
      rw [if_pos rfl]
      refine ⟨_, rfl, fun k hk => ?_⟩
      have e2k := e2 k hk
      by_cases hk2 : k = i.toInt.toNat
      · subst hk2
        refine ⟨⟨Or.inl (by omega), Or.inl (by omega), Or.inr (Or.inl (by omega))⟩, Or.inr ?_⟩
        show upd f i.toInt.toNat (jnar 0 x) i.toInt.toNat = upd g.2.2.2.1 i.toInt.toNat x i.toInt.toNat
        simp only [upd, if_pos]
        rfl
      · have z1 : upd f i.toNatClampNeg (jnar 0 x) k = f k := by
          simp only [upd]
          rw [if_neg (by rw [hi]; exact hk2)]
        have z2 : upd g.2.2.2.1 i.toInt.toNat x k = g.2.2.2.1 k := by
          simp only [upd]
          rw [if_neg hk2]
        show jR3 k (upd f i.toNatClampNeg (jnar 0 x) k) ∧ (k < 435 ∨ upd f i.toNatClampNeg (jnar 0 x) k = upd g.2.2.2.1 i.toInt.toNat x k)
        rw [z1, z2]
        exact e2k
    · rw [if_neg hq]
      have hc : c ≠ 21 := fun q => hq (hu b a 21 (by decide) (by rw [hb, q]) ha)
      rw [jKd_C hc]
      exact (w b c hb).2
/-- what a code does to the height -/
def jst (x : Int32) (t : Nat) : Option Nat := if x.toInt ≤ 11 then some (t + 1) else if x.toInt = 15 then (if 1 ≤ t then some t else none) else (if 2 ≤ t then some (t - 1) else none)
theorem T_X12_emits {g : jGh} {Γ : Nat → Option Nat} {n a0 : Nat} {C0 : Nat → Int32} {s t t2 : Nat} {d b p : Int} {x1 x2 : Int32} {h : jH} (hu : ∀ a b c, 9 ≤ c → Γ a = some c → Γ b = some c → a = b) (ta0 : Γ a0 = some 20) (hd : 0 ≤ d) (hx : jst x1 t = some t2) (a : jls g Γ a0 C0 s t (d + 1) b p h) : jok (F_X12_emits n a0 x1 x2 h) (fun q => jls g Γ a0 C0 s t2 d b p q) := by
  obtain ⟨C, hC, w, st, u, dp, e16, e10, e13, ep, hs, hd1, hb, hh⟩ := a
  have em : (1333 : Int32).toInt = 1333 := rfl
  have e1 : (1 : Int32).toInt = 1 := rfl
  have e2 : (2 : Int32).toInt = 2 := rfl
  obtain ⟨u9, eu9, lu⟩ := t_gI (k := 10) w ta0 rfl rfl
  have lu : 0 ≤ u9.toInt ∧ u9.toInt ≤ 400 := lu
  have qz : u9 = u := Option.some.inj (eu9.symm.trans e10)
  subst qz
  have h2 : ((2 : Int32) * st).toInt = 2 * st.toInt := jmulL e2 (by omega) (by omega)
  have h3 : ((1333 : Int32) + ((2 : Int32) * st)).toInt = 1333 + 2 * st.toInt := by rw [jadd (by omega) (by omega), h2, em]
  have h4 : (((1333 : Int32) + ((2 : Int32) * st)) + (1 : Int32)).toInt = 1334 + 2 * st.toInt := by rw [jadd (by omega) (by omega), h3, e1]; omega
  have h5 : (st + (1 : Int32)).toInt = st.toInt + 1 := by rw [jadd (by omega) (by omega), e1]
  unfold F_X12_emits
  refine jok_b (t_gR w ta0 rfl rfl) (fun p1 t1 => ?_)
  refine jok_r e16 (jok_b (t_asC w hu t1 (by omega) (by omega)) (fun h15 w15 => ?_))
  obtain ⟨w15, f15⟩ := w15
  refine jok_b (t_gR w15 ta0 rfl rfl) (fun p17 t17 => ?_)
  have e16b := fI (f15 10 a0 16) e16
  refine jok_r e16b (jok_b (t_asC w15 hu t17 (by omega) (by omega)) (fun h33 w33 => ?_))
  obtain ⟨w33, f33⟩ := w33
  have e16c := fI (f33 10 a0 16) e16b
  refine jok_r e16c (jok_b (t_pI w33 ta0 rfl rfl (show jI 0 400 _ from ⟨by omega, by omega⟩)) (fun h41 w41 => ?_))
  obtain ⟨w41, q41, f41⟩ := w41
  refine jok_s ⟨_, ?_, w41, st + 1, u9, dp, fJ q41, ?_, ?_, ep, by omega, by omega, hb, ?_⟩
  · intro k hk
    simp only [upd]
    rw [if_neg (by omega), if_neg (by omega)]
    exact hC k hk
  · exact fI (f41 10 a0 10 (Or.inr (by decide))) (fI (f33 10 a0 10) (fI (f15 10 a0 10) e10))
  · exact fI (f41 10 a0 13 (Or.inr (by decide))) (fI (f33 10 a0 13) (fI (f15 10 a0 13) e13))
  · have hl : (st + (1 : Int32)).toInt.toNat - s = (st.toInt.toNat - s) + 1 := by omega
    rw [hl]
    have hk9 : s + (st.toInt.toNat - s) = st.toInt.toNat := by omega
    show (jhgt _ s (st.toInt.toNat - s)).bind _ = some t2
    rw [jhgt_eq (d := jdr C) (st.toInt.toNat - s) (fun k a b => by
      show upd (upd C _ x1) _ x2 (484 + 2 * k + 849) = C (484 + 2 * k + 849)
      simp only [upd]
      rw [if_neg (by omega), if_neg (by omega)]), hh, hk9]
    have hc : jdr (upd (upd C ((1333 : Int32) + ((2 : Int32) * st)).toInt.toNat x1) (((1333 : Int32) + ((2 : Int32) * st)) + (1 : Int32)).toInt.toNat x2) (484 + 2 * st.toInt.toNat) = x1 := by
      show upd (upd C _ x1) _ x2 (484 + 2 * st.toInt.toNat + 849) = x1
      simp only [upd]
      rw [if_neg (by omega), if_pos (by omega)]
    show (if (jdr _ (484 + 2 * st.toInt.toNat)).toInt ≤ 11 then some (t + 1) else if (jdr _ (484 + 2 * st.toInt.toNat)).toInt = 15 then (if 1 ≤ t then some t else none) else (if 2 ≤ t then some (t - 1) else none)) = some t2
    have hx2 : (if x1.toInt ≤ 11 then some (t + 1) else if x1.toInt = 15 then (if 1 ≤ t then some t else none) else (if 2 ≤ t then some (t - 1) else none)) = some t2 := hx
    rw [hc]
    exact hx2
end
section
theorem L_letters {g : jGh} {Γ : Nat → Option Nat} {n a0 : Nat} {C0 : Nat → Int32} {s t : Nat} {d b p : Int} {h : jH} (hn : 6000 ≤ n) (ta0 : Γ a0 = some 20) (a : jls g Γ a0 C0 s t d b p h) : jok (F_X12_letters n a0 h) (fun q => jls g Γ a0 C0 s t d b p q ∧ ∃ w v, jgI 10 q a0 12 = some w ∧ jgI 10 q a0 10 = some v ∧ w.toInt ≤ v.toInt ∧ (¬ v.toInt = w.toInt → jls g Γ a0 C0 s t (d + 1) (b + 1) p q) ∧ ∀ q2, jpf 10 q a0 10 (.int w) = some q2 → jls g Γ a0 C0 s t d b p q2) := by
  obtain ⟨C, hC, w, st, u, dp, e1, e2, e3, e4, e5, e6, e8, e7⟩ := a
  have hA : ∃ st u dp : Int32, jgI 10 h a0 16 = some st ∧ jgI 10 h a0 10 = some u ∧ jgI 10 h a0 13 = some dp ∧ dp.toInt = p ∧ (s : Int) ≤ st.toInt ∧ st.toInt + d ≤ u.toInt ∧ b ≤ u.toInt ∧ jhgt (jdr C) s (st.toInt.toNat - s) = some t := ⟨st, u, dp, e1, e2, e3, e4, e5, e6, e8, e7⟩
  refine jok_w (T_X12_letters hn w ta0 e2) (fun q wq => ?_)
  obtain ⟨wq, z, v, ez, ev, l1, l2⟩ := wq
  have hm : ∀ e : Int, u.toInt + e ≤ v.toInt → jmo a0 e h q := fun e he u9 e99 => by
    have qz : u = u9 := Option.some.inj (e2.symm.trans e99)
    subst qz
    exact ⟨v, ev, he⟩
  have j0 := jls_mo hC wq (hm 0 (by omega)) hA
  have z0 : d + 0 = d := by omega
  have z1 : b + 0 = b := by omega
  rw [z0, z1] at j0
  refine ⟨j0, z, v, ez, ev, l2, fun hne => jls_mo hC wq (hm 1 (by omega)) hA, fun q2 eq2 => ?_⟩
  obtain ⟨v12, e12, l12⟩ := t_gI (k := 12) wq.1 ta0 rfl rfl
  have qz : v12 = z := Option.some.inj (e12.symm.trans ez)
  subst qz
  obtain ⟨q3, e3q, w3⟩ := t_rw wq.1 ta0 (Or.inl rfl) l12.1 l12.2
  cases eq2.symm.trans e3q
  have j2 := jls_mo (d := d) (b := b) hC (jrw_tr wq w3.1) (e := 0) (fun u9 e99 => by
    have qz : u = u9 := Option.some.inj (e2.symm.trans e99)
    subst qz
    exact ⟨v12, fJ w3.2.1, by omega⟩) hA
  rw [z0, z1] at j2
  exact j2
theorem L_passes {g : jGh} {Γ : Nat → Option Nat} {n a0 t1 : Nat} {C0 : Nat → Int32} {s t : Nat} {d b p : Int} {h : jH} (hn : 6000 ≤ n) (ta0 : Γ a0 = some 20) (ht : t1 < 36) (hl : 1 ≤ (jtb t1).length) (a : jls g Γ a0 C0 s t d b p h) : jok (F_X12_passes n a0 t1 h) (fun q => (q.1 = 0 ∧ jls g Γ a0 C0 s t d b p q.2) ∨ (q.1 = 1 ∧ jls g Γ a0 C0 s t (d + 1) (b + 1) p q.2)) := by
  obtain ⟨C, hC, w, hA⟩ := a
  refine jok_w (T_X12_passes hn w ta0 ht) (fun q wq => ?_)
  obtain ⟨wq, z | z⟩ := wq
  · have j := jls_mo hC wq z.2 hA
    rw [show d + 0 = d by omega, show b + 0 = b by omega] at j
    exact Or.inl ⟨z.1, j⟩
  · exact Or.inr ⟨z.1, jls_mo hC wq (jmo_le z.2 (by omega)) hA⟩
theorem L_sign {g : jGh} {Γ : Nat → Option Nat} {n a0 : Nat} {C0 : Nat → Int32} {s t : Nat} {d b p : Int} {x1 : Int32} {h : jH} (hn : 6000 ≤ n) (ta0 : Γ a0 = some 20) (a : jls g Γ a0 C0 s t d b p h) : jok (F_X12_sign n a0 x1 h) (fun q => (q.1 = 0 ∧ jls g Γ a0 C0 s t d b p q.2) ∨ (q.1 = 1 ∧ jls g Γ a0 C0 s t (d + 1) (b + 1) p q.2)) := by
  obtain ⟨C, hC, w, hA⟩ := a
  refine jok_w (T_X12_sign hn w ta0) (fun q wq => ?_)
  obtain ⟨wq, z | z⟩ := wq
  · have j := jls_mo hC wq z.2 hA
    rw [show d + 0 = d by omega, show b + 0 = b by omega] at j
    exact Or.inl ⟨z.1, j⟩
  · exact Or.inr ⟨z.1, jls_mo hC wq z.2 hA⟩
theorem L_number {g : jGh} {Γ : Nat → Option Nat} {n a0 : Nat} {C0 : Nat → Int32} {s t : Nat} {d b p : Int} {x1 x2 : Int32} {h : jH} (hn : 6000 ≤ n) (ta0 : Γ a0 = some 20) (a : jls g Γ a0 C0 s t d b p h) : jok (F_X12_number n a0 x1 x2 h) (fun q => (q.1 = -1 ∧ jls g Γ a0 C0 s t d b p q.2) ∨ (x1.toInt ≤ q.1.toInt ∧ q.1.toInt ≤ x2.toInt ∧ jls g Γ a0 C0 s t (d + 1) (b + 1) p q.2)) := by
  obtain ⟨C, hC, w, hA⟩ := a
  refine jok_w (T_X12_number hn w ta0) (fun q wq => ?_)
  obtain ⟨wq, m0, z | z⟩ := wq
  · have j := jls_mo hC wq m0 hA
    rw [show d + 0 = d by omega, show b + 0 = b by omega] at j
    exact Or.inl ⟨z, j⟩
  · exact Or.inr ⟨z.1, z.2.1, jls_mo hC wq z.2.2 hA⟩
/-- read, one higher, or not to be read -/
def jrr (g : jGh) (Γ : Nat → Option Nat) (a0 : Nat) (C0 : Nat → Int32) (s t : Nat) (d b p : Int) (q : Int32 × jH) : Prop := (q.1 = 0 ∧ jlf g Γ C0 s q.2) ∨ (q.1 = 1 ∧ jls g Γ a0 C0 s t d b p q.2)
theorem jst_lo {x : Int32} {t : Nat} (h : x.toInt ≤ 11) : jst x t = some (t + 1) := by
  unfold jst
  rw [if_pos h]
theorem L_wordOfPart {g : jGh} {Γ : Nat → Option Nat} {n a0 : Nat} {h : jH} (hn : 6000 ≤ n) (w : jW (jKd g) Γ h) (ta0 : Γ a0 = some 20) : jok (F_X12_wordOfPart n a0 h) (fun v => v.toInt ≤ 6) := by
  unfold F_X12_wordOfPart
  rw [t_cv w ta0 rfl]
  refine jok_b (S_X12_isWord hn w ta0 (by decide)) (fun _ _ => jok_if (fun _ => ?_) (fun _ => jok_s (by decide)))
  rw [t_cv w ta0 rfl]
  refine jok_b (S_X12_isWord hn w ta0 (by decide)) (fun _ _ => jok_if (fun _ => ?_) (fun _ => jok_s (by decide)))
  rw [t_cv w ta0 rfl]
  refine jok_b (S_X12_isWord hn w ta0 (by decide)) (fun _ _ => jok_if (fun _ => ?_) (fun _ => jok_s (by decide)))
  rw [t_cv w ta0 rfl]
  refine jok_b (S_X12_isWord hn w ta0 (by decide)) (fun _ _ => jok_if (fun _ => ?_) (fun _ => jok_s (by decide)))
  rw [t_cv w ta0 rfl]
  refine jok_b (S_X12_isWord hn w ta0 (by decide)) (fun _ _ => jok_if (fun _ => ?_) (fun _ => jok_s (by decide)))
  rw [t_cv w ta0 rfl]
  refine jok_b (S_X12_isWord hn w ta0 (by decide)) (fun _ _ => jok_if (fun _ => ?_) (fun _ => jok_s (by decide)))
  rw [t_cv w ta0 rfl]
  refine jok_b (S_X12_isWord hn w ta0 (by decide)) (fun _ _ => jok_if (fun _ => jok_s (by decide)) (fun _ => jok_s (by decide)))
theorem jls_w {g : jGh} {Γ : Nat → Option Nat} {a0 : Nat} {C0 : Nat → Int32} {s t : Nat} {d b p : Int} {h : jH} (a : jls g Γ a0 C0 s t d b p h) : ∃ C : Nat → Int32, jW (jKd (g.1, g.2.1, g.2.2.1, C, g.2.2.2.2)) Γ h := by
  obtain ⟨C, -, w, -⟩ := a
  exact ⟨C, w⟩
theorem L_readPart_61 {g : jGh} {Γ : Nat → Option Nat} {n a0 : Nat} {C0 : Nat → Int32} {s t : Nat} {d b p : Int} {x2 s1 s2 : Int32} {h : jH} (hu : ∀ a b c, 9 ≤ c → Γ a = some c → Γ b = some c → a = b) (ta0 : Γ a0 = some 20) (hd : 1 ≤ d) (h1 : s1.toInt ≤ 11) (a : jls g Γ a0 C0 s t d b p h) (hx : x2 < 0 ∨ jls g Γ a0 C0 s t (d + 1) b p h) : jok (F_X12_readPart_61 n x2 a0 s1 s2 h) (fun q => jrr g Γ a0 C0 s (t + 1) d b p q) := by
  unfold F_X12_readPart_61
  obtain ⟨C, w⟩ := jls_w a
  rw [t_cv w ta0 rfl]
  rcases hx with hx | hx
  · have a2 : jls g Γ a0 C0 s t ((d - 1) + 1) b p h := jls_le a (by omega)
    refine jok_b (T_X12_emits hu ta0 (by omega) (jst_lo h1) a2) (fun q wq => ?_)
    rw [if_pos hx]
    exact jok_s (Or.inl ⟨rfl, jls_f wq⟩)
  · refine jok_b (T_X12_emits hu ta0 (by omega) (jst_lo h1) hx) (fun q wq => ?_)
    exact jok_if (fun _ => jok_s (Or.inl ⟨rfl, jls_f wq⟩)) (fun _ => jok_s (Or.inr ⟨rfl, wq⟩))
theorem L_readPart {g : jGh} {Γ : Nat → Option Nat} {n a0 : Nat} {C0 : Nat → Int32} {s t : Nat} {d b p : Int} {h : jH} (hn : 6000 ≤ n) (hu : ∀ a b c, 9 ≤ c → Γ a = some c → Γ b = some c → a = b) (ta0 : Γ a0 = some 20) (hd : 1 ≤ d) (a : jls g Γ a0 C0 s t d b p h) : jok (F_X12_readPart n a0 h) (fun q => jrr g Γ a0 C0 s (t + 1) d b p q) := by
  unfold F_X12_readPart
  obtain ⟨C, w⟩ := jls_w a
  rw [t_cv w ta0 rfl]
  refine jok_b (L_letters hn ta0 a) (fun h1 w1 => ?_)
  obtain ⟨j1, z, v, ez, ev, lz, jn, -⟩ := w1
  refine jok_r ev (jok_r ez (jok_eq (fun _ _ => ?_) (fun c => ?_)))
  · unfold F_X12_readPart_20
    obtain ⟨C, w⟩ := jls_w j1
    rw [if_neg (by decide), t_cv w ta0 rfl]
    refine jok_b (L_number hn ta0 j1) (fun q30 w30 => ?_)
    unfold F_X12_readPart_40
    rw [if_neg (by decide), if_neg (by decide)]
    rcases w30 with ⟨e, j⟩ | ⟨l1, -, j⟩
    · exact L_readPart_61 hu ta0 hd (by decide) j (Or.inl (by rw [e]; decide))
    · have j9 : jls g Γ a0 C0 s t (d + 1) b p q30.2 := by
        obtain ⟨C, a1, a2, st, u, dp, e1, e2, e3, e4, e5, e6, e8, e7⟩ := j
        exact ⟨C, a1, a2, st, u, dp, e1, e2, e3, e4, e5, e6, by omega, e7⟩
      exact L_readPart_61 hu ta0 hd (by decide) (jls_le j9 (by omega)) (Or.inr j9)
  · have j := jn c
    have j9 : jls g Γ a0 C0 s t (d + 1) b p h1 := by
      obtain ⟨C, a1, a2, st, u, dp, e1, e2, e3, e4, e5, e6, e8, e7⟩ := j
      exact ⟨C, a1, a2, st, u, dp, e1, e2, e3, e4, e5, e6, by omega, e7⟩
    unfold F_X12_readPart_20
    obtain ⟨C, w⟩ := jls_w j1
    rw [if_pos rfl, t_cv w ta0 rfl]
    refine jok_b (L_wordOfPart hn w ta0) (fun v37 l37 => ?_)
    unfold F_X12_readPart_40
    rw [if_pos rfl, if_pos rfl]
    exact L_readPart_61 hu ta0 hd (by omega) j1 (Or.inr j9)
end
section
theorem jls_lb {g : jGh} {Γ : Nat → Option Nat} {a0 : Nat} {C0 : Nat → Int32} {s t : Nat} {d b e c p : Int} {h : jH} (a : jls g Γ a0 C0 s t d b p h) (he : e ≤ d) (hc : c ≤ b) : jls g Γ a0 C0 s t e c p h := by
  obtain ⟨C, a1, a2, st, u, dp, e1, e2, e3, e4, e5, e6, e8, e7⟩ := a
  exact ⟨C, a1, a2, st, u, dp, e1, e2, e3, e4, e5, by omega, by omega, e7⟩
theorem jrr_lb {g : jGh} {Γ : Nat → Option Nat} {a0 : Nat} {C0 : Nat → Int32} {s t : Nat} {d b e c p : Int} {q : Int32 × jH} (a : jrr g Γ a0 C0 s t d b p q) (he : e ≤ d) (hc : c ≤ b) : jrr g Γ a0 C0 s t e c p q := by
  rcases a with a | a
  · exact Or.inl a
  · exact Or.inr ⟨a.1, jls_lb a.2 he hc⟩
theorem L_readTag {g : jGh} {Γ : Nat → Option Nat} {n a0 : Nat} {C0 : Nat → Int32} {s t : Nat} {d b p : Int} {h : jH} (hn : 6000 ≤ n) (hu : ∀ a b c, 9 ≤ c → Γ a = some c → Γ b = some c → a = b) (ta0 : Γ a0 = some 20) (hd : 0 ≤ d) (a : jls g Γ a0 C0 s t d b p h) : jok (F_X12_readTag n a0 h) (fun q => (q.1 = 0 ∧ jls g Γ a0 C0 s t d b p q.2) ∨ (q.1 = 1 ∧ jls g Γ a0 C0 s (t + 1) d b p q.2)) := by
  unfold F_X12_readTag
  obtain ⟨C, w⟩ := jls_w a
  rw [t_cv w ta0 rfl]
  refine jok_b (L_letters hn ta0 a) (fun h1 w1 => ?_)
  obtain ⟨j1, z, v, ez, ev, lz, jn, jb⟩ := w1
  obtain ⟨C1, w1⟩ := jls_w j1
  have hit : ∀ {x : Int32}, 0 ≤ x.toInt → x.toInt ≤ 11 → ¬ v.toInt = z.toInt → jok (F_X12_readTag_61 n a0 x h1) (fun q => (q.1 = 0 ∧ jls g Γ a0 C0 s t d b p q.2) ∨ (q.1 = 1 ∧ jls g Γ a0 C0 s (t + 1) d b p q.2)) := by
    intro x h0 h9 hne
    have hx : ¬ x < 0 := fun q => by
      have := Int32.lt_iff_toInt_lt.mp q
      have z0 : (0 : Int32).toInt = 0 := rfl
      omega
    unfold F_X12_readTag_61
    rw [if_neg hx, t_cv w1 ta0 rfl]
    refine jok_b (T_X12_emits hu ta0 hd (jst_lo h9) (jn hne)) (fun q wq => ?_)
    rw [if_neg hx]
    exact jok_s (Or.inr ⟨rfl, jls_lb wq (by omega) (by omega)⟩)
  have l17 : 1 ≤ (jtb 17).length := by decide +kernel
  have l16 : 1 ≤ (jtb 16).length := by decide +kernel
  have l30 : 1 ≤ (jtb 30).length := by decide +kernel
  have l31 : 1 ≤ (jtb 31).length := by decide +kernel
  rw [t_cv w1 ta0 rfl]
  refine jok_b (T_X12_isWord hn w1 ta0 (by decide) ev ez) (fun v7 l7 => ?_)
  rcases l7 with rfl | ⟨rfl, l7⟩
  · rw [if_pos rfl, t_cv w1 ta0 rfl]
    refine jok_b (T_X12_isWord hn w1 ta0 (by decide) ev ez) (fun v21 l21 => ?_)
    rcases l21 with rfl | ⟨rfl, l21⟩
    · rw [if_pos rfl, t_cv w1 ta0 rfl]
      refine jok_b (T_X12_isWord hn w1 ta0 (by decide) ev ez) (fun v35 l35 => ?_)
      rcases l35 with rfl | ⟨rfl, l35⟩
      · rw [if_pos rfl, t_cv w1 ta0 rfl]
        refine jok_b (T_X12_isWord hn w1 ta0 (by decide) ev ez) (fun v49 l49 => ?_)
        rcases l49 with rfl | ⟨rfl, l49⟩
        · rw [if_pos rfl]
          unfold F_X12_readTag_61
          rw [if_pos (by decide)]
          obtain ⟨z2, ez2, lz2⟩ := t_gI (k := 12) w1 ta0 rfl rfl
          have qz : z2 = z := Option.some.inj (ez2.symm.trans ez)
          subst qz
          refine jok_r ez2 (jok_b2 (t_rw w1 ta0 (Or.inl rfl) lz2.1 lz2.2) (fun h80 e80 _ => ?_))
          rw [if_pos (by decide)]
          exact jok_s (Or.inl ⟨rfl, jb h80 e80⟩)
        · rw [if_neg (by decide)]
          exact hit (by decide) (by decide) (by omega)
      · rw [if_neg (by decide)]
        exact hit (by decide) (by decide) (by omega)
    · rw [if_neg (by decide)]
      exact hit (by decide) (by decide) (by omega)
  · rw [if_neg (by decide)]
    exact hit (by decide) (by decide) (by omega)
theorem jst_hi {x : Int32} {t : Nat} (h : 11 < x.toInt) (h2 : x.toInt ≠ 15) : jst x (t + 1 + 1) = some (t + 1) := by
  unfold jst
  rw [if_neg (by omega), if_neg h2, if_pos (by omega)]
  rfl
theorem jls_b4 {g : jGh} {Γ : Nat → Option Nat} {a0 : Nat} {C0 : Nat → Int32} {s t : Nat} {d b p : Int} {h : jH} (ta0 : Γ a0 = some 20) (a : jls g Γ a0 C0 s t d b p h) : b ≤ 400 := by
  obtain ⟨C, a1, w, st, u, dp, e1, e2, e3, e4, e5, e6, e8, e7⟩ := a
  obtain ⟨v, ev, lv⟩ := t_gI (k := 10) w ta0 rfl rfl
  have lv : 0 ≤ v.toInt ∧ v.toInt ≤ 400 := lv
  have qz : v = u := Option.some.inj (ev.symm.trans e2)
  subst qz
  omega
theorem L_readSum_9 {g : jGh} {Γ : Nat → Option Nat} {n a0 : Nat} {C0 : Nat → Int32} {s t : Nat} {d p : Int} (hn : 6000 ≤ n) (hu : ∀ a b c, 9 ≤ c → Γ a = some c → Γ b = some c → a = b) (ta0 : Γ a0 = some 20) (hd : 1 ≤ d) : ∀ (k : Nat) {b : Int} {h : jH}, jls g Γ a0 C0 s (t + 1) d b p h → 400 - b < k → jok (F_X12_readSum_9 n k a0 h) (fun q => jrr g Γ a0 C0 s (t + 1) d b p q)
  | 0, b, h, a, hk => by
    have := jls_b4 ta0 a
    omega
  | k + 1, b, h, a, hk => by
    show jok (F_X12_readSum_9_b n (F_X12_readSum_9 n k) a0 h) _
    unfold F_X12_readSum_9_b
    obtain ⟨C, w⟩ := jls_w a
    rw [t_cv w ta0 rfl]
    refine jok_b (L_sign hn ta0 a) (fun q12 w12 => ?_)
    rcases w12 with ⟨e, j⟩ | ⟨e, j⟩
    · rw [if_pos e]
      exact jok_s (Or.inr ⟨rfl, j⟩)
    · rw [if_neg (by rw [e]; decide)]
      obtain ⟨C, w⟩ := jls_w j
      rw [t_cv w ta0 rfl]
      refine jok_b (L_readPart hn hu ta0 (by omega) j) (fun q19 w19 => ?_)
      rcases w19 with ⟨e, j⟩ | ⟨e, j⟩
      · rw [if_pos e]
        exact jok_s (Or.inl ⟨rfl, j⟩)
      · rw [if_neg (by rw [e]; decide)]
        obtain ⟨C, w⟩ := jls_w j
        rw [t_cv w ta0 rfl]
        refine jok_b (T_X12_emits hu ta0 (by omega) (jst_hi (by decide) (by decide)) j) (fun h31 w31 => ?_)
        exact jok_w (L_readSum_9 hn hu ta0 hd k w31 (by omega)) (fun q wq => jrr_lb wq (by omega) (by omega))
theorem L_readSum {g : jGh} {Γ : Nat → Option Nat} {n a0 : Nat} {C0 : Nat → Int32} {s t : Nat} {d b p : Int} {h : jH} (hn : 6000 ≤ n) (hu : ∀ a b c, 9 ≤ c → Γ a = some c → Γ b = some c → a = b) (ta0 : Γ a0 = some 20) (hd : 1 ≤ d) (hb : 0 ≤ b) (a : jls g Γ a0 C0 s t d b p h) : jok (F_X12_readSum n a0 h) (fun q => jrr g Γ a0 C0 s (t + 1) d b p q) := by
  unfold F_X12_readSum
  obtain ⟨C, w⟩ := jls_w a
  rw [t_cv w ta0 rfl]
  refine jok_b (L_readPart hn hu ta0 hd a) (fun q1 w1 => ?_)
  rcases w1 with ⟨e, j⟩ | ⟨e, j⟩
  · rw [if_pos e]
    exact jok_s (Or.inl ⟨rfl, j⟩)
  · rw [if_neg (by rw [e]; decide)]
    exact L_readSum_9 hn hu ta0 hd n j (by omega)
end
section
/-- a reader of a condition, at depth p -/
def jgq (g : jGh) (Γ : Nat → Option Nat) (a0 : Nat) (C0 : Nat → Int32) (s : Nat) (p : Int) (f : Nat → jH → Option (Int32 × jH)) : Prop := ∀ (t : Nat) (d b : Int) (h : jH), 1 ≤ d → 0 ≤ b → jls g Γ a0 C0 s t d b p h → jok (f a0 h) (fun q => jrr g Γ a0 C0 s (t + 1) d b p q)
/-- the depth anew -/
theorem L_deep {g : jGh} {Γ : Nat → Option Nat} {a0 : Nat} {C0 : Nat → Int32} {s t : Nat} {d b p : Int} {x : Int32} {h : jH} (ta0 : Γ a0 = some 20) (a : jls g Γ a0 C0 s t d b p h) : jok (jpf 10 h a0 13 (.int x)) (fun q => jls g Γ a0 C0 s t d b x.toInt q) := by
  obtain ⟨C, a1, w, st, u, dp, e1, e2, e3, e4, e5, e6, e8, e7⟩ := a
  refine jok_w (t_pI (k := 13) w ta0 rfl rfl trivial) (fun q wq => ?_)
  obtain ⟨wq, eq, fq⟩ := wq
  exact ⟨C, a1, wq, st, u, x, fI (fq 10 a0 16 (Or.inr (by decide))) e1, fI (fq 10 a0 10 (Or.inr (by decide))) e2, fJ eq, rfl, e5, e6, e8, e7⟩
theorem jls_p {g : jGh} {Γ : Nat → Option Nat} {a0 : Nat} {C0 : Nat → Int32} {s t : Nat} {d b p : Int} {h : jH} (a : jls g Γ a0 C0 s t d b p h) : ∃ dp : Int32, jgI 10 h a0 13 = some dp ∧ dp.toInt = p := by
  obtain ⟨C, a1, w, st, u, dp, e1, e2, e3, e4, e5, e6, e8, e7⟩ := a
  exact ⟨dp, e3, e4⟩
theorem L_readAtom_152 {g : jGh} {Γ : Nat → Option Nat} {n a0 : Nat} {C0 : Nat → Int32} {s t : Nat} {d b p : Int} {x1 : Int32} {h : jH} {g0 g1 g2 : Nat → jH → Option (Int32 × jH)} (hn : 6000 ≤ n) (hu : ∀ a b c, 9 ≤ c → Γ a = some c → Γ b = some c → a = b) (ta0 : Γ a0 = some 20) (hd : 1 ≤ d) (hb : 0 ≤ b) (a : jls g Γ a0 C0 s (t + 1) (d + 1) b p h) : jok (F_X12_readAtom_152 n g0 g1 g2 a0 x1 h) (fun q => jrr g Γ a0 C0 s (t + 1) d b p q) := by
  unfold F_X12_readAtom_152
  obtain ⟨C, w⟩ := jls_w a
  rw [t_cv w ta0 rfl]
  refine jok_b (L_readSum hn hu ta0 (by omega) hb a) (fun q w1 => ?_)
  rcases w1 with ⟨e, j⟩ | ⟨e, j⟩
  · rw [if_pos e]
    exact jok_s (Or.inl ⟨rfl, j⟩)
  · rw [if_neg (by rw [e]; decide)]
    obtain ⟨C, w⟩ := jls_w j
    unfold F_X12_readAtom_173
    rw [t_cv w ta0 rfl, t_cv w ta0 rfl]
    exact jok_if (fun _ => jok_b (T_X12_emits hu ta0 (by omega) (jst_hi (by decide) (by decide)) j) (fun h w9 => jok_s (Or.inr ⟨rfl, w9⟩))) (fun _ => jok_b (T_X12_emits hu ta0 (by omega) (jst_hi (by decide) (by decide)) j) (fun h w9 => jok_s (Or.inr ⟨rfl, w9⟩)))
theorem L_readAtom {g : jGh} {Γ : Nat → Option Nat} {n a0 : Nat} {C0 : Nat → Int32} {s : Nat} {p : Int} {g0 g1 g2 : Nat → jH → Option (Int32 × jH)} (hn : 6000 ≤ n) (hu : ∀ a b c, 9 ≤ c → Γ a = some c → Γ b = some c → a = b) (ta0 : Γ a0 = some 20) (hp0 : 0 ≤ p) (hp6 : p ≤ 6) (hg0 : p ≤ 5 → jgq g Γ a0 C0 s (p + 1) g0) (hg1 : p ≤ 5 → jgq g Γ a0 C0 s (p + 1) g1) : jgq g Γ a0 C0 s p (F_X12_readAtom n g0 g1 g2) := by
  intro t d b h hd hb a
  have e6 : (6 : Int32).toInt = 6 := rfl
  have eo : (1 : Int32).toInt = 1 := rfl
  unfold F_X12_readAtom
  obtain ⟨C, w⟩ := jls_w a
  rw [t_cv w ta0 rfl]
  refine jok_b (L_sign hn ta0 a) (fun q3 w3 => ?_)
  rcases w3 with ⟨e, j3⟩ | ⟨e, j3⟩
  · rw [if_pos e]
    obtain ⟨C, w⟩ := jls_w j3
    rw [t_cv w ta0 rfl]
    refine jok_b (L_passes hn ta0 (by decide) (by decide +kernel) j3) (fun q59 w59 => ?_)
    rcases w59 with ⟨e, j59⟩ | ⟨e, j59⟩
    · rw [if_pos e]
      obtain ⟨C, w⟩ := jls_w j59
      rw [t_cv w ta0 rfl]
      refine jok_b (L_readTag hn hu ta0 (by omega) j59) (fun q115 w115 => ?_)
      rcases w115 with ⟨e, j115⟩ | ⟨e, j115⟩
      · rw [if_pos e]
        obtain ⟨C, w⟩ := jls_w j115
        rw [t_cv w ta0 rfl]
        refine jok_b (L_readSum hn hu ta0 hd hb j115) (fun q124 w124 => ?_)
        rcases w124 with ⟨e, j124⟩ | ⟨e, j124⟩
        · rw [if_pos e]
          exact jok_s (Or.inl ⟨rfl, j124⟩)
        · rw [if_neg (by rw [e]; decide)]
          obtain ⟨C, w⟩ := jls_w j124
          rw [t_cv w ta0 rfl]
          refine jok_b (L_sign hn ta0 j124) (fun q135 w135 => ?_)
          rcases w135 with ⟨e, j135⟩ | ⟨e, j135⟩
          · rw [if_pos e]
            obtain ⟨C, w⟩ := jls_w j135
            rw [t_cv w ta0 rfl]
            refine jok_b (L_sign hn ta0 j135) (fun q146 w146 => ?_)
            rcases w146 with ⟨e, j146⟩ | ⟨e, j146⟩
            · rw [if_pos e]
              exact jok_s (Or.inl ⟨rfl, jls_f j146⟩)
            · rw [if_neg (by rw [e]; decide)]
              exact L_readAtom_152 hn hu ta0 hd hb (jls_lb j146 (by omega) (by omega))
          · rw [if_neg (by rw [e]; decide)]
            exact L_readAtom_152 hn hu ta0 hd hb (jls_lb j135 (by omega) (by omega))
      · rw [if_neg (by rw [e]; decide)]
        exact jok_s (Or.inr ⟨rfl, j115⟩)
    · rw [if_neg (by rw [e]; decide)]
      obtain ⟨v66, e66, p66⟩ := jls_p j59
      refine jok_r e66 (jok_eq (fun _ _ => jok_s (Or.inl ⟨rfl, jls_f j59⟩)) (fun c => ?_))
      have ea : (v66 + (1 : Int32)).toInt = p + 1 := by rw [jadd (by omega) (by omega), eo, p66]
      refine jok_r e66 (jok_b (L_deep ta0 j59) (fun h83 w83 => ?_))
      rw [ea] at w83
      obtain ⟨C, w⟩ := jls_w w83
      rw [t_cv w ta0 rfl]
      refine jok_b (hg1 (by omega) t (d + 1) (b + 1) h83 (by omega) (by omega) w83) (fun q87 w87 => ?_)
      rcases w87 with ⟨e, j87⟩ | ⟨e, j87⟩
      · rw [if_pos e]
        exact jok_s (Or.inl ⟨rfl, j87⟩)
      · rw [if_neg (by rw [e]; decide)]
        obtain ⟨v97, e97, p97⟩ := jls_p j87
        have es : (v97 - (1 : Int32)).toInt = p := by rw [jsub (by omega) (by omega), eo, p97]; omega
        refine jok_r e97 (jok_b (L_deep ta0 j87) (fun h102 w102 => ?_))
        rw [es] at w102
        obtain ⟨C, w⟩ := jls_w w102
        rw [t_cv w ta0 rfl]
        have hst : jst (15 : Int32) (t + 1) = some (t + 1) := by
          unfold jst
          rw [if_neg (by decide), if_pos (by decide), if_pos (by omega)]
        refine jok_b (T_X12_emits hu ta0 (by omega) hst w102) (fun h109 w109 => ?_)
        exact jok_s (Or.inr ⟨rfl, jls_lb w109 (by omega) (by omega)⟩)
  · rw [if_neg (by rw [e]; decide)]
    obtain ⟨v10, e10, p10⟩ := jls_p j3
    refine jok_r e10 (jok_eq (fun _ _ => jok_s (Or.inl ⟨rfl, jls_f j3⟩)) (fun c => ?_))
    have ea : (v10 + (1 : Int32)).toInt = p + 1 := by rw [jadd (by omega) (by omega), eo, p10]
    refine jok_r e10 (jok_b (L_deep ta0 j3) (fun h27 w27 => ?_))
    rw [ea] at w27
    obtain ⟨C, w⟩ := jls_w w27
    rw [t_cv w ta0 rfl]
    refine jok_b (hg0 (by omega) t (d + 1) (b + 1) h27 (by omega) (by omega) w27) (fun q31 w31 => ?_)
    rcases w31 with ⟨e, j31⟩ | ⟨e, j31⟩
    · rw [if_pos e]
      exact jok_s (Or.inl ⟨rfl, j31⟩)
    · rw [if_neg (by rw [e]; decide)]
      obtain ⟨v41, e41, p41⟩ := jls_p j31
      have es : (v41 - (1 : Int32)).toInt = p := by rw [jsub (by omega) (by omega), eo, p41]; omega
      refine jok_r e41 (jok_b (L_deep ta0 j31) (fun h46 w46 => ?_))
      rw [es] at w46
      obtain ⟨C, w⟩ := jls_w w46
      rw [t_cv w ta0 rfl]
      refine jok_b (L_sign hn ta0 w46) (fun q52 w52 => ?_)
      rcases w52 with ⟨e, j52⟩ | ⟨e, j52⟩
      · rw [if_pos (Or.inl e)]
        exact jok_s (Or.inl ⟨e, jls_f j52⟩)
      · rw [if_pos (Or.inr e)]
        exact jok_s (Or.inr ⟨e, jls_lb j52 (by omega) (by omega)⟩)
end
section
theorem L_readAllOf_9 {g : jGh} {Γ : Nat → Option Nat} {n a0 : Nat} {C0 : Nat → Int32} {s t : Nat} {d p : Int} {g0 g1 g2 : Nat → jH → Option (Int32 × jH)} (hn : 6000 ≤ n) (hu : ∀ a b c, 9 ≤ c → Γ a = some c → Γ b = some c → a = b) (ta0 : Γ a0 = some 20) (hg : jgq g Γ a0 C0 s p g1) (hd : 1 ≤ d) : ∀ (k : Nat) {b : Int} {h : jH}, 0 ≤ b → jls g Γ a0 C0 s (t + 1) d b p h → 400 - b < k → jok (F_X12_readAllOf_9 n g0 g1 g2 k a0 h) (fun q => jrr g Γ a0 C0 s (t + 1) d b p q)
  | 0, b, h, hb, a, hk => by
    have := jls_b4 ta0 a
    omega
  | k + 1, b, h, hb, a, hk => by
    show jok (F_X12_readAllOf_9_b n g0 g1 g2 (F_X12_readAllOf_9 n g0 g1 g2 k) a0 h) _
    unfold F_X12_readAllOf_9_b
    obtain ⟨C, w⟩ := jls_w a
    rw [t_cv w ta0 rfl]
    refine jok_b (L_passes hn ta0 (by decide) (by decide +kernel) a) (fun q12 w12 => ?_)
    rcases w12 with ⟨e, j⟩ | ⟨e, j⟩
    · rw [if_pos e]
      exact jok_s (Or.inr ⟨rfl, j⟩)
    · rw [if_neg (by rw [e]; decide)]
      obtain ⟨C, w⟩ := jls_w j
      rw [t_cv w ta0 rfl]
      refine jok_b (hg (t + 1) (d + 1) (b + 1) q12.2 (by omega) (by omega) j) (fun q19 w19 => ?_)
      rcases w19 with ⟨e, j⟩ | ⟨e, j⟩
      · rw [if_pos e]
        exact jok_s (Or.inl ⟨rfl, j⟩)
      · rw [if_neg (by rw [e]; decide)]
        obtain ⟨C, w⟩ := jls_w j
        rw [t_cv w ta0 rfl]
        refine jok_b (T_X12_emits hu ta0 (by omega) (jst_hi (by decide) (by decide)) j) (fun h31 w31 => ?_)
        exact jok_w (L_readAllOf_9 hn hu ta0 hg hd k (by omega) w31 (by omega)) (fun q wq => jrr_lb wq (by omega) (by omega))
theorem L_readAllOf {g : jGh} {Γ : Nat → Option Nat} {n a0 : Nat} {C0 : Nat → Int32} {s : Nat} {p : Int} {g0 g1 g2 : Nat → jH → Option (Int32 × jH)} (hn : 6000 ≤ n) (hu : ∀ a b c, 9 ≤ c → Γ a = some c → Γ b = some c → a = b) (ta0 : Γ a0 = some 20) (hg : jgq g Γ a0 C0 s p g1) : jgq g Γ a0 C0 s p (F_X12_readAllOf n g0 g1 g2) := by
  intro t d b h hd hb a
  unfold F_X12_readAllOf
  obtain ⟨C, w⟩ := jls_w a
  rw [t_cv w ta0 rfl]
  refine jok_b (hg t d b h hd hb a) (fun q1 w1 => ?_)
  rcases w1 with ⟨e, j⟩ | ⟨e, j⟩
  · rw [if_pos e]
    exact jok_s (Or.inl ⟨rfl, j⟩)
  · rw [if_neg (by rw [e]; decide)]
    exact L_readAllOf_9 hn hu ta0 hg hd n hb j (by omega)
theorem L_readCond_9 {g : jGh} {Γ : Nat → Option Nat} {n a0 : Nat} {C0 : Nat → Int32} {s t : Nat} {d p : Int} {g0 g1 g2 : Nat → jH → Option (Int32 × jH)} (hn : 6000 ≤ n) (hu : ∀ a b c, 9 ≤ c → Γ a = some c → Γ b = some c → a = b) (ta0 : Γ a0 = some 20) (hg : jgq g Γ a0 C0 s p g2) (hd : 1 ≤ d) : ∀ (k : Nat) {b : Int} {h : jH}, 0 ≤ b → jls g Γ a0 C0 s (t + 1) d b p h → 400 - b < k → jok (F_X12_readCond_9 n g0 g1 g2 k a0 h) (fun q => jrr g Γ a0 C0 s (t + 1) d b p q)
  | 0, b, h, hb, a, hk => by
    have := jls_b4 ta0 a
    omega
  | k + 1, b, h, hb, a, hk => by
    show jok (F_X12_readCond_9_b n g0 g1 g2 (F_X12_readCond_9 n g0 g1 g2 k) a0 h) _
    unfold F_X12_readCond_9_b
    obtain ⟨C, w⟩ := jls_w a
    rw [t_cv w ta0 rfl]
    refine jok_b (L_passes hn ta0 (by decide) (by decide +kernel) a) (fun q12 w12 => ?_)
    rcases w12 with ⟨e, j⟩ | ⟨e, j⟩
    · rw [if_pos e]
      exact jok_s (Or.inr ⟨rfl, j⟩)
    · rw [if_neg (by rw [e]; decide)]
      obtain ⟨C, w⟩ := jls_w j
      rw [t_cv w ta0 rfl]
      refine jok_b (hg (t + 1) (d + 1) (b + 1) q12.2 (by omega) (by omega) j) (fun q19 w19 => ?_)
      rcases w19 with ⟨e, j⟩ | ⟨e, j⟩
      · rw [if_pos e]
        exact jok_s (Or.inl ⟨rfl, j⟩)
      · rw [if_neg (by rw [e]; decide)]
        obtain ⟨C, w⟩ := jls_w j
        rw [t_cv w ta0 rfl]
        refine jok_b (T_X12_emits hu ta0 (by omega) (jst_hi (by decide) (by decide)) j) (fun h31 w31 => ?_)
        exact jok_w (L_readCond_9 hn hu ta0 hg hd k (by omega) w31 (by omega)) (fun q wq => jrr_lb wq (by omega) (by omega))
theorem L_readCond {g : jGh} {Γ : Nat → Option Nat} {n a0 : Nat} {C0 : Nat → Int32} {s : Nat} {p : Int} {g0 g1 g2 : Nat → jH → Option (Int32 × jH)} (hn : 6000 ≤ n) (hu : ∀ a b c, 9 ≤ c → Γ a = some c → Γ b = some c → a = b) (ta0 : Γ a0 = some 20) (hg : jgq g Γ a0 C0 s p g2) : jgq g Γ a0 C0 s p (F_X12_readCond n g0 g1 g2) := by
  intro t d b h hd hb a
  unfold F_X12_readCond
  obtain ⟨C, w⟩ := jls_w a
  rw [t_cv w ta0 rfl]
  refine jok_b (hg t d b h hd hb a) (fun q1 w1 => ?_)
  rcases w1 with ⟨e, j⟩ | ⟨e, j⟩
  · rw [if_pos e]
    exact jok_s (Or.inl ⟨rfl, j⟩)
  · rw [if_neg (by rw [e]; decide)]
    exact L_readCond_9 hn hu ta0 hg hd n hb j (by omega)
theorem L_MC {g : jGh} {Γ : Nat → Option Nat} {n a0 : Nat} {C0 : Nat → Int32} {s : Nat} (hn : 6000 ≤ n) (hu : ∀ a b c, 9 ≤ c → Γ a = some c → Γ b = some c → a = b) (ta0 : Γ a0 = some 20) : ∀ (k : Nat) {p : Int}, 0 ≤ p → p ≤ 6 → (3 * (6 - p) + 3 ≤ k → jgq g Γ a0 C0 s p (FG_MC n k 0)) ∧ (3 * (6 - p) + 1 ≤ k → jgq g Γ a0 C0 s p (FG_MC n k 1)) ∧ (3 * (6 - p) + 2 ≤ k → jgq g Γ a0 C0 s p (FG_MC n k 2))
  | 0, p, hp0, hp6 => ⟨fun h => by omega, fun h => by omega, fun h => by omega⟩
  | k + 1, p, hp0, hp6 => by
    refine ⟨fun hk => ?_, fun hk => ?_, fun hk => ?_⟩
    · exact L_readCond (g0 := FG_MC n k 0) (g1 := FG_MC n k 1) (g2 := FG_MC n k 2) hn hu ta0 ((L_MC hn hu ta0 k hp0 hp6).2.2 (by omega))
    · refine L_readAtom (g0 := FG_MC n k 0) (g1 := FG_MC n k 1) (g2 := FG_MC n k 2) hn hu ta0 hp0 hp6 (fun h5 => ?_) (fun h5 => ?_)
      · exact (L_MC hn hu ta0 k (p := p + 1) (by omega) (by omega)).1 (by omega)
      · exact (L_MC hn hu ta0 k (p := p + 1) (by omega) (by omega)).2.1 (by omega)
    · exact L_readAllOf (g0 := FG_MC n k 0) (g1 := FG_MC n k 1) (g2 := FG_MC n k 2) hn hu ta0 ((L_MC hn hu ta0 k hp0 hp6).2.1 (by omega))
end
section
/-- while a law is read: m lines stand, each with heights -/
def jln (g : jGh) (Γ : Nat → Option Nat) (a0 : Nat) (C0 : Nat → Int32) (m : Nat) (b : Int) (h : jH) : Prop := ∃ C : Nat → Int32, (∀ k, k < 1284 → C k = C0 k) ∧ jW (jKd (g.1, g.2.1, g.2.2.1, C, g.2.2.2.2)) Γ h ∧ (∃ st u : Int32, jgI 10 h a0 16 = some st ∧ jgI 10 h a0 10 = some u ∧ 0 ≤ st.toInt ∧ st.toInt ≤ u.toInt ∧ b ≤ u.toInt ∧ ∀ i : Nat, i < m → 0 ≤ (C (1287 + 4 * i)).toInt ∧ (C (1287 + 4 * i)).toInt ≤ (C (1288 + 4 * i)).toInt ∧ (C (1288 + 4 * i)).toInt ≤ st.toInt ∧ (jhgt (jdr C) (C (1287 + 4 * i)).toInt.toNat ((C (1288 + 4 * i)).toInt.toNat - (C (1287 + 4 * i)).toInt.toNat)).isSome = true)
def jlg (g : jGh) (Γ : Nat → Option Nat) (C0 : Nat → Int32) (h : jH) : Prop := ∃ C : Nat → Int32, (∀ k, k < 1284 → C k = C0 k) ∧ jW (jKd (g.1, g.2.1, g.2.2.1, C, g.2.2.2.2)) Γ h
theorem jlg_f {g : jGh} {Γ : Nat → Option Nat} {C0 C : Nat → Int32} {s : Nat} {h : jH} (hC : ∀ k, k < 1284 → C k = C0 k) (a : jlf g Γ C s h) : jlg g Γ C0 h := by
  obtain ⟨C1, a1, w⟩ := a
  exact ⟨C1, fun k hk => (a1 k (by omega)).trans (hC k hk), w⟩
/-- a place of the world from 435 on holds what the ghost says -/
theorem t_alC {g : jGh} {Γ : Nat → Option Nat} {h : jH} {a : Nat} {i : Int32} (w : jW (jKd g) Γ h) (ha : Γ a = some 21) (h0 : 435 ≤ i.toInt) (h1 : i.toInt < 2133) : jok (jal 0 h a i) (fun x => x = g.2.2.2.1 i.toInt.toNat) := by
  refine jok_w (t_al w ha rfl (by omega) (by omega)) (fun x hx => ?_)
  obtain ⟨-, hx⟩ := hx
  rcases hx with hx | hx
  · omega
  · exact hx
theorem upd_ne {f : Nat → Int32} {i k : Nat} {x : Int32} (h : k ≠ i) : upd f i x k = f k := by
  simp only [upd]
  rw [if_neg h]
theorem upd_eq {f : Nat → Int32} {i : Nat} {x : Int32} : upd f i x i = x := by
  simp only [upd, if_pos]
/-- the line's end is noted -/
theorem L_lineEnd {g : jGh} {Γ : Nat → Option Nat} {a0 : Nat} {C0 C : Nat → Int32} {m : Nat} {b : Int} {x2 s0 : Int32} {t : Nat} {d b2 p2 : Int} {h : jH} (hu : ∀ a b c, 9 ≤ c → Γ a = some c → Γ b = some c → a = b) (ta0 : Γ a0 = some 20) (hm : m < 12) (hx : x2.toInt = 1285 + 4 * (m : Int)) (hC : ∀ k, k < 1284 → C k = C0 k) (hs0 : 0 ≤ s0.toInt) (hs : C (1287 + 4 * m) = s0) (hl : ∀ i : Nat, i < m → 0 ≤ (C (1287 + 4 * i)).toInt ∧ (C (1287 + 4 * i)).toInt ≤ (C (1288 + 4 * i)).toInt ∧ (C (1288 + 4 * i)).toInt ≤ s0.toInt ∧ (jhgt (jdr C) (C (1287 + 4 * i)).toInt.toNat ((C (1288 + 4 * i)).toInt.toNat - (C (1287 + 4 * i)).toInt.toNat)).isSome = true) (hd : 0 ≤ d) (hb : b ≤ b2) (a : jls g Γ a0 C s0.toInt.toNat t d b2 p2 h) : jok ((jgR 10 h a0 1).bind fun p129 => (jgI 10 h a0 16).bind fun v136 => (jas 0 h p129 (x2 + (3 : Int32)) v136).bind fun h139 => some ((1 : Int32), h139)) (fun q => (q.1 = 0 ∧ jlg g Γ C0 q.2) ∨ (q.1 = 1 ∧ jln g Γ a0 C0 (m + 1) b q.2)) := by
  obtain ⟨C1, a1, w, st, u, dp, e1, e2, e3, e4, e5, e6, e8, e7⟩ := a
  have e3' : (3 : Int32).toInt = 3 := rfl
  have ex : (x2 + (3 : Int32)).toInt = 1288 + 4 * (m : Int) := by rw [jadd (by omega) (by omega), hx, e3']; omega
  have exn : (x2 + (3 : Int32)).toInt.toNat = 1288 + 4 * m := by omega
  refine jok_b (t_gR w ta0 rfl rfl) (fun p t => ?_)
  refine jok_r e1 (jok_b (t_asC w hu t (by omega) (by omega)) (fun h139 w139 => ?_))
  obtain ⟨w139, f139⟩ := w139
  rw [exn] at w139
  refine jok_s (Or.inr ⟨rfl, _, ?_, w139, st, u, fI (f139 10 a0 16) e1, fI (f139 10 a0 10) e2, by omega, by omega, by omega, fun i hi => ?_⟩)
  · intro k hk
    show upd C1 (1288 + 4 * m) st k = C0 k
    rw [upd_ne (by omega), a1 k (by omega), hC k hk]
  · show 0 ≤ (upd C1 (1288 + 4 * m) st (1287 + 4 * i)).toInt ∧ (upd C1 (1288 + 4 * m) st (1287 + 4 * i)).toInt ≤ (upd C1 (1288 + 4 * m) st (1288 + 4 * i)).toInt ∧ (upd C1 (1288 + 4 * m) st (1288 + 4 * i)).toInt ≤ st.toInt ∧ (jhgt (jdr (upd C1 (1288 + 4 * m) st)) (upd C1 (1288 + 4 * m) st (1287 + 4 * i)).toInt.toNat ((upd C1 (1288 + 4 * m) st (1288 + 4 * i)).toInt.toNat - (upd C1 (1288 + 4 * m) st (1287 + 4 * i)).toInt.toNat)).isSome = true
    have hj : ∀ s l : Nat, jhgt (jdr (upd C1 (1288 + 4 * m) st)) s l = jhgt (jdr C1) s l := fun s l => jhgt_eq l (fun k _ _ => by
      show upd C1 (1288 + 4 * m) st (484 + 2 * k + 849) = C1 (484 + 2 * k + 849)
      rw [upd_ne (by omega)])
    rw [hj]
    by_cases q : i = m
    · subst q
      rw [upd_ne (by omega), upd_eq, a1 (1287 + 4 * i) (by omega), hs]
      refine ⟨hs0, by omega, Int.le_refl _, ?_⟩
      rw [e7]
      rfl
    · obtain ⟨z1, z2, z3, z4⟩ := hl i (by omega)
      rw [upd_ne (by omega), upd_ne (by omega), a1 (1287 + 4 * i) (by omega), a1 (1288 + 4 * i) (by omega)]
      refine ⟨z1, z2, by omega, ?_⟩
      rw [jhgt_eq (d := jdr C) _ (fun k c1 c2 => by
        show C1 (484 + 2 * k + 849) = C (484 + 2 * k + 849)
        exact a1 _ (by omega))]
      exact z4
end
section
theorem L_readLawLine_53 {g : jGh} {Γ : Nat → Option Nat} {n a0 p0 : Nat} {C0 : Nat → Int32} {m : Nat} {b : Int} {x2 s2 : Int32} {h : jH} (hn : 6000 ≤ n) (hu : ∀ a b c, 9 ≤ c → Γ a = some c → Γ b = some c → a = b) (ta0 : Γ a0 = some 20) (tp : Γ p0 = some 21) (hm : m < 12) (hx : x2.toInt = 1285 + 4 * (m : Int)) (hb : 0 ≤ b) (a : jln g Γ a0 C0 m b h) : jok (F_X12_readLawLine_53 n a0 x2 p0 x2 s2 h) (fun q => (q.1 = 0 ∧ jlg g Γ C0 q.2) ∨ (q.1 = 1 ∧ jln g Γ a0 C0 (m + 1) b q.2)) := by
  obtain ⟨C, hC, w, st, u, e16, e10, l0, l1, l2, hl⟩ := a
  have e0 : (0 : Int32).toInt = 0 := rfl
  have eo : (1 : Int32).toInt = 1 := rfl
  have e2' : (2 : Int32).toInt = 2 := rfl
  have em : (-1 : Int32).toInt = -1 := rfl
  have x1n : (x2 + (1 : Int32)).toInt = 1286 + 4 * (m : Int) := by rw [jadd (by omega) (by omega), hx, eo]; omega
  have x2n : (x2 + (2 : Int32)).toInt = 1287 + 4 * (m : Int) := by rw [jadd (by omega) (by omega), hx, e2']; omega
  have y0 : x2.toInt.toNat = 1285 + 4 * m := by omega
  have y1 : (x2 + (1 : Int32)).toInt.toNat = 1286 + 4 * m := by omega
  have y2 : (x2 + (2 : Int32)).toInt.toNat = 1287 + 4 * m := by omega
  unfold F_X12_readLawLine_53
  refine jok_b (t_asC w hu tp (by omega) (by omega)) (fun h53 w53 => ?_)
  obtain ⟨w53, f53⟩ := w53
  rw [y0] at w53
  have hC1 : ∀ k, k < 1284 → upd C (1285 + 4 * m) s2 k = C0 k := fun k hk => by rw [upd_ne (by omega)]; exact hC k hk
  refine jok_b (t_gR w53 ta0 rfl rfl) (fun p55 t55 => ?_)
  refine jok_b (t_al w53 t55 rfl (by omega) (by omega)) (fun v59 _ => ?_)
  refine jok_if (fun _ => ?_) (fun _ => jok_s (Or.inl ⟨rfl, _, hC1, w53⟩))
  refine jok_b (t_gR w53 ta0 rfl rfl) (fun p66 t66 => ?_)
  rw [t_cv w53 ta0 rfl]
  refine jok_b (T_X12_number hn w53 ta0) (fun q76 w76 => ?_)
  obtain ⟨⟨w76, r76⟩, -, l76⟩ := w76
  refine jok_b (t_asC w76 hu t66 (by omega) (by omega)) (fun h79 w79 => ?_)
  obtain ⟨w79, f79⟩ := w79
  rw [y1] at w79
  have hC2 : ∀ k, k < 1284 → upd (upd C (1285 + 4 * m) s2) (1286 + 4 * m) q76.1 k = C0 k := fun k hk => by rw [upd_ne (by omega)]; exact hC1 k hk
  refine jok_b (t_gR w79 ta0 rfl rfl) (fun p81 t81 => ?_)
  refine jok_b (t_alC w79 t81 (by omega) (by omega)) (fun v87 l87 => ?_)
  have l87 : v87 = upd (upd C (1285 + 4 * m) s2) (1286 + 4 * m) q76.1 (x2 + (1 : Int32)).toInt.toNat := l87
  rw [y1, upd_eq] at l87
  subst l87
  refine jok_le (fun c => ?_) (fun _ => jok_s (Or.inl ⟨rfl, _, hC2, w79⟩))
  have hmo : jmo a0 1 h53 q76.2 := by
    rcases l76 with z | z
    · rw [z, e0, em] at c
      omega
    · exact z.2.2
  obtain ⟨u2, eu2, lu2⟩ := hmo u (fI (f53 10 a0 10) e10)
  have e16b : jgI 10 h79 a0 16 = some st := fI (f79 10 a0 16) (fI (r76 16 (by decide) (by decide)) (fI (f53 10 a0 16) e16))
  have e10b : jgI 10 h79 a0 10 = some u2 := fI (f79 10 a0 10) eu2
  refine jok_b (t_gR w79 ta0 rfl rfl) (fun p94 t94 => ?_)
  refine jok_r e16b (jok_b (t_asC w79 hu t94 (by omega) (by omega)) (fun h104 w104 => ?_))
  obtain ⟨w104, f104⟩ := w104
  rw [y2] at w104
  generalize hC3 : upd (upd (upd C (1285 + 4 * m) s2) (1286 + 4 * m) q76.1) (1287 + 4 * m) st = C3
  have w104 : jW (jKd (g.1, g.2.1, g.2.2.1, C3, g.2.2.2.2)) Γ h104 := by rw [← hC3]; exact w104
  have hC4 : ∀ k, k < 1284 → C3 k = C0 k := fun k hk => by rw [← hC3, upd_ne (by omega)]; exact hC2 k hk
  have hs : C3 (1287 + 4 * m) = st := by rw [← hC3, upd_eq]
  have hlo : ∀ i : Nat, i < m → C3 (1287 + 4 * i) = C (1287 + 4 * i) ∧ C3 (1288 + 4 * i) = C (1288 + 4 * i) := fun i hi => by
    rw [← hC3, upd_ne (by omega), upd_ne (by omega), upd_ne (by omega), upd_ne (by omega), upd_ne (by omega), upd_ne (by omega)]
    exact ⟨rfl, rfl⟩
  have hl3 : ∀ i : Nat, i < m → 0 ≤ (C3 (1287 + 4 * i)).toInt ∧ (C3 (1287 + 4 * i)).toInt ≤ (C3 (1288 + 4 * i)).toInt ∧ (C3 (1288 + 4 * i)).toInt ≤ st.toInt ∧ (jhgt (jdr C3) (C3 (1287 + 4 * i)).toInt.toNat ((C3 (1288 + 4 * i)).toInt.toNat - (C3 (1287 + 4 * i)).toInt.toNat)).isSome = true := fun i hi => by
    rw [(hlo i hi).1, (hlo i hi).2]
    have hj : ∀ s l : Nat, jhgt (jdr C3) s l = jhgt (jdr C) s l := fun s l => jhgt_eq l (fun k _ _ => by
      show C3 (484 + 2 * k + 849) = C (484 + 2 * k + 849)
      rw [← hC3, upd_ne (by omega), upd_ne (by omega), upd_ne (by omega)])
    rw [hj]
    exact hl i hi
  refine jok_b (t_pI w104 ta0 rfl rfl trivial) (fun h107 w107 => ?_)
  obtain ⟨w107, q107, f107⟩ := w107
  have hj : jls g Γ a0 C3 st.toInt.toNat 0 1 b 0 h107 := by
    refine ⟨C3, fun _ _ => rfl, w107, st, u2, 0, fI (f107 10 a0 16 (Or.inr (by decide))) (fI (f104 10 a0 16) e16b), fI (f107 10 a0 10 (Or.inr (by decide))) (fI (f104 10 a0 10) e10b), fJ q107, rfl, by omega, by omega, by omega, ?_⟩
    rw [Nat.sub_self]
    rfl
  rw [t_cv w107 ta0 rfl]
  refine jok_b (L_passes hn ta0 (by decide) (by decide +kernel) hj) (fun q113 w113 => ?_)
  rcases w113 with ⟨e, j⟩ | ⟨e, j⟩
  · rw [if_pos e]
    exact L_lineEnd hu ta0 hm hx hC4 l0 hs hl3 (by omega) (Int.le_refl _) j
  · rw [if_neg (by rw [e]; decide)]
    obtain ⟨C9, w9⟩ := jls_w j
    rw [t_cv w9 ta0 rfl]
    refine jok_b ((L_MC hn hu ta0 30 (p := 0) (by omega) (by omega)).1 (by omega) 0 (1 + 1) (b + 1) q113.2 (by omega) (by omega) j) (fun q120 w120 => ?_)
    rcases w120 with ⟨e, j⟩ | ⟨e, j⟩
    · rw [if_pos e]
      exact jok_s (Or.inl ⟨rfl, jlg_f hC4 j⟩)
    · rw [if_neg (by rw [e]; decide)]
      exact L_lineEnd hu ta0 hm hx hC4 l0 hs hl3 (by omega) (by omega) j
theorem L_readLawLine {g : jGh} {Γ : Nat → Option Nat} {n a0 : Nat} {C0 : Nat → Int32} {m : Nat} {b : Int} {x1 : Int32} {h : jH} (hn : 6000 ≤ n) (hu : ∀ a b c, 9 ≤ c → Γ a = some c → Γ b = some c → a = b) (ta0 : Γ a0 = some 20) (hm : m < 12) (hx : x1.toInt = (m : Int)) (hb : 0 ≤ b) (a : jln g Γ a0 C0 m b h) : jok (F_X12_readLawLine n a0 x1 h) (fun q => (q.1 = 0 ∧ jlg g Γ C0 q.2) ∨ (q.1 = 1 ∧ jln g Γ a0 C0 (m + 1) b q.2)) := by
  have e4 : (4 : Int32).toInt = 4 := rfl
  have ek : (1285 : Int32).toInt = 1285 := rfl
  have z4 : ((4 : Int32) * x1).toInt = 4 * x1.toInt := jmulL e4 (by omega) (by omega)
  have zx : ((1285 : Int32) + ((4 : Int32) * x1)).toInt = 1285 + 4 * (m : Int) := by rw [jadd (by omega) (by omega), z4, ek, hx]
  have w : ∃ C : Nat → Int32, jW (jKd (g.1, g.2.1, g.2.2.1, C, g.2.2.2.2)) Γ h := by
    obtain ⟨C, -, w, -⟩ := a
    exact ⟨C, w⟩
  obtain ⟨C, w⟩ := w
  unfold F_X12_readLawLine
  refine jok_b (t_gR w ta0 rfl rfl) (fun p9 t9 => ?_)
  rw [t_cv w ta0 rfl]
  refine jok_b (S_X12_isWord hn w ta0 (by decide)) (fun _ _ => jok_if (fun _ => ?_) (fun _ => L_readLawLine_53 hn hu ta0 t9 hm zx hb a))
  rw [t_cv w ta0 rfl]
  refine jok_b (S_X12_isWord hn w ta0 (by decide)) (fun _ _ => jok_if (fun _ => ?_) (fun _ => L_readLawLine_53 hn hu ta0 t9 hm zx hb a))
  rw [t_cv w ta0 rfl]
  exact jok_b (S_X12_isWord hn w ta0 (by decide)) (fun _ _ => jok_if (fun _ => L_readLawLine_53 hn hu ta0 t9 hm zx hb a) (fun _ => L_readLawLine_53 hn hu ta0 t9 hm zx hb a))
end
section
theorem jln_mo {g : jGh} {Γ : Nat → Option Nat} {a0 : Nat} {C0 C : Nat → Int32} {m : Nat} {b e : Int} {h q : jH} (he : 0 ≤ e) (hC : ∀ k, k < 1284 → C k = C0 k) (r : jrw (g.1, g.2.1, g.2.2.1, C, g.2.2.2.2) Γ a0 h q) (mo : jmo a0 e h q) (a : ∃ st u : Int32, jgI 10 h a0 16 = some st ∧ jgI 10 h a0 10 = some u ∧ 0 ≤ st.toInt ∧ st.toInt ≤ u.toInt ∧ b ≤ u.toInt ∧ ∀ i : Nat, i < m → 0 ≤ (C (1287 + 4 * i)).toInt ∧ (C (1287 + 4 * i)).toInt ≤ (C (1288 + 4 * i)).toInt ∧ (C (1288 + 4 * i)).toInt ≤ st.toInt ∧ (jhgt (jdr C) (C (1287 + 4 * i)).toInt.toNat ((C (1288 + 4 * i)).toInt.toNat - (C (1287 + 4 * i)).toInt.toNat)).isSome = true) : jln g Γ a0 C0 m (b + e) q := by
  obtain ⟨st, u, e1, e2, l0, l1, l2, hl⟩ := a
  obtain ⟨v, ev, lv⟩ := mo u e2
  exact ⟨C, hC, r.1, st, v, fI (r.2 16 (by decide) (by decide)) e1, ev, l0, by omega, by omega, hl⟩
theorem jln_g {g : jGh} {Γ : Nat → Option Nat} {a0 : Nat} {C0 : Nat → Int32} {m : Nat} {b : Int} {h : jH} (a : jln g Γ a0 C0 m b h) : jlg g Γ C0 h := by
  obtain ⟨C, a, z, -⟩ := a
  exact ⟨C, a, z⟩
theorem jln_b {g : jGh} {Γ : Nat → Option Nat} {a0 : Nat} {C0 : Nat → Int32} {m : Nat} {b c : Int} {h : jH} (a : jln g Γ a0 C0 m b h) (hc : c ≤ b) : jln g Γ a0 C0 m c h := by
  obtain ⟨C, a1, w, st, u, e1, e2, l0, l1, l2, hl⟩ := a
  exact ⟨C, a1, w, st, u, e1, e2, l0, l1, by omega, hl⟩
theorem jln_b4 {g : jGh} {Γ : Nat → Option Nat} {a0 : Nat} {C0 : Nat → Int32} {m : Nat} {b : Int} {h : jH} (ta0 : Γ a0 = some 20) (a : jln g Γ a0 C0 m b h) : b ≤ 400 := by
  obtain ⟨C, a1, w, st, u, e1, e2, l0, l1, l2, hl⟩ := a
  obtain ⟨v, ev, lv⟩ := t_gI (k := 10) w ta0 rfl rfl
  have lv : 0 ≤ v.toInt ∧ v.toInt ≤ 400 := lv
  have qz : v = u := Option.some.inj (ev.symm.trans e2)
  subst qz
  omega
theorem L_readLine0 {g : jGh} {Γ : Nat → Option Nat} {n a0 : Nat} {C0 : Nat → Int32} {m : Nat} {b : Int} {x2 : Int32} {h : jH} (hn : 6000 ≤ n) (hu : ∀ a b c, 9 ≤ c → Γ a = some c → Γ b = some c → a = b) (ta0 : Γ a0 = some 20) (hx : x2.toInt = (m : Int)) (hb : 0 ≤ b) (a : jln g Γ a0 C0 m b h) : jok (F_X12_readLine n a0 (0 : Int32) x2 h) (fun q => (q.1 = 0 ∧ jlg g Γ C0 q.2) ∨ (q.1 = 1 ∧ m < 12 ∧ jln g Γ a0 C0 (m + 1) b q.2)) := by
  have e12 : (12 : Int32).toInt = 12 := rfl
  obtain ⟨C, hC, w, st, u, e1, e2, l0, l1, l2, hl⟩ := a
  unfold F_X12_readLine
  rw [t_cv w ta0 rfl]
  refine jok_b (T_X12_letters hn w ta0 e2) (fun h1 w1 => ?_)
  obtain ⟨w1, z, v, ez, ev, lz, lv⟩ := w1
  have j : jln g Γ a0 C0 m b h1 := by
    have j := jln_mo (b := b) (e := 0) (by omega) hC w1 (fun u9 e9 => by
      have qz : u = u9 := Option.some.inj (e2.symm.trans e9)
      subst qz
      exact ⟨v, ev, by omega⟩) ⟨st, u, e1, e2, l0, l1, l2, hl⟩
    rw [show b + 0 = b by omega] at j
    exact j
  rw [if_pos rfl]
  unfold F_X12_readLine_16
  refine jok_le (fun _ => jok_s (Or.inl ⟨rfl, jln_g j⟩)) (fun c => ?_)
  rw [if_pos rfl, t_cv w1.1 ta0 rfl]
  refine jok_b (L_readLawLine hn hu ta0 (by omega) hx hb j) (fun q35 w35 => ?_)
  rcases w35 with ⟨e, j9⟩ | ⟨e, j9⟩
  · rw [if_pos e]
    exact jok_s (Or.inl ⟨rfl, j9⟩)
  · rw [if_neg (by rw [e]; decide)]
    exact jok_s (Or.inr ⟨rfl, by omega, j9⟩)
theorem L_readAll_28 {g : jGh} {Γ : Nat → Option Nat} {n a0 : Nat} {C0 : Nat → Int32} (hn : 6000 ≤ n) (hu : ∀ a b c, 9 ≤ c → Γ a = some c → Γ b = some c → a = b) (ta0 : Γ a0 = some 20) : ∀ (k : Nat) {m : Nat} {b : Int} {x2 : Int32} {h : jH}, m ≤ 12 → x2.toInt = (m : Int) → 0 ≤ b → jln g Γ a0 C0 m b h → 400 - b < k → jok (F_X12_readAll_28 n k a0 (0 : Int32) x2 h) (fun q => (q.1 = -1 ∧ jlg g Γ C0 q.2) ∨ (∃ m2 : Nat, m2 ≤ 12 ∧ q.1.toInt = (m2 : Int) ∧ jln g Γ a0 C0 m2 0 q.2))
  | 0, m, b, x2, h, hm, hx, hb, a, hk => by
    have := jln_b4 ta0 a
    omega
  | k + 1, m, b, x2, h, hm, hx, hb, a, hk => by
    show jok (F_X12_readAll_28_b n (F_X12_readAll_28 n k) a0 (0 : Int32) x2 h) _
    unfold F_X12_readAll_28_b
    have eo : (1 : Int32).toInt = 1 := rfl
    have ex : (x2 + (1 : Int32)).toInt = ((m + 1 : Nat) : Int) := by rw [jadd (by omega) (by omega), hx, eo]; omega
    obtain ⟨C, hC, w, -⟩ := id a
    rw [t_cv w ta0 rfl]
    refine jok_b (L_readLine0 hn hu ta0 hx hb a) (fun q31 w31 => ?_)
    rcases w31 with ⟨e, j⟩ | ⟨e, hm2, j⟩
    · rw [if_pos e]
      exact jok_s (Or.inl ⟨rfl, j⟩)
    · rw [if_neg (by rw [e]; decide)]
      obtain ⟨C, hC, w, st, u, e1, e2, l0, l1, l2, hl⟩ := j
      rw [t_cv w ta0 rfl]
      refine jok_b (T_X12_blanks hn w ta0 e2) (fun h40 w40 => ?_)
      obtain ⟨w40, v, ev, -, lv⟩ := w40
      have hm0 : ∀ e : Int, u.toInt + e ≤ v.toInt → jmo a0 e q31.2 h40 := fun e he u9 e9 => by
        have qz : u = u9 := Option.some.inj (e2.symm.trans e9)
        subst qz
        exact ⟨v, ev, he⟩
      have hA : ∃ st u : Int32, jgI 10 q31.2 a0 16 = some st ∧ jgI 10 q31.2 a0 10 = some u ∧ 0 ≤ st.toInt ∧ st.toInt ≤ u.toInt ∧ b ≤ u.toInt ∧ ∀ i : Nat, i < m + 1 → 0 ≤ (C (1287 + 4 * i)).toInt ∧ (C (1287 + 4 * i)).toInt ≤ (C (1288 + 4 * i)).toInt ∧ (C (1288 + 4 * i)).toInt ≤ st.toInt ∧ (jhgt (jdr C) (C (1287 + 4 * i)).toInt.toNat ((C (1288 + 4 * i)).toInt.toNat - (C (1287 + 4 * i)).toInt.toNat)).isSome = true := ⟨st, u, e1, e2, l0, l1, l2, hl⟩
      have j40 := jln_mo (e := 0) (by omega) hC w40 (hm0 0 (by omega)) hA
      refine jok_r ev (jok_b (t_gI w40.1 ta0 rfl rfl) (fun v48 _ => ?_))
      refine jok_if (fun _ => jok_s (Or.inr ⟨m + 1, by omega, ex, jln_b j40 (by omega)⟩)) (fun _ => ?_)
      rw [t_cv w40.1 ta0 rfl]
      refine jok_b (S_X12_isAt w40.1 ta0) (fun v63 l63 => ?_)
      refine jok_eq (fun _ _ => jok_s (Or.inl ⟨rfl, jln_g j40⟩)) (fun c => ?_)
      have hp := l63.2 c v ev
      obtain ⟨v9, ev9, lv9⟩ := t_gI (k := 10) w40.1 ta0 rfl rfl
      have lv9 : 0 ≤ v9.toInt ∧ v9.toInt ≤ 400 := lv9
      have qz : v9 = v := Option.some.inj (ev9.symm.trans ev)
      subst qz
      have ea : (v9 + (1 : Int32)).toInt = v9.toInt + 1 := by rw [jadd (by omega) (by omega), eo]
      refine jok_r ev9 (jok_b (t_rw w40.1 ta0 (Or.inl rfl) (by omega) (by omega)) (fun h78 w78 => ?_))
      have j78 : jln g Γ a0 C0 (m + 1) (b + 1) h78 := jln_mo (e := 1) (by omega) hC (jrw_tr w40 w78.1) (fun u9 e9 => by
        have qz : u = u9 := Option.some.inj (e2.symm.trans e9)
        subst qz
        exact ⟨_, fJ w78.2.1, by omega⟩) hA
      exact L_readAll_28 hn hu ta0 k (by omega) ex (by omega) j78 (by omega)
end
section
theorem S_X12_readLine1 {g : jGh} {Γ : Nat → Option Nat} {n a0 : Nat} {x2 : Int32} {h : jH} (hn : 6000 ≤ n) (hg : jgok g) (w : jW (jKd g) Γ h) (ta0 : Γ a0 = some 20) : jok (F_X12_readLine n a0 (1 : Int32) x2 h) (fun q => jW (jKd g) Γ q.2 ∧ (q.1 = 0 ∨ (q.1 = 1 ∧ x2.toInt < 14))) := by
  have e14 : (14 : Int32).toInt = 14 := rfl
  unfold F_X12_readLine
  rw [t_cv w ta0 rfl]
  refine jok_b (S_X12_letters hn w ta0) (fun h1 w1 => ?_)
  rw [if_neg (by decide)]
  unfold F_X12_readLine_16
  refine jok_le (fun _ => jok_s ⟨w1.1, Or.inl rfl⟩) (fun c => ?_)
  rw [if_neg (by decide), t_cv w1.1 ta0 rfl]
  refine jok_b (S_X12_readPoleLine hn hg w1.1 ta0) (fun q24 w24 => ?_)
  exact jok_if (fun _ => jok_s ⟨w24.1, Or.inl rfl⟩) (fun _ => jok_s ⟨w24.1, Or.inr ⟨rfl, by omega⟩⟩)
theorem S_X12_readAll_28 {g : jGh} {Γ : Nat → Option Nat} {n a0 : Nat} (hn : 6000 ≤ n) (hg : jgok g) (ta0 : Γ a0 = some 20) : ∀ (k : Nat) {x2 : Int32} {h : jH}, jW (jKd g) Γ h → 0 ≤ x2.toInt → x2.toInt ≤ 14 → 14 - x2.toInt < k → jok (F_X12_readAll_28 n k a0 (1 : Int32) x2 h) (fun q => jW (jKd g) Γ q.2)
  | 0, x2, h, w, l0, l1, hk => by omega
  | k + 1, x2, h, w, l0, l1, hk => by
    show jok (F_X12_readAll_28_b n (F_X12_readAll_28 n k) a0 (1 : Int32) x2 h) _
    unfold F_X12_readAll_28_b
    have eo : (1 : Int32).toInt = 1 := rfl
    rw [t_cv w ta0 rfl]
    refine jok_b (S_X12_readLine1 hn hg w ta0) (fun q31 w31 => ?_)
    obtain ⟨w31, e | ⟨e, hx⟩⟩ := w31
    · rw [if_pos e]
      exact jok_s w31
    · rw [if_neg (by rw [e]; decide)]
      have ex : (x2 + (1 : Int32)).toInt = x2.toInt + 1 := by rw [jadd (by omega) (by omega), eo]
      rw [t_cv w31 ta0 rfl]
      refine jok_b (S_X12_blanks hn w31 ta0) (fun h40 w40 => ?_)
      obtain ⟨w40, -⟩ := w40
      obtain ⟨v, ev, lv⟩ := t_gI (k := 10) w40 ta0 rfl rfl
      have lv : 0 ≤ v.toInt ∧ v.toInt ≤ 400 := lv
      refine jok_r ev (jok_b (t_gI w40 ta0 rfl rfl) (fun v48 _ => ?_))
      refine jok_if (fun _ => jok_s w40) (fun _ => ?_)
      rw [t_cv w40 ta0 rfl]
      refine jok_b (S_X12_isAt w40 ta0) (fun v63 l63 => ?_)
      refine jok_eq (fun _ _ => jok_s w40) (fun c => ?_)
      have hp := l63.2 c v ev
      have ea : (v + (1 : Int32)).toInt = v.toInt + 1 := by rw [jadd (by omega) (by omega), eo]
      refine jok_r ev (jok_b (t_rw w40 ta0 (Or.inl rfl) (by omega) (by omega)) (fun h78 w78 => ?_))
      exact S_X12_readAll_28 hn hg ta0 k w78.1.1 (by omega) (by omega) (by omega)
/-- the ghosts behind 'uses' -/
abbrev jg20 (g : jGh) : jGh := (g.1, g.2.1, (0 : Int32).toInt, g.2.2.2)
theorem jg20_ok {g : jGh} (hg : jgok g) : jgok (jg20 g) := ⟨hg.1, by show (0 : Int) ≤ (0 : Int32).toInt; decide, by show (0 : Int32).toInt ≤ 400; decide, hg.2.2.2⟩
theorem S_X12_readAll1 {g : jGh} {Γ : Nat → Option Nat} {n a0 : Nat} {h : jH} (hn : 6000 ≤ n) (hg : jgok g) (w : jW (jKd g) Γ h) (ta0 : Γ a0 = some 20) (hu : ∀ a b c, 9 ≤ c → Γ a = some c → Γ b = some c → a = b) : jok (F_X12_readAll n a0 (1 : Int32) h) (fun q => jW (jKd (jg20 g)) Γ q.2) := by
  unfold F_X12_readAll
  rw [t_cv w ta0 rfl]
  refine jok_b (S_X12_uses hg w ta0 hu) (fun h1 w1 => ?_)
  refine jok_b (t_pI w1 ta0 rfl rfl (by constructor <;> decide)) (fun h6 w6 => ?_)
  obtain ⟨w6, -, -⟩ := w6
  rw [t_cv w6 ta0 rfl]
  refine jok_b (S_X12_blanks hn w6 ta0) (fun h10 w10 => ?_)
  refine jok_b (t_gI w10.1 ta0 rfl rfl) (fun v14 _ => ?_)
  refine jok_b (t_gI w10.1 ta0 rfl rfl) (fun v18 _ => ?_)
  exact jok_if (fun _ => jok_s w10.1) (fun _ => S_X12_readAll_28 hn (jg20_ok hg) ta0 n w10.1 (by decide) (by decide) (by show 14 - (0 : Int) < _; omega))
theorem L_readAll0 {g : jGh} {Γ : Nat → Option Nat} {n a0 : Nat} {h : jH} (hn : 6000 ≤ n) (hg : jgok g) (w : jW (jKd g) Γ h) (ta0 : Γ a0 = some 20) (hu : ∀ a b c, 9 ≤ c → Γ a = some c → Γ b = some c → a = b) : jok (F_X12_readAll n a0 (0 : Int32) h) (fun q => (q.1 = -1 ∧ jlg (jg20 g) Γ g.2.2.2.1 q.2) ∨ (∃ m2 : Nat, m2 ≤ 12 ∧ q.1.toInt = (m2 : Int) ∧ jln (jg20 g) Γ a0 g.2.2.2.1 m2 0 q.2)) := by
  unfold F_X12_readAll
  rw [t_cv w ta0 rfl]
  refine jok_b (S_X12_uses hg w ta0 hu) (fun h1 w1 => ?_)
  refine jok_b (t_pI w1 ta0 rfl rfl (by constructor <;> decide)) (fun h6 w6 => ?_)
  obtain ⟨w6, q6, -⟩ := w6
  obtain ⟨u, eu, lu⟩ := t_gI (k := 10) w6 ta0 rfl rfl
  have lu : 0 ≤ u.toInt ∧ u.toInt ≤ 400 := lu
  rw [t_cv w6 ta0 rfl]
  refine jok_b (T_X12_blanks hn w6 ta0 eu) (fun h10 w10 => ?_)
  obtain ⟨w10, v, ev, -, lv⟩ := w10
  have j : jln (jg20 g) Γ a0 g.2.2.2.1 0 0 h10 := by
    refine ⟨g.2.2.2.1, fun _ _ => rfl, w10.1, 0, v, fI (w10.2 16 (by decide) (by decide)) (fJ q6), ev, by decide, ?_, (show (0 : Int) ≤ v.toInt by omega), fun i hi => absurd hi (Nat.not_lt_zero i)⟩
    show (0 : Int) ≤ v.toInt
    omega
  refine jok_r ev (jok_b (t_gI w10.1 ta0 rfl rfl) (fun v18 _ => ?_))
  exact jok_if (fun _ => jok_s (Or.inr ⟨0, by omega, rfl, j⟩)) (fun _ => L_readAll_28 (m := 0) (b := 0) hn hu ta0 n (by omega) rfl (by omega) j (by omega))
end
section
theorem jlawOK_eq {C C0 : Nat → Int32} (h : ∀ k, k < 1284 → C k = C0 k) (a : jlawOK C0) : jlawOK C := by
  obtain ⟨a1, a2, a3⟩ := a
  have e0 := h 435 (by decide)
  refine ⟨by rw [e0]; exact a1, by rw [e0]; exact a2, fun i hi => ?_⟩
  rw [e0] at hi
  obtain ⟨b1, b2, b3, b4⟩ := a3 i hi
  have i12 : i < 12 := by omega
  rw [h (438 + 4 * i) (by omega), h (439 + 4 * i) (by omega)]
  refine ⟨b1, b2, b3, ?_⟩
  rw [jhgt_eq (d := C0) _ (fun k c1 c2 => h _ (by omega))]
  exact b4
theorem jg_C {g : jGh} {C : Nat → Int32} (hg : jgok g) (h : jlawOK C) : jgok (g.1, g.2.1, g.2.2.1, C, g.2.2.2.2) := ⟨hg.1, hg.2.1, hg.2.2.1, h⟩
theorem L_law_52 {g : jGh} {Γ : Nat → Option Nat} {n a0 : Nat} {D : Nat → Int32} {x1 : Int32} (hu : ∀ a b c, 9 ≤ c → Γ a = some c → Γ b = some c → a = b) (ta0 : Γ a0 = some 20) : ∀ (k : Nat) {x2 : Int32} {C : Nat → Int32} {h : jH}, 0 ≤ x2.toInt → x2.toInt ≤ 849 → 849 - x2.toInt < k → (∀ j : Nat, (j : Int) < x2.toInt → C (435 + j) = D (1284 + j)) → (∀ j, 1284 ≤ j → C j = D j) → jW (jKd (g.1, g.2.1, g.2.2.1, C, g.2.2.2.2)) Γ h → jok (F_X12_law_52 n k a0 x1 x2 h) (fun q => ∃ C2 : Nat → Int32, (∀ j : Nat, j < 849 → C2 (435 + j) = D (1284 + j)) ∧ jW (jKd (g.1, g.2.1, g.2.2.1, C2, g.2.2.2.2)) Γ q.2)
  | 0, x2, C, h, l0, l1, hk, h1, h2, w => by omega
  | k + 1, x2, C, h, l0, l1, hk, h1, h2, w => by
    show jok (F_X12_law_52_b n (F_X12_law_52 n k) a0 x1 x2 h) _
    unfold F_X12_law_52_b
    have eo : (1 : Int32).toInt = 1 := rfl
    have e2 : (2 : Int32).toInt = 2 := rfl
    have e4 : (435 : Int32).toInt = 435 := rfl
    have e12 : (1284 : Int32).toInt = 1284 := rfl
    have e8 : (849 : Int32).toInt = 849 := rfl
    refine jok_le (fun c => ?_) (fun c => ?_)
    · refine jok_b (t_gR w ta0 rfl rfl) (fun p86 t86 => ?_)
      refine jok_b (t_asW w t86 (by omega) (by omega) (by omega) (by omega)) (fun h91 w91 => ?_)
      obtain ⟨w91, -⟩ := w91
      refine jok_b (t_pI w91 ta0 rfl rfl (by constructor <;> decide)) (fun h94 w94 => ?_)
      exact jok_s ⟨C, fun j hj => h1 j (by omega), w94.1⟩
    · have ea : ((1284 : Int32) + x2).toInt = 1284 + x2.toInt := by rw [jadd (by omega) (by omega), e12]
      have eb : ((435 : Int32) + x2).toInt = 435 + x2.toInt := by rw [jadd (by omega) (by omega), e4]
      have ec : (x2 + (1 : Int32)).toInt = x2.toInt + 1 := by rw [jadd (by omega) (by omega), eo]
      have ean : ((1284 : Int32) + x2).toInt.toNat = 1284 + x2.toInt.toNat := by omega
      have ebn : ((435 : Int32) + x2).toInt.toNat = 435 + x2.toInt.toNat := by omega
      refine jok_b (t_gR w ta0 rfl rfl) (fun p60 t60 => ?_)
      refine jok_b (t_gR w ta0 rfl rfl) (fun p69 t69 => ?_)
      refine jok_b (t_alC w t69 (by omega) (by omega)) (fun v77 l77 => ?_)
      have l77 : v77 = C ((1284 : Int32) + x2).toInt.toNat := l77
      rw [ean] at l77
      refine jok_b (t_asC w hu t60 (by omega) (by omega)) (fun h78 w78 => ?_)
      obtain ⟨w78, -⟩ := w78
      rw [ebn] at w78
      refine L_law_52 hu ta0 k (C := upd C (435 + x2.toInt.toNat) v77) (by omega) (by omega) (by omega) (fun j hj => ?_) (fun j hj => ?_) w78
      · by_cases q : j = x2.toInt.toNat
        · subst q
          rw [upd_eq, l77]
          exact h2 _ (by omega)
        · rw [upd_ne (by omega)]
          exact h1 j (by omega)
      · rw [upd_ne (by omega)]
        exact h2 j hj
theorem L_law_32 {g : jGh} {Γ : Nat → Option Nat} {n a0 : Nat} {C0 : Nat → Int32} {x1 s1 : Int32} {h : jH} (hn : 6000 ≤ n) (hg : jgok g) (hC0 : jlawOK C0) (hu : ∀ a b c, 9 ≤ c → Γ a = some c → Γ b = some c → a = b) (ta0 : Γ a0 = some 20) (hs : s1 = 1 ∨ (s1 = 0 ∧ ∃ m : Nat, m ≤ 12 ∧ x1.toInt = (m : Int) ∧ jln g Γ a0 C0 m 0 h)) (a : jlg g Γ C0 h) : jok (F_X12_law_32 n a0 x1 a0 s1 h) (fun q => ∃ C2 : Nat → Int32, jlawOK C2 ∧ jW (jKd (g.1, g.2.1, g.2.2.1, C2, g.2.2.2.2)) Γ q.2) := by
  have hb : 0 ≤ s1.toInt ∧ s1.toInt ≤ 1 := by rcases hs with rfl | ⟨rfl, -⟩ <;> decide
  have e12 : (1284 : Int32).toInt = 1284 := rfl
  unfold F_X12_law_32
  rcases hs with rfl | ⟨rfl, m, hm, hx, j⟩
  · obtain ⟨C, hC, w⟩ := a
    rw [t_cv w ta0 rfl]
    refine jok_b2 (S_X12_throwsIf hn (jg_C hg (jlawOK_eq hC hC0)) w ta0 hb.1 hb.2) (fun q33 e33 w33 => ?_)
    rw [if_neg (by rw [jthr1 e33]; decide)]
    exact jok_s ⟨C, jlawOK_eq hC hC0, w33.1⟩
  · obtain ⟨C, hC, w, st, u, e1, e2, l0, l1, l2, hl⟩ := j
    obtain ⟨v, ev, lv⟩ := t_gI (k := 16) w ta0 rfl rfl
    have lv : 0 ≤ v.toInt ∧ v.toInt ≤ 400 := lv
    have qz : v = st := Option.some.inj (ev.symm.trans e1)
    subst qz
    rw [t_cv w ta0 rfl]
    refine jok_b2 (S_X12_throwsIf hn (jg_C hg (jlawOK_eq hC hC0)) w ta0 hb.1 hb.2) (fun q33 e33 w33 => ?_)
    have eh := jthr0 e33
    obtain ⟨r33, h33⟩ := q33
    have eh : h33 = h := eh
    subst eh
    refine jok_if (fun _ => ?_) (fun _ => jok_s ⟨C, jlawOK_eq hC hC0, w⟩)
    refine jok_b (t_gR w ta0 rfl rfl) (fun p42 t42 => ?_)
    refine jok_b (t_asC w hu t42 (by omega) (by omega)) (fun h49 w49 => ?_)
    obtain ⟨w49, -⟩ := w49
    have w49 : jW (jKd (g.1, g.2.1, g.2.2.1, upd C 1284 x1, g.2.2.2.2)) Γ h49 := w49
    refine jok_w (L_law_52 (D := upd C 1284 x1) (x1 := x1) (x2 := 0) hu ta0 n (by decide) (by decide) (by show 849 - (0 : Int) < _; omega) (fun j hj => absurd hj (by show ¬ (j : Int) < 0; omega)) (fun j hj => rfl) w49) (fun q wq => ?_)
    obtain ⟨C2, h2, w2⟩ := wq
    have hc : C2 435 = x1 := by rw [h2 0 (by decide)]; exact upd_eq
    refine ⟨C2, ⟨by rw [hc]; omega, by rw [hc]; omega, fun i hi => ?_⟩, w2⟩
    rw [hc, hx] at hi
    obtain ⟨z1, z2, z3, z4⟩ := hl i (by omega)
    have ha : C2 (438 + 4 * i) = C (1287 + 4 * i) := by
      have := h2 (3 + 4 * i) (by omega)
      rw [show 435 + (3 + 4 * i) = 438 + 4 * i by omega, show 1284 + (3 + 4 * i) = 1287 + 4 * i by omega, upd_ne (by omega)] at this
      exact this
    have hb : C2 (439 + 4 * i) = C (1288 + 4 * i) := by
      have := h2 (4 + 4 * i) (by omega)
      rw [show 435 + (4 + 4 * i) = 439 + 4 * i by omega, show 1284 + (4 + 4 * i) = 1288 + 4 * i by omega, upd_ne (by omega)] at this
      exact this
    rw [ha, hb]
    refine ⟨z1, z2, by omega, ?_⟩
    rw [jhgt_eq (d := jdr C) _ (fun k c1 c2 => by
      have := h2 (49 + 2 * k) (by omega)
      rw [show 435 + (49 + 2 * k) = 484 + 2 * k by omega, show 1284 + (49 + 2 * k) = 484 + 2 * k + 849 by omega, upd_ne (by omega)] at this
      exact this)]
    exact z4
end
section
theorem S_X12_law {g : jGh} {Γ : Nat → Option Nat} {n a0 : Nat} {h : jH} (hn : 6000 ≤ n) (hg : jgok g) (w : jW (jKd g) Γ h) (ta0 : Γ a0 = some 20) (hu : ∀ a b c, 9 ≤ c → Γ a = some c → Γ b = some c → a = b) : jok (F_X12_law n a0 h) (fun q => ∃ C2 : Nat → Int32, jlawOK C2 ∧ jW (jKd (g.1, g.2.1, (0 : Int32).toInt, C2, g.2.2.2.2)) Γ q.2) := by
  unfold F_X12_law
  have e0 : (0 : Int32).toInt = 0 := rfl
  rw [t_cv w ta0 rfl]
  refine jok_b (L_readAll0 hn hg w ta0 hu) (fun q2 w2 => ?_)
  rcases w2 with ⟨e, j⟩ | ⟨m, hm, hx, j⟩
  · have hneg : ¬ (0 : Int32) ≤ q2.1 := by rw [e]; decide
    rw [if_neg hneg]
    obtain ⟨C, hC, wC⟩ := j
    refine jok_b (t_gI wC ta0 rfl rfl) (fun v12 _ => ?_)
    refine jok_b (t_pI wC ta0 rfl rfl trivial) (fun h19 w19 => ?_)
    rw [if_neg hneg]
    exact L_law_32 hn (jg20_ok hg) hg.2.2.2 hu ta0 (Or.inl rfl) ⟨C, hC, w19.1⟩
  · have hpos : (0 : Int32) ≤ q2.1 := Int32.le_iff_toInt_le.mpr (by omega)
    rw [if_pos hpos]
    obtain ⟨C, hC, wC, st, u, e1, e2, l0, l1, l2, hl⟩ := j
    refine jok_b (t_pI wC ta0 rfl rfl trivial) (fun h19 w19 => ?_)
    obtain ⟨w19, -, f19⟩ := w19
    rw [if_pos hpos]
    exact L_law_32 hn (jg20_ok hg) hg.2.2.2 hu ta0 (Or.inr ⟨rfl, m, hm, hx, ⟨C, hC, w19, st, u, fI (f19 10 a0 16 (Or.inr (by decide))) e1, fI (f19 10 a0 10 (Or.inr (by decide))) e2, l0, l1, l2, hl⟩⟩) ⟨C, hC, w19⟩
/-! the image of the reference: its ghost -/
theorem jKd_E {g : jGh} {C : Nat → Int32} {c : Nat} (hc : c ≠ 23) : jKd (g.1, g.2.1, g.2.2.1, g.2.2.2.1, C, g.2.2.2.2.2) c = jKd g c := by
  unfold jKd
  split <;> first | rfl | exact absurd rfl hc
/-- a write to 'earlier': its ghost anew -/
theorem t_asE {g : jGh} {Γ : Nat → Option Nat} {h : jH} {a : Nat} {i x : Int32} (w : jW (jKd g) Γ h) (hu : ∀ a b c, 9 ≤ c → Γ a = some c → Γ b = some c → a = b) (ha : Γ a = some 23) (h0 : 0 ≤ i.toInt) (h1 : i.toInt < 1284) (hx : jR3 i.toInt.toNat x) : jok (jas 0 h a i x) (fun h1 => jW (jKd (g.1, g.2.1, g.2.2.1, g.2.2.2.1, upd g.2.2.2.2.1 i.toInt.toNat x, g.2.2.2.2.2)) Γ h1 ∧ jfa h h1) := by
  obtain ⟨f, e1, e2⟩ := t_arr w ha rfl
  have hi : i.toNatClampNeg = i.toInt.toNat := rfl
  refine ⟨jup h a (.inr (.inl (0, 1284, upd f i.toNatClampNeg (jnar 0 x)))), ?_, ?_, jfa_up e1⟩
  · unfold jas
    rw [e1]
    dsimp only
    rw [if_pos ⟨rfl, jnoob (by omega) (by omega), fun q => by cases q⟩]
  · intro b c hb
    refine ⟨(w b c hb).1, ?_⟩
    show okE Γ (jKd (g.1, g.2.1, g.2.2.1, g.2.2.2.1, upd g.2.2.2.2.1 i.toInt.toNat x, g.2.2.2.2.2) c) (if b = a then some _ else h.2 b)
    by_cases hq : b = a
    · subst hq
      cases ha.symm.trans hb
      rw [if_pos rfl]
      refine ⟨_, rfl, fun k hk => ?_⟩
      have e2k := e2 k hk
      show jR3 k (upd f i.toNatClampNeg (jnar 0 x) k) ∧ (k < 435 ∨ upd f i.toNatClampNeg (jnar 0 x) k = upd g.2.2.2.2.1 i.toInt.toNat x k)
      rw [hi]
      by_cases hk2 : k = i.toInt.toNat
      · subst hk2
        rw [upd_eq, upd_eq]
        exact ⟨hx, Or.inr rfl⟩
      · rw [upd_ne hk2, upd_ne hk2]
        exact e2k
    · rw [if_neg hq]
      have hc : c ≠ 23 := fun q => hq (hu b a 23 (by decide) (by rw [hb, q]) ha)
      rw [jKd_E hc]
      exact (w b c hb).2
end
section
/-- 'earlier' holds the law that stands -/
def jeq (g : jGh) : Prop := ∀ k, 435 ≤ k → k < 1284 → g.2.2.2.2.1 k = g.2.2.2.1 k
theorem S_X12_pole_92 {g : jGh} {Γ : Nat → Option Nat} {n a0 : Nat} (he : jeq g) (ta0 : Γ a0 = some 20) : ∀ (k : Nat) {x2 : Int32} {h : jH}, jW (jKd g) Γ h → 0 ≤ x2.toInt → x2.toInt ≤ 1284 → 1284 - x2.toInt < k → jok (F_X12_pole_92 n k a0 x2 h) (fun q => jW (jKd g) Γ q.2)
  | 0, x2, h, w, l0, l1, hk => by omega
  | k + 1, x2, h, w, l0, l1, hk => by
    show jok (F_X12_pole_92_b n (F_X12_pole_92 n k) a0 x2 h) _
    unfold F_X12_pole_92_b
    have eo : (1 : Int32).toInt = 1 := rfl
    have e12 : (1284 : Int32).toInt = 1284 := rfl
    refine jok_le (fun _ => jok_s w) (fun c => ?_)
    refine jok_b (t_gR w ta0 rfl rfl) (fun p100 t100 => ?_)
    refine jok_b (t_gR w ta0 rfl rfl) (fun p105 t105 => ?_)
    refine jok_b (t_al w t105 rfl (by omega) (by omega)) (fun v l => ?_)
    have l : jR3 x2.toInt.toNat v ∧ (x2.toInt.toNat < 435 ∨ v = g.2.2.2.2.1 x2.toInt.toNat) := l
    refine jok_b (t_as w t100 rfl (by omega) (by omega) (show jRw g x2.toInt.toNat v from ⟨l.1, ?_⟩) (fun q => by cases q)) (fun h110 w110 => ?_)
    · by_cases q : x2.toInt.toNat < 435
      · exact Or.inl q
      · rcases l.2 with z | z
        · exact Or.inl z
        · exact Or.inr (z.trans (he _ (by omega) (by omega)))
    have ec : (x2 + (1 : Int32)).toInt = x2.toInt + 1 := by rw [jadd (by omega) (by omega), eo]
    exact S_X12_pole_92 he ta0 k w110.1 (by omega) (by omega) (by omega)
theorem S_X12_pole_83 {g : jGh} {Γ : Nat → Option Nat} {n a0 : Nat} {s1 : Int32} {h : jH} (hn : 6000 ≤ n) (hg : jgok g) (he : jeq g) (w : jW (jKd g) Γ h) (ta0 : Γ a0 = some 20) (hs : s1 = 0 ∨ s1 = 1) : jok (F_X12_pole_83 n a0 a0 s1 h) (fun q => jW (jKd g) Γ q.2) := by
  have hb : 0 ≤ s1.toInt ∧ s1.toInt ≤ 1 := by rcases hs with rfl | rfl <;> decide
  have eo : (1 : Int32).toInt = 1 := rfl
  unfold F_X12_pole_83
  rw [t_cv w ta0 rfl]
  refine jok_b (S_X12_throwsIf hn hg w ta0 hb.1 hb.2) (fun q84 w84 => ?_)
  obtain ⟨w84, -⟩ := w84
  refine jok_if (fun _ => ?_) (fun _ => S_X12_pole_92 he ta0 n w84 (by decide) (by decide) (by show 1284 - (0 : Int) < _; omega))
  refine jok_b (t_gR w84 ta0 rfl rfl) (fun p t => ?_)
  refine jok_b (t_al w84 t rfl (by omega) (by omega)) (fun v _ => ?_)
  refine jok_b (t_asW w84 t (by omega) (by omega) (by omega) (by omega)) (fun h128 w128 => ?_)
  obtain ⟨w128, -⟩ := w128
  refine jok_b (t_pI w128 ta0 rfl rfl (by constructor <;> decide)) (fun h131 w131 => ?_)
  obtain ⟨w131, -, -⟩ := w131
  refine jok_b (t_gR w131 ta0 rfl rfl) (fun p2 t2 => ?_)
  refine jok_b (t_al w131 t2 rfl (by omega) (by omega)) (fun v2 _ => ?_)
  exact jok_s w131
theorem S_X12_pole_59 {g : jGh} {Γ : Nat → Option Nat} {n a0 : Nat} {s1 : Int32} {h : jH} (hn : 6000 ≤ n) (hg : jgok g) (he : jeq g) (w : jW (jKd g) Γ h) (ta0 : Γ a0 = some 20) (hs : s1 = 0 ∨ s1 = 1) : jok (F_X12_pole_59 n a0 a0 s1 h) (fun q => jW (jKd g) Γ q.2) := by
  have hb : 0 ≤ s1.toInt ∧ s1.toInt ≤ 1 := by rcases hs with rfl | rfl <;> decide
  have eo : (1 : Int32).toInt = 1 := rfl
  unfold F_X12_pole_59
  rw [t_cv w ta0 rfl]
  refine jok_b (S_X12_throwsIf hn hg w ta0 hb.1 hb.2) (fun q60 w60 => ?_)
  obtain ⟨w60, -⟩ := w60
  refine jok_if (fun _ => ?_) (fun _ => S_X12_pole_92 he ta0 n w60 (by decide) (by decide) (by show 1284 - (0 : Int) < _; omega))
  refine jok_b (t_gR w60 ta0 rfl rfl) (fun p t => ?_)
  refine jok_b (t_al w60 t rfl (by omega) (by omega)) (fun v _ => ?_)
  exact jok_if (fun _ => S_X12_pole_83 hn hg he w60 ta0 (Or.inr rfl)) (fun _ => S_X12_pole_83 hn hg he w60 ta0 (Or.inl rfl))
theorem S_X12_pole_2 {g0 : jGh} {Γ : Nat → Option Nat} {n a0 : Nat} (hn : 6000 ≤ n) (hg0 : jgok g0) (ta0 : Γ a0 = some 20) (hu : ∀ a b c, 9 ≤ c → Γ a = some c → Γ b = some c → a = b) : ∀ (k : Nat) {E : Nat → Int32} {x1 : Int32} {h : jH}, jW (jKd (g0.1, g0.2.1, g0.2.2.1, g0.2.2.2.1, E, g0.2.2.2.2.2)) Γ h → 0 ≤ x1.toInt → x1.toInt ≤ 1284 → 1284 - x1.toInt < k → (∀ j : Nat, 435 ≤ j → (j : Int) < x1.toInt → E j = g0.2.2.2.1 j) → jok (F_X12_pole_2 n k a0 x1 h) (fun q => ∃ E2 : Nat → Int32, jW (jKd (g0.1, g0.2.1, (0 : Int32).toInt, g0.2.2.2.1, E2, g0.2.2.2.2.2)) Γ q.2)
  | 0, E, x1, h, w, l0, l1, hk, hE => by omega
  | k + 1, E, x1, h, w, l0, l1, hk, hE => by
    show jok (F_X12_pole_2_b n (F_X12_pole_2 n k) a0 x1 h) _
    unfold F_X12_pole_2_b
    have eo : (1 : Int32).toInt = 1 := rfl
    have e12 : (1284 : Int32).toInt = 1284 := rfl
    have hg : jgok (g0.1, g0.2.1, g0.2.2.1, g0.2.2.2.1, E, g0.2.2.2.2.2) := hg0
    refine jok_le (fun c => ?_) (fun c => ?_)
    · rw [t_cv w ta0 rfl]
      refine jok_b (S_X12_readAll1 hn hg w ta0 hu) (fun q29 w29 => ?_)
      have he : jeq (jg20 (g0.1, g0.2.1, g0.2.2.1, g0.2.2.2.1, E, g0.2.2.2.2.2)) := fun j h4 h12 => hE j h4 (by omega)
      have fin : ∀ {h46 : jH} {s1 : Int32}, jW (jKd (jg20 (g0.1, g0.2.1, g0.2.2.1, g0.2.2.2.1, E, g0.2.2.2.2.2))) Γ h46 → (s1 = 0 ∨ s1 = 1) → jok (F_X12_pole_59 n a0 a0 s1 h46) (fun q => ∃ E2 : Nat → Int32, jW (jKd (g0.1, g0.2.1, (0 : Int32).toInt, g0.2.2.2.1, E2, g0.2.2.2.2.2)) Γ q.2) := fun w46 hs => jok_w (S_X12_pole_59 hn (jg20_ok hg) he w46 ta0 hs) (fun q wq => ⟨E, wq⟩)
      refine jok_if (fun _ => ?_) (fun _ => ?_)
      · refine jok_b (t_pI w29 ta0 rfl rfl trivial) (fun h46 w46 => ?_)
        exact jok_if (fun _ => fin w46.1 (Or.inl rfl)) (fun _ => fin w46.1 (Or.inr rfl))
      · refine jok_b (t_gI w29 ta0 rfl rfl) (fun v39 _ => ?_)
        refine jok_b (t_pI w29 ta0 rfl rfl trivial) (fun h46 w46 => ?_)
        exact jok_if (fun _ => fin w46.1 (Or.inl rfl)) (fun _ => fin w46.1 (Or.inr rfl))
    · refine jok_b (t_gR w ta0 rfl rfl) (fun p10 t10 => ?_)
      refine jok_b (t_gR w ta0 rfl rfl) (fun p15 t15 => ?_)
      refine jok_b (t_al w t15 rfl (by omega) (by omega)) (fun v l => ?_)
      have l : jR3 x1.toInt.toNat v ∧ (x1.toInt.toNat < 435 ∨ v = g0.2.2.2.1 x1.toInt.toNat) := l
      refine jok_b (t_asE w hu t10 (by omega) (by omega) l.1) (fun h20 w20 => ?_)
      have ec : (x1 + (1 : Int32)).toInt = x1.toInt + 1 := by rw [jadd (by omega) (by omega), eo]
      refine S_X12_pole_2 hn hg0 ta0 hu k (E := upd E x1.toInt.toNat v) w20.1 (by omega) (by omega) (by omega) (fun j h4 hj => ?_)
      by_cases q : j = x1.toInt.toNat
      · subst q
        rw [upd_eq]
        rcases l.2 with z | z
        · omega
        · exact z
      · rw [upd_ne q]
        exact hE j h4 (by omega)
theorem S_X12_pole {g : jGh} {Γ : Nat → Option Nat} {n a0 : Nat} {h : jH} (hn : 6000 ≤ n) (hg : jgok g) (w : jW (jKd g) Γ h) (ta0 : Γ a0 = some 20) (hu : ∀ a b c, 9 ≤ c → Γ a = some c → Γ b = some c → a = b) : jok (F_X12_pole n a0 h) (fun q => ∃ E2 : Nat → Int32, jW (jKd (g.1, g.2.1, (0 : Int32).toInt, g.2.2.2.1, E2, g.2.2.2.2.2)) Γ q.2) := by
  unfold F_X12_pole
  exact S_X12_pole_2 (g0 := g) hn hg ta0 hu n (E := g.2.2.2.2.1) w (by decide) (by decide) (by show 1284 - (0 : Int) < _; omega) (fun j h4 hj => absurd hj (by show ¬ (j : Int) < 0; omega))
end
section
theorem jlawOK_eq2 {C C0 : Nat → Int32} (h : ∀ k, 435 ≤ k → k < 1284 → C k = C0 k) (a : jlawOK C0) : jlawOK C := by
  obtain ⟨a1, a2, a3⟩ := a
  have e0 := h 435 (by decide) (by decide)
  refine ⟨by rw [e0]; exact a1, by rw [e0]; exact a2, fun i hi => ?_⟩
  rw [e0] at hi
  obtain ⟨b1, b2, b3, b4⟩ := a3 i hi
  have i12 : i < 12 := by omega
  rw [h (438 + 4 * i) (by omega) (by omega), h (439 + 4 * i) (by omega) (by omega)]
  refine ⟨b1, b2, b3, ?_⟩
  rw [jhgt_eq (d := C0) _ (fun k c1 c2 => h _ (by omega) (by omega))]
  exact b4
theorem S_X12_back_16 {g0 : jGh} {Γ : Nat → Option Nat} {n a0 : Nat} (hi : jlawOK g0.2.2.2.2.2.1) (ta0 : Γ a0 = some 20) (hu : ∀ a b c, 9 ≤ c → Γ a = some c → Γ b = some c → a = b) : ∀ (k : Nat) {C : Nat → Int32} {x1 : Int32} {h : jH}, jW (jKd (g0.1, g0.2.1, g0.2.2.1, C, g0.2.2.2.2)) Γ h → 0 ≤ x1.toInt → x1.toInt ≤ 1284 → 1284 - x1.toInt < k → (∀ j : Nat, 435 ≤ j → (j : Int) < x1.toInt → C j = g0.2.2.2.2.2.1 j) → jok (F_X12_back_16 n k a0 x1 h) (fun q => (∃ C2 : Nat → Int32, jlawOK C2 ∧ jW (jKd (g0.1, g0.2.1, g0.2.2.1, C2, g0.2.2.2.2)) Γ q.2) ∧ q.1 = 1)
  | 0, C, x1, h, w, l0, l1, hk, hE => by omega
  | k + 1, C, x1, h, w, l0, l1, hk, hE => by
    show jok (F_X12_back_16_b n (F_X12_back_16 n k) a0 x1 h) _
    unfold F_X12_back_16_b
    have eo : (1 : Int32).toInt = 1 := rfl
    have e12 : (1284 : Int32).toInt = 1284 := rfl
    refine jok_le (fun c => ?_) (fun c => ?_)
    · refine jok_b (t_pI w ta0 rfl rfl (by constructor <;> decide)) (fun h43 w43 => ?_)
      exact jok_s ⟨⟨C, jlawOK_eq2 (fun j h4 h12 => hE j h4 (by omega)) hi, w43.1⟩, rfl⟩
    · refine jok_b (t_gR w ta0 rfl rfl) (fun p24 t24 => ?_)
      refine jok_b (t_gR w ta0 rfl rfl) (fun p29 t29 => ?_)
      refine jok_b (t_al w t29 rfl (by omega) (by omega)) (fun v l => ?_)
      have l : jR3 x1.toInt.toNat v ∧ (x1.toInt.toNat < 435 ∨ v = g0.2.2.2.2.2.1 x1.toInt.toNat) := l
      have ec : (x1 + (1 : Int32)).toInt = x1.toInt + 1 := by rw [jadd (by omega) (by omega), eo]
      by_cases q : x1.toInt.toNat < 435
      · refine jok_b (t_as w t24 rfl (by omega) (by omega) (show jRw (g0.1, g0.2.1, g0.2.2.1, C, g0.2.2.2.2) x1.toInt.toNat v from ⟨l.1, Or.inl q⟩) (fun q => by cases q)) (fun h34 w34 => ?_)
        exact S_X12_back_16 hi ta0 hu k w34.1 (by omega) (by omega) (by omega) (fun j h4 hj => hE j h4 (by omega))
      · refine jok_b (t_asC w hu t24 (by omega) (by omega)) (fun h34 w34 => ?_)
        obtain ⟨w34, -⟩ := w34
        refine S_X12_back_16 hi ta0 hu k (C := upd C x1.toInt.toNat v) w34 (by omega) (by omega) (by omega) (fun j h4 hj => ?_)
        by_cases q2 : j = x1.toInt.toNat
        · subst q2
          rw [upd_eq]
          rcases l.2 with z | z
          · exact absurd z q
          · exact z
        · rw [upd_ne q2]
          exact hE j h4 (by omega)
theorem S_X12_back {g : jGh} {Γ : Nat → Option Nat} {n a0 : Nat} {h : jH} (hn : 6000 ≤ n) (hg : jgok g) (w : jW (jKd g) Γ h) (ta0 : Γ a0 = some 20) (hu : ∀ a b c, 9 ≤ c → Γ a = some c → Γ b = some c → a = b) : jok (F_X12_back n a0 h) (fun q => (∃ C2 : Nat → Int32, jlawOK C2 ∧ jW (jKd (g.1, g.2.1, g.2.2.1, C2, g.2.2.2.2)) Γ q.2) ∧ q.1 = (if g.2.2.2.2.2.2.2.2 = 0 then 0 else 1)) := by
  unfold F_X12_back
  have e0 : (0 : Int32).toInt = 0 := rfl
  refine jok_b (t_pI w ta0 rfl rfl trivial) (fun h2 w2 => ?_)
  obtain ⟨w2, -, -⟩ := w2
  refine jok_b (t_gI w2 ta0 rfl rfl) (fun v6 l6 => ?_)
  have l6 : v6 = g.2.2.2.2.2.2.2.2 ∧ (v6.toInt = 0 ∨ jlawOK g.2.2.2.2.2.1) := l6
  refine jok_eq (fun _ z => jok_s ⟨⟨g.2.2.2.1, hg.2.2.2, w2⟩, by rw [if_pos (l6.1.symm.trans z)]⟩) (fun c => ?_)
  have cz : ¬ g.2.2.2.2.2.2.2.2 = 0 := fun q => c (by rw [l6.1, q])
  rw [if_neg cz]
  rw [e0] at c
  rcases l6.2 with z | z
  · exact absurd z c
  · exact S_X12_back_16 (g0 := g) z ta0 hu n (C := g.2.2.2.1) w2 (by decide) (by decide) (by show 1284 - (0 : Int) < _; omega) (fun j h4 hj => absurd hj (by show ¬ (j : Int) < 0; omega))
end
section
/-! the image of the reference: while it is copied, whether there is one may be anything -/
def jKi (g : jGh) (c : Nat) : jD := if c = 20 then .inr (.inr (10, [.inl (jAny), .inr (.inl 21), .inr (.inl 22), .inr (.inl 23), .inr (.inl 24), .inr (.inl 25), .inl (jAny), .inl (jI 0 12), .inr (.inl 26), .inl (fun x => x.toInt = g.2.2.1), .inl (jI 0 400), .inl (jI 0 400), .inl (jI 0 400), .inl (jAny), .inl (jAny), .inr (.inl 27), .inl (jI 0 400), .inr (.inl 28), .inl (jAny), .inr (.inl 29), .inr (.inl 30), .inr (.inl 31)])) else jKd g c
theorem jKi_ne {g : jGh} {c : Nat} (h : c ≠ 20) : jKi g c = jKd g c := if_neg h
theorem jKi_eq {g : jGh} {C : Nat → Int32} {c : Nat} (hc : c ≠ 22) : jKi (g.1, g.2.1, g.2.2.1, g.2.2.2.1, g.2.2.2.2.1, C, g.2.2.2.2.2.2) c = jKi g c := by
  by_cases q : c = 20
  · subst q
    unfold jKi
    rw [if_pos rfl, if_pos rfl]
  · rw [jKi_ne q, jKi_ne q]
    unfold jKd
    split <;> first | exact absurd rfl hc | exact absurd rfl q | rfl
theorem jW_i {g : jGh} {Γ : Nat → Option Nat} {h : jH} (w : jW (jKd g) Γ h) : jW (jKi g) Γ h := by
  intro a c ha
  obtain ⟨w1, w2⟩ := w a c ha
  refine ⟨w1, ?_⟩
  by_cases q : c = 20
  · subst q
    obtain ⟨vs, e1, e2, e3⟩ := w2
    refine ⟨vs, e1, e2, fun j F hj => ?_⟩
    by_cases hq : j = 6
    · subst hq
      cases hj
      obtain ⟨v, f1, x, f2, -⟩ := e3 6 _ rfl
      exact ⟨v, f1, x, f2, trivial⟩
    · have hj2 : (match jKd g 20 with | .inr (.inr q) => q.2 | _ => [])[j]? = some F := by
        match j, hq, hj with
        | 0, _, hj => exact hj
        | 1, _, hj => exact hj
        | 2, _, hj => exact hj
        | 3, _, hj => exact hj
        | 4, _, hj => exact hj
        | 5, _, hj => exact hj
        | 7, _, hj => exact hj
        | 8, _, hj => exact hj
        | 9, _, hj => exact hj
        | 10, _, hj => exact hj
        | 11, _, hj => exact hj
        | 12, _, hj => exact hj
        | 13, _, hj => exact hj
        | 14, _, hj => exact hj
        | 15, _, hj => exact hj
        | 16, _, hj => exact hj
        | 17, _, hj => exact hj
        | 18, _, hj => exact hj
        | 19, _, hj => exact hj
        | 20, _, hj => exact hj
        | 21, _, hj => exact hj
        | j + 22, _, hj => cases hj
      exact e3 j F hj2
  · rw [jKi_ne q]
    exact w2
abbrev jgR9 (g : jGh) : jGh := (g.1, g.2.1, g.2.2.1, g.2.2.2.1, g.2.2.2.2.1, g.2.2.2.2.2.1, g.2.2.2.2.2.2.1, g.2.2.2.2.2.2.2.1, 1)
theorem jKd_R9 {g : jGh} {c : Nat} (hc : c ≠ 20) : jKd (jgR9 g) c = jKd g c := by
  unfold jKd
  split <;> first | rfl | exact absurd rfl hc
theorem t_im {g : jGh} {Γ : Nat → Option Nat} {h : jH} {a : Nat} (w : jW (jKi g) Γ h) (hu : ∀ a b c, 9 ≤ c → Γ a = some c → Γ b = some c → a = b) (ha : Γ a = some 20) (hi : jlawOK g.2.2.2.2.2.1) : jok (jpf 10 h a 6 (.int (1 : Int32))) (fun h1 => jW (jKd (jgR9 g)) Γ h1) := by
  obtain ⟨vs, e1, e2, e3⟩ := t_obj w ha rfl
  have hlt : 6 < vs.length := by rw [e2]; exact Nat.le_of_ble_eq_true rfl
  refine ⟨jup h a (.inl (10, vs.set 6 (.int (1 : Int32)))), ?_, ?_⟩
  · unfold jpf
    rw [e1]
    dsimp only
    rw [if_pos ⟨rfl, hlt⟩]
  · intro b c hb
    refine ⟨(w b c hb).1, ?_⟩
    show okE Γ (jKd (jgR9 g) c) (if b = a then some _ else h.2 b)
    by_cases hq : b = a
    · subst hq
      cases ha.symm.trans hb
      rw [if_pos rfl]
      refine ⟨_, rfl, by rw [List.length_set]; exact e2, fun j F9 hj => ?_⟩
      by_cases hq : j = 6
      · subst hq
        cases hj
        exact ⟨.int (1 : Int32), by rw [List.getElem?_set_self hlt], (1 : Int32), rfl, rfl, Or.inr hi⟩
      · have hj2 : (match jKi g 20 with | .inr (.inr q) => q.2 | _ => [])[j]? = some F9 := by
          match j, hq, hj with
          | 0, _, hj => exact hj
          | 1, _, hj => exact hj
          | 2, _, hj => exact hj
          | 3, _, hj => exact hj
          | 4, _, hj => exact hj
          | 5, _, hj => exact hj
          | 7, _, hj => exact hj
          | 8, _, hj => exact hj
          | 9, _, hj => exact hj
          | 10, _, hj => exact hj
          | 11, _, hj => exact hj
          | 12, _, hj => exact hj
          | 13, _, hj => exact hj
          | 14, _, hj => exact hj
          | 15, _, hj => exact hj
          | 16, _, hj => exact hj
          | 17, _, hj => exact hj
          | 18, _, hj => exact hj
          | 19, _, hj => exact hj
          | 20, _, hj => exact hj
          | 21, _, hj => exact hj
          | j + 22, _, hj => cases hj
        obtain ⟨v9, f1, f2⟩ := e3 j F9 hj2
        exact ⟨v9, by rw [List.getElem?_set_ne (Ne.symm hq)]; exact f1, f2⟩
    · rw [if_neg hq]
      have hc : c ≠ 20 := fun q => hq (hu b a 20 (by decide) (by rw [hb, q]) ha)
      have h9 := (w b c hb).2
      rw [jKi_ne hc] at h9
      rw [jKd_R9 hc]
      exact h9
theorem t_asI {g : jGh} {Γ : Nat → Option Nat} {h : jH} {a : Nat} {i x : Int32} (w : jW (jKi g) Γ h) (hu : ∀ a b c, 9 ≤ c → Γ a = some c → Γ b = some c → a = b) (ha : Γ a = some 22) (h0 : 0 ≤ i.toInt) (h1 : i.toInt < 1284) (hx : jR3 i.toInt.toNat x) : jok (jas 0 h a i x) (fun h1 => jW (jKi (g.1, g.2.1, g.2.2.1, g.2.2.2.1, g.2.2.2.2.1, upd g.2.2.2.2.2.1 i.toInt.toNat x, g.2.2.2.2.2.2)) Γ h1 ∧ jfa h h1) := by
  obtain ⟨f, e1, e2⟩ := t_arr w ha (show jKi g 22 = .inl (0, 1284, fun k x => jR3 k x ∧ (k < 435 ∨ x = g.2.2.2.2.2.1 k)) from jKi_ne (by decide))
  have hi : i.toNatClampNeg = i.toInt.toNat := rfl
  refine ⟨jup h a (.inr (.inl (0, 1284, upd f i.toNatClampNeg (jnar 0 x)))), ?_, ?_, jfa_up e1⟩
  · unfold jas
    rw [e1]
    dsimp only
    rw [if_pos ⟨rfl, jnoob (by omega) (by omega), fun q => by cases q⟩]
  · intro b c hb
    refine ⟨(w b c hb).1, ?_⟩
    show okE Γ (jKi (g.1, g.2.1, g.2.2.1, g.2.2.2.1, g.2.2.2.2.1, upd g.2.2.2.2.2.1 i.toInt.toNat x, g.2.2.2.2.2.2) c) (if b = a then some _ else h.2 b)
    by_cases hq : b = a
    · subst hq
      cases ha.symm.trans hb
      rw [if_pos rfl, jKi_ne (show (22 : Nat) ≠ 20 by decide)]
      refine ⟨_, rfl, fun k hk => ?_⟩
      have e2k := e2 k hk
      show jR3 k (upd f i.toNatClampNeg (jnar 0 x) k) ∧ (k < 435 ∨ upd f i.toNatClampNeg (jnar 0 x) k = upd g.2.2.2.2.2.1 i.toInt.toNat x k)
      rw [hi]
      by_cases hk2 : k = i.toInt.toNat
      · subst hk2
        rw [upd_eq, upd_eq]
        exact ⟨hx, Or.inr rfl⟩
      · rw [upd_ne hk2, upd_ne hk2]
        exact e2k
    · rw [if_neg hq]
      have hc : c ≠ 22 := fun q => hq (hu b a 22 (by decide) (by rw [hb, q]) ha)
      rw [jKi_eq hc]
      exact (w b c hb).2
theorem S_X12_image_7 {g0 : jGh} {Γ : Nat → Option Nat} {n a0 : Nat} (hg : jgok g0) (ta0 : Γ a0 = some 20) (hu : ∀ a b c, 9 ≤ c → Γ a = some c → Γ b = some c → a = b) : ∀ (k : Nat) {C : Nat → Int32} {x1 : Int32} {h : jH}, jW (jKi (g0.1, g0.2.1, g0.2.2.1, g0.2.2.2.1, g0.2.2.2.2.1, C, g0.2.2.2.2.2.2)) Γ h → 0 ≤ x1.toInt → x1.toInt ≤ 1284 → 1284 - x1.toInt < k → (∀ j : Nat, 435 ≤ j → (j : Int) < x1.toInt → C j = g0.2.2.2.1 j) → jok (F_X12_image_7 n k a0 x1 h) (fun q => ∃ C2 : Nat → Int32, jW (jKd (g0.1, g0.2.1, g0.2.2.1, g0.2.2.2.1, g0.2.2.2.2.1, C2, g0.2.2.2.2.2.2.1, g0.2.2.2.2.2.2.2.1, 1)) Γ q)
  | 0, C, x1, h, w, l0, l1, hk, hE => by omega
  | k + 1, C, x1, h, w, l0, l1, hk, hE => by
    show jok (F_X12_image_7_b n (F_X12_image_7 n k) a0 x1 h) _
    unfold F_X12_image_7_b
    have eo : (1 : Int32).toInt = 1 := rfl
    have e12 : (1284 : Int32).toInt = 1284 := rfl
    refine jok_le (fun c => ?_) (fun c => ?_)
    · refine jok_b (t_im w hu ta0 (jlawOK_eq2 (fun j h4 h12 => hE j h4 (by omega)) hg.2.2.2)) (fun h34 w34 => ?_)
      exact jok_s ⟨C, w34⟩
    · refine jok_b (t_gR w ta0 rfl rfl) (fun p15 t15 => ?_)
      refine jok_b (t_gR w ta0 rfl rfl) (fun p20 t20 => ?_)
      refine jok_b (t_al w t20 rfl (by omega) (by omega)) (fun v l => ?_)
      have l : jR3 x1.toInt.toNat v ∧ (x1.toInt.toNat < 435 ∨ v = g0.2.2.2.1 x1.toInt.toNat) := l
      have ec : (x1 + (1 : Int32)).toInt = x1.toInt + 1 := by rw [jadd (by omega) (by omega), eo]
      refine jok_b (t_asI w hu t15 (by omega) (by omega) l.1) (fun h25 w25 => ?_)
      refine S_X12_image_7 hg ta0 hu k (C := upd C x1.toInt.toNat v) w25.1 (by omega) (by omega) (by omega) (fun j h4 hj => ?_)
      by_cases q2 : j = x1.toInt.toNat
      · subst q2
        rw [upd_eq]
        rcases l.2 with z | z
        · omega
        · exact z
      · rw [upd_ne q2]
        exact hE j h4 (by omega)
theorem S_X12_image {g : jGh} {Γ : Nat → Option Nat} {n a0 : Nat} {h : jH} (hn : 6000 ≤ n) (hg : jgok g) (w : jW (jKd g) Γ h) (ta0 : Γ a0 = some 20) (hu : ∀ a b c, 9 ≤ c → Γ a = some c → Γ b = some c → a = b) : jok (F_X12_image n a0 h) (fun q => ∃ C2 : Nat → Int32, jW (jKd (g.1, g.2.1, g.2.2.1, g.2.2.2.1, g.2.2.2.2.1, C2, g.2.2.2.2.2.2.1, g.2.2.2.2.2.2.2.1, 1)) Γ q) := by
  unfold F_X12_image
  refine jok_b (t_pI w ta0 rfl rfl trivial) (fun h2 w2 => ?_)
  obtain ⟨w2, -, -⟩ := w2
  exact S_X12_image_7 (g0 := g) hg ta0 hu n (C := g.2.2.2.2.2.1) (jW_i w2) (by decide) (by decide) (by show 1284 - (0 : Int) < _; omega) (fun j h4 hj => absurd hj (by show ¬ (j : Int) < 0; omega))
end
section
/-! what a heap shows: the value in each place of each cell -/
def oc (h : jH) (a k : Nat) : Value := match h.2 a with
  | some (.inl o) => o.2.getD k .null
  | some (.inr (.inl y)) => .int (y.2.2 k)
  | some (.inr (.inr (.inl z))) => va_rf (z.2 k)
  | _ => .null
abbrev jO : Type := Nat → Nat → Value
def u2 (O : jO) (a k : Nat) (v : Value) : jO := fun b j => if b = a ∧ j = k then v else O b j
def vi (v : Value) : Int32 := match v with | .int x => x | _ => 0
def oi (O : jO) (a k : Nat) : Int32 := vi (O a k)
theorem u2_ne {O : jO} {a k b j : Nat} {v : Value} (h : b ≠ a ∨ j ≠ k) : u2 O a k v b j = O b j := by
  unfold u2
  rw [if_neg (fun q => h.elim (fun z => z q.1) (fun z => z q.2))]
theorem u2_eq {O : jO} {a k : Nat} {v : Value} : u2 O a k v a k = v := by
  unfold u2
  rw [if_pos ⟨rfl, rfl⟩]
theorem oi_ne {O : jO} {a k b j : Nat} {v : Value} (h : b ≠ a ∨ j ≠ k) : oi (u2 O a k v) b j = oi O b j := by
  unfold oi
  rw [u2_ne h]
theorem oi_eq {O : jO} {a k : Nat} {x : Int32} : oi (u2 O a k (.int x)) a k = x := by
  unfold oi
  rw [u2_eq]
  rfl
theorem oc_gf {ci : Nat} {h : jH} {a k : Nat} {v : Value} (e : jgf ci h a k = some v) : oc h a k = v := by
  obtain ⟨fs, e1, e2⟩ := jgf_o e
  unfold oc
  rw [e1]
  show fs.getD k .null = v
  rw [List.getD_eq_getElem?_getD, e2]
  rfl
theorem oc_gI {ci : Nat} {h : jH} {a k : Nat} {x : Int32} (e : jgI ci h a k = some x) : oi (oc h) a k = x := by
  unfold oi
  rw [oc_gf (jgI_f e)]
  rfl
theorem oc_gR {ci : Nat} {h : jH} {a k b : Nat} (e : jgR ci h a k = some b) : oc h a k = .ref b := oc_gf (jgR_f e)
theorem oc_gQ {ci : Nat} {h : jH} {a k : Nat} {b : Option Nat} (e : jgQ ci h a k = some b) : oc h a k = va_rf b := oc_gf (jgQ_f e)
theorem oc_al {t : Nat} {h : jH} {a : Nat} {i x : Int32} (e : jal t h a i = some x) : oi (oc h) a i.toNatClampNeg = x ∧ 0 ≤ i.toInt := by
  obtain ⟨n, f, e1, e2, e3⟩ := jal_o e
  refine ⟨?_, ?_⟩
  · unfold oi oc
    rw [e1]
    exact e3.symm
  · have h1 : ¬ i < 0 := fun q => e2 (Or.inl q)
    have h2 := Int.not_lt.mp (fun q => h1 (Int32.lt_iff_toInt_lt.mpr q))
    exact h2
theorem oc_alq {h : jH} {a : Nat} {i : Int32} {x : Option Nat} (e : jalq h a i = some x) : oc h a i.toNatClampNeg = va_rf x := by
  obtain ⟨n, f, e1, -, e3⟩ := jalq_o e
  unfold oc
  rw [e1, e3]
theorem oc_up_ne {h : jH} {a b k : Nat} {e : jE} (hb : b ≠ a) : oc (jup h a e) b k = oc h b k := by
  unfold oc
  show (match (if b = a then some e else h.2 b) with | some (.inl o) => o.2.getD k .null | some (.inr (.inl y)) => .int (y.2.2 k) | some (.inr (.inr (.inl z))) => va_rf (z.2 k) | _ => .null) = _
  rw [if_neg hb]
theorem oc_up_eq {h : jH} {a k : Nat} {e : jE} : oc (jup h a e) a k = (match e with | .inl o => o.2.getD k .null | .inr (.inl y) => .int (y.2.2 k) | .inr (.inr (.inl z)) => va_rf (z.2 k) | _ => .null) := by
  unfold oc
  show (match (if a = a then some e else h.2 a) with | some (.inl o) => o.2.getD k .null | some (.inr (.inl y)) => .int (y.2.2 k) | some (.inr (.inr (.inl z))) => va_rf (z.2 k) | _ => .null) = _
  rw [if_pos rfl]
  rcases e with o | y | z | w <;> rfl
theorem oc_pf {ci : Nat} {h h1 : jH} {a k : Nat} {v : Value} (e : jpf ci h a k v = some h1) : oc h1 = u2 (oc h) a k v ∧ h1.1 = h.1 := by
  obtain ⟨fs, e1, e2, rfl⟩ := jpf_o e
  refine ⟨funext fun b => funext fun j => ?_, rfl⟩
  by_cases hb : b = a
  · subst hb
    rw [oc_up_eq]
    show (fs.set k v).getD j .null = _
    by_cases hj : j = k
    · subst hj
      rw [u2_eq, List.getD_eq_getElem?_getD, List.getElem?_set_self e2]
      rfl
    · rw [u2_ne (Or.inr hj), List.getD_eq_getElem?_getD, List.getElem?_set_ne (Ne.symm hj)]
      unfold oc
      rw [e1]
      show _ = fs.getD j .null
      rw [List.getD_eq_getElem?_getD]
  · rw [oc_up_ne hb, u2_ne (Or.inl hb)]
theorem oc_as {t : Nat} {h h1 : jH} {a : Nat} {i x : Int32} (e : jas t h a i x = some h1) : oc h1 = u2 (oc h) a i.toNatClampNeg (.int (jnar t x)) ∧ h1.1 = h.1 ∧ 0 ≤ i.toInt := by
  obtain ⟨n, f, e1, e2, -, rfl⟩ := jas_o e
  refine ⟨funext fun b => funext fun j => ?_, rfl, ?_⟩
  · by_cases hb : b = a
    · subst hb
      rw [oc_up_eq]
      show Value.int (upd f i.toNatClampNeg (jnar t x) j) = _
      by_cases hj : j = i.toNatClampNeg
      · subst hj
        rw [u2_eq]
        simp only [upd, if_pos]
      · rw [u2_ne (Or.inr hj)]
        simp only [upd, if_neg hj]
        unfold oc
        rw [e1]
    · rw [oc_up_ne hb, u2_ne (Or.inl hb)]
  · have h1 : ¬ i < 0 := fun q => e2 (Or.inl q)
    exact Int.not_lt.mp (fun q => h1 (Int32.lt_iff_toInt_lt.mpr q))
theorem oc_asq {ci : Nat} {h h1 : jH} {a v : Nat} {i : Int32} (e : jasq ci h a i v = some h1) : oc h1 = u2 (oc h) a i.toNatClampNeg (.ref v) ∧ h1.1 = h.1 := by
  obtain ⟨n, f, fs, e1, -, -, rfl⟩ := jasq_o e
  refine ⟨funext fun b => funext fun j => ?_, rfl⟩
  by_cases hb : b = a
  · subst hb
    rw [oc_up_eq]
    show va_rf (va_up f i.toNatClampNeg (some v) j) = _
    by_cases hj : j = i.toNatClampNeg
    · subst hj
      rw [u2_eq]
      simp only [va_up, if_pos]
      rfl
    · rw [u2_ne (Or.inr hj)]
      simp only [va_up, if_neg hj]
      unfold oc
      rw [e1]
  · rw [oc_up_ne hb, u2_ne (Or.inl hb)]
/-- n places of a0 from s on into a from d on -/
def ucp (O : jO) (a0 s a d n : Nat) : jO := fun b j => if b = a ∧ d ≤ j ∧ j < d + n then O a0 (s + (j - d)) else O b j
theorem oc_cp {h h1 : jH} {a0 a : Nat} {sp dp n : Int32} (e : jcp h a0 sp a dp n = some h1) : oc h1 = ucp (oc h) a0 sp.toNatClampNeg a dp.toNatClampNeg n.toNatClampNeg ∧ h1.1 = h.1 := by
  obtain ⟨n0, f, n1, g, e0, e1, -, -, -, -, -, rfl⟩ := jcp_o e
  refine ⟨funext fun b => funext fun j => ?_, rfl⟩
  unfold ucp
  by_cases hb : b = a
  · subst hb
    rw [oc_up_eq]
    show Value.int (va_cpy f g sp.toNatClampNeg dp.toNatClampNeg n.toNatClampNeg j) = _
    unfold va_cpy
    by_cases hj : dp.toNatClampNeg ≤ j ∧ j < dp.toNatClampNeg + n.toNatClampNeg
    · rw [if_pos hj, if_pos ⟨rfl, hj⟩]
      unfold oc
      rw [e0]
    · rw [if_neg hj, if_neg (fun q => hj q.2)]
      unfold oc
      rw [e1]
  · rw [oc_up_ne hb, if_neg (fun q => hb q.1)]
theorem oc_new {h : jH} {e : jE} {b k : Nat} (hb : b ≠ h.1) : oc (jnew h e) b k = oc h b k := by
  unfold oc
  show (match (if b = h.1 then some e else h.2 b) with | some (.inl o) => o.2.getD k .null | some (.inr (.inl y)) => .int (y.2.2 k) | some (.inr (.inr (.inl z))) => va_rf (z.2 k) | _ => .null) = _
  rw [if_neg hb]
/-- heaps whose first free place alone differs show the same -/
theorem oc_z {h : jH} {z : Nat} : oc (z, h.2) = oc h := rfl
theorem jnar0 {x : Int32} : jnar 0 x = x := rfl
theorem jnar2 {x : Int32} : jnar 2 x = x := rfl
theorem jite {α : Type} {c : Prop} [Decidable c] {a b : Option α} {r : α} (h : (if c then a else b) = some r) : (c ∧ a = some r) ∨ (¬ c ∧ b = some r) := by
  by_cases q : c
  · rw [if_pos q] at h; exact Or.inl ⟨q, h⟩
  · rw [if_neg q] at h; exact Or.inr ⟨q, h⟩
end
section
/-! rows on bits, shifts and unsigned numbers, to paste: each family out of a closed proof of our own, whole with what it rests on; each by itself clean at Lean in its own claim (generation 39, form 5). Take a family whole -/
/-! ===== Int32 by its bits: bt x i ===== -/
def bt (x : Int32) (i : Nat) : Bool := x.toBitVec.getLsbD i
theorem b_ext {x y : Int32} (h : ∀ i, i < 32 → bt x i = bt y i) : x = y := Int32.toBitVec_inj.mp (BitVec.eq_of_getLsbD_eq (fun i hi => h i hi))
theorem b_or (x y : Int32) (i : Nat) : bt (x ||| y) i = (bt x i || bt y i) := by unfold bt; rw [Int32.toBitVec_or, BitVec.getLsbD_or]
theorem b_and (x y : Int32) (i : Nat) : bt (x &&& y) i = (bt x i && bt y i) := by unfold bt; rw [Int32.toBitVec_and, BitVec.getLsbD_and]
theorem b_xor (x y : Int32) (i : Nat) : bt (x ^^^ y) i = (bt x i ^^ bt y i) := by unfold bt; rw [Int32.toBitVec_xor, BitVec.getLsbD_xor]
theorem b_big {x : Int32} {i : Nat} (h : 32 ≤ i) : bt x i = false := BitVec.getLsbD_of_ge _ _ h
theorem b_255 (i : Nat) : bt 255 i = decide (i < 8) := by
  rcases Nat.lt_or_ge i 32 with h | h
  · exact (by decide +kernel : ∀ i, i < 32 → bt 255 i = decide (i < 8)) i h
  · rw [b_big h, decide_eq_false (by omega)]
theorem b_65535 (i : Nat) : bt 65535 i = decide (i < 16) := by
  rcases Nat.lt_or_ge i 32 with h | h
  · exact (by decide +kernel : ∀ i, i < 32 → bt 65535 i = decide (i < 16)) i h
  · rw [b_big h, decide_eq_false (by omega)]
theorem b_m1 : ∀ i, i < 32 → bt (-1) i = true := by decide +kernel
theorem b_0 (i : Nat) : bt 0 i = false := BitVec.getLsbD_zero
theorem s_l : ∀ n, n < 32 → ((nI n &&& 31).toBitVec.smod 32).toNat = n := by decide +kernel
theorem s_u : ∀ n, n < 32 → (((nI n).toUInt32 &&& Int32.toUInt32 31).toBitVec % 32).toNat = n := by decide +kernel
theorem b_shl (n : Nat) (hn : n < 32) (x : Int32) {i : Nat} (hi : i < 32) : bt (x <<< (nI n &&& 31)) i = (decide (n ≤ i) && bt x (i - n)) := by
  unfold bt
  rw [Int32.toBitVec_shiftLeft]
  show (x.toBitVec <<< ((nI n &&& 31).toBitVec.smod 32).toNat).getLsbD i = _
  rw [s_l n hn, BitVec.getLsbD_shiftLeft]
  rcases Nat.lt_or_ge i n with h | h
  · simp [h, Nat.not_le.mpr h]
  · simp [hi, h, Nat.not_lt.mpr h]
theorem b_ushr (n : Nat) (hn : n < 32) (x : Int32) (i : Nat) : bt ((x.toUInt32 >>> ((nI n).toUInt32 &&& Int32.toUInt32 31)).toInt32) i = bt x (n + i) := by
  show (x.toUInt32 >>> ((nI n).toUInt32 &&& Int32.toUInt32 31)).toBitVec.getLsbD i = x.toUInt32.toBitVec.getLsbD (n + i)
  rw [UInt32.toBitVec_shiftRight]
  show (x.toUInt32.toBitVec >>> (((nI n).toUInt32 &&& Int32.toUInt32 31).toBitVec % 32).toNat).getLsbD i = _
  rw [s_u n hn, BitVec.getLsbD_ushiftRight]
theorem b_sshr (n : Nat) (hn : n < 32) (x : Int32) {i : Nat} (hi : i < 32) : bt (x >>> (nI n &&& 31)) i = if n + i < 32 then bt x (n + i) else bt x 31 := by
  unfold bt
  rw [Int32.toBitVec_shiftRight]
  show (x.toBitVec.sshiftRight ((nI n &&& 31).toBitVec.smod 32).toNat).getLsbD i = _
  rw [s_l n hn, BitVec.getLsbD_sshiftRight, BitVec.msb_eq_getLsbD_last]
  simp [hi]
/-! one bit, as class and reference ask for it and set it -/
theorem nI_on {x : Int32} (h : 0 ≤ x.toInt) : x = nI x.toInt.toNat := by
  apply Int32.toInt_inj.mp
  have h2 := Int32.toInt_lt x
  rw [nI_toInt (by omega)]
  omega
theorem nI_k {x : Int32} {k : Nat} (h : x.toInt = (k : Int)) : x = nI k := by
  rw [nI_on (x := x) (by omega), h]
  rfl
theorem b_1 (i : Nat) : bt 1 i = decide (i = 0) := by
  rcases Nat.lt_or_ge i 32 with h | h
  · exact (by decide +kernel : ∀ i, i < 32 → bt 1 i = decide (i = 0)) i h
  · rw [b_big h, decide_eq_false (by omega)]
theorem b_and1 (x : Int32) : (x &&& 1 = 1) ↔ bt x 0 = true := by
  constructor
  · intro h
    have := congrArg (fun y => bt y 0) h
    simp only [b_and, b_1] at this
    simpa using this
  · intro h
    refine b_ext fun i hi => ?_
    rw [b_and, b_1]
    by_cases q : i = 0
    · subst q; rw [h]; rfl
    · rw [decide_eq_false q, Bool.and_false]
theorem b_ask {x : Int32} {k : Nat} (hk : k < 32) : ((jushr x (nI k)) &&& (1 : Int32) = 1) ↔ bt x k = true := by
  rw [b_and1]
  unfold jushr
  rw [b_ushr k hk, Nat.add_zero]
theorem b_ask0 {x : Int32} {k : Nat} (hk : k < 32) : (jushr x (nI k)) &&& (1 : Int32) = if bt x k then 1 else 0 := by
  by_cases q : bt x k = true
  · rw [q, if_pos rfl]; exact (b_ask hk).mpr q
  · rw [if_neg q]
    refine b_ext fun i hi => ?_
    rw [b_and, b_1, b_0]
    unfold jushr
    rw [b_ushr k hk]
    by_cases z : i = 0
    · subst z; rw [Nat.add_zero]; simp at q; rw [q]; rfl
    · rw [decide_eq_false z, Bool.and_false]
theorem b_has {x : Int32} {k : Nat} (hk : k < 32) : ((x >>> (nI k &&& 31)) &&& (1 : Int32) = 1) ↔ bt x k = true := by
  rw [b_and1, b_sshr k hk x (by decide), Nat.add_zero, if_pos hk]
theorem b_one {k i : Nat} (hk : k < 32) (hi : i < 32) : bt ((1 : Int32) <<< (nI k &&& 31)) i = decide (i = k) := by
  rw [b_shl k hk 1 hi, b_1]
  by_cases q : i = k
  · subst q; simp
  · rw [decide_eq_false q]
    by_cases z : k ≤ i
    · rw [decide_eq_false (by omega : ¬ i - k = 0), Bool.and_false]
    · rw [decide_eq_false z, Bool.false_and]
theorem b_set {x : Int32} {k i : Nat} (hk : k < 32) (hi : i < 32) : bt (x ||| ((1 : Int32) <<< (nI k &&& 31))) i = (bt x i || decide (i = k)) := by
  rw [b_or, b_one hk hi]
theorem b_clr {x : Int32} {k i : Nat} (hk : k < 32) (hi : i < 32) : bt (x &&& (((1 : Int32) <<< (nI k &&& 31)) ^^^ (-1 : Int32))) i = (bt x i && !decide (i = k)) := by
  rw [b_and, b_xor, b_one hk hi, b_m1 i hi]
  simp
theorem b_msk : ∀ lo, lo < 8 → ∀ hi, hi < 8 → lo ≤ hi → ∀ i, i < 32 → bt (((1 : Int32) <<< (nI (hi + 1) &&& 31)) - ((1 : Int32) <<< (nI lo &&& 31))) i = decide (lo ≤ i ∧ i ≤ hi) := by decide +kernel
theorem b_zero {x : Int32} : x = 0 ↔ ∀ i, i < 32 → bt x i = false := by
  constructor
  · intro h i hi; rw [h, b_0]
  · intro h; exact b_ext fun i hi => by rw [h i hi, b_0]
end
section
/-! worlds: what both sides tell of the rod, in the reference's own places; and the class's rod that tells the same -/
abbrev jWd : Type := Nat → Int32
/-- what always holds of a world's rod -/
def wOK (W : jWd) : Prop :=
  (0 ≤ (W 0).toInt ∧ (W 0).toInt ≤ 8) ∧
  (∀ i : Nat, (i : Int) < (W 0).toInt → (0 ≤ (W (11 + 8 * i)).toInt ∧ (W (11 + 8 * i)).toInt ≤ 31) ∧ (1 ≤ (W (12 + 8 * i)).toInt ∧ (W (12 + 8 * i)).toInt ≤ 9) ∧ (W (13 + 8 * i) = 0 ∨ W (13 + 8 * i) = 1) ∧ (W (14 + 8 * i) = 0 ∨ W (14 + 8 * i) = 1) ∧ (0 ≤ (W (15 + 8 * i)).toInt ∧ (W (15 + 8 * i)).toInt ≤ 99) ∧ (0 ≤ (W (16 + 8 * i)).toInt ∧ (W (16 + 8 * i)).toInt ≤ 9) ∧ (W (17 + 8 * i) = 0 ∨ W (17 + 8 * i) = 1) ∧ (W (18 + 8 * i) = 0 ∨ W (18 + 8 * i) = 1)) ∧
  (∀ i : Nat, (i : Int) + 1 < (W 0).toInt → (W (11 + 8 * i)).toInt < (W (11 + 8 * (i + 1))).toInt) ∧
  (∀ i : Nat, (i : Int) + 1 = (W 0).toInt → W (18 + 8 * i) = 0) ∧
  (0 ≤ (W 3).toInt ∧ (W 3).toInt ≤ 7) ∧ (0 ≤ (W 4).toInt ∧ (W 4).toInt ≤ 9999) ∧ (1 ≤ (W 5).toInt ∧ (W 5).toInt ≤ 31) ∧ (0 ≤ (W 6).toInt ∧ (W 6).toInt ≤ 31) ∧ (0 ≤ (W 8).toInt ∧ (W 8).toInt ≤ 9999) ∧ (0 ≤ (W 9).toInt ∧ (W 9).toInt ≤ 60) ∧ (0 ≤ (W 1).toInt ∧ (W 1).toInt ≤ 12)
/-- the class's rod at r: its parts lie behind it -/
def rodS (O : jO) (r : Nat) : Prop := O r 0 = .ref (r + 1) ∧ O r 1 = .ref (r + 2) ∧ O r 2 = .ref (r + 3) ∧ O r 3 = .ref (r + 4) ∧ O r 4 = .ref (r + 5) ∧ O (r + 5) 0 = .ref (r + 6)
/-- the log's rows of the class, at l, are those of the world -/
def logE (O : jO) (l : Nat) (W : jWd) : Prop :=
  oi O l 1 = W 9 ∧ (0 ≤ (oi O l 2).toInt ∧ (oi O l 2).toInt ≤ 59) ∧ ∀ a : Nat, (a : Int) < (W 9).toInt →
    ∃ d q i k f p : Nat, d < 16384 ∧ q < 8 ∧ i < 8 ∧ k < 4 ∧ f < 32 ∧ p < 32 ∧ oi O (l + 1) (((oi O l 2).toInt + 59 - (a : Int)) % 60).toNat = nI (((((d * 8 + q) * 8 + i) * 4 + k) * 32 + f) * 32 + p) ∧
      W (75 + 6 * a) = nI d ∧ W (76 + 6 * a) = nI q ∧ W (77 + 6 * a) = nI i ∧ W (78 + 6 * a) = nI k ∧ W (79 + 6 * a) = nI f ∧ W (80 + 6 * a) = nI p
/-- the class's rod at r tells what the world tells -/
def rodE (O : jO) (r : Nat) (W : jWd) : Prop :=
  rodS O r ∧ (oi O r 5 = W 0 ∧ oi O r 10 = W 7 ∧ oi O r 11 = W 5 ∧ oi O r 12 = W 6 ∧ oi O r 13 = W 3 ∧ oi O r 14 = W 4 ∧ oi O r 15 = W 8 ∧ oi O r 16 = W 10 ∧ oi O r 17 = W 1) ∧
  (∀ i : Nat, (i : Int) < (W 0).toInt → oi O (r + 1) i = W (11 + 8 * i) ∧ oi O (r + 2) i = W (12 + 8 * i) ∧ (bt (oi O r 6) i = true ↔ W (13 + 8 * i) = 1) ∧ (bt (oi O r 7) i = true ↔ W (14 + 8 * i) = 1) ∧ oi O (r + 3) i = W (15 + 8 * i) ∧ oi O (r + 4) i = W (16 + 8 * i) ∧ (bt (oi O r 8) i = true ↔ W (17 + 8 * i) = 1) ∧ (bt (oi O r 9) i = true ↔ W (18 + 8 * i) = 1)) ∧
  (∀ i : Nat, (W 0).toInt ≤ (i : Int) → i < 32 → bt (oi O r 7) i = false ∧ bt (oi O r 9) i = false) ∧ logE O (r + 5) W
/-- one ring and the next one go together; d: the other one is ahead -/
def tog (W : jWd) (i : Nat) (d : Bool) : Prop := W (18 + 8 * i) = 1 ∨ (if d = true then (W (11 + 8 * (i + 1))).toInt - (W (11 + 8 * i)).toInt = 1 else (W (12 + 8 * i)).toInt ≤ (W (11 + 8 * (i + 1))).toInt - (W (11 + 8 * i)).toInt)
/-- a ring can't go -/
def stp (W : jWd) (i : Nat) (d : Bool) : Prop := (W (11 + 8 * i)).toInt = (if d = true then 31 else 0) ∨ (W (13 + 8 * i) = 1 ∧ (W (11 + 8 * i)).toInt = (if d = true then (W 5).toInt - 1 else (W 5).toInt))
/-- who goes along by a step of ring r -/
def gos (W : jWd) (r : Nat) (d : Bool) (i : Nat) : Prop := (i : Int) < (W 0).toInt ∧ ((r ≤ i ∧ ∀ j, r ≤ j → j < i → tog W j d) ∨ (i ≤ r ∧ ∀ j, i ≤ j → j < r → tog W j (!d)))
def goB (W : jWd) (r : Nat) (d : Bool) (v : Int32) : Prop := ∀ i, i < 32 → (bt v i = true ↔ (gos W r d i ∧ ∀ j, gos W r d j → ¬ stp W j d))
theorem goB_u {W : jWd} {r : Nat} {d : Bool} {v w : Int32} (a : goB W r d v) (b : goB W r d w) : v = w := by
  refine b_ext fun i hi => ?_
  have h := (a i hi).trans (b i hi).symm
  cases h1 : bt v i <;> cases h2 : bt w i <;> simp_all
/-- a side, as an int -/
def dI (d : Bool) : Int32 := if d = true then 1 else 0
end
