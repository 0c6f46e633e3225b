/-- fields of classes other than 4 and 6 are left alone -/
def jf0 (h h1 : jH) : Prop := ∀ c b k : Nat, c ≠ 4 → c ≠ 6 → jgf c h1 b k = jgf c h b k
theorem jf0_rfl {h : jH} : jf0 h h := fun _ _ _ _ _ => rfl
theorem jf0_tr {h h1 h2 : jH} (a : jf0 h h1) (b : jf0 h1 h2) : jf0 h h2 := fun c x k h4 h6 => (b c x k h4 h6).trans (a c x k h4 h6)
theorem f0_pf {h h1 : jH} {a k c : Nat} {v : Value} (hc : c = 4 ∨ c = 6) (e : jpf c h a k v = some h1) : jf0 h h1 := by
  obtain ⟨fs, e1, -, rfl⟩ := jpf_o e
  intro c2 b k2 h4 h6
  have hn : c ≠ c2 := by omega
  unfold jgf
  show (match (if b = a then some _ else h.2 b) with | some (.inl o) => if o.1 = c2 then o.2[k2]? else none | _ => none) = _
  by_cases hb : b = a
  · subst hb
    rw [if_pos rfl, e1]
    dsimp only
    rw [if_neg hn, if_neg hn]
  · rw [if_neg hb]
    rfl
theorem f0_as {t a : Nat} {i x : Int32} {h h1 : jH} (e : jas t h a i x = some h1) : jf0 h h1 := by
  obtain ⟨n, f, e1, -, -, rfl⟩ := jas_o e
  exact fun c b k _ _ => jfa_up e1 c b k
theorem f0_cp {a0 a : Nat} {sp dp n : Int32} {h h1 : jH} (e : jcp h a0 sp a dp n = some h1) : jf0 h h1 := by
  obtain ⟨n0, f, n1, g, e0, e1, -, -, -, -, -, rfl⟩ := jcp_o e
  exact fun c b k _ _ => jfa_up e1 c b k
theorem F0_X8_hangAs {n : Nat} {a0 : Nat} {a1 : Nat} {h : jH} {q : jH} (hf : F_X8_hangAs n a0 a1 h = some q) : jf0 h q := by
  unfold F_X8_hangAs at hf
  obtain ⟨p1, e1, hf⟩ := jbind hf
  obtain ⟨p6, e2, hf⟩ := jbind hf
  obtain ⟨h12, e3, hf⟩ := jbind hf
  obtain ⟨v17, e4, hf⟩ := jbind hf
  obtain ⟨h20, e5, hf⟩ := jbind hf
  obtain ⟨v25, e6, hf⟩ := jbind hf
  obtain ⟨h28, e7, hf⟩ := jbind hf
  cases hf
  have z9 := (jf0_tr (jf0_tr (f0_cp e3) (f0_pf (by decide) e5)) (f0_pf (by decide) e7))
  exact z9
theorem F0_X5_copyFrom {n : Nat} {a0 : Nat} {a1 : Nat} {h : jH} {q : jH} (hf : F_X5_copyFrom n a0 a1 h = some q) : jf0 h q := by
  unfold F_X5_copyFrom at hf
  obtain ⟨p1, e1, hf⟩ := jbind hf
  obtain ⟨p6, e2, hf⟩ := jbind hf
  obtain ⟨h12, e3, hf⟩ := jbind hf
  obtain ⟨v17, e4, hf⟩ := jbind hf
  obtain ⟨h20, e5, hf⟩ := jbind hf
  obtain ⟨v25, e6, hf⟩ := jbind hf
  obtain ⟨h28, e7, hf⟩ := jbind hf
  cases hf
  have z9 := (jf0_tr (jf0_tr (f0_cp e3) (f0_pf (by decide) e5)) (f0_pf (by decide) e7))
  exact z9
theorem F0_X8_copyFrom {n : Nat} {a0 : Nat} {a1 : Nat} {h : jH} {q : jH} (hf : F_X8_copyFrom n a0 a1 h = some q) : jf0 h q := by
  unfold F_X8_copyFrom at hf
  obtain ⟨p1, e1, hf⟩ := jbind hf
  obtain ⟨p6, e2, hf⟩ := jbind hf
  obtain ⟨h12, e3, hf⟩ := jbind hf
  obtain ⟨p16, e4, hf⟩ := jbind hf
  obtain ⟨p21, e5, hf⟩ := jbind hf
  obtain ⟨h27, e6, hf⟩ := jbind hf
  obtain ⟨p31, e7, hf⟩ := jbind hf
  obtain ⟨p36, e8, hf⟩ := jbind hf
  obtain ⟨h42, e9, hf⟩ := jbind hf
  obtain ⟨p46, e10, hf⟩ := jbind hf
  obtain ⟨p50, e11, hf⟩ := jbind hf
  obtain ⟨h53, e12, hf⟩ := jbind hf
  obtain ⟨-, e12⟩ := jcv_o e12
  obtain ⟨v58, e13, hf⟩ := jbind hf
  obtain ⟨h61, e14, hf⟩ := jbind hf
  obtain ⟨v66, e15, hf⟩ := jbind hf
  obtain ⟨h69, e16, hf⟩ := jbind hf
  obtain ⟨v74, e17, hf⟩ := jbind hf
  obtain ⟨h77, e18, hf⟩ := jbind hf
  obtain ⟨v82, e19, hf⟩ := jbind hf
  obtain ⟨h85, e20, hf⟩ := jbind hf
  obtain ⟨v90, e21, hf⟩ := jbind hf
  obtain ⟨h93, e22, hf⟩ := jbind hf
  obtain ⟨v98, e23, hf⟩ := jbind hf
  obtain ⟨h101, e24, hf⟩ := jbind hf
  obtain ⟨v106, e25, hf⟩ := jbind hf
  obtain ⟨h109, e26, hf⟩ := jbind hf
  obtain ⟨v114, e27, hf⟩ := jbind hf
  obtain ⟨h117, e28, hf⟩ := jbind hf
  obtain ⟨v122, e29, hf⟩ := jbind hf
  obtain ⟨h125, e30, hf⟩ := jbind hf
  obtain ⟨v130, e31, hf⟩ := jbind hf
  obtain ⟨h133, e32, hf⟩ := jbind hf
  obtain ⟨v138, e33, hf⟩ := jbind hf
  obtain ⟨h141, e34, hf⟩ := jbind hf
  obtain ⟨h146, e35, hf⟩ := jbind hf
  obtain ⟨-, e35⟩ := jcv_o e35
  cases hf
  have z9 := (jf0_tr (jf0_tr (jf0_tr (jf0_tr (jf0_tr (jf0_tr (jf0_tr (jf0_tr (jf0_tr (jf0_tr (jf0_tr (jf0_tr (jf0_tr (jf0_tr (jf0_tr (f0_cp e3) (f0_cp e6)) (f0_cp e9)) (F0_X5_copyFrom e12)) (f0_pf (by decide) e14)) (f0_pf (by decide) e16)) (f0_pf (by decide) e18)) (f0_pf (by decide) e20)) (f0_pf (by decide) e22)) (f0_pf (by decide) e24)) (f0_pf (by decide) e26)) (f0_pf (by decide) e28)) (f0_pf (by decide) e30)) (f0_pf (by decide) e32)) (f0_pf (by decide) e34)) (F0_X8_hangAs e35))
  exact z9
theorem t_rod {g : jGh} {Γ : Nat → Option Nat} {n : Nat} {h : jH} (w : jW (jKd g) Γ h) : jok (F_X8_init n h.1 (jnew h (.inl (6, [.null, .null, .null, .null, .null, .int 0, .int 0, .int 0, .int 0, .int 0, .int 0, .int 0, .int 0, .int 0, .int 0, .int 0, .int 0, .int 0])))) (fun h2 => ∃ G2, jle Γ G2 ∧ jW (jKd g) G2 h2 ∧ G2 h.1 = some 3 ∧ ∀ b, b < h.1 → h2.2 b = h.2 b) := by
  refine jok_w (I_X8_init (n := n) (h := h)) (fun h2 j => ?_)
  obtain ⟨w2, hm⟩ := jx_jW (ks := kX8_init) j rfl w (chkX8_init (fun i c q => jext_at q))
  refine ⟨_, ⟨hm, fun a c hc ha => ?_⟩, w2, jext_at (i := 0) rfl, j.2.1⟩
  unfold jext at ha
  by_cases q : a < h.1
  · rw [if_pos q] at ha; exact ha
  · rw [if_neg q] at ha
    have hl : ∀ c ∈ kX8_init, c < 9 := by decide
    have := hl c (List.mem_of_getElem? ha)
    omega
theorem t_law {g : jGh} {Γ : Nat → Option Nat} {n : Nat} {h : jH} (w : jW (jKd g) Γ h) : jok (F_X2_init n h.1 (jnew h (.inl (2, [.null, .null, .null, .null, .null, .int 0, .int 0, .int 0, .int 0])))) (fun h2 => ∃ G2, jle Γ G2 ∧ jW (jKd g) G2 h2 ∧ G2 h.1 = some 8 ∧ ∀ b, b < h.1 → h2.2 b = h.2 b) := by
  refine jok_w (I_X2_init (n := n) (h := h)) (fun h2 j => ?_)
  obtain ⟨w2, hm⟩ := jx_jW (ks := kX2_init) j rfl w (chkX2_init (fun i c q => jext_at q))
  refine ⟨_, ⟨hm, fun a c hc ha => ?_⟩, w2, jext_at (i := 0) rfl, j.2.1⟩
  unfold jext at ha
  by_cases q : a < h.1
  · rw [if_pos q] at ha; exact ha
  · rw [if_neg q] at ha
    have hl : ∀ c ∈ kX2_init, c < 9 := by decide
    have := hl c (List.mem_of_getElem? ha)
    omega
theorem fR {h h1 : jH} {ci b k : Nat} {v : Nat} (e : jgf ci h1 b k = jgf ci h b k) (q : jgR ci h b k = some v) : jgR ci h1 b k = some v := by
  unfold jgR at q ⊢
  rw [e]
  exact q
theorem fQ {h h1 : jH} {ci b k : Nat} {v : Option Nat} (e : jgf ci h1 b k = jgf ci h b k) (q : jgQ ci h b k = some v) : jgQ ci h1 b k = some v := by
  unfold jgQ at q ⊢
  rw [e]
  exact q
theorem S_X0_remember_63 {g : jGh} {Γ : Nat → Option Nat} {n a0 : Nat} {s1 : Int32} {h : jH} (w : jW (jKd g) Γ h) (ta0 : Γ a0 = some 12) (l0 : 0 ≤ s1.toInt) (l1 : s1.toInt ≤ 11) : jok (F_X0_remember_63 n a0 a0 s1 h) (fun q => jW (jKd g) Γ q) := by
  have e1 : (1 : Int32).toInt = 1 := rfl
  have e12 : (12 : Int32).toInt = 12 := rfl
  unfold F_X0_remember_63
  refine jok_b (t_pI w ta0 rfl rfl ⟨l0, l1⟩) (fun h63 w63 => ?_)
  obtain ⟨w63, -, -⟩ := w63
  refine jok_b (t_gI w63 ta0 rfl rfl) (fun v70 l70 => ?_)
  have l70 : 0 ≤ v70.toInt ∧ v70.toInt ≤ 12 := l70
  have ea : (v70 + (1 : Int32)).toInt = v70.toInt + 1 := by rw [jadd (by omega) (by omega), e1]
  refine jok_b (t_pI w63 ta0 rfl rfl (jif_lt (fun _ => by omega) (fun _ => by omega))) (fun h78 w78 => ?_)
  exact jok_s w78.1
theorem S_X0_remember_28 {g : jGh} {Γ : Nat → Option Nat} {n a0 a1 p b : Nat} {v : Int32} {h : jH} (hn : 6000 ≤ n) (hg : jgok g) (w : jW (jKd g) Γ h) (ta0 : Γ a0 = some 12) (ta1 : Γ a1 = some 3) (hp : jgR 0 h a0 0 = some p) (hv : jgI 0 h a0 1 = some v) (hb : jalq h p v = some (some b)) (tb : Γ b = some 3) : jok (F_X0_remember_28 n a0 a1 h) (fun q => jW (jKd g) Γ q) := by
  have e1 : (1 : Int32).toInt = 1 := rfl
  have e12 : (12 : Int32).toInt = 12 := rfl
  unfold F_X0_remember_28
  refine jok_r hp (jok_r hv (jok_r hb ?_))
  dsimp only
  rw [t_cv w tb rfl]
  refine jok_b (S_X8_copyFrom hn hg w tb ta1) (fun h38 w38 => ?_)
  obtain ⟨v43, e43, l43⟩ := t_gI (k := 1) w38 ta0 rfl rfl
  have l43 : 0 ≤ v43.toInt ∧ v43.toInt ≤ 11 := l43
  have ea : (v43 + (1 : Int32)).toInt = v43.toInt + 1 := by rw [jadd (by omega) (by omega), e1]
  refine jok_r e43 ?_
  refine jok_le (fun _ => S_X0_remember_63 w38 ta0 (by decide) (by decide)) (fun d => ?_)
  exact jok_r e43 (S_X0_remember_63 w38 ta0 (by omega) (by omega))
theorem S_X0_remember {g : jGh} {Γ : Nat → Option Nat} {n a0 a1 : Nat} {h : jH} (hn : 6000 ≤ n) (hg : jgok g) (w : jW (jKd g) Γ h) (ta0 : Γ a0 = some 12) (ta1 : Γ a1 = some 3) : jok (F_X0_remember n a0 a1 h) (fun q => ∃ G2, jle Γ G2 ∧ jW (jKd g) G2 q) := by
  unfold F_X0_remember
  obtain ⟨p1, e1, t1⟩ := t_gR (k := 0) w ta0 rfl rfl
  obtain ⟨v5, e5, l5⟩ := t_gI (k := 1) w ta0 rfl rfl
  have l5 : 0 ≤ v5.toInt ∧ v5.toInt ≤ 11 := l5
  obtain ⟨o8, e8, t8⟩ := t_alq w t1 rfl (by decide) l5.1 (by omega)
  refine jok_r e1 (jok_r e5 (jok_r e8 ?_))
  cases o8 with
  | some p9 => exact jok_w (S_X0_remember_28 hn hg w ta0 ta1 e1 e5 e8 (t8 p9 rfl)) (fun q wq => ⟨Γ, jle_rfl, wq⟩)
  | none =>
    dsimp only
    refine jok_r e1 (jok_r e5 ?_)
    refine jok_r (show jnw h _ = some _ from rfl) ?_
    refine jok_b (t_rod w) (fun h24 w24 => ?_)
    obtain ⟨G2, hle, w24, tz, hs⟩ := w24
    have ta2 := hle.1 a0 12 ta0
    have t12 := hle.1 p1 11 t1
    have eo : ∀ k2 : Nat, jgf 0 h24 a0 k2 = jgf 0 h a0 k2 := fun k2 => by
      unfold jgf
      rw [hs a0 (w a0 12 ta0).1]
    refine jok_b (t_asq w24 t12 rfl (by decide) tz rfl l5.1 (by omega)) (fun h27 w27 => ?_)
    obtain ⟨w27, f27, b27⟩ := w27
    exact jok_w (S_X0_remember_28 hn hg w27 ta2 (hle.1 a1 3 ta1) (fR ((f27 0 a0 0).trans (eo 0)) e1) (fI ((f27 0 a0 1).trans (eo 1)) e5) b27 tz) (fun q wq => ⟨G2, hle, wq⟩)
theorem S_X0_takeBack_18 {g : jGh} {Γ : Nat → Option Nat} {n a0 a1 : Nat} {s0 : Int32} {h : jH} (hn : 6000 ≤ n) (hg : jgok g) (w : jW (jKd g) Γ h) (ta0 : Γ a0 = some 12) (ta1 : Γ a1 = some 3) (l0 : 0 ≤ s0.toInt) (l1 : s0.toInt ≤ 11) : jok (F_X0_takeBack_18 n a0 a1 s0 h) (fun q => jW (jKd g) Γ q.2 ∧ (q.1 = 0 ∨ q.1 = 1)) := by
  have ez : (0 : Int32).toInt = 0 := rfl
  have e1 : (1 : Int32).toInt = 1 := rfl
  unfold F_X0_takeBack_18
  obtain ⟨v20, e20, l20⟩ := t_gI (k := 2) w ta0 rfl rfl
  refine jok_r e20 (jok_eq (fun _ _ => jok_s ⟨w, Or.inl rfl⟩) (fun n20 => ?_))
  obtain ⟨p27, e27, t27⟩ := t_gR (k := 0) w ta0 rfl rfl
  obtain ⟨o31, e31, t31⟩ := t_alq w t27 rfl (by decide) l0 (by omega)
  refine jok_r e27 (jok_r e31 ?_)
  cases o31 with
  | none => exact jok_s ⟨w, Or.inl rfl⟩
  | some p32 =>
    dsimp only
    refine jok_r e27 (jok_r e31 ?_)
    dsimp only
    rw [t_cv w ta1 rfl]
    refine jok_b2 (S_X8_copyFrom hn hg w ta1 (t31 p32 rfl)) (fun h44 e44 w44 => ?_)
    have f44 := F0_X8_copyFrom e44
    refine jok_b (t_pI w44 ta0 rfl rfl ⟨l0, l1⟩) (fun h49 w49 => ?_)
    obtain ⟨w49, -, f49⟩ := w49
    have q54 := fI (f49 0 a0 2 (Or.inr (by decide))) (fI (f44 0 a0 2 (by decide) (by decide)) e20)
    refine jok_r q54 ?_
    have l20 : 0 ≤ v20.toInt ∧ v20.toInt ≤ 12 := l20
    rw [ez] at n20
    have es : (v20 - (1 : Int32)).toInt = v20.toInt - 1 := by rw [jsub (by omega) (by omega), e1]
    refine jok_b (t_pI w49 ta0 rfl rfl (by constructor <;> omega)) (fun h59 w59 => ?_)
    exact jok_s ⟨w59.1, Or.inr rfl⟩
theorem S_X0_takeBack {g : jGh} {Γ : Nat → Option Nat} {n a0 a1 : Nat} {h : jH} (hn : 6000 ≤ n) (hg : jgok g) (w : jW (jKd g) Γ h) (ta0 : Γ a0 = some 12) (ta1 : Γ a1 = some 3) : jok (F_X0_takeBack n a0 a1 h) (fun q => jW (jKd g) Γ q.2 ∧ (q.1 = 0 ∨ q.1 = 1)) := by
  have ez : (0 : Int32).toInt = 0 := rfl
  have eo : (1 : Int32).toInt = 1 := rfl
  unfold F_X0_takeBack
  obtain ⟨v1, e1, l1⟩ := t_gI (k := 1) w ta0 rfl rfl
  have l1 : 0 ≤ v1.toInt ∧ v1.toInt ≤ 11 := l1
  refine jok_r e1 (jok_le (fun _ => S_X0_takeBack_18 hn hg w ta0 ta1 (by decide) (by decide)) (fun d => ?_))
  refine jok_r e1 ?_
  rw [ez] at d
  have es : (v1 - (1 : Int32)).toInt = v1.toInt - 1 := by rw [jsub (by omega) (by omega), eo]
  exact S_X0_takeBack_18 hn hg w ta0 ta1 (by omega) (by omega)
theorem S_X11_undo {g : jGh} {Γ : Nat → Option Nat} {n a0 : Nat} {h : jH} (hn : 6000 ≤ n) (hg : jgok g) (w : jW (jKd g) Γ h) (ta0 : Γ a0 = some 19) : jok (F_X11_undo n a0 h) (fun q => jW (jKd g) Γ q.2) := by
  unfold F_X11_undo
  refine jok_b (t_gR w ta0 rfl rfl) (fun p1 t1 => ?_)
  refine jok_b (t_gR w ta0 rfl rfl) (fun p5 t5 => ?_)
  rw [t_cv w t1 rfl]
  refine jok_b (S_X0_takeBack hn hg w t1 t5) (fun q8 w8 => ?_)
  rw [if_pos w8.2]
  exact jok_s w8.1
/-! the image of the class: two fields that are null, or not, by the ghosts -/
abbrev jghF (g : jGh) (u v : Int32) : jGh := (g.1, g.2.1, g.2.2.1, g.2.2.2.1, g.2.2.2.2.1, g.2.2.2.2.2.1, u, v, g.2.2.2.2.2.2.2.2)
theorem jKd_F {g : jGh} {u v : Int32} {c : Nat} (hc : c ≠ 19) : jKd (jghF g u v) c = jKd g c := by
  unfold jKd
  split <;> first | rfl | exact absurd rfl hc
theorem t_k10 {g : jGh} {Γ : Nat → Option Nat} {h : jH} {a : Nat} (w : jW (jKd g) Γ h) (ha : Γ a = some 19) (h41 : ∀ b, Γ b ≠ some 41) : (g.2.2.2.2.2.2.1 = 0 ∧ jgQ 9 h a 10 = some none) ∨ (g.2.2.2.2.2.2.1 ≠ 0 ∧ ∃ b, jgQ 9 h a 10 = some (some b) ∧ Γ b = some 3) := by
  obtain ⟨v, e, hv⟩ := t_gf (k := 10) w ha rfl rfl
  by_cases q : g.2.2.2.2.2.2.1 = 0
  · left
    rw [if_pos q] at hv
    rcases hv with rfl | ⟨b, rfl, hb⟩
    · exact ⟨q, by unfold jgQ; rw [e]⟩
    · exact absurd hb (h41 b)
  · right
    rw [if_neg q] at hv
    obtain ⟨b, rfl, hb⟩ := hv
    exact ⟨q, b, by unfold jgQ; rw [e], hb⟩
theorem t_k11 {g : jGh} {Γ : Nat → Option Nat} {h : jH} {a : Nat} (w : jW (jKd g) Γ h) (ha : Γ a = some 19) (h41 : ∀ b, Γ b ≠ some 41) : (g.2.2.2.2.2.2.2.1 = 0 ∧ jgQ 9 h a 11 = some none) ∨ (g.2.2.2.2.2.2.2.1 ≠ 0 ∧ ∃ b, jgQ 9 h a 11 = some (some b) ∧ Γ b = some 8) := by
  obtain ⟨v, e, hv⟩ := t_gf (k := 11) w ha rfl rfl
  by_cases q : g.2.2.2.2.2.2.2.1 = 0
  · left
    rw [if_pos q] at hv
    rcases hv with rfl | ⟨b, rfl, hb⟩
    · exact ⟨q, by unfold jgQ; rw [e]⟩
    · exact absurd hb (h41 b)
  · right
    rw [if_neg q] at hv
    obtain ⟨b, rfl, hb⟩ := hv
    exact ⟨q, b, by unfold jgQ; rw [e], hb⟩
theorem t_p10 {g : jGh} {Γ : Nat → Option Nat} {h : jH} {a b : Nat} (w : jW (jKd g) Γ h) (hu : ∀ a b c, 9 ≤ c → Γ a = some c → Γ b = some c → a = b) (ha : Γ a = some 19) (hb : Γ b = some 3) : jok (jpf 9 h a 10 (.ref b)) (fun h1 => jW (jKd (jghF g 1 g.2.2.2.2.2.2.2.1)) Γ h1 ∧ jgf 9 h1 a 10 = some (.ref b) ∧ jfr h h1 a 10) := by
  obtain ⟨vs, e1, e2, e3⟩ := t_obj w ha rfl
  have hlt : 10 < vs.length := by rw [e2]; exact Nat.le_of_ble_eq_true rfl
  refine ⟨jup h a (.inl (9, vs.set 10 (.ref b))), ?_, ?_, ?_, jfr_up e1⟩
  · unfold jpf
    rw [e1]
    dsimp only
    rw [if_pos ⟨rfl, hlt⟩]
  · intro b9 c hb9
    refine ⟨(w b9 c hb9).1, ?_⟩
    show okE Γ (jKd (jghF g 1 g.2.2.2.2.2.2.2.1) c) (if b9 = a then some _ else h.2 b9)
    by_cases hq : b9 = a
    · subst hq
      cases ha.symm.trans hb9
      rw [if_pos rfl]
      refine ⟨_, rfl, by rw [List.length_set]; exact e2, fun j F9 hj => ?_⟩
      by_cases hq : j = 10
      · subst hq
        cases hj
        exact ⟨.ref b, by rw [List.getElem?_set_self hlt], by rw [if_neg (show ¬ (1 : Int32) = 0 by decide)]; exact ⟨b, rfl, hb⟩⟩
      · have hj2 : (match jKd g 19 with | .inr (.inr q) => q.2 | _ => [])[j]? = some F9 := by
          match j, hq, hj with
          | 0, _, hj => exact hj
          | 1, _, hj => exact hj
          | 2, _, hj => exact hj
          | 3, _, hj => exact hj
          | 4, _, hj => exact hj
          | 5, _, hj => exact hj
          | 6, _, hj => exact hj
          | 7, _, hj => exact hj
          | 8, _, hj => exact hj
          | 9, _, hj => exact hj
          | 11, _, hj => exact hj
          | 12, _, hj => exact hj
          | j + 13, _, hj => cases hj
        obtain ⟨v9, f1, f2⟩ := e3 j F9 hj2
        exact ⟨v9, by rw [List.getElem?_set_ne (Ne.symm hq)]; exact f1, f2⟩
    · rw [if_neg hq]
      have hc : c ≠ 19 := fun q => hq (hu b9 a 19 (by decide) (by rw [hb9, q]) ha)
      rw [jKd_F hc]
      exact (w b9 c hb9).2
  · unfold jgf
    show (match (if a = a then some _ else h.2 a) with | some (.inl o) => if o.1 = 9 then o.2[10]? else none | _ => none) = _
    rw [if_pos rfl]
    dsimp only
    rw [if_pos rfl, List.getElem?_set_self hlt]
theorem t_p11 {g : jGh} {Γ : Nat → Option Nat} {h : jH} {a b : Nat} (w : jW (jKd g) Γ h) (hu : ∀ a b c, 9 ≤ c → Γ a = some c → Γ b = some c → a = b) (ha : Γ a = some 19) (hb : Γ b = some 8) : jok (jpf 9 h a 11 (.ref b)) (fun h1 => jW (jKd (jghF g g.2.2.2.2.2.2.1 1)) Γ h1 ∧ jgf 9 h1 a 11 = some (.ref b) ∧ jfr h h1 a 11) := by
  obtain ⟨vs, e1, e2, e3⟩ := t_obj w ha rfl
  have hlt : 11 < vs.length := by rw [e2]; exact Nat.le_of_ble_eq_true rfl
  refine ⟨jup h a (.inl (9, vs.set 11 (.ref b))), ?_, ?_, ?_, jfr_up e1⟩
  · unfold jpf
    rw [e1]
    dsimp only
    rw [if_pos ⟨rfl, hlt⟩]
  · intro b9 c hb9
    refine ⟨(w b9 c hb9).1, ?_⟩
    show okE Γ (jKd (jghF g g.2.2.2.2.2.2.1 1) c) (if b9 = a then some _ else h.2 b9)
    by_cases hq : b9 = a
    · subst hq
      cases ha.symm.trans hb9
      rw [if_pos rfl]
      refine ⟨_, rfl, by rw [List.length_set]; exact e2, fun j F9 hj => ?_⟩
      by_cases hq : j = 11
      · subst hq
        cases hj
        exact ⟨.ref b, by rw [List.getElem?_set_self hlt], by rw [if_neg (show ¬ (1 : Int32) = 0 by decide)]; exact ⟨b, rfl, hb⟩⟩
      · have hj2 : (match jKd g 19 with | .inr (.inr q) => q.2 | _ => [])[j]? = some F9 := by
          match j, hq, hj with
          | 0, _, hj => exact hj
          | 1, _, hj => exact hj
          | 2, _, hj => exact hj
          | 3, _, hj => exact hj
          | 4, _, hj => exact hj
          | 5, _, hj => exact hj
          | 6, _, hj => exact hj
          | 7, _, hj => exact hj
          | 8, _, hj => exact hj
          | 9, _, hj => exact hj
          | 10, _, hj => exact hj
          | 12, _, hj => exact hj
          | j + 13, _, hj => cases hj
        obtain ⟨v9, f1, f2⟩ := e3 j F9 hj2
        exact ⟨v9, by rw [List.getElem?_set_ne (Ne.symm hq)]; exact f1, f2⟩
    · rw [if_neg hq]
      have hc : c ≠ 19 := fun q => hq (hu b9 a 19 (by decide) (by rw [hb9, q]) ha)
      rw [jKd_F hc]
      exact (w b9 c hb9).2
  · unfold jgf
    show (match (if a = a then some _ else h.2 a) with | some (.inl o) => if o.1 = 9 then o.2[11]? else none | _ => none) = _
    rw [if_pos rfl]
    dsimp only
    rw [if_pos rfl, List.getElem?_set_self hlt]
theorem S_X11_image_36 {g : jGh} {Γ : Nat → Option Nat} {n a0 p q : Nat} {h : jH} (hn : 6000 ≤ n) (hg : jgok g) (w : jW (jKd g) Γ h) (ta0 : Γ a0 = some 19) (e10 : jgQ 9 h a0 10 = some (some p)) (tp : Γ p = some 3) (e11 : jgQ 9 h a0 11 = some (some q)) (tq : Γ q = some 8) : jok (F_X11_image_36 n a0 h) (fun q => jW (jKd g) Γ q) := by
  unfold F_X11_image_36
  refine jok_r e10 ?_
  refine jok_b (t_gR w ta0 rfl rfl) (fun p41 t41 => ?_)
  dsimp only
  rw [t_cv w tp rfl]
  refine jok_b2 (S_X8_copyFrom hn hg w tp t41) (fun h44 e44 w44 => ?_)
  have f44 := F0_X8_copyFrom e44
  refine jok_r (fQ (f44 9 a0 11 (by decide) (by decide)) e11) ?_
  refine jok_b (t_gR w44 ta0 rfl rfl) (fun p52 t52 => ?_)
  dsimp only
  rw [t_cv w44 tq rfl]
  refine jok_b (S_X2_copyFrom hn hg w44 tq t52) (fun h55 w55 => ?_)
  exact jok_s w55
theorem S_X11_image_18 {g : jGh} {Γ : Nat → Option Nat} {n a0 p : Nat} {h : jH} (hn : 6000 ≤ n) (hg : jgok g) (w : jW (jKd g) Γ h) (ta0 : Γ a0 = some 19) (hu : ∀ a b c, 9 ≤ c → Γ a = some c → Γ b = some c → a = b) (h41 : ∀ b, Γ b ≠ some 41) (e10 : jgQ 9 h a0 10 = some (some p)) (tp : Γ p = some 3) : jok (F_X11_image_18 n a0 h) (fun q => ∃ (G2 : Nat → Option Nat) (v : Int32), jle Γ G2 ∧ v ≠ 0 ∧ jW (jKd (jghF g g.2.2.2.2.2.2.1 v)) G2 q) := by
  unfold F_X11_image_18
  rcases t_k11 w ta0 h41 with ⟨-, eo⟩ | ⟨z9, p22, eo, to⟩
  · refine jok_r eo ?_
    dsimp only
    refine jok_r (show jnw h _ = some _ from rfl) ?_
    refine jok_b (t_law w) (fun h30 w30 => ?_)
    obtain ⟨G2, hle, w30, tz, hs⟩ := w30
    have ta2 := hle.1 a0 19 ta0
    have hu2 : ∀ a b c, 9 ≤ c → G2 a = some c → G2 b = some c → a = b := fun a b c k p q => hu a b c k (hle.2 a c k p) (hle.2 b c k q)
    have eo2 : ∀ k2 : Nat, jgf 9 h30 a0 k2 = jgf 9 h a0 k2 := fun k2 => by
      unfold jgf
      rw [hs a0 (w a0 19 ta0).1]
    refine jok_b (t_p11 w30 hu2 ta2 tz) (fun h33 w33 => ?_)
    obtain ⟨w33, q33, f33⟩ := w33
    have e11 : jgQ 9 h33 a0 11 = some (some h.1) := by unfold jgQ; rw [q33]
    have e10b := fQ ((f33 9 a0 10 (Or.inr (by decide))).trans (eo2 10)) e10
    exact jok_w (S_X11_image_36 hn (show jgok (jghF g g.2.2.2.2.2.2.1 1) from hg) w33 ta2 e10b (hle.1 _ _ tp) e11 tz) (fun q wq => ⟨G2, 1, hle, by decide, wq⟩)
  · refine jok_r eo ?_
    dsimp only
    exact jok_w (S_X11_image_36 hn hg w ta0 e10 tp eo to) (fun q wq => ⟨Γ, g.2.2.2.2.2.2.2.1, jle_rfl, z9, wq⟩)
theorem S_X11_image {g : jGh} {Γ : Nat → Option Nat} {n a0 : Nat} {h : jH} (hn : 6000 ≤ n) (hg : jgok g) (w : jW (jKd g) Γ h) (ta0 : Γ a0 = some 19) (hu : ∀ a b c, 9 ≤ c → Γ a = some c → Γ b = some c → a = b) (h41 : ∀ b, Γ b ≠ some 41) : jok (F_X11_image n a0 h) (fun q => ∃ (G2 : Nat → Option Nat) (u v : Int32), jle Γ G2 ∧ u ≠ 0 ∧ v ≠ 0 ∧ jW (jKd (jghF g u v)) G2 q) := by
  unfold F_X11_image
  rcases t_k10 w ta0 h41 with ⟨-, eo⟩ | ⟨z9, p4, eo, to⟩
  · refine jok_r eo ?_
    dsimp only
    refine jok_r (show jnw h _ = some _ from rfl) ?_
    refine jok_b (t_rod w) (fun h12 w12 => ?_)
    obtain ⟨G2, hle, w12, tz, hs⟩ := w12
    have ta2 := hle.1 a0 19 ta0
    have hu2 : ∀ a b c, 9 ≤ c → G2 a = some c → G2 b = some c → a = b := fun a b c k p q => hu a b c k (hle.2 a c k p) (hle.2 b c k q)
    have h412 : ∀ b, G2 b ≠ some 41 := fun b q => h41 b (hle.2 b 41 (by decide) q)
    refine jok_b (t_p10 w12 hu2 ta2 tz) (fun h15 w15 => ?_)
    obtain ⟨w15, q15, f15⟩ := w15
    have e10 : jgQ 9 h15 a0 10 = some (some h.1) := by unfold jgQ; rw [q15]
    refine jok_w (S_X11_image_18 hn (show jgok (jghF g 1 g.2.2.2.2.2.2.2.1) from hg) w15 ta2 hu2 h412 e10 tz) (fun q wq => ?_)
    obtain ⟨G3, v, hle3, hv, wq⟩ := wq
    exact ⟨G3, 1, v, jle_tr hle hle3, by decide, hv, wq⟩
  · refine jok_r eo ?_
    dsimp only
    refine jok_w (S_X11_image_18 hn hg w ta0 hu h41 eo to) (fun q wq => ?_)
    obtain ⟨G3, v, hle3, hv, wq⟩ := wq
    exact ⟨G3, _, v, hle3, z9, hv, wq⟩
theorem S_X11_back {g : jGh} {Γ : Nat → Option Nat} {n a0 : Nat} {h : jH} (hn : 6000 ≤ n) (hg : jgok g) (w : jW (jKd g) Γ h) (ta0 : Γ a0 = some 19) (h41 : ∀ b, Γ b ≠ some 41) : jok (F_X11_back n a0 h) (fun q => jW (jKd g) Γ q.2 ∧ q.1 = (if g.2.2.2.2.2.2.1 = 0 ∨ g.2.2.2.2.2.2.2.1 = 0 then 0 else 1)) := by
  unfold F_X11_back
  rcases t_k10 w ta0 h41 with ⟨z1, e1⟩ | ⟨z1, p4, e1, t4⟩
  · refine jok_r e1 ?_
    exact jok_s ⟨w, by rw [if_pos (Or.inl z1)]⟩
  refine jok_r e1 ?_
  dsimp only
  rcases t_k11 w ta0 h41 with ⟨z8, e8⟩ | ⟨z8, p11, e8, t11⟩
  · refine jok_r e8 ?_
    exact jok_s ⟨w, by rw [if_pos (Or.inr z8)]⟩
  refine jok_r e8 ?_
  dsimp only
  refine jok_b (t_gR w ta0 rfl rfl) (fun p17 t17 => ?_)
  refine jok_r e1 ?_
  dsimp only
  rw [t_cv w t17 rfl]
  refine jok_b2 (S_X8_copyFrom hn hg w t17 t4) (fun h24 e24 w24 => ?_)
  have f24 := F0_X8_copyFrom e24
  refine jok_b (t_gR w24 ta0 rfl rfl) (fun p28 t28 => ?_)
  refine jok_r (fQ (f24 9 a0 11 (by decide) (by decide)) e8) ?_
  dsimp only
  rw [t_cv w24 t28 rfl]
  refine jok_b (S_X2_copyFrom hn hg w24 t28 t11) (fun h35 w35 => ?_)
  refine jok_b (t_gR w35 ta0 rfl rfl) (fun p39 t39 => ?_)
  rw [t_cv w35 t39 rfl]
  refine jok_b (S_X0_forget hn hg w35 t39) (fun h42 w42 => ?_)
  exact jok_s ⟨w42, by rw [if_neg (fun q => q.elim z1 z8)]⟩
