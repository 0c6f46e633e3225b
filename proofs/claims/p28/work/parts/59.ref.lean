theorem jls_lb {g : jGh} {Γ : Nat → Option Nat} {a0 : Nat} {C0 : Nat → Int32} {s t : Nat} {d b e c p : Int} {h : jH} (a : jls g Γ a0 C0 s t d b p h) (he : e ≤ d) (hc : c ≤ b) : jls g Γ a0 C0 s t e c p h := by
  obtain ⟨C, a1, a2, st, u, dp, e1, e2, e3, e4, e5, e6, e8, e7⟩ := a
  exact ⟨C, a1, a2, st, u, dp, e1, e2, e3, e4, e5, by omega, by omega, e7⟩
theorem jrr_lb {g : jGh} {Γ : Nat → Option Nat} {a0 : Nat} {C0 : Nat → Int32} {s t : Nat} {d b e c p : Int} {q : Int32 × jH} (a : jrr g Γ a0 C0 s t d b p q) (he : e ≤ d) (hc : c ≤ b) : jrr g Γ a0 C0 s t e c p q := by
  rcases a with a | a
  · exact Or.inl a
  · exact Or.inr ⟨a.1, jls_lb a.2 he hc⟩
theorem L_readTag {g : jGh} {Γ : Nat → Option Nat} {n a0 : Nat} {C0 : Nat → Int32} {s t : Nat} {d b p : Int} {h : jH} (hn : 6000 ≤ n) (hu : ∀ a b c, 9 ≤ c → Γ a = some c → Γ b = some c → a = b) (ta0 : Γ a0 = some 20) (hd : 0 ≤ d) (a : jls g Γ a0 C0 s t d b p h) : jok (F_X12_readTag n a0 h) (fun q => (q.1 = 0 ∧ jls g Γ a0 C0 s t d b p q.2) ∨ (q.1 = 1 ∧ jls g Γ a0 C0 s (t + 1) d b p q.2)) := by
  unfold F_X12_readTag
  obtain ⟨C, w⟩ := jls_w a
  rw [t_cv w ta0 rfl]
  refine jok_b (L_letters hn ta0 a) (fun h1 w1 => ?_)
  obtain ⟨j1, z, v, ez, ev, lz, jn, jb⟩ := w1
  obtain ⟨C1, w1⟩ := jls_w j1
  have hit : ∀ {x : Int32}, 0 ≤ x.toInt → x.toInt ≤ 11 → ¬ v.toInt = z.toInt → jok (F_X12_readTag_61 n a0 x h1) (fun q => (q.1 = 0 ∧ jls g Γ a0 C0 s t d b p q.2) ∨ (q.1 = 1 ∧ jls g Γ a0 C0 s (t + 1) d b p q.2)) := by
    intro x h0 h9 hne
    have hx : ¬ x < 0 := fun q => by
      have := Int32.lt_iff_toInt_lt.mp q
      have z0 : (0 : Int32).toInt = 0 := rfl
      omega
    unfold F_X12_readTag_61
    rw [if_neg hx, t_cv w1 ta0 rfl]
    refine jok_b (T_X12_emits hu ta0 hd (jst_lo h9) (jn hne)) (fun q wq => ?_)
    rw [if_neg hx]
    exact jok_s (Or.inr ⟨rfl, jls_lb wq (by omega) (by omega)⟩)
  have l17 : 1 ≤ (jtb 17).length := by decide +kernel
  have l16 : 1 ≤ (jtb 16).length := by decide +kernel
  have l30 : 1 ≤ (jtb 30).length := by decide +kernel
  have l31 : 1 ≤ (jtb 31).length := by decide +kernel
  rw [t_cv w1 ta0 rfl]
  refine jok_b (T_X12_isWord hn w1 ta0 (by decide) ev ez) (fun v7 l7 => ?_)
  rcases l7 with rfl | ⟨rfl, l7⟩
  · rw [if_pos rfl, t_cv w1 ta0 rfl]
    refine jok_b (T_X12_isWord hn w1 ta0 (by decide) ev ez) (fun v21 l21 => ?_)
    rcases l21 with rfl | ⟨rfl, l21⟩
    · rw [if_pos rfl, t_cv w1 ta0 rfl]
      refine jok_b (T_X12_isWord hn w1 ta0 (by decide) ev ez) (fun v35 l35 => ?_)
      rcases l35 with rfl | ⟨rfl, l35⟩
      · rw [if_pos rfl, t_cv w1 ta0 rfl]
        refine jok_b (T_X12_isWord hn w1 ta0 (by decide) ev ez) (fun v49 l49 => ?_)
        rcases l49 with rfl | ⟨rfl, l49⟩
        · rw [if_pos rfl]
          unfold F_X12_readTag_61
          rw [if_pos (by decide)]
          obtain ⟨z2, ez2, lz2⟩ := t_gI (k := 12) w1 ta0 rfl rfl
          have qz : z2 = z := Option.some.inj (ez2.symm.trans ez)
          subst qz
          refine jok_r ez2 (jok_b2 (t_rw w1 ta0 (Or.inl rfl) lz2.1 lz2.2) (fun h80 e80 _ => ?_))
          rw [if_pos (by decide)]
          exact jok_s (Or.inl ⟨rfl, jb h80 e80⟩)
        · rw [if_neg (by decide)]
          exact hit (by decide) (by decide) (by omega)
      · rw [if_neg (by decide)]
        exact hit (by decide) (by decide) (by omega)
    · rw [if_neg (by decide)]
      exact hit (by decide) (by decide) (by omega)
  · rw [if_neg (by decide)]
    exact hit (by decide) (by decide) (by omega)
theorem jst_hi {x : Int32} {t : Nat} (h : 11 < x.toInt) (h2 : x.toInt ≠ 15) : jst x (t + 1 + 1) = some (t + 1) := by
  unfold jst
  rw [if_neg (by omega), if_neg h2, if_pos (by omega)]
  rfl
theorem jls_b4 {g : jGh} {Γ : Nat → Option Nat} {a0 : Nat} {C0 : Nat → Int32} {s t : Nat} {d b p : Int} {h : jH} (ta0 : Γ a0 = some 20) (a : jls g Γ a0 C0 s t d b p h) : b ≤ 400 := by
  obtain ⟨C, a1, w, st, u, dp, e1, e2, e3, e4, e5, e6, e8, e7⟩ := a
  obtain ⟨v, ev, lv⟩ := t_gI (k := 10) w ta0 rfl rfl
  have lv : 0 ≤ v.toInt ∧ v.toInt ≤ 400 := lv
  have qz : v = u := Option.some.inj (ev.symm.trans e2)
  subst qz
  omega
theorem L_readSum_9 {g : jGh} {Γ : Nat → Option Nat} {n a0 : Nat} {C0 : Nat → Int32} {s t : Nat} {d p : Int} (hn : 6000 ≤ n) (hu : ∀ a b c, 9 ≤ c → Γ a = some c → Γ b = some c → a = b) (ta0 : Γ a0 = some 20) (hd : 1 ≤ d) : ∀ (k : Nat) {b : Int} {h : jH}, jls g Γ a0 C0 s (t + 1) d b p h → 400 - b < k → jok (F_X12_readSum_9 n k a0 h) (fun q => jrr g Γ a0 C0 s (t + 1) d b p q)
  | 0, b, h, a, hk => by
    have := jls_b4 ta0 a
    omega
  | k + 1, b, h, a, hk => by
    show jok (F_X12_readSum_9_b n (F_X12_readSum_9 n k) a0 h) _
    unfold F_X12_readSum_9_b
    obtain ⟨C, w⟩ := jls_w a
    rw [t_cv w ta0 rfl]
    refine jok_b (L_sign hn ta0 a) (fun q12 w12 => ?_)
    rcases w12 with ⟨e, j⟩ | ⟨e, j⟩
    · rw [if_pos e]
      exact jok_s (Or.inr ⟨rfl, j⟩)
    · rw [if_neg (by rw [e]; decide)]
      obtain ⟨C, w⟩ := jls_w j
      rw [t_cv w ta0 rfl]
      refine jok_b (L_readPart hn hu ta0 (by omega) j) (fun q19 w19 => ?_)
      rcases w19 with ⟨e, j⟩ | ⟨e, j⟩
      · rw [if_pos e]
        exact jok_s (Or.inl ⟨rfl, j⟩)
      · rw [if_neg (by rw [e]; decide)]
        obtain ⟨C, w⟩ := jls_w j
        rw [t_cv w ta0 rfl]
        refine jok_b (T_X12_emits hu ta0 (by omega) (jst_hi (by decide) (by decide)) j) (fun h31 w31 => ?_)
        exact jok_w (L_readSum_9 hn hu ta0 hd k w31 (by omega)) (fun q wq => jrr_lb wq (by omega) (by omega))
theorem L_readSum {g : jGh} {Γ : Nat → Option Nat} {n a0 : Nat} {C0 : Nat → Int32} {s t : Nat} {d b p : Int} {h : jH} (hn : 6000 ≤ n) (hu : ∀ a b c, 9 ≤ c → Γ a = some c → Γ b = some c → a = b) (ta0 : Γ a0 = some 20) (hd : 1 ≤ d) (hb : 0 ≤ b) (a : jls g Γ a0 C0 s t d b p h) : jok (F_X12_readSum n a0 h) (fun q => jrr g Γ a0 C0 s (t + 1) d b p q) := by
  unfold F_X12_readSum
  obtain ⟨C, w⟩ := jls_w a
  rw [t_cv w ta0 rfl]
  refine jok_b (L_readPart hn hu ta0 hd a) (fun q1 w1 => ?_)
  rcases w1 with ⟨e, j⟩ | ⟨e, j⟩
  · rw [if_pos e]
    exact jok_s (Or.inl ⟨rfl, j⟩)
  · rw [if_neg (by rw [e]; decide)]
    exact L_readSum_9 hn hu ta0 hd n j (by omega)
