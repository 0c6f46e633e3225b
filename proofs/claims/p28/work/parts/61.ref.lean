theorem L_readAllOf_9 {g : jGh} {Γ : Nat → Option Nat} {n a0 : Nat} {C0 : Nat → Int32} {s t : Nat} {d p : Int} {g0 g1 g2 : Nat → jH → Option (Int32 × jH)} (hn : 6000 ≤ n) (hu : ∀ a b c, 9 ≤ c → Γ a = some c → Γ b = some c → a = b) (ta0 : Γ a0 = some 20) (hg : jgq g Γ a0 C0 s p g1) (hd : 1 ≤ d) : ∀ (k : Nat) {b : Int} {h : jH}, 0 ≤ b → jls g Γ a0 C0 s (t + 1) d b p h → 400 - b < k → jok (F_X12_readAllOf_9 n g0 g1 g2 k a0 h) (fun q => jrr g Γ a0 C0 s (t + 1) d b p q)
  | 0, b, h, hb, a, hk => by
    have := jls_b4 ta0 a
    omega
  | k + 1, b, h, hb, a, hk => by
    show jok (F_X12_readAllOf_9_b n g0 g1 g2 (F_X12_readAllOf_9 n g0 g1 g2 k) a0 h) _
    unfold F_X12_readAllOf_9_b
    obtain ⟨C, w⟩ := jls_w a
    rw [t_cv w ta0 rfl]
    refine jok_b (L_passes hn ta0 (by decide) (by decide +kernel) a) (fun q12 w12 => ?_)
    rcases w12 with ⟨e, j⟩ | ⟨e, j⟩
    · rw [if_pos e]
      exact jok_s (Or.inr ⟨rfl, j⟩)
    · rw [if_neg (by rw [e]; decide)]
      obtain ⟨C, w⟩ := jls_w j
      rw [t_cv w ta0 rfl]
      refine jok_b (hg (t + 1) (d + 1) (b + 1) q12.2 (by omega) (by omega) j) (fun q19 w19 => ?_)
      rcases w19 with ⟨e, j⟩ | ⟨e, j⟩
      · rw [if_pos e]
        exact jok_s (Or.inl ⟨rfl, j⟩)
      · rw [if_neg (by rw [e]; decide)]
        obtain ⟨C, w⟩ := jls_w j
        rw [t_cv w ta0 rfl]
        refine jok_b (T_X12_emits hu ta0 (by omega) (jst_hi (by decide) (by decide)) j) (fun h31 w31 => ?_)
        exact jok_w (L_readAllOf_9 hn hu ta0 hg hd k (by omega) w31 (by omega)) (fun q wq => jrr_lb wq (by omega) (by omega))
theorem L_readAllOf {g : jGh} {Γ : Nat → Option Nat} {n a0 : Nat} {C0 : Nat → Int32} {s : Nat} {p : Int} {g0 g1 g2 : Nat → jH → Option (Int32 × jH)} (hn : 6000 ≤ n) (hu : ∀ a b c, 9 ≤ c → Γ a = some c → Γ b = some c → a = b) (ta0 : Γ a0 = some 20) (hg : jgq g Γ a0 C0 s p g1) : jgq g Γ a0 C0 s p (F_X12_readAllOf n g0 g1 g2) := by
  intro t d b h hd hb a
  unfold F_X12_readAllOf
  obtain ⟨C, w⟩ := jls_w a
  rw [t_cv w ta0 rfl]
  refine jok_b (hg t d b h hd hb a) (fun q1 w1 => ?_)
  rcases w1 with ⟨e, j⟩ | ⟨e, j⟩
  · rw [if_pos e]
    exact jok_s (Or.inl ⟨rfl, j⟩)
  · rw [if_neg (by rw [e]; decide)]
    exact L_readAllOf_9 hn hu ta0 hg hd n hb j (by omega)
theorem L_readCond_9 {g : jGh} {Γ : Nat → Option Nat} {n a0 : Nat} {C0 : Nat → Int32} {s t : Nat} {d p : Int} {g0 g1 g2 : Nat → jH → Option (Int32 × jH)} (hn : 6000 ≤ n) (hu : ∀ a b c, 9 ≤ c → Γ a = some c → Γ b = some c → a = b) (ta0 : Γ a0 = some 20) (hg : jgq g Γ a0 C0 s p g2) (hd : 1 ≤ d) : ∀ (k : Nat) {b : Int} {h : jH}, 0 ≤ b → jls g Γ a0 C0 s (t + 1) d b p h → 400 - b < k → jok (F_X12_readCond_9 n g0 g1 g2 k a0 h) (fun q => jrr g Γ a0 C0 s (t + 1) d b p q)
  | 0, b, h, hb, a, hk => by
    have := jls_b4 ta0 a
    omega
  | k + 1, b, h, hb, a, hk => by
    show jok (F_X12_readCond_9_b n g0 g1 g2 (F_X12_readCond_9 n g0 g1 g2 k) a0 h) _
    unfold F_X12_readCond_9_b
    obtain ⟨C, w⟩ := jls_w a
    rw [t_cv w ta0 rfl]
    refine jok_b (L_passes hn ta0 (by decide) (by decide +kernel) a) (fun q12 w12 => ?_)
    rcases w12 with ⟨e, j⟩ | ⟨e, j⟩
    · rw [if_pos e]
      exact jok_s (Or.inr ⟨rfl, j⟩)
    · rw [if_neg (by rw [e]; decide)]
      obtain ⟨C, w⟩ := jls_w j
      rw [t_cv w ta0 rfl]
      refine jok_b (hg (t + 1) (d + 1) (b + 1) q12.2 (by omega) (by omega) j) (fun q19 w19 => ?_)
      rcases w19 with ⟨e, j⟩ | ⟨e, j⟩
      · rw [if_pos e]
        exact jok_s (Or.inl ⟨rfl, j⟩)
      · rw [if_neg (by rw [e]; decide)]
        obtain ⟨C, w⟩ := jls_w j
        rw [t_cv w ta0 rfl]
        refine jok_b (T_X12_emits hu ta0 (by omega) (jst_hi (by decide) (by decide)) j) (fun h31 w31 => ?_)
        exact jok_w (L_readCond_9 hn hu ta0 hg hd k (by omega) w31 (by omega)) (fun q wq => jrr_lb wq (by omega) (by omega))
theorem L_readCond {g : jGh} {Γ : Nat → Option Nat} {n a0 : Nat} {C0 : Nat → Int32} {s : Nat} {p : Int} {g0 g1 g2 : Nat → jH → Option (Int32 × jH)} (hn : 6000 ≤ n) (hu : ∀ a b c, 9 ≤ c → Γ a = some c → Γ b = some c → a = b) (ta0 : Γ a0 = some 20) (hg : jgq g Γ a0 C0 s p g2) : jgq g Γ a0 C0 s p (F_X12_readCond n g0 g1 g2) := by
  intro t d b h hd hb a
  unfold F_X12_readCond
  obtain ⟨C, w⟩ := jls_w a
  rw [t_cv w ta0 rfl]
  refine jok_b (hg t d b h hd hb a) (fun q1 w1 => ?_)
  rcases w1 with ⟨e, j⟩ | ⟨e, j⟩
  · rw [if_pos e]
    exact jok_s (Or.inl ⟨rfl, j⟩)
  · rw [if_neg (by rw [e]; decide)]
    exact L_readCond_9 hn hu ta0 hg hd n hb j (by omega)
theorem L_MC {g : jGh} {Γ : Nat → Option Nat} {n a0 : Nat} {C0 : Nat → Int32} {s : Nat} (hn : 6000 ≤ n) (hu : ∀ a b c, 9 ≤ c → Γ a = some c → Γ b = some c → a = b) (ta0 : Γ a0 = some 20) : ∀ (k : Nat) {p : Int}, 0 ≤ p → p ≤ 6 → (3 * (6 - p) + 3 ≤ k → jgq g Γ a0 C0 s p (FG_MC n k 0)) ∧ (3 * (6 - p) + 1 ≤ k → jgq g Γ a0 C0 s p (FG_MC n k 1)) ∧ (3 * (6 - p) + 2 ≤ k → jgq g Γ a0 C0 s p (FG_MC n k 2))
  | 0, p, hp0, hp6 => ⟨fun h => by omega, fun h => by omega, fun h => by omega⟩
  | k + 1, p, hp0, hp6 => by
    refine ⟨fun hk => ?_, fun hk => ?_, fun hk => ?_⟩
    · exact L_readCond (g0 := FG_MC n k 0) (g1 := FG_MC n k 1) (g2 := FG_MC n k 2) hn hu ta0 ((L_MC hn hu ta0 k hp0 hp6).2.2 (by omega))
    · refine L_readAtom (g0 := FG_MC n k 0) (g1 := FG_MC n k 1) (g2 := FG_MC n k 2) hn hu ta0 hp0 hp6 (fun h5 => ?_) (fun h5 => ?_)
      · exact (L_MC hn hu ta0 k (p := p + 1) (by omega) (by omega)).1 (by omega)
      · exact (L_MC hn hu ta0 k (p := p + 1) (by omega) (by omega)).2.1 (by omega)
    · exact L_readAllOf (g0 := FG_MC n k 0) (g1 := FG_MC n k 1) (g2 := FG_MC n k 2) hn hu ta0 ((L_MC hn hu ta0 k hp0 hp6).2.1 (by omega))
