/-- a reader of a condition, at depth p -/
def jgq (g : jGh) (Γ : Nat → Option Nat) (a0 : Nat) (C0 : Nat → Int32) (s : Nat) (p : Int) (f : Nat → jH → Option (Int32 × jH)) : Prop := ∀ (t : Nat) (d b : Int) (h : jH), 1 ≤ d → 0 ≤ b → jls g Γ a0 C0 s t d b p h → jok (f a0 h) (fun q => jrr g Γ a0 C0 s (t + 1) d b p q)
/-- the depth anew -/
theorem L_deep {g : jGh} {Γ : Nat → Option Nat} {a0 : Nat} {C0 : Nat → Int32} {s t : Nat} {d b p : Int} {x : Int32} {h : jH} (ta0 : Γ a0 = some 20) (a : jls g Γ a0 C0 s t d b p h) : jok (jpf 10 h a0 13 (.int x)) (fun q => jls g Γ a0 C0 s t d b x.toInt q) := by
  obtain ⟨C, a1, w, st, u, dp, e1, e2, e3, e4, e5, e6, e8, e7⟩ := a
  refine jok_w (t_pI (k := 13) w ta0 rfl rfl trivial) (fun q wq => ?_)
  obtain ⟨wq, eq, fq⟩ := wq
  exact ⟨C, a1, wq, st, u, x, fI (fq 10 a0 16 (Or.inr (by decide))) e1, fI (fq 10 a0 10 (Or.inr (by decide))) e2, fJ eq, rfl, e5, e6, e8, e7⟩
theorem jls_p {g : jGh} {Γ : Nat → Option Nat} {a0 : Nat} {C0 : Nat → Int32} {s t : Nat} {d b p : Int} {h : jH} (a : jls g Γ a0 C0 s t d b p h) : ∃ dp : Int32, jgI 10 h a0 13 = some dp ∧ dp.toInt = p := by
  obtain ⟨C, a1, w, st, u, dp, e1, e2, e3, e4, e5, e6, e8, e7⟩ := a
  exact ⟨dp, e3, e4⟩
theorem L_readAtom_152 {g : jGh} {Γ : Nat → Option Nat} {n a0 : Nat} {C0 : Nat → Int32} {s t : Nat} {d b p : Int} {x1 : Int32} {h : jH} {g0 g1 g2 : Nat → jH → Option (Int32 × jH)} (hn : 6000 ≤ n) (hu : ∀ a b c, 9 ≤ c → Γ a = some c → Γ b = some c → a = b) (ta0 : Γ a0 = some 20) (hd : 1 ≤ d) (hb : 0 ≤ b) (a : jls g Γ a0 C0 s (t + 1) (d + 1) b p h) : jok (F_X12_readAtom_152 n g0 g1 g2 a0 x1 h) (fun q => jrr g Γ a0 C0 s (t + 1) d b p q) := by
  unfold F_X12_readAtom_152
  obtain ⟨C, w⟩ := jls_w a
  rw [t_cv w ta0 rfl]
  refine jok_b (L_readSum hn hu ta0 (by omega) hb a) (fun q w1 => ?_)
  rcases w1 with ⟨e, j⟩ | ⟨e, j⟩
  · rw [if_pos e]
    exact jok_s (Or.inl ⟨rfl, j⟩)
  · rw [if_neg (by rw [e]; decide)]
    obtain ⟨C, w⟩ := jls_w j
    unfold F_X12_readAtom_173
    rw [t_cv w ta0 rfl, t_cv w ta0 rfl]
    exact jok_if (fun _ => jok_b (T_X12_emits hu ta0 (by omega) (jst_hi (by decide) (by decide)) j) (fun h w9 => jok_s (Or.inr ⟨rfl, w9⟩))) (fun _ => jok_b (T_X12_emits hu ta0 (by omega) (jst_hi (by decide) (by decide)) j) (fun h w9 => jok_s (Or.inr ⟨rfl, w9⟩)))
theorem L_readAtom {g : jGh} {Γ : Nat → Option Nat} {n a0 : Nat} {C0 : Nat → Int32} {s : Nat} {p : Int} {g0 g1 g2 : Nat → jH → Option (Int32 × jH)} (hn : 6000 ≤ n) (hu : ∀ a b c, 9 ≤ c → Γ a = some c → Γ b = some c → a = b) (ta0 : Γ a0 = some 20) (hp0 : 0 ≤ p) (hp6 : p ≤ 6) (hg0 : p ≤ 5 → jgq g Γ a0 C0 s (p + 1) g0) (hg1 : p ≤ 5 → jgq g Γ a0 C0 s (p + 1) g1) : jgq g Γ a0 C0 s p (F_X12_readAtom n g0 g1 g2) := by
  intro t d b h hd hb a
  have e6 : (6 : Int32).toInt = 6 := rfl
  have eo : (1 : Int32).toInt = 1 := rfl
  unfold F_X12_readAtom
  obtain ⟨C, w⟩ := jls_w a
  rw [t_cv w ta0 rfl]
  refine jok_b (L_sign hn ta0 a) (fun q3 w3 => ?_)
  rcases w3 with ⟨e, j3⟩ | ⟨e, j3⟩
  · rw [if_pos e]
    obtain ⟨C, w⟩ := jls_w j3
    rw [t_cv w ta0 rfl]
    refine jok_b (L_passes hn ta0 (by decide) (by decide +kernel) j3) (fun q59 w59 => ?_)
    rcases w59 with ⟨e, j59⟩ | ⟨e, j59⟩
    · rw [if_pos e]
      obtain ⟨C, w⟩ := jls_w j59
      rw [t_cv w ta0 rfl]
      refine jok_b (L_readTag hn hu ta0 (by omega) j59) (fun q115 w115 => ?_)
      rcases w115 with ⟨e, j115⟩ | ⟨e, j115⟩
      · rw [if_pos e]
        obtain ⟨C, w⟩ := jls_w j115
        rw [t_cv w ta0 rfl]
        refine jok_b (L_readSum hn hu ta0 hd hb j115) (fun q124 w124 => ?_)
        rcases w124 with ⟨e, j124⟩ | ⟨e, j124⟩
        · rw [if_pos e]
          exact jok_s (Or.inl ⟨rfl, j124⟩)
        · rw [if_neg (by rw [e]; decide)]
          obtain ⟨C, w⟩ := jls_w j124
          rw [t_cv w ta0 rfl]
          refine jok_b (L_sign hn ta0 j124) (fun q135 w135 => ?_)
          rcases w135 with ⟨e, j135⟩ | ⟨e, j135⟩
          · rw [if_pos e]
            obtain ⟨C, w⟩ := jls_w j135
            rw [t_cv w ta0 rfl]
            refine jok_b (L_sign hn ta0 j135) (fun q146 w146 => ?_)
            rcases w146 with ⟨e, j146⟩ | ⟨e, j146⟩
            · rw [if_pos e]
              exact jok_s (Or.inl ⟨rfl, jls_f j146⟩)
            · rw [if_neg (by rw [e]; decide)]
              exact L_readAtom_152 hn hu ta0 hd hb (jls_lb j146 (by omega) (by omega))
          · rw [if_neg (by rw [e]; decide)]
            exact L_readAtom_152 hn hu ta0 hd hb (jls_lb j135 (by omega) (by omega))
      · rw [if_neg (by rw [e]; decide)]
        exact jok_s (Or.inr ⟨rfl, j115⟩)
    · rw [if_neg (by rw [e]; decide)]
      obtain ⟨v66, e66, p66⟩ := jls_p j59
      refine jok_r e66 (jok_eq (fun _ _ => jok_s (Or.inl ⟨rfl, jls_f j59⟩)) (fun c => ?_))
      have ea : (v66 + (1 : Int32)).toInt = p + 1 := by rw [jadd (by omega) (by omega), eo, p66]
      refine jok_r e66 (jok_b (L_deep ta0 j59) (fun h83 w83 => ?_))
      rw [ea] at w83
      obtain ⟨C, w⟩ := jls_w w83
      rw [t_cv w ta0 rfl]
      refine jok_b (hg1 (by omega) t (d + 1) (b + 1) h83 (by omega) (by omega) w83) (fun q87 w87 => ?_)
      rcases w87 with ⟨e, j87⟩ | ⟨e, j87⟩
      · rw [if_pos e]
        exact jok_s (Or.inl ⟨rfl, j87⟩)
      · rw [if_neg (by rw [e]; decide)]
        obtain ⟨v97, e97, p97⟩ := jls_p j87
        have es : (v97 - (1 : Int32)).toInt = p := by rw [jsub (by omega) (by omega), eo, p97]; omega
        refine jok_r e97 (jok_b (L_deep ta0 j87) (fun h102 w102 => ?_))
        rw [es] at w102
        obtain ⟨C, w⟩ := jls_w w102
        rw [t_cv w ta0 rfl]
        have hst : jst (15 : Int32) (t + 1) = some (t + 1) := by
          unfold jst
          rw [if_neg (by decide), if_pos (by decide), if_pos (by omega)]
        refine jok_b (T_X12_emits hu ta0 (by omega) hst w102) (fun h109 w109 => ?_)
        exact jok_s (Or.inr ⟨rfl, jls_lb w109 (by omega) (by omega)⟩)
  · rw [if_neg (by rw [e]; decide)]
    obtain ⟨v10, e10, p10⟩ := jls_p j3
    refine jok_r e10 (jok_eq (fun _ _ => jok_s (Or.inl ⟨rfl, jls_f j3⟩)) (fun c => ?_))
    have ea : (v10 + (1 : Int32)).toInt = p + 1 := by rw [jadd (by omega) (by omega), eo, p10]
    refine jok_r e10 (jok_b (L_deep ta0 j3) (fun h27 w27 => ?_))
    rw [ea] at w27
    obtain ⟨C, w⟩ := jls_w w27
    rw [t_cv w ta0 rfl]
    refine jok_b (hg0 (by omega) t (d + 1) (b + 1) h27 (by omega) (by omega) w27) (fun q31 w31 => ?_)
    rcases w31 with ⟨e, j31⟩ | ⟨e, j31⟩
    · rw [if_pos e]
      exact jok_s (Or.inl ⟨rfl, j31⟩)
    · rw [if_neg (by rw [e]; decide)]
      obtain ⟨v41, e41, p41⟩ := jls_p j31
      have es : (v41 - (1 : Int32)).toInt = p := by rw [jsub (by omega) (by omega), eo, p41]; omega
      refine jok_r e41 (jok_b (L_deep ta0 j31) (fun h46 w46 => ?_))
      rw [es] at w46
      obtain ⟨C, w⟩ := jls_w w46
      rw [t_cv w ta0 rfl]
      refine jok_b (L_sign hn ta0 w46) (fun q52 w52 => ?_)
      rcases w52 with ⟨e, j52⟩ | ⟨e, j52⟩
      · rw [if_pos (Or.inl e)]
        exact jok_s (Or.inl ⟨e, jls_f j52⟩)
      · rw [if_pos (Or.inr e)]
        exact jok_s (Or.inr ⟨e, jls_lb j52 (by omega) (by omega)⟩)
