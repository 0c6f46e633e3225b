theorem S_X12_law {g : jGh} {Γ : Nat → Option Nat} {n a0 : Nat} {h : jH} (hn : 6000 ≤ n) (hg : jgok g) (w : jW (jKd g) Γ h) (ta0 : Γ a0 = some 20) (hu : ∀ a b c, 9 ≤ c → Γ a = some c → Γ b = some c → a = b) : jok (F_X12_law n a0 h) (fun q => ∃ C2 : Nat → Int32, jlawOK C2 ∧ jW (jKd (g.1, g.2.1, (0 : Int32).toInt, C2, g.2.2.2.2)) Γ q.2) := by
  unfold F_X12_law
  have e0 : (0 : Int32).toInt = 0 := rfl
  rw [t_cv w ta0 rfl]
  refine jok_b (L_readAll0 hn hg w ta0 hu) (fun q2 w2 => ?_)
  rcases w2 with ⟨e, j⟩ | ⟨m, hm, hx, j⟩
  · have hneg : ¬ (0 : Int32) ≤ q2.1 := by rw [e]; decide
    rw [if_neg hneg]
    obtain ⟨C, hC, wC⟩ := j
    refine jok_b (t_gI wC ta0 rfl rfl) (fun v12 _ => ?_)
    refine jok_b (t_pI wC ta0 rfl rfl trivial) (fun h19 w19 => ?_)
    rw [if_neg hneg]
    exact L_law_32 hn (jg20_ok hg) hg.2.2.2 hu ta0 (Or.inl rfl) ⟨C, hC, w19.1⟩
  · have hpos : (0 : Int32) ≤ q2.1 := Int32.le_iff_toInt_le.mpr (by omega)
    rw [if_pos hpos]
    obtain ⟨C, hC, wC, st, u, e1, e2, l0, l1, l2, hl⟩ := j
    refine jok_b (t_pI wC ta0 rfl rfl trivial) (fun h19 w19 => ?_)
    obtain ⟨w19, -, f19⟩ := w19
    rw [if_pos hpos]
    exact L_law_32 hn (jg20_ok hg) hg.2.2.2 hu ta0 (Or.inr ⟨rfl, m, hm, hx, ⟨C, hC, w19, st, u, fI (f19 10 a0 16 (Or.inr (by decide))) e1, fI (f19 10 a0 10 (Or.inr (by decide))) e2, l0, l1, l2, hl⟩⟩) ⟨C, hC, w19⟩
/-! the image of the reference: its ghost -/
theorem jKd_E {g : jGh} {C : Nat → Int32} {c : Nat} (hc : c ≠ 23) : jKd (g.1, g.2.1, g.2.2.1, g.2.2.2.1, C, g.2.2.2.2.2) c = jKd g c := by
  unfold jKd
  split <;> first | rfl | exact absurd rfl hc
/-- a write to 'earlier': its ghost anew -/
theorem t_asE {g : jGh} {Γ : Nat → Option Nat} {h : jH} {a : Nat} {i x : Int32} (w : jW (jKd g) Γ h) (hu : ∀ a b c, 9 ≤ c → Γ a = some c → Γ b = some c → a = b) (ha : Γ a = some 23) (h0 : 0 ≤ i.toInt) (h1 : i.toInt < 1284) (hx : jR3 i.toInt.toNat x) : jok (jas 0 h a i x) (fun h1 => jW (jKd (g.1, g.2.1, g.2.2.1, g.2.2.2.1, upd g.2.2.2.2.1 i.toInt.toNat x, g.2.2.2.2.2)) Γ h1 ∧ jfa h h1) := by
  obtain ⟨f, e1, e2⟩ := t_arr w ha rfl
  have hi : i.toNatClampNeg = i.toInt.toNat := rfl
  refine ⟨jup h a (.inr (.inl (0, 1284, upd f i.toNatClampNeg (jnar 0 x)))), ?_, ?_, jfa_up e1⟩
  · unfold jas
    rw [e1]
    dsimp only
    rw [if_pos ⟨rfl, jnoob (by omega) (by omega), fun q => by cases q⟩]
  · intro b c hb
    refine ⟨(w b c hb).1, ?_⟩
    show okE Γ (jKd (g.1, g.2.1, g.2.2.1, g.2.2.2.1, upd g.2.2.2.2.1 i.toInt.toNat x, g.2.2.2.2.2) c) (if b = a then some _ else h.2 b)
    by_cases hq : b = a
    · subst hq
      cases ha.symm.trans hb
      rw [if_pos rfl]
      refine ⟨_, rfl, fun k hk => ?_⟩
      have e2k := e2 k hk
      show jR3 k (upd f i.toNatClampNeg (jnar 0 x) k) ∧ (k < 435 ∨ upd f i.toNatClampNeg (jnar 0 x) k = upd g.2.2.2.2.1 i.toInt.toNat x k)
      rw [hi]
      by_cases hk2 : k = i.toInt.toNat
      · subst hk2
        rw [upd_eq, upd_eq]
        exact ⟨hx, Or.inr rfl⟩
      · rw [upd_ne hk2, upd_ne hk2]
        exact e2k
    · rw [if_neg hq]
      have hc : c ≠ 23 := fun q => hq (hu b a 23 (by decide) (by rw [hb, q]) ha)
      rw [jKd_E hc]
      exact (w b c hb).2
