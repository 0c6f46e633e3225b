section
/-! a ring of a pole's text, as the reference reads it -/
theorem no_45 {n a0 : Nat} {x1 x2 s0 : Int32} {h : jH} {q : Int32 × jH} (hs : s0 = -1) (hf : F_X12_readRing_45 n a0 x1 x2 s0 h = some q) : q = (0, h) := by
  unfold F_X12_readRing_45 at hf
  rw [if_neg (by rw [hs]; decide)] at hf
  cases hf
  rfl
theorem no_88 {n a0 : Nat} {x1 x2 x3 x4 x5 s0 : Int32} {h : jH} {q : Int32 × jH} (hs : s0 = -1) (hf : F_X12_readRing_88 n a0 x1 x2 x3 x4 x5 s0 h = some q) : q = (0, h) := by
  unfold F_X12_readRing_88 at hf
  rw [if_neg (by rw [hs]; decide)] at hf
  cases hf
  rfl
theorem no_117 {n a0 : Nat} {x1 x2 x3 x4 x5 x6 s0 : Int32} {h : jH} {q : Int32 × jH} (hs : s0 = -1) (hf : F_X12_readRing_117 n a0 x1 x2 x3 x4 x5 x6 s0 h = some q) : q = (0, h) := by
  unfold F_X12_readRing_117 at hf
  rw [if_neg (by rw [hs]; decide)] at hf
  cases hf
  rfl
/-- what the reference answers to a line, r telling what is asked -/
def lnR (O : jO) (v : Int32) (x : Nat) (b : Nat → Int32) (L : Nat) (st : Nat → Nat) (r : (Nat × jWd) ⊕ Nat) : Prop :=
  (∀ p, r = .inl p → v = 1 ∧ rc O x b L st p.1 ∧ wl O x = p.2) ∧ (∀ f, r = .inr f → v = 0 ∧ oi O x 12 = nI (st f) ∧ mS O x)
theorem lnR_l {O : jO} {v : Int32} {x L k : Nat} {b : Nat → Int32} {st : Nat → Nat} {r : (Nat × jWd) ⊕ Nat} {W : jWd} (e : r = .inl (k, W)) (h : v = 1 ∧ rc O x b L st k ∧ wl O x = W) : lnR O v x b L st r :=
  ⟨fun p z => (by rw [e] at z; cases z; exact h), fun f z => (by rw [e] at z; cases z)⟩
theorem lnR_r {O : jO} {v : Int32} {x L k : Nat} {b : Nat → Int32} {st : Nat → Nat} {r : (Nat × jWd) ⊕ Nat} (e : r = .inr k) (h : v = 0 ∧ oi O x 12 = nI (st k) ∧ mS O x) : lnR O v x b L st r :=
  ⟨fun p z => (by rw [e] at z; cases z), fun f z => (by rw [e] at z; cases z; exact h)⟩
/-- a flag as the reference sets it -/
def b01 (v : Int32) : Int32 := if v = 0 then 0 else 1
theorem b01_t {T : Nat → Int32 × Int32} {w : Int32} {k : Nat} : b01 (tkF T w k).2 = (tkF T w k).2 := by
  unfold tkF
  split <;> rfl
theorem T_tkF {O2 : jO} {x L k : Nat} {b : Nat → Int32} {T : Nat → Int32 × Int32} {st : Nat → Nat} {w v : Int32} (d : (v = 1 ∧ (T k).1 = w ∧ rc O2 x b L st (k + 1)) ∨ (v = 0 ∧ (T k).1 ≠ w ∧ rc O2 x b L st k)) : v = (tkF T w k).2 ∧ rc O2 x b L st (tkF T w k).1 := by
  unfold tkF
  rcases d with ⟨y, y2, y3⟩ | ⟨y, y2, y3⟩
  · rw [if_pos y2]; exact ⟨y, y3⟩
  · rw [if_neg y2]; exact ⟨y, y3⟩
theorem E_X12_readRing_171 {c : Nat} {n : Nat} {a0 : Nat} {x1 : Int32} {x6 : Int32} {x7 : Int32} {sa0 : Nat} {s1 : Int32} {s2 : Int32} {h : jH} {q : Int32 × jH} (M : mS (oc h) a0) (hx1 : x1 = nI c) (hc : c < 8) (hs : sa0 = a0 + 1) (h1 : s1 = nI (14 + 8 * c)) (hf : F_X12_readRing_171 n a0 x1 x6 x7 sa0 s1 s2 h = some q) : q.1 = 1 ∧ wl (oc q.2) a0 = upd (upd (upd (wl (oc h) a0) (14 + 8 * c) s2) (15 + 8 * c) x6) (16 + 8 * c) x7 ∧ frM a0 [1] [] (oc h) (oc q.2) ∧ q.2.1 = h.1 := by
  unfold F_X12_readRing_171 at hf
  subst hs
  replace hf := jbind hf
  obtain ⟨h171, e1, hf⟩ := hf
  obtain ⟨o1, z1, y1⟩ := oc_as e1
  rw [jnar0] at o1
  clear e1
  replace hf := jbind hf
  obtain ⟨p173, e2, hf⟩ := hf
  have r2 := oc_gR e2
  rw [o1] at r2
  rw [u2_ne (Or.inl (by omega))] at r2
  rw [M.1] at r2
  cases r2
  clear e2
  replace hf := jbind hf
  obtain ⟨v178, e3, hf⟩ := hf
  have r3 := E_X12_at (i := c) (j := 4) (t := 15 + 8 * c) hx1 rfl (by omega) e3
  subst r3
  replace hf := jbind hf
  obtain ⟨h183, e4, hf⟩ := hf
  obtain ⟨o4, z4, y4⟩ := oc_as e4
  rw [jnar0] at o4
  clear e4
  replace hf := jbind hf
  obtain ⟨p185, e5, hf⟩ := hf
  have r5 := oc_gR e5
  rw [o4] at r5
  rw [u2_ne (Or.inl (by omega))] at r5
  rw [o1] at r5
  rw [u2_ne (Or.inl (by omega))] at r5
  rw [M.1] at r5
  cases r5
  clear e5
  replace hf := jbind hf
  obtain ⟨v190, e6, hf⟩ := hf
  have r6 := E_X12_at (i := c) (j := 5) (t := 16 + 8 * c) hx1 rfl (by omega) e6
  subst r6
  replace hf := jbind hf
  obtain ⟨h195, e7, hf⟩ := hf
  obtain ⟨o7, z7, y7⟩ := oc_as e7
  rw [jnar0] at o7
  clear e7
  cases hf
  -- leaf : ((1 : Int32), h195)
  rw [h1, nI_cl (by omega)] at o1
  rw [nI_cl (by omega)] at o4 o7
  have f : frM a0 [1] [] (oc h) (oc h195) := by rw [o7, o4, o1]; exact frM_tr (frM_c (by decide)) (frM_tr (frM_c (by decide)) (frM_c (by decide)))
  have w : wl (oc h195) a0 = upd (upd (upd (wl (oc h) a0) (14 + 8 * c) s2) (15 + 8 * c) x6) (16 + 8 * c) x7 := by rw [o7, wl_w, o4, wl_w, o1, wl_w]
  exact ⟨rfl, w, f, z7.trans (z4.trans z1)⟩
theorem E_X12_readRing_151 {c : Nat} {n : Nat} {a0 : Nat} {x1 : Int32} {x5 : Int32} {x6 : Int32} {x7 : Int32} {sa0 : Nat} {s1 : Int32} {s2 : Int32} {h : jH} {q : Int32 × jH} (M : mS (oc h) a0) (hx1 : x1 = nI c) (hc : c < 8) (hs : sa0 = a0 + 1) (h1 : s1 = nI (13 + 8 * c)) (hf : F_X12_readRing_151 n a0 x1 x5 x6 x7 sa0 s1 s2 h = some q) : q.1 = 1 ∧ wl (oc q.2) a0 = upd (upd (upd (upd (wl (oc h) a0) (13 + 8 * c) s2) (14 + 8 * c) (b01 x5)) (15 + 8 * c) x6) (16 + 8 * c) x7 ∧ frM a0 [1] [] (oc h) (oc q.2) ∧ q.2.1 = h.1 := by
  unfold F_X12_readRing_151 at hf
  subst hs
  replace hf := jbind hf
  obtain ⟨h151, e1, hf⟩ := hf
  obtain ⟨o1, z1, y1⟩ := oc_as e1
  rw [jnar0] at o1
  clear e1
  replace hf := jbind hf
  obtain ⟨p153, e2, hf⟩ := hf
  have r2 := oc_gR e2
  rw [o1] at r2
  rw [u2_ne (Or.inl (by omega))] at r2
  rw [M.1] at r2
  cases r2
  clear e2
  replace hf := jbind hf
  obtain ⟨v158, e3, hf⟩ := hf
  have r3 := E_X12_at (i := c) (j := 3) (t := 14 + 8 * c) hx1 rfl (by omega) e3
  subst r3
  replace hf := jite hf
  rcases hf with ⟨c4, hf⟩ | ⟨c4, hf⟩
  · skip
    -- leaf 0: F_X12_readRing_171 n a0 x1 x6 x7 p153 v158 (0 : Int32) h151
    rw [h1, nI_cl (by omega)] at o1
    have f1 : frM a0 [1] [] (oc h) (oc h151) := by rw [o1]; exact frM_c (by decide)
    obtain ⟨a1, a2, a3, a4⟩ := E_X12_readRing_171 (c := c) (mS_fr M f1 (by decide) (by decide)) hx1 hc rfl rfl hf
    refine ⟨a1, ?_, frM_tr f1 a3, a4.trans z1⟩
    rw [a2, o1, wl_w, b01, if_pos c4]
  · skip
    -- leaf 1: F_X12_readRing_171 n a0 x1 x6 x7 p153 v158 (1 : Int32) h151
    rw [h1, nI_cl (by omega)] at o1
    have f1 : frM a0 [1] [] (oc h) (oc h151) := by rw [o1]; exact frM_c (by decide)
    obtain ⟨a1, a2, a3, a4⟩ := E_X12_readRing_171 (c := c) (mS_fr M f1 (by decide) (by decide)) hx1 hc rfl rfl hf
    refine ⟨a1, ?_, frM_tr f1 a3, a4.trans z1⟩
    rw [a2, o1, wl_w, b01, if_neg c4]
theorem E_X12_readRing_117 {c : Nat} {W : jWd} {n : Nat} {a0 : Nat} {x1 : Int32} {x2 : Int32} {x3 : Int32} {x4 : Int32} {x5 : Int32} {x6 : Int32} {s0 : Int32} {h : jH} {q : Int32 × jH} (M : mS (oc h) a0) (hW : wl (oc h) a0 = W) (K : wOK W) (ec : cN W = c) (hx1 : x1 = nI c) (hc : c < 8) (h0 : 0 ≤ s0.toInt) (hf : F_X12_readRing_117 n a0 x1 x2 x3 x4 x5 x6 s0 h = some q) : q.1 = 1 ∧ wl (oc q.2) a0 = rgW W x2 x3 (b01 x4) (b01 x5) x6 s0 ∧ frM a0 [1] [] (oc h) (oc q.2) ∧ q.2.1 = h.1 := by
  unfold F_X12_readRing_117 at hf
  have hc8 : cN W < 8 := by omega
  replace hf := jite hf
  rcases hf with ⟨c1, hf⟩ | ⟨c1, hf⟩
  · skip
    replace hf := jbind hf
    obtain ⟨h129, e2, hf⟩ := hf
    replace e2 := (jcv_o e2).2
    obtain ⟨G1, G2, G3⟩ := E_X12_hangs M hW K hc8 e2
    have M2 := mS_fr M G2 (by decide) (by decide)
    replace hf := jbind hf
    obtain ⟨p133, e3, hf⟩ := hf
    have r3 := oc_gR e3
    rw [M2.1] at r3
    cases r3
    clear e3
    replace hf := jbind hf
    obtain ⟨v138, e4, hf⟩ := hf
    have r4 := E_X12_at (i := c) (j := 2) (t := 13 + 8 * c) hx1 rfl (by omega) e4
    subst r4
    replace hf := jite hf
    rcases hf with ⟨c5, hf⟩ | ⟨c5, hf⟩
    · skip
      -- leaf 00: F_X12_readRing_151 n a0 x1 x5 x6 s0 p133 v138 (0 : Int32) h129
      obtain ⟨a1, a2, a3, a4⟩ := E_X12_readRing_151 (c := c) M2 hx1 hc rfl rfl hf
      refine ⟨a1, ?_, frM_tr G2 a3, a4.trans G3⟩
      have eb : b01 x4 = 0 := if_pos c5
      rw [a2, G1, rgW, ec, eb]
    · skip
      -- leaf 01: F_X12_readRing_151 n a0 x1 x5 x6 s0 p133 v138 (1 : Int32) h129
      obtain ⟨a1, a2, a3, a4⟩ := E_X12_readRing_151 (c := c) M2 hx1 hc rfl rfl hf
      refine ⟨a1, ?_, frM_tr G2 a3, a4.trans G3⟩
      have eb : b01 x4 = 1 := if_neg c5
      rw [a2, G1, rgW, ec, eb]
  · skip
    cases hf
    -- leaf 1: ((0 : Int32), h)
    exact absurd (by rw [Int32.le_iff_toInt_le]; exact h0) c1
theorem E_X12_readRing_88 {b : Nat → Int32} {L : Nat} {m : Nat} {T : Nat → Int32 × Int32} {st : Nat → Nat} {en : Nat → Nat} {k : Nat} {c : Nat} {W : jWd} {n : Nat} {a0 : Nat} {x1 : Int32} {x2 : Int32} {x3 : Int32} {x4 : Int32} {x5 : Int32} {s0 : Int32} {h : jH} {q : Int32 × jH} (H : tkE b L m T st en) (R : rc (oc h) a0 b L st k) (hW : wl (oc h) a0 = W) (K : wOK W) (ec : cN W = c) (hx1 : x1 = nI c) (hc : c < 8) (h0 : 0 ≤ s0.toInt) (hf : F_X12_readRing_88 n a0 x1 x2 x3 x4 x5 s0 h = some q) : lnR (oc q.2) q.1 a0 b L st (match rdMore T 4 9 k with | .inr f => .inr f | .inl d => .inl (d.1, rgW W x2 x3 (b01 x4) (b01 x5) s0 d.2)) ∧ frM a0 [1] [10, 12] (oc h) (oc q.2) ∧ q.2.1 = h.1 := by
  unfold F_X12_readRing_88 at hf
  replace hf := jite hf
  rcases hf with ⟨c1, hf⟩ | ⟨c1, hf⟩
  · skip
    replace hf := jbind hf
    obtain ⟨q100, e2, hf⟩ := hf
    replace e2 := (jcv_o e2).2
    obtain ⟨d2, g2, f2, z2⟩ := T_passes (w := 4) H (by decide) R e2
    replace hf := jite hf
    rcases hf with ⟨c3, hf⟩ | ⟨c3, hf⟩
    · skip
      -- leaf 00: F_X12_readRing_117 n a0 x1 x2 x3 x4 x5 s0 (0 : Int32) q100.2
      rcases d2 with ⟨w, -⟩ | ⟨-, y2, R2⟩
      · exact absurd (c3.symm.trans w) (by decide)
      obtain ⟨a1, a2, a3, a4⟩ := E_X12_readRing_117 (c := c) (W := W) (rc_mS R2) (by rw [wl_f f2 (by decide)]; exact hW) K ec hx1 hc (by decide) hf
      have e9 : rdMore T 4 9 k = .inl (k, 0) := by unfold rdMore; exact if_neg y2
      rw [e9]
      exact ⟨lnR_l rfl ⟨a1, rc_fr R2 a3 (by decide) (by decide) (by decide) (by decide) (by decide), a2⟩, frM_tr (frM_le f2 (by decide) (by decide)) (frM_le a3 (by decide) (by decide)), a4.trans z2⟩
    · skip
      replace hf := jbind hf
      obtain ⟨q110, e4, hf⟩ := hf
      replace e4 := (jcv_o e4).2
      rcases d2 with ⟨-, y2, R2⟩ | ⟨w, -⟩
      rotate_left
      · exact absurd w c3
      obtain ⟨d4, M4, g4, f4, z4⟩ := T_number H (by decide) R2 e4
      -- leaf 01: F_X12_readRing_117 n a0 x1 x2 x3 x4 x5 s0 q110.1 q110.2
      have f24 := frM_tr f2 f4
      rcases d4 with ⟨v4, y4, R4⟩ | ⟨v4, y4⟩
      · have b4 := y4.2.1
        rw [Int32.le_iff_toInt_le, ← v4] at b4
        obtain ⟨a1, a2, a3, a4⟩ := E_X12_readRing_117 (c := c) (W := W) (rc_mS R4) (by rw [wl_f f24 (by decide)]; exact hW) K ec hx1 hc b4 hf
        have e9 : rdMore T 4 9 k = .inl (k + 2, (T (k + 1)).2) := by unfold rdMore; rw [show (T k).1 = 4 from y2, if_pos rfl, if_pos y4]
        rw [e9]
        rw [v4] at a2
        exact ⟨lnR_l rfl ⟨a1, rc_fr R4 a3 (by decide) (by decide) (by decide) (by decide) (by decide), a2⟩, frM_tr (frM_le f24 (by decide) (by decide)) (frM_le a3 (by decide) (by decide)), a4.trans (z4.trans z2)⟩
      · have e8 := no_117 v4 hf
        have e9 : rdMore T 4 9 k = .inr (k + 1) := by unfold rdMore; rw [show (T k).1 = 4 from y2, if_pos rfl, if_neg y4]
        rw [e9, e8]
        exact ⟨lnR_r rfl ⟨rfl, g4, M4⟩, (frM_le f24 (by decide) (by decide)), z4.trans z2⟩
  · skip
    cases hf
    -- leaf 1: ((0 : Int32), h)
    exact absurd (by rw [Int32.le_iff_toInt_le]; exact h0) c1
theorem E_X12_readRing_45 {b : Nat → Int32} {L : Nat} {m : Nat} {T : Nat → Int32 × Int32} {st : Nat → Nat} {en : Nat → Nat} {k : Nat} {c : Nat} {W : jWd} {n : Nat} {a0 : Nat} {x1 : Int32} {x2 : Int32} {s0 : Int32} {h : jH} {q : Int32 × jH} (H : tkE b L m T st en) (R : rc (oc h) a0 b L st k) (hW : wl (oc h) a0 = W) (K : wOK W) (ec : cN W = c) (hx1 : x1 = nI c) (hc : c < 8) (h0 : 0 ≤ s0.toInt) (hf : F_X12_readRing_45 n a0 x1 x2 s0 h = some q) : lnR (oc q.2) q.1 a0 b L st (match rdMore T 3 99 (tkF T 7 (tkF T 8 k).1).1 with | .inr f => .inr f | .inl c2 => match rdMore T 4 9 c2.1 with | .inr f => .inr f | .inl d => .inl (d.1, rgW W x2 s0 (tkF T 8 k).2 (tkF T 7 (tkF T 8 k).1).2 c2.2 d.2)) ∧ frM a0 [1] [10, 12] (oc h) (oc q.2) ∧ q.2.1 = h.1 := by
  unfold F_X12_readRing_45 at hf
  replace hf := jite hf
  rcases hf with ⟨c1, hf⟩ | ⟨c1, hf⟩
  · skip
    replace hf := jbind hf
    obtain ⟨q55, e2, hf⟩ := hf
    replace e2 := (jcv_o e2).2
    obtain ⟨d2, g2, f2, z2⟩ := T_passes (w := 8) H (by decide) R e2
    obtain ⟨v2, R2⟩ := T_tkF (w := 8) d2
    replace hf := jbind hf
    obtain ⟨q63, e3, hf⟩ := hf
    replace e3 := (jcv_o e3).2
    obtain ⟨d3, g3, f3, z3⟩ := T_passes (w := 7) H (by decide) R2 e3
    obtain ⟨v3, R3⟩ := T_tkF (w := 7) d3
    replace hf := jbind hf
    obtain ⟨q71, e4, hf⟩ := hf
    replace e4 := (jcv_o e4).2
    obtain ⟨d4, g4, f4, z4⟩ := T_passes (w := 3) H (by decide) R3 e4
    have f24 := frM_tr f2 (frM_tr f3 f4)
    replace hf := jite hf
    rcases hf with ⟨c5, hf⟩ | ⟨c5, hf⟩
    · skip
      -- leaf 00: F_X12_readRing_88 n a0 x1 x2 s0 q55.1 q63.1 (0 : Int32) q71.2
      rcases d4 with ⟨w, -⟩ | ⟨-, y4, R4⟩
      · exact absurd (c5.symm.trans w) (by decide)
      obtain ⟨a1, a2, a3⟩ := E_X12_readRing_88 (c := c) (W := W) H R4 (by rw [wl_f f24 (by decide)]; exact hW) K ec hx1 hc (by decide) hf
      have e9 : rdMore T 3 99 (tkF T 7 (tkF T 8 k).1).1 = .inl ((tkF T 7 (tkF T 8 k).1).1, 0) := by unfold rdMore; exact if_neg y4
      rw [e9]
      rw [v2, v3, b01_t, b01_t] at a1
      exact ⟨a1, frM_tr (frM_le f24 (by decide) (by decide)) a2, a3.trans (z4.trans (z3.trans z2))⟩
    · skip
      replace hf := jbind hf
      obtain ⟨q81, e6, hf⟩ := hf
      replace e6 := (jcv_o e6).2
      rcases d4 with ⟨-, y4, R4⟩ | ⟨w, -⟩
      rotate_left
      · exact absurd w c5
      obtain ⟨d6, M6, g6, f6, z6⟩ := T_number H (by decide) R4 e6
      -- leaf 01: F_X12_readRing_88 n a0 x1 x2 s0 q55.1 q63.1 q81.1 q81.2
      have f26 := frM_tr f24 f6
      rcases d6 with ⟨v6, y6, R6⟩ | ⟨v6, y6⟩
      · have b6 := y6.2.1
        rw [Int32.le_iff_toInt_le, ← v6] at b6
        obtain ⟨a1, a2, a3⟩ := E_X12_readRing_88 (c := c) (W := W) H R6 (by rw [wl_f f26 (by decide)]; exact hW) K ec hx1 hc b6 hf
        have e9 : rdMore T 3 99 (tkF T 7 (tkF T 8 k).1).1 = .inl ((tkF T 7 (tkF T 8 k).1).1 + 2, (T ((tkF T 7 (tkF T 8 k).1).1 + 1)).2) := by unfold rdMore; rw [show (T (tkF T 7 (tkF T 8 k).1).1).1 = 3 from y4, if_pos rfl, if_pos y6]
        rw [e9]
        rw [v2, v3, v6, b01_t, b01_t] at a1
        exact ⟨a1, frM_tr (frM_le f26 (by decide) (by decide)) a2, a3.trans (z6.trans (z4.trans (z3.trans z2)))⟩
      · have e8 := no_88 v6 hf
        have e9 : rdMore T 3 99 (tkF T 7 (tkF T 8 k).1).1 = .inr ((tkF T 7 (tkF T 8 k).1).1 + 1) := by unfold rdMore; rw [show (T (tkF T 7 (tkF T 8 k).1).1).1 = 3 from y4, if_pos rfl, if_neg y6]
        rw [e9, e8]
        exact ⟨lnR_r rfl ⟨rfl, g6, M6⟩, (frM_le f26 (by decide) (by decide)), z6.trans (z4.trans (z3.trans z2))⟩
  · skip
    cases hf
    -- leaf 1: ((0 : Int32), h)
    exact absurd (by rw [Int32.le_iff_toInt_le]; exact h0) c1
theorem E_X12_readRing {b : Nat → Int32} {L : Nat} {m : Nat} {T : Nat → Int32 × Int32} {st : Nat → Nat} {en : Nat → Nat} {k : Nat} {W : jWd} {n : Nat} {a0 : Nat} {h : jH} {q : Int32 × jH} (H : tkE b L m T st en) (R : rw2 (oc h) a0 b L st k) (hW : wl (oc h) a0 = W) (K : wOK W) (eT : (T k).1 = nI 0) (hf : F_X12_readRing n a0 h = some q) : lnR (oc q.2) q.1 a0 b L st (if W 0 = 8 then .inr k else rdRing T W (k + 1)) ∧ frM a0 [1] [10, 12] (oc h) (oc q.2) ∧ q.2.1 = h.1 := by
  unfold F_X12_readRing at hf
  have M := rw_mS R
  replace hf := jbind hf
  obtain ⟨v1, e1, hf⟩ := hf
  replace e1 := (jcv_o e1).2
  have r1 := E_X12_rings M e1
  subst r1
  replace hf := jite hf
  rcases hf with ⟨c2, hf⟩ | ⟨c2, hf⟩
  · skip
    cases hf
    -- leaf 0: ((0 : Int32), h)
    rw [hW] at c2
    rw [if_pos c2]
    obtain ⟨e, -, -, g⟩ := R
    exact ⟨lnR_r rfl ⟨rfl, g, M⟩, frM_rfl, rfl⟩
  · skip
    replace hf := jbind hf
    obtain ⟨v17, e3, hf⟩ := hf
    replace e3 := (jcv_o e3).2
    have n8 : ¬ W 0 = 8 := fun z => c2 (by rw [hW]; exact z)
    have hc8 := cN_lt K n8
    have k0 := K.1
    have ec : (cN W : Int) = (W 0).toInt := by unfold cN; omega
    have e0 : wl (oc h) a0 0 = nI (cN W) := by rw [hW]; exact nI_k ec.symm
    have R1 := rw_n H (w := 0) (by decide) R eT
    have l31 := leW_0 K
    have r3 := E_X12_leastPlace M hW K e3
    subst r3
    replace hf := jbind hf
    obtain ⟨v21, e4, hf⟩ := hf
    replace e4 := (jcv_o e4).2
    have r4 := E_X12_mostPlace M hW K e4
    subst r4
    replace hf := jbind hf
    obtain ⟨q24, e5, hf⟩ := hf
    replace e5 := (jcv_o e5).2
    obtain ⟨d5, M5, f5, z5⟩ := T_after (w := 17) H (by decide) (by omega) R1 e5
    replace hf := jite hf
    rcases hf with ⟨c6, hf⟩ | ⟨c6, hf⟩
    · skip
      replace hf := jbind hf
      obtain ⟨q42, e7, hf⟩ := hf
      replace e7 := (jcv_o e7).2
      have q5 : 0 ≤ q24.1.toInt := by rw [Int32.le_iff_toInt_le] at c6; exact c6
      have lm1 : (-1 : Int32).toInt = -1 := rfl
      rcases d5 with ⟨t5, v5, y5, R5⟩ | ⟨-, w, -⟩ | ⟨-, -, w, -⟩
      rotate_left
      · rw [w] at q5; omega
      · rw [w] at q5; omega
      obtain ⟨d7, M7, f7, z7⟩ := T_after (w := 18) H (by decide) (by decide) R5 e7
      have f57 := frM_tr f5 f7
      -- leaf 10: F_X12_readRing_45 n a0 v1 q24.1 q42.1 q42.2
      rw [if_neg n8]
      unfold rdRing
      rw [show (T (k + 1)).1 = 17 from t5, if_pos rfl, if_pos y5]
      rcases d7 with ⟨t7, v7, y7, R7⟩ | ⟨t7, w, g7⟩ | ⟨t7, y7, w, g7⟩
      · have b7 := y7.2.1
        rw [Int32.le_iff_toInt_le, ← v7, show (1 : Int32).toInt = 1 from rfl] at b7
        obtain ⟨a1, a2, a3⟩ := E_X12_readRing_45 (c := cN W) (W := W) H R7 (by rw [wl_f f57 (by decide)]; exact hW) K rfl e0 hc8 (by omega) hf
        rw [v5, v7] at a1
        rw [show (T (k + 1 + 2)).1 = 18 from t7, if_pos rfl, if_pos y7]
        exact ⟨a1, frM_tr (frM_le f57 (by decide) (by decide)) a2, a3.trans (z7.trans z5)⟩
      · rw [no_45 w hf, if_neg (show ¬ (T (k + 1 + 2)).1 = 18 from t7)]
        exact ⟨lnR_r rfl ⟨rfl, g7, M7⟩, (frM_le f57 (by decide) (by decide)), z7.trans z5⟩
      · rw [no_45 w hf, show (T (k + 1 + 2)).1 = 18 from t7, if_pos rfl, if_neg y7]
        exact ⟨lnR_r rfl ⟨rfl, g7, M7⟩, (frM_le f57 (by decide) (by decide)), z7.trans z5⟩
    · skip
      -- leaf 11: F_X12_readRing_45 n a0 v1 q24.1 (- 1 : Int32) q24.2
      rw [if_neg n8]
      unfold rdRing
      rw [no_45 rfl hf]
      rcases d5 with ⟨t5, v5, y5, R5⟩ | ⟨t5, w, g5⟩ | ⟨t5, y5, w, g5⟩
      · exfalso
        have := y5.2.1
        rw [Int32.le_iff_toInt_le, ← v5] at this
        exact c6 (by rw [Int32.le_iff_toInt_le]; have l0 : (0 : Int32).toInt = 0 := rfl; omega)
      · rw [if_neg (show ¬ (T (k + 1)).1 = 17 from t5)]
        exact ⟨lnR_r rfl ⟨rfl, g5, M5⟩, (frM_le f5 (by decide) (by decide)), z5⟩
      · rw [show (T (k + 1)).1 = 17 from t5, if_pos rfl, if_neg y5]
        exact ⟨lnR_r rfl ⟨rfl, g5, M5⟩, (frM_le f5 (by decide) (by decide)), z5⟩
end
section
/-! a line of a pole's text, the reference -/
theorem E_X12_readNumber {b : Nat → Int32} {L : Nat} {m : Nat} {T : Nat → Int32 × Int32} {st : Nat → Nat} {en : Nat → Nat} {k : Nat} {W : jWd} {i : Nat} {n : Nat} {a0 : Nat} {x1 : Int32} {x2 : Int32} {x3 : Int32} {h : jH} {q : Int32 × jH} (H : tkE b L m T st en) (R : rc (oc h) a0 b L st k) (hW : wl (oc h) a0 = W) (hi : i < 11) (h1 : x1 = nI i) (h2 : 0 ≤ x2.toInt) (h3 : x3.toInt ≤ 999) (hf : F_X12_readNumber n a0 x1 x2 x3 h = some q) : lnR (oc q.2) q.1 a0 b L st (rdNum T k x2 x3 (fun v => upd W i v)) ∧ frM a0 [1] [10, 12] (oc h) (oc q.2) ∧ q.2.1 = h.1 := by
  unfold F_X12_readNumber at hf
  replace hf := jbind hf
  obtain ⟨q3, e1, hf⟩ := hf
  replace e1 := (jcv_o e1).2
  obtain ⟨d1, M1, g1, f1, z1⟩ := T_number H h3 R e1
  replace hf := jbind hf
  obtain ⟨p9, e2, hf⟩ := hf
  have r2 := oc_gR e2
  rw [M1.1] at r2
  cases r2
  clear e2
  replace hf := jite hf
  rcases hf with ⟨c3, hf⟩ | ⟨c3, hf⟩
  · skip
    replace hf := jbind hf
    obtain ⟨h29, e4, hf⟩ := hf
    obtain ⟨o4, z4, y4⟩ := oc_as e4
    rw [jnar0] at o4
    clear e4
    replace hf := jite hf
    rcases hf with ⟨c5, hf⟩ | ⟨c5, hf⟩
    · skip
      cases hf
      -- leaf 00: ((0 : Int32), h29)
      rw [Int32.le_iff_toInt_le] at c3
      rw [Int32.lt_iff_toInt_lt] at c5
      omega
    · skip
      cases hf
      -- leaf 01: ((1 : Int32), h29)
      rcases d1 with ⟨v, y, R9⟩ | ⟨v, y⟩
      rotate_left
      · rw [v] at c3
        exact absurd c3 (by decide)
      rw [h1, nI_cl (by omega), v] at o4
      have f4 : frM a0 [1] [] (oc q3.2) (oc h29) := by rw [o4]; exact frM_c (by decide)
      have w4 : wl (oc h29) a0 = upd W i (T k).2 := by rw [o4, wl_w, wl_f f1 (by decide), hW]
      exact ⟨lnR_l (if_pos y) ⟨rfl, rc_fr R9 f4 (by decide) (by decide) (by decide) (by decide) (by decide), w4⟩, frM_tr (frM_le f1 (by decide) (by decide)) (frM_le f4 (by decide) (by decide)), z4.trans z1⟩
  · skip
    replace hf := jbind hf
    obtain ⟨p19, e6, hf⟩ := hf
    have r6 := oc_gR e6
    rw [M1.1] at r6
    cases r6
    clear e6
    replace hf := jbind hf
    obtain ⟨v23, e7, hf⟩ := hf
    obtain ⟨r7, y7⟩ := oc_al e7
    subst r7
    clear e7
    replace hf := jbind hf
    obtain ⟨h29, e8, hf⟩ := hf
    obtain ⟨o8, z8, y8⟩ := oc_as e8
    rw [jnar0] at o8
    clear e8
    replace hf := jite hf
    rcases hf with ⟨c9, hf⟩ | ⟨c9, hf⟩
    · skip
      cases hf
      -- leaf 10: ((0 : Int32), h29)
      have e3 : oi (oc h29) a0 12 = oi (oc q3.2) a0 12 := by rw [o8, oi_ne (Or.inl (by omega))]
      have f8 : frM a0 [1] [] (oc q3.2) (oc h29) := by rw [o8]; exact frM_c (by decide)
      rcases d1 with ⟨v, y, R9⟩ | ⟨v, y⟩
      · exfalso
        have := y.2.1
        rw [Int32.le_iff_toInt_le, ← v] at this
        rw [Int32.lt_iff_toInt_lt] at c9
        have l0 : (0 : Int32).toInt = 0 := rfl
        omega
      exact ⟨lnR_r (if_neg y) ⟨rfl, e3.trans g1, mS_fr M1 f8 (by decide) (by decide)⟩, frM_tr (frM_le f1 (by decide) (by decide)) (frM_le f8 (by decide) (by decide)), z8.trans z1⟩
    · skip
      cases hf
      -- leaf 11: ((1 : Int32), h29)
      rw [Int32.le_iff_toInt_le] at c3
      rw [Int32.lt_iff_toInt_lt] at c9
      omega
theorem E_X12_readCaught {b : Nat → Int32} {L : Nat} {m : Nat} {T : Nat → Int32 × Int32} {st : Nat → Nat} {en : Nat → Nat} {k : Nat} {W : jWd} {n : Nat} {a0 : Nat} {h : jH} {q : Int32 × jH} (H : tkE b L m T st en) (R : rc (oc h) a0 b L st k) (hW : wl (oc h) a0 = W) (K : wOK W) (hf : F_X12_readCaught n a0 h = some q) : lnR (oc q.2) q.1 a0 b L st (rdNum T k 0 (W 0 - 2) (fun v => upd W (18 + 8 * v.toInt.toNat) 1)) ∧ frM a0 [1] [10, 12] (oc h) (oc q.2) ∧ q.2.1 = h.1 := by
  unfold F_X12_readCaught at hf
  have k0 := K.1
  have M := rc_mS R
  replace hf := jbind hf
  obtain ⟨v3, e1, hf⟩ := hf
  replace e1 := (jcv_o e1).2
  have r1 := E_X12_lastRing M e1
  rw [show wl (oc h) a0 0 = W 0 by rw [hW]] at r1
  subst r1
  have l1 : (1 : Int32).toInt = 1 := rfl
  have l2 : (2 : Int32).toInt = 2 := rfl
  have e2a : (W 0 - 2).toInt = (W 0).toInt - 2 := by rw [jsub (by omega) (by omega)]; rfl
  have e1a : (W 0 - 1).toInt = (W 0).toInt - 1 := by rw [jsub (by omega) (by omega)]; rfl
  have es : (W 0 - 1) - 1 = W 0 - 2 := Int32.toInt_inj.mp (by rw [e2a, jsub (by omega) (by omega), e1a]; omega)
  replace hf := jbind hf
  obtain ⟨q8, e2, hf⟩ := hf
  replace e2 := (jcv_o e2).2
  rw [es] at e2
  obtain ⟨d2, M2, g2, f2, z2⟩ := T_number H (by omega) R e2
  replace hf := jite hf
  rcases hf with ⟨c3, hf⟩ | ⟨c3, hf⟩
  · skip
    replace hf := jbind hf
    obtain ⟨p19, e4, hf⟩ := hf
    have r4 := oc_gR e4
    rw [M2.1] at r4
    cases r4
    clear e4
    replace hf := jbind hf
    obtain ⟨v25, e5, hf⟩ := hf
    rcases d2 with ⟨v, y, R9⟩ | ⟨v, y⟩
    rotate_left
    · rw [v] at c3
      exact absurd c3 (by decide)
    have y2 := y.2.2
    have y1 := y.2.1
    rw [Int32.le_iff_toInt_le] at y1 y2
    have r5 := E_X12_at (i := q8.1.toInt.toNat) (j := 7) (t := 18 + 8 * q8.1.toInt.toNat) (nI_k (by rw [v]; have l0 : (0 : Int32).toInt = 0 := rfl; omega)) rfl (by omega) e5
    subst r5
    replace hf := jbind hf
    obtain ⟨h29, e6, hf⟩ := hf
    obtain ⟨o6, z6, y6⟩ := oc_as e6
    rw [jnar0] at o6
    clear e6
    cases hf
    -- leaf 0: ((1 : Int32), h29)
    rw [nI_cl (by rw [v]; omega), v] at o6
    have f4 : frM a0 [1] [] (oc q8.2) (oc h29) := by rw [o6]; exact frM_c (by decide)
    have w4 : wl (oc h29) a0 = upd W (18 + 8 * (T k).2.toInt.toNat) 1 := by rw [o6, wl_w, wl_f f2 (by decide), hW]
    exact ⟨lnR_l (if_pos y) ⟨rfl, rc_fr R9 f4 (by decide) (by decide) (by decide) (by decide) (by decide), w4⟩, frM_tr (frM_le f2 (by decide) (by decide)) (frM_le f4 (by decide) (by decide)), z6.trans z2⟩
  · skip
    cases hf
    -- leaf 1: ((0 : Int32), q8.2)
    rcases d2 with ⟨v, y, R9⟩ | ⟨v, y⟩
    · exfalso
      have := y.2.1
      rw [Int32.le_iff_toInt_le, ← v] at this
      rw [Int32.le_iff_toInt_le] at c3
      have l0 : (0 : Int32).toInt = 0 := rfl
      omega
    exact ⟨lnR_r (if_neg y) ⟨rfl, g2, M2⟩, (frM_le f2 (by decide) (by decide)), z2⟩
theorem E_X12_readChair {b : Nat → Int32} {L : Nat} {m : Nat} {T : Nat → Int32 × Int32} {st : Nat → Nat} {en : Nat → Nat} {k : Nat} {W : jWd} {n : Nat} {a0 : Nat} {h : jH} {q : Int32 × jH} (H : tkE b L m T st en) (R : rc (oc h) a0 b L st k) (hW : wl (oc h) a0 = W) (hf : F_X12_readChair n a0 h = some q) : lnR (oc q.2) q.1 a0 b L st (rdNum T k 0 31 (fun v => upd W 7 (chV (W 7) v.toInt.toNat 1))) ∧ frM a0 [1] [10, 12] (oc h) (oc q.2) ∧ q.2.1 = h.1 := by
  unfold F_X12_readChair at hf
  replace hf := jbind hf
  obtain ⟨q4, e1, hf⟩ := hf
  replace e1 := (jcv_o e1).2
  obtain ⟨d1, M1, g1, f1, z1⟩ := T_number H (by decide) R e1
  replace hf := jite hf
  rcases hf with ⟨c2, hf⟩ | ⟨c2, hf⟩
  · skip
    replace hf := jbind hf
    obtain ⟨p15, e3, hf⟩ := hf
    have r3 := oc_gR e3
    rw [M1.1] at r3
    cases r3
    clear e3
    replace hf := jbind hf
    obtain ⟨v21, e4, hf⟩ := hf
    obtain ⟨r4, y4⟩ := oc_al e4
    rw [show (7 : Int32).toNatClampNeg = 7 from rfl] at r4
    subst r4
    clear e4
    replace hf := jbind hf
    obtain ⟨h26, e5, hf⟩ := hf
    obtain ⟨o5, z5, y5⟩ := oc_as e5
    rw [jnar0] at o5
    rw [show (7 : Int32).toNatClampNeg = 7 from rfl] at o5
    clear e5
    cases hf
    -- leaf 0: ((1 : Int32), h26)
    rcases d1 with ⟨v, y, R9⟩ | ⟨v, y⟩
    rotate_left
    · rw [v] at c2
      exact absurd c2 (by decide)
    have y2 := y.2.2
    have y1 := y.2.1
    rw [Int32.le_iff_toInt_le] at y1 y2
    have l31 : (31 : Int32).toInt = 31 := rfl
    have l0 : (0 : Int32).toInt = 0 := rfl
    have en : q4.1 = nI q4.1.toInt.toNat := nI_k (by rw [v]; omega)
    have f4 : frM a0 [1] [] (oc q4.2) (oc h26) := by rw [o5]; exact frM_c (by decide)
    have e7 : oi (oc q4.2) (a0 + 1) 7 = W 7 := by rw [← hW, ← wl_f f1 (by decide)]
    have w4 : wl (oc h26) a0 = upd W 7 (chV (W 7) (T k).2.toInt.toNat 1) := by
      rw [o5, wl_w, wl_f f1 (by decide), hW]
      congr 1
      show oi (oc q4.2) (a0 + 1) 7 ||| _ = _
      rw [e7, en, v]
      rfl
    exact ⟨lnR_l (if_pos y) ⟨rfl, rc_fr R9 f4 (by decide) (by decide) (by decide) (by decide) (by decide), w4⟩, frM_tr (frM_le f1 (by decide) (by decide)) (frM_le f4 (by decide) (by decide)), z5.trans z1⟩
  · skip
    cases hf
    -- leaf 1: ((0 : Int32), q4.2)
    rcases d1 with ⟨v, y, R9⟩ | ⟨v, y⟩
    · exfalso
      have := y.2.1
      rw [Int32.le_iff_toInt_le, ← v] at this
      rw [Int32.le_iff_toInt_le] at c2
      have l0 : (0 : Int32).toInt = 0 := rfl
      omega
    exact ⟨lnR_r (if_neg y) ⟨rfl, g1, M1⟩, (frM_le f1 (by decide) (by decide)), z1⟩
theorem E_X12_readPoleLine {b : Nat → Int32} {L : Nat} {m : Nat} {T : Nat → Int32 × Int32} {st : Nat → Nat} {en : Nat → Nat} {k : Nat} {W : jWd} {n : Nat} {a0 : Nat} {h : jH} {q : Int32 × jH} (H : tkE b L m T st en) (R : rw2 (oc h) a0 b L st k) (hW : wl (oc h) a0 = W) (K : wOK W) (hf : F_X12_readPoleLine n a0 h = some q) : lnR (oc q.2) q.1 a0 b L st (rdPole T W k) ∧ frM a0 [1] [10, 12] (oc h) (oc q.2) ∧ q.2.1 = h.1 := by
  unfold F_X12_readPoleLine at hf
  replace hf := jbind hf
  obtain ⟨v3, e1, hf⟩ := hf
  replace e1 := (jcv_o e1).2
  have r1 := T_isWord (w := 0) H (by decide) R e1
  replace hf := jite hf
  rcases hf with ⟨c2, hf⟩ | ⟨c2, hf⟩
  · skip
    replace hf := jbind hf
    obtain ⟨v17, e3, hf⟩ := hf
    replace e3 := (jcv_o e3).2
    have r3 := T_isWord (w := 19) H (by decide) R e3
    replace hf := jite hf
    rcases hf with ⟨c4, hf⟩ | ⟨c4, hf⟩
    · skip
      replace hf := jbind hf
      obtain ⟨v31, e5, hf⟩ := hf
      replace e5 := (jcv_o e5).2
      have r5 := T_isWord (w := 20) H (by decide) R e5
      replace hf := jite hf
      rcases hf with ⟨c6, hf⟩ | ⟨c6, hf⟩
      · skip
        replace hf := jbind hf
        obtain ⟨v45, e7, hf⟩ := hf
        replace e7 := (jcv_o e7).2
        have r7 := T_isWord (w := 21) H (by decide) R e7
        replace hf := jite hf
        rcases hf with ⟨c8, hf⟩ | ⟨c8, hf⟩
        · skip
          replace hf := jbind hf
          obtain ⟨v63, e9, hf⟩ := hf
          replace e9 := (jcv_o e9).2
          have r9 := T_isWord (w := 22) H (by decide) R e9
          replace hf := jite hf
          rcases hf with ⟨c10, hf⟩ | ⟨c10, hf⟩
          · skip
            replace hf := jbind hf
            obtain ⟨v82, e11, hf⟩ := hf
            replace e11 := (jcv_o e11).2
            have r11 := T_isWord (w := 5) H (by decide) R e11
            replace hf := jite hf
            rcases hf with ⟨c12, hf⟩ | ⟨c12, hf⟩
            · skip
              replace hf := jbind hf
              obtain ⟨v100, e13, hf⟩ := hf
              replace e13 := (jcv_o e13).2
              have r13 := T_isWord (w := 6) H (by decide) R e13
              replace hf := jite hf
              rcases hf with ⟨c14, hf⟩ | ⟨c14, hf⟩
              · skip
                cases hf
                -- leaf 0000000: ((0 : Int32), h)
                have n : ∀ w : Nat, w = 0 ∨ w = 19 ∨ w = 20 ∨ w = 21 ∨ w = 22 ∨ w = 5 ∨ w = 6 → (T k).1 ≠ nI w := fun w hw z => by
                  rcases hw with y | y | y | y | y | y | y <;> subst y
                  · exact absurd ((r1.2.mpr z).symm.trans c2) (by decide)
                  · exact absurd ((r3.2.mpr z).symm.trans c4) (by decide)
                  · exact absurd ((r5.2.mpr z).symm.trans c6) (by decide)
                  · exact absurd ((r7.2.mpr z).symm.trans c8) (by decide)
                  · exact absurd ((r9.2.mpr z).symm.trans c10) (by decide)
                  · exact absurd ((r11.2.mpr z).symm.trans c12) (by decide)
                  · exact absurd ((r13.2.mpr z).symm.trans c14) (by decide)
                obtain ⟨e, Rb, -, g⟩ := R
                exact ⟨lnR_r (rdPole_x (n 0 (by decide)) (fun z => by
                  rcases z with y | y | y | y | y | y
                  · exact n 19 (by decide) y
                  · exact n 20 (by decide) y
                  · exact n 21 (by decide) y
                  · exact n 22 (by decide) y
                  · exact n 5 (by decide) y
                  · exact n 6 (by decide) y
                  )) ⟨rfl, g, Rb.1⟩, frM_rfl, rfl⟩
              · skip
                replace hf := jbind hf
                obtain ⟨q112, e15, hf⟩ := hf
                replace e15 := (jcv_o e15).2
                have eT : (T k).1 = nI 6 := r13.2.mp (r13.1.resolve_left c14)
                have R1 := rw_n H (by decide) R eT
                obtain ⟨d15, f15, z15⟩ := E_X12_readNumber (i := 4) H R1 hW (by decide) rfl (by decide) (by decide) e15
                replace hf := jite hf
                rcases hf with ⟨c16, hf⟩ | ⟨c16, hf⟩
                · skip
                  cases hf
                  -- leaf 00000010: ((0 : Int32), q112.2)
                  rw [rdPole_n (w := 6) eT (Or.inr (Or.inr (Or.inr (Or.inr (Or.inr rfl)))))]
                  rw [c16] at d15
                  exact ⟨d15, f15, z15⟩
                · skip
                  cases hf
                  -- leaf 00000011: ((1 : Int32), q112.2)
                  rw [rdPole_n (w := 6) eT (Or.inr (Or.inr (Or.inr (Or.inr (Or.inr rfl)))))]
                  have : q112.1 = 1 := by
                    rcases hR : rdNum T (k + 1) 0 999 (fun v => upd W 4 v) with p | f
                    · exact (d15.1 p hR).1
                    · exact absurd (d15.2 f hR).1 c16
                  rw [this] at d15
                  exact ⟨d15, f15, z15⟩
            · skip
              replace hf := jbind hf
              obtain ⟨q93, e17, hf⟩ := hf
              replace e17 := (jcv_o e17).2
              have eT : (T k).1 = nI 5 := r11.2.mp (r11.1.resolve_left c12)
              have R1 := rw_n H (by decide) R eT
              obtain ⟨d17, f17, z17⟩ := E_X12_readNumber (i := 3) H R1 hW (by decide) rfl (by decide) (by decide) e17
              replace hf := jite hf
              rcases hf with ⟨c18, hf⟩ | ⟨c18, hf⟩
              · skip
                cases hf
                -- leaf 0000010: (q93.1, q93.2)
                rw [rdPole_n (w := 5) eT (Or.inr (Or.inr (Or.inr (Or.inr (Or.inl rfl)))))]
                exact ⟨d17, f17, z17⟩
              · skip
                cases hf
          · skip
            replace hf := jbind hf
            obtain ⟨q75, e19, hf⟩ := hf
            replace e19 := (jcv_o e19).2
            have eT : (T k).1 = nI 22 := r9.2.mp (r9.1.resolve_left c10)
            have R1 := rw_n H (by decide) R eT
            obtain ⟨d19, f19, z19⟩ := E_X12_readNumber (i := 6) H R1 hW (by decide) rfl (by decide) (by decide) e19
            replace hf := jite hf
            rcases hf with ⟨c20, hf⟩ | ⟨c20, hf⟩
            · skip
              cases hf
              -- leaf 000010: (q75.1, q75.2)
              rw [rdPole_n (w := 22) eT (Or.inr (Or.inr (Or.inr (Or.inl rfl))))]
              exact ⟨d19, f19, z19⟩
            · skip
              cases hf
        · skip
          replace hf := jbind hf
          obtain ⟨q56, e21, hf⟩ := hf
          replace e21 := (jcv_o e21).2
          have eT : (T k).1 = nI 21 := r7.2.mp (r7.1.resolve_left c8)
          have R1 := rw_n H (by decide) R eT
          obtain ⟨d21, f21, z21⟩ := E_X12_readNumber (i := 5) H R1 hW (by decide) rfl (by decide) (by decide) e21
          replace hf := jite hf
          rcases hf with ⟨c22, hf⟩ | ⟨c22, hf⟩
          · skip
            cases hf
            -- leaf 00010: (q56.1, q56.2)
            rw [rdPole_n (w := 21) eT (Or.inr (Or.inr (Or.inl rfl)))]
            exact ⟨d21, f21, z21⟩
          · skip
            cases hf
      · skip
        replace hf := jbind hf
        obtain ⟨q38, e23, hf⟩ := hf
        replace e23 := (jcv_o e23).2
        have eT : (T k).1 = nI 20 := r5.2.mp (r5.1.resolve_left c6)
        have R1 := rw_n H (by decide) R eT
        obtain ⟨d23, f23, z23⟩ := E_X12_readChair H R1 hW e23
        replace hf := jite hf
        rcases hf with ⟨c24, hf⟩ | ⟨c24, hf⟩
        · skip
          cases hf
          -- leaf 0010: (q38.1, q38.2)
          rw [rdPole_n (w := 20) eT (Or.inr (Or.inl rfl))]
          exact ⟨d23, f23, z23⟩
        · skip
          cases hf
    · skip
      replace hf := jbind hf
      obtain ⟨q24, e25, hf⟩ := hf
      replace e25 := (jcv_o e25).2
      have eT : (T k).1 = nI 19 := r3.2.mp (r3.1.resolve_left c4)
      have R1 := rw_n H (by decide) R eT
      obtain ⟨d25, f25, z25⟩ := E_X12_readCaught H R1 hW K e25
      replace hf := jite hf
      rcases hf with ⟨c26, hf⟩ | ⟨c26, hf⟩
      · skip
        cases hf
        -- leaf 010: (q24.1, q24.2)
        rw [rdPole_n (w := 19) eT (Or.inl rfl)]
        exact ⟨d25, f25, z25⟩
      · skip
        cases hf
  · skip
    replace hf := jbind hf
    obtain ⟨q10, e27, hf⟩ := hf
    replace e27 := (jcv_o e27).2
    have eT : (T k).1 = nI 0 := r1.2.mp (r1.1.resolve_left c2)
    have R1 := rw_n H (by decide) R eT
    obtain ⟨d27, f27, z27⟩ := E_X12_readRing H R hW K eT e27
    replace hf := jite hf
    rcases hf with ⟨c28, hf⟩ | ⟨c28, hf⟩
    · skip
      cases hf
      -- leaf 10: (q10.1, q10.2)
      unfold rdPole
      rw [if_pos (show (T k).1 = 0 from eT)]
      exact ⟨d27, f27, z27⟩
    · skip
      cases hf
end
section
/-! all the lines of a text, as the reference reads them; ln tells what a line does, P what holds behind it -/
theorem th_n1 {b : Nat → Int32} {L s e : Nat} {t : Int32 × Int32} (h : thE b L s e t) : t.1 ≠ -1 := by
  rcases h with ⟨-, -, ⟨w, hw, t, -⟩ | ⟨t, -⟩⟩ | ⟨-, -, t, -⟩ | ⟨-, -, -, -, -, t⟩
  · rw [t]; exact fun z => nI_ng (x := -1) (show w < 1000 by omega) (by decide) z.symm
  · rw [t]; decide
  · rw [t]; decide
  · rw [t]
    split
    · decide
    · rename_i q
      intro z
      rw [z] at q
      exact q (by decide)
theorem tk_end {b : Nat → Int32} {L m : Nat} {T : Nat → Int32 × Int32} {st en : Nat → Nat} (H : tkE b L m T st en) (k : Nat) : st k = L ↔ (T k).1 = -1 := by
  rcases Nat.lt_or_ge k m with z | z
  · obtain ⟨a, c, -⟩ := H.2.2.1 k z
    exact ⟨fun y => by omega, fun y => absurd y (th_n1 c)⟩
  · exact ⟨fun _ => (H.2.2.2.1 k z).2, fun _ => (H.2.2.2.1 k z).1⟩
def lnG {S : Type} (P : jO → S → Nat → Nat → Prop) (O : jO) (v : Int32) (x : Nat) (b : Nat → Int32) (L : Nat) (st : Nat → Nat) (j : Nat) (r : (Nat × S) ⊕ Nat) : Prop :=
  (∀ p, r = .inl p → v = 1 ∧ rc O x b L st p.1 ∧ P O p.2 j p.1) ∧ (∀ f, r = .inr f → v = 0 ∧ oi O x 12 = nI (st f))
def lsG {S : Type} (P : jO → S → Nat → Nat → Prop) (O : jO) (v : Int32) (x : Nat) (st : Nat → Nat) (N j : Nat) (r : S ⊕ Nat) : Prop :=
  (∀ W, r = .inl W → ∃ j2 k2, j ≤ j2 ∧ j2 ≤ N ∧ v = nI j2 ∧ P O W j2 k2) ∧ (∀ f, r = .inr f → v = -1 ∧ oi O x 12 = nI (st f))
theorem lsG_l {S : Type} {P : jO → S → Nat → Nat → Prop} {O : jO} {v : Int32} {x N j j2 k2 : Nat} {st : Nat → Nat} {r : S ⊕ Nat} {W : S} (e : r = .inl W) (h : j ≤ j2 ∧ j2 ≤ N ∧ v = nI j2 ∧ P O W j2 k2) : lsG P O v x st N j r := ⟨fun p z => (by rw [e] at z; cases z; exact ⟨j2, k2, h⟩), fun f z => (by rw [e] at z; cases z)⟩
theorem lsG_r {S : Type} {P : jO → S → Nat → Nat → Prop} {O : jO} {v : Int32} {x N j f : Nat} {st : Nat → Nat} {r : S ⊕ Nat} (e : r = .inr f) (h : v = -1 ∧ oi O x 12 = nI (st f)) : lsG P O v x st N j r := ⟨fun p z => (by rw [e] at z; cases z), fun f z => (by rw [e] at z; cases z; exact h)⟩
/-- what is left alone; the world's first Z places too -/
def frZ (m : Nat) (cs fs : List Nat) (Z : Nat) (O O2 : jO) : Prop := frM m cs fs O O2 ∧ ∀ j : Nat, j < Z → oi O2 (m + 1) j = oi O (m + 1) j
theorem frZ_tr {m Z : Nat} {cs fs : List Nat} {O O2 O3 : jO} (a : frZ m cs fs Z O O2) (b : frZ m cs fs Z O2 O3) : frZ m cs fs Z O O3 := ⟨frM_tr a.1 b.1, fun j hj => (b.2 j hj).trans (a.2 j hj)⟩
theorem frZ_n {m Z : Nat} {cs fs fs2 : List Nat} {O O2 : jO} (a : frM m [] fs O O2) (h : ∀ c ∈ fs, c ∈ fs2) : frZ m cs fs2 Z O O2 := ⟨frM_le a (fun c hc => by cases hc) h, fun j _ => congrFun (wl_f a (by simp)) j⟩
theorem frZ_le {m Z : Nat} {cs fs fs2 : List Nat} {O O2 : jO} (a : frZ m cs fs Z O O2) (h : ∀ c ∈ fs, c ∈ fs2) : frZ m cs fs2 Z O O2 := ⟨frM_le a.1 (fun c hc => hc) h, a.2⟩
/-- what one line does, whichever text it is of -/
def HLn (S : Type) (P : jO → S → Nat → Nat → Prop) (ln : S → Nat → (Nat × S) ⊕ Nat) (n a0 : Nat) (x1 : Int32) (b : Nat → Int32) (L : Nat) (st : Nat → Nat) (cs fs : List Nat) (N Z : Nat) : Prop :=
  ∀ (kk j : Nat) (W : S) (h : jH) (q : Int32 × jH), rc (oc h) a0 b L st kk → P (oc h) W j kk → j ≤ N → F_X12_readLine n a0 x1 (nI j) h = some q → (j < N → lnG P (oc q.2) q.1 a0 b L st (j + 1) (ln W kk)) ∧ (j = N → q.1 = 0 ∧ oi (oc q.2) a0 12 = nI (st kk)) ∧ frZ a0 cs fs Z (oc h) (oc q.2) ∧ q.2.1 = h.1
def HPr (S : Type) (P : jO → S → Nat → Nat → Prop) (a0 : Nat) : Prop := ∀ (O O2 : jO) (W : S) (j k k2 : Nat), P O W j k → k ≤ k2 → frM a0 [] [10, 12] O O2 → P O2 W j k2
theorem E_X12_readAll_28 {n : Nat} {b : Nat → Int32} {L : Nat} {m : Nat} {T : Nat → Int32 × Int32} {st : Nat → Nat} {en : Nat → Nat} {S : Type} {P : jO → S → Nat → Nat → Prop} {ln : S → Nat → (Nat × S) ⊕ Nat} {cs : List Nat} {fs : List Nat} {N : Nat} {Z : Nat} (hN : N < 1000) (m10 : 10 ∈ fs) (m12 : 12 ∈ fs) : ∀ (k : Nat) {a0 : Nat} {x1 : Int32} {x2 : Int32} {h : jH} {q : Int32 × jH} (kk : Nat) (j : Nat) (W : S) (H : tkE b L m T st en) (HL : HLn S P ln n a0 x1 b L st cs fs N Z) (HP : HPr S P a0) (R : rc (oc h) a0 b L st kk) (PW : P (oc h) W j kk) (hx : x2 = nI j) (hj : j ≤ N), F_X12_readAll_28 n k a0 x1 x2 h = some q → lsG P (oc q.2) q.1 a0 st N (j + 1) (rdLines ln T (N - j) W kk) ∧ frZ a0 cs fs Z (oc h) (oc q.2) ∧ q.2.1 = h.1
  | 0, a0, x1, x2, h, q, kk, j, W, H, HL, HP, R, PW, hx, hj, hf => by cases hf
  | k + 1, a0, x1, x2, h, q, kk, j, W, H, HL, HP, R, PW, hx, hj, hf => by
    replace hf : F_X12_readAll_28_b n (F_X12_readAll_28 n k) a0 x1 x2 h = some q := hf
    unfold F_X12_readAll_28_b at hf
    replace hf := jbind hf
    obtain ⟨q31, e1, hf⟩ := hf
    replace e1 := (jcv_o e1).2
    rw [hx] at e1
    obtain ⟨d1, n1, f1, z1⟩ := HL kk j W h q31 R PW hj e1
    replace hf := jite hf
    rcases hf with ⟨c2, hf⟩ | ⟨c2, hf⟩
    · skip
      cases hf
      -- leaf 0: ((- 1 : Int32), q31.2)
      rcases Nat.lt_or_ge j N with jN | jN
      · have ej : N - j = N - (j + 1) + 1 := by omega
        rcases hR : ln W kk with d | f
        · exact absurd (c2.symm.trans ((d1 jN).1 d hR).1) (by decide)
        · rw [ej]
          exact ⟨lsG_r (rl_r hR) ⟨rfl, ((d1 jN).2 f hR).2⟩, f1, z1⟩
      · rw [show N - j = 0 by omega]
        exact ⟨lsG_r rfl ⟨rfl, (n1 (by omega)).2⟩, f1, z1⟩
    · skip
      replace hf := jbind hf
      obtain ⟨h40, e3, hf⟩ := hf
      replace e3 := (jcv_o e3).2
      have jN : j < N := by
        rcases Nat.lt_or_ge j N with z | z
        · exact z
        · exact absurd (n1 (by omega)).1 c2
      rcases hR : ln W kk with d | f
      rotate_left
      · exact absurd ((d1 jN).2 f hR).1 c2
      obtain ⟨-, R1, P1⟩ := (d1 jN).1 d hR
      obtain ⟨R3, g3, f3, z3⟩ := T_blanks H R1 e3
      have P3 := HP _ _ _ _ _ _ P1 (Nat.le_refl _) f3
      have ej : N - j = N - (j + 1) + 1 := by omega
      have f13 := frZ_tr f1 (frZ_n f3 (fun c hc => by rcases List.mem_cons.mp hc with y | hc; exact y ▸ m10; rcases List.mem_cons.mp hc with y | hc; exact y ▸ m12; cases hc))
      have hL := H.1
      have sl := tk_L H d.1
      replace hf := jbind hf
      obtain ⟨v44, e4, hf⟩ := hf
      have r4 := oc_gI e4
      subst r4
      clear e4
      replace hf := jbind hf
      obtain ⟨v48, e5, hf⟩ := hf
      have r5 := oc_gI e5
      subst r5
      clear e5
      replace hf := jite hf
      rcases hf with ⟨c6, hf⟩ | ⟨c6, hf⟩
      · skip
        cases hf
        -- leaf 10: (x2 + (1 : Int32), h40)
        rw [R3.2.2.2.2.1, R3.2.1, nI_eq (by omega) (by omega)] at c6
        rw [ej]
        exact ⟨lsG_l (rl_e hR ((tk_end H d.1).mp c6)) ⟨Nat.le_refl _, by omega, by rw [hx]; exact nI_1 j, P3⟩, f13, z3.trans z1⟩
      · skip
        replace hf := jbind hf
        obtain ⟨v63, e7, hf⟩ := hf
        replace e7 := (jcv_o e7).2
        have r7 := E_X12_isAt R3 e7
        replace hf := jite hf
        rcases hf with ⟨c8, hf⟩ | ⟨c8, hf⟩
        · skip
          cases hf
          -- leaf 110: ((- 1 : Int32), h40)
          rw [R3.2.2.2.2.1, R3.2.1, nI_eq (by omega) (by omega)] at c6
          have nT : (T d.1).1 ≠ -1 := fun z => c6 ((tk_end H d.1).mpr z)
          rcases r7 with ⟨y, -⟩ | ⟨-, y⟩
          · exact absurd (c8.symm.trans y) (by decide)
          rw [ej]
          exact ⟨lsG_r (rl_x hR nT (fun z => y ((tk_s H (by unfold sgn; decide)).1.mpr z))) ⟨rfl, g3⟩, f13, z3.trans z1⟩
        · skip
          replace hf := jbind hf
          obtain ⟨v73, e9, hf⟩ := hf
          have r9 := oc_gI e9
          subst r9
          clear e9
          replace hf := jbind hf
          obtain ⟨h78, e10, hf⟩ := hf
          obtain ⟨o10, z10⟩ := oc_pf e10
          clear e10
          -- leaf 111: rc28 a0 x1 (x2 + (1 : Int32)) h78
          rw [R3.2.2.2.2.1, R3.2.1, nI_eq (by omega) (by omega)] at c6
          have nT : (T d.1).1 ≠ -1 := fun z => c6 ((tk_end H d.1).mpr z)
          rcases r7 with ⟨-, y⟩ | ⟨y, -⟩
          rotate_left
          · exact absurd y c8
          obtain ⟨t1, t2⟩ := tk_s H (k := d.1) (c := 59) (by unfold sgn; decide)
          have t3 := t1.mp y
          obtain ⟨t4, t5⟩ := t2 t3
          have t6 := tk_L H (d.1 + 1)
          have t7 := (cur_n H t4).1
          rw [R3.2.2.2.2.1, nI_1, t5] at o10
          have R9 : rc (oc h78) a0 b L st (d.1 + 1) := by rw [o10]; exact ⟨en d.1, rb_pt R3 (by omega), cur_n H t4⟩
          have f10 : frM a0 [] [10, 12] (oc h40) (oc h78) := by rw [o10]; exact frM_f (by decide)
          rw [hx] at hf
          obtain ⟨a1, a2, a3⟩ := E_X12_readAll_28 hN m10 m12 k (d.1 + 1) (j + 1) d.2 H HL HP R9 (HP _ _ _ _ _ _ P3 (Nat.le_succ _) f10) (nI_1 j) (by omega) hf
          rw [ej, rl_s hR t3]
          refine ⟨⟨fun W2 z => ?_, a1.2⟩, frZ_tr f13 (frZ_tr (frZ_n f10 (fun c hc => by rcases List.mem_cons.mp hc with y | hc; exact y ▸ m10; rcases List.mem_cons.mp hc with y | hc; exact y ▸ m12; cases hc)) a2), a3.trans (z10.trans (z3.trans z1))⟩
          obtain ⟨j2, k2, b1, b2, b3, b4⟩ := a1.1 W2 z
          exact ⟨j2, k2, by omega, b2, b3, b4⟩
theorem E_X12_uses {L : Nat} {n : Nat} {a0 : Nat} {h : jH} {q : jH} (h9 : oi (oc h) a0 9 = nI L) (hf : F_X12_uses n a0 h = some q) : oi (oc q) a0 0 = 0 ∧ oi (oc q) a0 9 = 0 ∧ oi (oc q) a0 10 = 0 ∧ oi (oc q) a0 11 = nI L ∧ frM a0 [] [0, 9, 10, 11] (oc h) (oc q) ∧ q.1 = h.1 := by
  unfold F_X12_uses at hf
  replace hf := jbind hf
  obtain ⟨h2, e1, hf⟩ := hf
  obtain ⟨o1, z1⟩ := oc_pf e1
  clear e1
  replace hf := jbind hf
  obtain ⟨v7, e2, hf⟩ := hf
  have r2 := oc_gI e2
  rw [o1] at r2
  rw [oi_ne (Or.inr (by decide))] at r2
  subst r2
  clear e2
  replace hf := jbind hf
  obtain ⟨h10, e3, hf⟩ := hf
  obtain ⟨o3, z3⟩ := oc_pf e3
  clear e3
  replace hf := jbind hf
  obtain ⟨h15, e4, hf⟩ := hf
  obtain ⟨o4, z4⟩ := oc_pf e4
  clear e4
  replace hf := jbind hf
  obtain ⟨h20, e5, hf⟩ := hf
  obtain ⟨o5, z5⟩ := oc_pf e5
  clear e5
  cases hf
  -- leaf : h20
  rw [h9] at o3
  have g0 : oi (oc q) a0 0 = 0 := by rw [o5, oi_ne (Or.inr (by decide)), o4, oi_ne (Or.inr (by decide)), o3, oi_ne (Or.inr (by decide)), o1, oi_eq]
  have g9 : oi (oc q) a0 9 = 0 := by rw [o5, oi_ne (Or.inr (by decide)), o4, oi_eq]
  have g10 : oi (oc q) a0 10 = 0 := by rw [o5, oi_eq]
  have g11 : oi (oc q) a0 11 = nI L := by rw [o5, oi_ne (Or.inr (by decide)), o4, oi_ne (Or.inr (by decide)), o3, oi_eq]
  exact ⟨g0, g9, g10, g11, by rw [o5, o4, o3, o1]; exact frM_tr (frM_f (by decide)) (frM_tr (frM_f (by decide)) (frM_tr (frM_f (by decide)) (frM_f (by decide)))), z5.trans (z4.trans (z3.trans z1))⟩
end
section
/-! a text, as the reference reads it; pole -/
theorem cur_00 {b : Nat → Int32} {L m : Nat} {T : Nat → Int32 × Int32} {st en : Nat → Nat} (H : tkE b L m T st en) : cur b st 0 0 := ⟨by omega, fun i _ h => H.2.2.2.2 i h⟩
theorem E_X12_readAll {b : Nat → Int32} {L : Nat} {m : Nat} {T : Nat → Int32 × Int32} {st : Nat → Nat} {en : Nat → Nat} {S : Type} {P : jO → S → Nat → Nat → Prop} {ln : S → Nat → (Nat × S) ⊕ Nat} {cs : List Nat} {fs : List Nat} {N : Nat} {Z : Nat} {W : S} {n : Nat} {a0 : Nat} {x1 : Int32} {h : jH} {q : Int32 × jH} (hN : N < 1000) (m10 : 10 ∈ fs) (m12 : 12 ∈ fs) (H : tkE b L m T st en) (HL : HLn S P ln n a0 x1 b L st cs fs N Z) (HP : HPr S P a0) (M : mS (oc h) a0) (h9 : oi (oc h) a0 9 = nI L) (hb : ∀ i, oi (oc h) (a0 + 6) i = b i) (hP : ∀ O, frM a0 [] [0, 9, 10, 11, 12, 16] (oc h) O → oi O a0 16 = 0 → P O W 0 0) (cz : 0 ∉ cs) (n0 : 0 ∉ fs ∧ 9 ∉ fs) (hf : F_X12_readAll n a0 x1 h = some q) : ((T 0).1 = -1 → q.1 = 0 ∧ P (oc q.2) W 0 0) ∧ ((T 0).1 ≠ -1 → lsG P (oc q.2) q.1 a0 st N 1 (rdLines ln T N W 0)) ∧ oi (oc q.2) a0 0 = 0 ∧ oi (oc q.2) a0 9 = 0 ∧ frZ a0 cs (0 :: 9 :: 10 :: 11 :: 12 :: 16 :: fs) Z (oc h) (oc q.2) ∧ q.2.1 = h.1 := by
  unfold F_X12_readAll at hf
  replace hf := jbind hf
  obtain ⟨h1, e1, hf⟩ := hf
  replace e1 := (jcv_o e1).2
  obtain ⟨u0, u9, u10, u11, uf, uz⟩ := E_X12_uses h9 e1
  replace hf := jbind hf
  obtain ⟨h6, e2, hf⟩ := hf
  obtain ⟨o2, z2⟩ := oc_pf e2
  clear e2
  replace hf := jbind hf
  obtain ⟨h10, e3, hf⟩ := hf
  replace e3 := (jcv_o e3).2
  have f2 : frM a0 [] [16] (oc h1) (oc h6) := by rw [o2]; exact frM_f (by decide)
  have f02 : frM a0 [] [0, 9, 10, 11, 12, 16] (oc h) (oc h6) := frM_tr (frM_le uf (by decide) (by decide)) (frM_le f2 (by decide) (by decide))
  have R0 : rc (oc h6) a0 b L st 0 := ⟨0, ⟨mS_fr M f02 (by decide) (by decide), (frM_oi f2 (by decide) (by decide)).trans u11, H.1, fun i => (oi_M f02 (by simp) (by omega)).trans (hb i), (frM_oi f2 (by decide) (by decide)).trans u10, by omega⟩, cur_00 H⟩
  obtain ⟨R3, g3, f3, z3⟩ := T_blanks H R0 e3
  have f03 := frM_tr f02 (frM_le f3 (by decide) (by decide))
  have g16 : oi (oc h10) a0 16 = 0 := by rw [frM_oi f3 (by decide) (by decide), o2, oi_eq]
  have P3 := hP _ f03 g16
  have s0 := tk_L H 0
  have hL := H.1
  have g9 : oi (oc h10) a0 9 = 0 := by rw [frM_oi f3 (by decide) (by decide), frM_oi f2 (by decide) (by decide), u9]
  have g0 : oi (oc h10) a0 0 = 0 := by rw [frM_oi f3 (by decide) (by decide), frM_oi f2 (by decide) (by decide), u0]
  replace hf := jbind hf
  obtain ⟨v14, e4, hf⟩ := hf
  have r4 := oc_gI e4
  subst r4
  clear e4
  replace hf := jbind hf
  obtain ⟨v18, e5, hf⟩ := hf
  have r5 := oc_gI e5
  subst r5
  clear e5
  replace hf := jite hf
  rcases hf with ⟨c6, hf⟩ | ⟨c6, hf⟩
  · skip
    cases hf
    -- leaf 0: ((0 : Int32), h10)
    rw [R3.2.2.2.2.1, R3.2.1, nI_eq (by omega) (by omega)] at c6
    have t0 := (tk_end H 0).mp c6
    exact ⟨fun _ => ⟨rfl, P3⟩, fun z => absurd t0 z, g0, g9, frZ_n f03 (fun c hc => by simp at hc ⊢; omega), z3.trans (z2.trans uz)⟩
  · skip
    -- leaf 1: F_X12_readAll_28 n n a0 x1 (0 : Int32) h10
    rw [R3.2.2.2.2.1, R3.2.1, nI_eq (by omega) (by omega)] at c6
    have t0 : (T 0).1 ≠ -1 := fun z => c6 ((tk_end H 0).mpr z)
    obtain ⟨a1, a2, a3⟩ := E_X12_readAll_28 (N := N) (Z := Z) (cs := cs) (fs := fs) hN m10 m12 n 0 0 W H HL HP ⟨st 0, R3, cur_0 0⟩ P3 rfl (by omega) hf
    exact ⟨fun z => absurd z t0, fun _ => a1, (frM_oi a2.1 cz n0.1).trans g0, (frM_oi a2.1 cz n0.2).trans g9, frZ_tr (frZ_n f03 (fun c hc => by simp at hc ⊢; omega)) (frZ_le a2 (fun c hc => by simp [hc])), a3.trans (z3.trans (z2.trans uz))⟩
theorem E_X12_readLine_16P {b : Nat → Int32} {L : Nat} {m : Nat} {T : Nat → Int32 × Int32} {st : Nat → Nat} {en : Nat → Nat} {kk : Nat} {j : Nat} {W : jWd} {n : Nat} {a0 : Nat} {x1 : Int32} {x2 : Int32} {s0 : Int32} {s1 : Int32} {h : jH} {q : Int32 × jH} (H : tkE b L m T st en) (R : rw2 (oc h) a0 b L st kk) (hW : wl (oc h) a0 = W) (K : wOK W) (hx : s0 = nI j) (hj : j ≤ 14) (h1 : x1 = 1) (hs1 : s1 = 14) (hf : F_X12_readLine_16 n a0 x1 x2 s0 s1 h = some q) : (j < 14 → lnR (oc q.2) q.1 a0 b L st (rdPole T W kk)) ∧ (j = 14 → q.1 = 0 ∧ oi (oc q.2) a0 12 = nI (st kk)) ∧ frM a0 [1] [10, 12] (oc h) (oc q.2) ∧ q.2.1 = h.1 := by
  unfold F_X12_readLine_16 at hf
  replace hf := jite hf
  rcases hf with ⟨c1, hf⟩ | ⟨c1, hf⟩
  · skip
    cases hf
    -- leaf 0: ((0 : Int32), h)
    rw [hs1, hx, Int32.le_iff_toInt_le, nI_toInt (by omega), show (14 : Int32).toInt = 14 from rfl] at c1
    obtain ⟨e, Rb, -, g⟩ := R
    exact ⟨fun z => by omega, fun _ => ⟨rfl, g⟩, frM_rfl, rfl⟩
  · skip
    replace hf := jite hf
    rcases hf with ⟨c2, hf⟩ | ⟨c2, hf⟩
    · skip
      replace hf := jbind hf
      obtain ⟨q35, e3, hf⟩ := hf
      replace e3 := (jcv_o e3).2
      replace hf := jite hf
      rcases hf with ⟨c4, hf⟩ | ⟨c4, hf⟩
      · skip
        cases hf
        -- leaf 100: ((0 : Int32), q35.2)
        exact absurd (c2.symm.trans h1) (by decide)
      · skip
        cases hf
        -- leaf 101: ((1 : Int32), q35.2)
        exact absurd (c2.symm.trans h1) (by decide)
    · skip
      replace hf := jbind hf
      obtain ⟨q24, e5, hf⟩ := hf
      replace e5 := (jcv_o e5).2
      obtain ⟨d, f, z⟩ := E_X12_readPoleLine H R hW K e5
      replace hf := jite hf
      rcases hf with ⟨c6, hf⟩ | ⟨c6, hf⟩
      · skip
        cases hf
        -- leaf 110: ((0 : Int32), q24.2)
        rw [hs1, hx, Int32.le_iff_toInt_le, nI_toInt (by omega), show (14 : Int32).toInt = 14 from rfl] at c1
        rw [c6] at d
        exact ⟨fun _ => d, fun z => by omega, f, z⟩
      · skip
        cases hf
        -- leaf 111: ((1 : Int32), q24.2)
        rw [hs1, hx, Int32.le_iff_toInt_le, nI_toInt (by omega), show (14 : Int32).toInt = 14 from rfl] at c1
        have e1 : q24.1 = 1 := by
          rcases hR : rdPole T W kk with p | g
          · exact (d.1 p hR).1
          · exact absurd (d.2 g hR).1 c6
        rw [e1] at d
        exact ⟨fun _ => d, fun z => by omega, f, z⟩
theorem E_X12_readLineP {b : Nat → Int32} {L : Nat} {m : Nat} {T : Nat → Int32 × Int32} {st : Nat → Nat} {en : Nat → Nat} {kk : Nat} {j : Nat} {W : jWd} {n : Nat} {a0 : Nat} {x1 : Int32} {x2 : Int32} {h : jH} {q : Int32 × jH} (H : tkE b L m T st en) (R : rc (oc h) a0 b L st kk) (hW : wl (oc h) a0 = W) (K : wOK W) (hx : x2 = nI j) (hj : j ≤ 14) (hp : x1 = 1) (hf : F_X12_readLine n a0 x1 x2 h = some q) : (j < 14 → lnR (oc q.2) q.1 a0 b L st (rdPole T W kk)) ∧ (j = 14 → q.1 = 0 ∧ oi (oc q.2) a0 12 = nI (st kk)) ∧ frM a0 [1] [10, 12] (oc h) (oc q.2) ∧ q.2.1 = h.1 := by
  unfold F_X12_readLine at hf
  replace hf := jbind hf
  obtain ⟨h1, e1, hf⟩ := hf
  replace e1 := (jcv_o e1).2
  obtain ⟨R1, f1, z1⟩ := T_letters H R e1
  replace hf := jite hf
  rcases hf with ⟨c2, hf⟩ | ⟨c2, hf⟩
  · skip
    -- leaf 0: F_X12_readLine_16 n a0 x1 x2 x2 (12 : Int32) h1
    exact absurd (c2.symm.trans hp) (by decide)
  · skip
    -- leaf 1: F_X12_readLine_16 n a0 x1 x2 x2 (14 : Int32) h1
    obtain ⟨a1, a2, a3, a4⟩ := E_X12_readLine_16P (kk := kk) (W := W) H R1 (by rw [wl_f f1 (by decide)]; exact hW) K hx hj hp rfl hf
    exact ⟨a1, a2, frM_tr (frM_le f1 (by decide) (by decide)) a3, a4.trans z1⟩
def polP (x : Nat) (O : jO) (W : jWd) (_j _k : Nat) : Prop := wl O x = W ∧ wOK W
theorem polHL {n a0 : Nat} {b : Nat → Int32} {L m : Nat} {T : Nat → Int32 × Int32} {st en : Nat → Nat} (H : tkE b L m T st en) : HLn jWd (polP a0) (rdPole T) n a0 1 b L st [1] [10, 12] 14 0 := by
  intro kk j W h q R PW hj e
  obtain ⟨a1, a2, a3, a4⟩ := E_X12_readLineP H R PW.1 PW.2 rfl hj rfl e
  refine ⟨fun z => ⟨fun p y => ?_, fun f y => ?_⟩, a2, ⟨a3, fun j hj => by omega⟩, a4⟩
  · obtain ⟨b1, b2, b3⟩ := (a1 z).1 p y
    exact ⟨b1, b2, b3, (rdPole_ok PW.2 y).1⟩
  · obtain ⟨b1, b2, -⟩ := (a1 z).2 f y
    exact ⟨b1, b2⟩
theorem polHP {a0 : Nat} : HPr jWd (polP a0) a0 := fun O O2 W j k k2 P _ f => ⟨by rw [wl_f f (by decide)]; exact P.1, P.2⟩
end
