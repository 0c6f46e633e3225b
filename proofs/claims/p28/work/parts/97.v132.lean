/-! a ring of a pole's text, as the reference reads it -/
theorem no_45 {n a0 : Nat} {x1 x2 s0 : Int32} {h : jH} {q : Int32 × jH} (hs : s0 = -1) (hf : F_X12_readRing_45 n a0 x1 x2 s0 h = some q) : q = (0, h) := by
  unfold F_X12_readRing_45 at hf
  rw [if_neg (by rw [hs]; decide)] at hf
  cases hf
  rfl
theorem no_88 {n a0 : Nat} {x1 x2 x3 x4 x5 s0 : Int32} {h : jH} {q : Int32 × jH} (hs : s0 = -1) (hf : F_X12_readRing_88 n a0 x1 x2 x3 x4 x5 s0 h = some q) : q = (0, h) := by
  unfold F_X12_readRing_88 at hf
  rw [if_neg (by rw [hs]; decide)] at hf
  cases hf
  rfl
theorem no_117 {n a0 : Nat} {x1 x2 x3 x4 x5 x6 s0 : Int32} {h : jH} {q : Int32 × jH} (hs : s0 = -1) (hf : F_X12_readRing_117 n a0 x1 x2 x3 x4 x5 x6 s0 h = some q) : q = (0, h) := by
  unfold F_X12_readRing_117 at hf
  rw [if_neg (by rw [hs]; decide)] at hf
  cases hf
  rfl
/-- what the reference answers to a line, r telling what is asked -/
def lnR (O : jO) (v : Int32) (x : Nat) (b : Nat → Int32) (L : Nat) (st : Nat → Nat) (r : (Nat × jWd) ⊕ Nat) : Prop :=
  (∀ p, r = .inl p → v = 1 ∧ rc O x b L st p.1 ∧ wl O x = p.2) ∧ (∀ f, r = .inr f → v = 0 ∧ oi O x 12 = nI (st f) ∧ mS O x)
theorem lnR_l {O : jO} {v : Int32} {x L k : Nat} {b : Nat → Int32} {st : Nat → Nat} {r : (Nat × jWd) ⊕ Nat} {W : jWd} (e : r = .inl (k, W)) (h : v = 1 ∧ rc O x b L st k ∧ wl O x = W) : lnR O v x b L st r :=
  ⟨fun p z => (by rw [e] at z; cases z; exact h), fun f z => (by rw [e] at z; cases z)⟩
theorem lnR_r {O : jO} {v : Int32} {x L k : Nat} {b : Nat → Int32} {st : Nat → Nat} {r : (Nat × jWd) ⊕ Nat} (e : r = .inr k) (h : v = 0 ∧ oi O x 12 = nI (st k) ∧ mS O x) : lnR O v x b L st r :=
  ⟨fun p z => (by rw [e] at z; cases z), fun f z => (by rw [e] at z; cases z; exact h)⟩
/-- a flag as the reference sets it -/
def b01 (v : Int32) : Int32 := if v = 0 then 0 else 1
theorem b01_t {T : Nat → Int32 × Int32} {w : Int32} {k : Nat} : b01 (tkF T w k).2 = (tkF T w k).2 := by
  unfold tkF
  split <;> rfl
theorem T_tkF {O2 : jO} {x L k : Nat} {b : Nat → Int32} {T : Nat → Int32 × Int32} {st : Nat → Nat} {w v : Int32} (d : (v = 1 ∧ (T k).1 = w ∧ rc O2 x b L st (k + 1)) ∨ (v = 0 ∧ (T k).1 ≠ w ∧ rc O2 x b L st k)) : v = (tkF T w k).2 ∧ rc O2 x b L st (tkF T w k).1 := by
  unfold tkF
  rcases d with ⟨y, y2, y3⟩ | ⟨y, y2, y3⟩
  · rw [if_pos y2]; exact ⟨y, y3⟩
  · rw [if_neg y2]; exact ⟨y, y3⟩
theorem E_X12_readRing_171 {c : Nat} {n : Nat} {a0 : Nat} {x1 : Int32} {x6 : Int32} {x7 : Int32} {sa0 : Nat} {s1 : Int32} {s2 : Int32} {h : jH} {q : Int32 × jH} (M : mS (oc h) a0) (hx1 : x1 = nI c) (hc : c < 8) (hs : sa0 = a0 + 1) (h1 : s1 = nI (14 + 8 * c)) (hf : F_X12_readRing_171 n a0 x1 x6 x7 sa0 s1 s2 h = some q) : q.1 = 1 ∧ wl (oc q.2) a0 = upd (upd (upd (wl (oc h) a0) (14 + 8 * c) s2) (15 + 8 * c) x6) (16 + 8 * c) x7 ∧ frM a0 [1] [] (oc h) (oc q.2) ∧ q.2.1 = h.1 := by
  unfold F_X12_readRing_171 at hf
  subst hs
  replace hf := jbind hf
  obtain ⟨h171, e1, hf⟩ := hf
  obtain ⟨o1, z1, y1⟩ := oc_as e1
  rw [jnar0] at o1
  clear e1
  replace hf := jbind hf
  obtain ⟨p173, e2, hf⟩ := hf
  have r2 := oc_gR e2
  rw [o1] at r2
  rw [u2_ne (Or.inl (by omega))] at r2
  rw [M.1] at r2
  cases r2
  clear e2
  replace hf := jbind hf
  obtain ⟨v178, e3, hf⟩ := hf
  have r3 := E_X12_at (i := c) (j := 4) (t := 15 + 8 * c) hx1 rfl (by omega) e3
  subst r3
  replace hf := jbind hf
  obtain ⟨h183, e4, hf⟩ := hf
  obtain ⟨o4, z4, y4⟩ := oc_as e4
  rw [jnar0] at o4
  clear e4
  replace hf := jbind hf
  obtain ⟨p185, e5, hf⟩ := hf
  have r5 := oc_gR e5
  rw [o4] at r5
  rw [u2_ne (Or.inl (by omega))] at r5
  rw [o1] at r5
  rw [u2_ne (Or.inl (by omega))] at r5
  rw [M.1] at r5
  cases r5
  clear e5
  replace hf := jbind hf
  obtain ⟨v190, e6, hf⟩ := hf
  have r6 := E_X12_at (i := c) (j := 5) (t := 16 + 8 * c) hx1 rfl (by omega) e6
  subst r6
  replace hf := jbind hf
  obtain ⟨h195, e7, hf⟩ := hf
  obtain ⟨o7, z7, y7⟩ := oc_as e7
  rw [jnar0] at o7
  clear e7
  cases hf
  -- leaf : ((1 : Int32), h195)
  rw [h1, nI_cl (by omega)] at o1
  rw [nI_cl (by omega)] at o4 o7
  have f : frM a0 [1] [] (oc h) (oc h195) := by rw [o7, o4, o1]; exact frM_tr (frM_c (by decide)) (frM_tr (frM_c (by decide)) (frM_c (by decide)))
  have w : wl (oc h195) a0 = upd (upd (upd (wl (oc h) a0) (14 + 8 * c) s2) (15 + 8 * c) x6) (16 + 8 * c) x7 := by rw [o7, wl_w, o4, wl_w, o1, wl_w]
  exact ⟨rfl, w, f, z7.trans (z4.trans z1)⟩
theorem E_X12_readRing_151 {c : Nat} {n : Nat} {a0 : Nat} {x1 : Int32} {x5 : Int32} {x6 : Int32} {x7 : Int32} {sa0 : Nat} {s1 : Int32} {s2 : Int32} {h : jH} {q : Int32 × jH} (M : mS (oc h) a0) (hx1 : x1 = nI c) (hc : c < 8) (hs : sa0 = a0 + 1) (h1 : s1 = nI (13 + 8 * c)) (hf : F_X12_readRing_151 n a0 x1 x5 x6 x7 sa0 s1 s2 h = some q) : q.1 = 1 ∧ wl (oc q.2) a0 = upd (upd (upd (upd (wl (oc h) a0) (13 + 8 * c) s2) (14 + 8 * c) (b01 x5)) (15 + 8 * c) x6) (16 + 8 * c) x7 ∧ frM a0 [1] [] (oc h) (oc q.2) ∧ q.2.1 = h.1 := by
  unfold F_X12_readRing_151 at hf
  subst hs
  replace hf := jbind hf
  obtain ⟨h151, e1, hf⟩ := hf
  obtain ⟨o1, z1, y1⟩ := oc_as e1
  rw [jnar0] at o1
  clear e1
  replace hf := jbind hf
  obtain ⟨p153, e2, hf⟩ := hf
  have r2 := oc_gR e2
  rw [o1] at r2
  rw [u2_ne (Or.inl (by omega))] at r2
  rw [M.1] at r2
  cases r2
  clear e2
  replace hf := jbind hf
  obtain ⟨v158, e3, hf⟩ := hf
  have r3 := E_X12_at (i := c) (j := 3) (t := 14 + 8 * c) hx1 rfl (by omega) e3
  subst r3
  replace hf := jite hf
  rcases hf with ⟨c4, hf⟩ | ⟨c4, hf⟩
  · skip
    -- leaf 0: F_X12_readRing_171 n a0 x1 x6 x7 p153 v158 (0 : Int32) h151
    rw [h1, nI_cl (by omega)] at o1
    have f1 : frM a0 [1] [] (oc h) (oc h151) := by rw [o1]; exact frM_c (by decide)
    obtain ⟨a1, a2, a3, a4⟩ := E_X12_readRing_171 (c := c) (mS_fr M f1 (by decide) (by decide)) hx1 hc rfl rfl hf
    refine ⟨a1, ?_, frM_tr f1 a3, a4.trans z1⟩
    rw [a2, o1, wl_w, b01, if_pos c4]
  · skip
    -- leaf 1: F_X12_readRing_171 n a0 x1 x6 x7 p153 v158 (1 : Int32) h151
    rw [h1, nI_cl (by omega)] at o1
    have f1 : frM a0 [1] [] (oc h) (oc h151) := by rw [o1]; exact frM_c (by decide)
    obtain ⟨a1, a2, a3, a4⟩ := E_X12_readRing_171 (c := c) (mS_fr M f1 (by decide) (by decide)) hx1 hc rfl rfl hf
    refine ⟨a1, ?_, frM_tr f1 a3, a4.trans z1⟩
    rw [a2, o1, wl_w, b01, if_neg c4]
theorem E_X12_readRing_117 {c : Nat} {W : jWd} {n : Nat} {a0 : Nat} {x1 : Int32} {x2 : Int32} {x3 : Int32} {x4 : Int32} {x5 : Int32} {x6 : Int32} {s0 : Int32} {h : jH} {q : Int32 × jH} (M : mS (oc h) a0) (hW : wl (oc h) a0 = W) (K : wOK W) (ec : cN W = c) (hx1 : x1 = nI c) (hc : c < 8) (h0 : 0 ≤ s0.toInt) (hf : F_X12_readRing_117 n a0 x1 x2 x3 x4 x5 x6 s0 h = some q) : q.1 = 1 ∧ wl (oc q.2) a0 = rgW W x2 x3 (b01 x4) (b01 x5) x6 s0 ∧ frM a0 [1] [] (oc h) (oc q.2) ∧ q.2.1 = h.1 := by
  unfold F_X12_readRing_117 at hf
  have hc8 : cN W < 8 := by omega
  replace hf := jite hf
  rcases hf with ⟨c1, hf⟩ | ⟨c1, hf⟩
  · skip
    replace hf := jbind hf
    obtain ⟨h129, e2, hf⟩ := hf
    replace e2 := (jcv_o e2).2
    obtain ⟨G1, G2, G3⟩ := E_X12_hangs M hW K hc8 e2
    have M2 := mS_fr M G2 (by decide) (by decide)
    replace hf := jbind hf
    obtain ⟨p133, e3, hf⟩ := hf
    have r3 := oc_gR e3
    rw [M2.1] at r3
    cases r3
    clear e3
    replace hf := jbind hf
    obtain ⟨v138, e4, hf⟩ := hf
    have r4 := E_X12_at (i := c) (j := 2) (t := 13 + 8 * c) hx1 rfl (by omega) e4
    subst r4
    replace hf := jite hf
    rcases hf with ⟨c5, hf⟩ | ⟨c5, hf⟩
    · skip
      -- leaf 00: F_X12_readRing_151 n a0 x1 x5 x6 s0 p133 v138 (0 : Int32) h129
      obtain ⟨a1, a2, a3, a4⟩ := E_X12_readRing_151 (c := c) M2 hx1 hc rfl rfl hf
      refine ⟨a1, ?_, frM_tr G2 a3, a4.trans G3⟩
      have eb : b01 x4 = 0 := if_pos c5
      rw [a2, G1, rgW, ec, eb]
    · skip
      -- leaf 01: F_X12_readRing_151 n a0 x1 x5 x6 s0 p133 v138 (1 : Int32) h129
      obtain ⟨a1, a2, a3, a4⟩ := E_X12_readRing_151 (c := c) M2 hx1 hc rfl rfl hf
      refine ⟨a1, ?_, frM_tr G2 a3, a4.trans G3⟩
      have eb : b01 x4 = 1 := if_neg c5
      rw [a2, G1, rgW, ec, eb]
  · skip
    cases hf
    -- leaf 1: ((0 : Int32), h)
    exact absurd (by rw [Int32.le_iff_toInt_le]; exact h0) c1
theorem E_X12_readRing_88 {b : Nat → Int32} {L : Nat} {m : Nat} {T : Nat → Int32 × Int32} {st : Nat → Nat} {en : Nat → Nat} {k : Nat} {c : Nat} {W : jWd} {n : Nat} {a0 : Nat} {x1 : Int32} {x2 : Int32} {x3 : Int32} {x4 : Int32} {x5 : Int32} {s0 : Int32} {h : jH} {q : Int32 × jH} (H : tkE b L m T st en) (R : rc (oc h) a0 b L st k) (hW : wl (oc h) a0 = W) (K : wOK W) (ec : cN W = c) (hx1 : x1 = nI c) (hc : c < 8) (h0 : 0 ≤ s0.toInt) (hf : F_X12_readRing_88 n a0 x1 x2 x3 x4 x5 s0 h = some q) : lnR (oc q.2) q.1 a0 b L st (match rdMore T 4 9 k with | .inr f => .inr f | .inl d => .inl (d.1, rgW W x2 x3 (b01 x4) (b01 x5) s0 d.2)) ∧ frM a0 [1] [10, 12] (oc h) (oc q.2) ∧ q.2.1 = h.1 := by
  unfold F_X12_readRing_88 at hf
  replace hf := jite hf
  rcases hf with ⟨c1, hf⟩ | ⟨c1, hf⟩
  · skip
    replace hf := jbind hf
    obtain ⟨q100, e2, hf⟩ := hf
    replace e2 := (jcv_o e2).2
    obtain ⟨d2, g2, f2, z2⟩ := T_passes (w := 4) H (by decide) R e2
    replace hf := jite hf
    rcases hf with ⟨c3, hf⟩ | ⟨c3, hf⟩
    · skip
      -- leaf 00: F_X12_readRing_117 n a0 x1 x2 x3 x4 x5 s0 (0 : Int32) q100.2
      rcases d2 with ⟨w, -⟩ | ⟨-, y2, R2⟩
      · exact absurd (c3.symm.trans w) (by decide)
      obtain ⟨a1, a2, a3, a4⟩ := E_X12_readRing_117 (c := c) (W := W) (rc_mS R2) (by rw [wl_f f2 (by decide)]; exact hW) K ec hx1 hc (by decide) hf
      have e9 : rdMore T 4 9 k = .inl (k, 0) := by unfold rdMore; exact if_neg y2
      rw [e9]
      exact ⟨lnR_l rfl ⟨a1, rc_fr R2 a3 (by decide) (by decide) (by decide) (by decide) (by decide), a2⟩, frM_tr (frM_le f2 (by decide) (by decide)) (frM_le a3 (by decide) (by decide)), a4.trans z2⟩
    · skip
      replace hf := jbind hf
      obtain ⟨q110, e4, hf⟩ := hf
      replace e4 := (jcv_o e4).2
      rcases d2 with ⟨-, y2, R2⟩ | ⟨w, -⟩
      rotate_left
      · exact absurd w c3
      obtain ⟨d4, M4, g4, f4, z4⟩ := T_number H (by decide) R2 e4
      -- leaf 01: F_X12_readRing_117 n a0 x1 x2 x3 x4 x5 s0 q110.1 q110.2
      have f24 := frM_tr f2 f4
      rcases d4 with ⟨v4, y4, R4⟩ | ⟨v4, y4⟩
      · have b4 := y4.2.1
        rw [Int32.le_iff_toInt_le, ← v4] at b4
        obtain ⟨a1, a2, a3, a4⟩ := E_X12_readRing_117 (c := c) (W := W) (rc_mS R4) (by rw [wl_f f24 (by decide)]; exact hW) K ec hx1 hc b4 hf
        have e9 : rdMore T 4 9 k = .inl (k + 2, (T (k + 1)).2) := by unfold rdMore; rw [show (T k).1 = 4 from y2, if_pos rfl, if_pos y4]
        rw [e9]
        rw [v4] at a2
        exact ⟨lnR_l rfl ⟨a1, rc_fr R4 a3 (by decide) (by decide) (by decide) (by decide) (by decide), a2⟩, frM_tr (frM_le f24 (by decide) (by decide)) (frM_le a3 (by decide) (by decide)), a4.trans (z4.trans z2)⟩
      · have e8 := no_117 v4 hf
        have e9 : rdMore T 4 9 k = .inr (k + 1) := by unfold rdMore; rw [show (T k).1 = 4 from y2, if_pos rfl, if_neg y4]
        rw [e9, e8]
        exact ⟨lnR_r rfl ⟨rfl, g4, M4⟩, (frM_le f24 (by decide) (by decide)), z4.trans z2⟩
  · skip
    cases hf
    -- leaf 1: ((0 : Int32), h)
    exact absurd (by rw [Int32.le_iff_toInt_le]; exact h0) c1
theorem E_X12_readRing_45 {b : Nat → Int32} {L : Nat} {m : Nat} {T : Nat → Int32 × Int32} {st : Nat → Nat} {en : Nat → Nat} {k : Nat} {c : Nat} {W : jWd} {n : Nat} {a0 : Nat} {x1 : Int32} {x2 : Int32} {s0 : Int32} {h : jH} {q : Int32 × jH} (H : tkE b L m T st en) (R : rc (oc h) a0 b L st k) (hW : wl (oc h) a0 = W) (K : wOK W) (ec : cN W = c) (hx1 : x1 = nI c) (hc : c < 8) (h0 : 0 ≤ s0.toInt) (hf : F_X12_readRing_45 n a0 x1 x2 s0 h = some q) : lnR (oc q.2) q.1 a0 b L st (match rdMore T 3 99 (tkF T 7 (tkF T 8 k).1).1 with | .inr f => .inr f | .inl c2 => match rdMore T 4 9 c2.1 with | .inr f => .inr f | .inl d => .inl (d.1, rgW W x2 s0 (tkF T 8 k).2 (tkF T 7 (tkF T 8 k).1).2 c2.2 d.2)) ∧ frM a0 [1] [10, 12] (oc h) (oc q.2) ∧ q.2.1 = h.1 := by
  unfold F_X12_readRing_45 at hf
  replace hf := jite hf
  rcases hf with ⟨c1, hf⟩ | ⟨c1, hf⟩
  · skip
    replace hf := jbind hf
    obtain ⟨q55, e2, hf⟩ := hf
    replace e2 := (jcv_o e2).2
    obtain ⟨d2, g2, f2, z2⟩ := T_passes (w := 8) H (by decide) R e2
    obtain ⟨v2, R2⟩ := T_tkF (w := 8) d2
    replace hf := jbind hf
    obtain ⟨q63, e3, hf⟩ := hf
    replace e3 := (jcv_o e3).2
    obtain ⟨d3, g3, f3, z3⟩ := T_passes (w := 7) H (by decide) R2 e3
    obtain ⟨v3, R3⟩ := T_tkF (w := 7) d3
    replace hf := jbind hf
    obtain ⟨q71, e4, hf⟩ := hf
    replace e4 := (jcv_o e4).2
    obtain ⟨d4, g4, f4, z4⟩ := T_passes (w := 3) H (by decide) R3 e4
    have f24 := frM_tr f2 (frM_tr f3 f4)
    replace hf := jite hf
    rcases hf with ⟨c5, hf⟩ | ⟨c5, hf⟩
    · skip
      -- leaf 00: F_X12_readRing_88 n a0 x1 x2 s0 q55.1 q63.1 (0 : Int32) q71.2
      rcases d4 with ⟨w, -⟩ | ⟨-, y4, R4⟩
      · exact absurd (c5.symm.trans w) (by decide)
      obtain ⟨a1, a2, a3⟩ := E_X12_readRing_88 (c := c) (W := W) H R4 (by rw [wl_f f24 (by decide)]; exact hW) K ec hx1 hc (by decide) hf
      have e9 : rdMore T 3 99 (tkF T 7 (tkF T 8 k).1).1 = .inl ((tkF T 7 (tkF T 8 k).1).1, 0) := by unfold rdMore; exact if_neg y4
      rw [e9]
      rw [v2, v3, b01_t, b01_t] at a1
      exact ⟨a1, frM_tr (frM_le f24 (by decide) (by decide)) a2, a3.trans (z4.trans (z3.trans z2))⟩
    · skip
      replace hf := jbind hf
      obtain ⟨q81, e6, hf⟩ := hf
      replace e6 := (jcv_o e6).2
      rcases d4 with ⟨-, y4, R4⟩ | ⟨w, -⟩
      rotate_left
      · exact absurd w c5
      obtain ⟨d6, M6, g6, f6, z6⟩ := T_number H (by decide) R4 e6
      -- leaf 01: F_X12_readRing_88 n a0 x1 x2 s0 q55.1 q63.1 q81.1 q81.2
      have f26 := frM_tr f24 f6
      rcases d6 with ⟨v6, y6, R6⟩ | ⟨v6, y6⟩
      · have b6 := y6.2.1
        rw [Int32.le_iff_toInt_le, ← v6] at b6
        obtain ⟨a1, a2, a3⟩ := E_X12_readRing_88 (c := c) (W := W) H R6 (by rw [wl_f f26 (by decide)]; exact hW) K ec hx1 hc b6 hf
        have e9 : rdMore T 3 99 (tkF T 7 (tkF T 8 k).1).1 = .inl ((tkF T 7 (tkF T 8 k).1).1 + 2, (T ((tkF T 7 (tkF T 8 k).1).1 + 1)).2) := by unfold rdMore; rw [show (T (tkF T 7 (tkF T 8 k).1).1).1 = 3 from y4, if_pos rfl, if_pos y6]
        rw [e9]
        rw [v2, v3, v6, b01_t, b01_t] at a1
        exact ⟨a1, frM_tr (frM_le f26 (by decide) (by decide)) a2, a3.trans (z6.trans (z4.trans (z3.trans z2)))⟩
      · have e8 := no_88 v6 hf
        have e9 : rdMore T 3 99 (tkF T 7 (tkF T 8 k).1).1 = .inr ((tkF T 7 (tkF T 8 k).1).1 + 1) := by unfold rdMore; rw [show (T (tkF T 7 (tkF T 8 k).1).1).1 = 3 from y4, if_pos rfl, if_neg y6]
        rw [e9, e8]
        exact ⟨lnR_r rfl ⟨rfl, g6, M6⟩, (frM_le f26 (by decide) (by decide)), z6.trans (z4.trans (z3.trans z2))⟩
  · skip
    cases hf
    -- leaf 1: ((0 : Int32), h)
    exact absurd (by rw [Int32.le_iff_toInt_le]; exact h0) c1
theorem E_X12_readRing {b : Nat → Int32} {L : Nat} {m : Nat} {T : Nat → Int32 × Int32} {st : Nat → Nat} {en : Nat → Nat} {k : Nat} {W : jWd} {n : Nat} {a0 : Nat} {h : jH} {q : Int32 × jH} (H : tkE b L m T st en) (R : rw2 (oc h) a0 b L st k) (hW : wl (oc h) a0 = W) (K : wOK W) (eT : (T k).1 = nI 0) (hf : F_X12_readRing n a0 h = some q) : lnR (oc q.2) q.1 a0 b L st (if W 0 = 8 then .inr k else rdRing T W (k + 1)) ∧ frM a0 [1] [10, 12] (oc h) (oc q.2) ∧ q.2.1 = h.1 := by
  unfold F_X12_readRing at hf
  have M := rw_mS R
  replace hf := jbind hf
  obtain ⟨v1, e1, hf⟩ := hf
  replace e1 := (jcv_o e1).2
  have r1 := E_X12_rings M e1
  subst r1
  replace hf := jite hf
  rcases hf with ⟨c2, hf⟩ | ⟨c2, hf⟩
  · skip
    cases hf
    -- leaf 0: ((0 : Int32), h)
    rw [hW] at c2
    rw [if_pos c2]
    obtain ⟨e, -, -, g⟩ := R
    exact ⟨lnR_r rfl ⟨rfl, g, M⟩, frM_rfl, rfl⟩
  · skip
    replace hf := jbind hf
    obtain ⟨v17, e3, hf⟩ := hf
    replace e3 := (jcv_o e3).2
    have n8 : ¬ W 0 = 8 := fun z => c2 (by rw [hW]; exact z)
    have hc8 := cN_lt K n8
    have k0 := K.1
    have ec : (cN W : Int) = (W 0).toInt := by unfold cN; omega
    have e0 : wl (oc h) a0 0 = nI (cN W) := by rw [hW]; exact nI_k ec.symm
    have R1 := rw_n H (w := 0) (by decide) R eT
    have l31 := leW_0 K
    have r3 := E_X12_leastPlace M hW K e3
    subst r3
    replace hf := jbind hf
    obtain ⟨v21, e4, hf⟩ := hf
    replace e4 := (jcv_o e4).2
    have r4 := E_X12_mostPlace M hW K e4
    subst r4
    replace hf := jbind hf
    obtain ⟨q24, e5, hf⟩ := hf
    replace e5 := (jcv_o e5).2
    obtain ⟨d5, M5, f5, z5⟩ := T_after (w := 17) H (by decide) (by omega) R1 e5
    replace hf := jite hf
    rcases hf with ⟨c6, hf⟩ | ⟨c6, hf⟩
    · skip
      replace hf := jbind hf
      obtain ⟨q42, e7, hf⟩ := hf
      replace e7 := (jcv_o e7).2
      have q5 : 0 ≤ q24.1.toInt := by rw [Int32.le_iff_toInt_le] at c6; exact c6
      have lm1 : (-1 : Int32).toInt = -1 := rfl
      rcases d5 with ⟨t5, v5, y5, R5⟩ | ⟨-, w, -⟩ | ⟨-, -, w, -⟩
      rotate_left
      · rw [w] at q5; omega
      · rw [w] at q5; omega
      obtain ⟨d7, M7, f7, z7⟩ := T_after (w := 18) H (by decide) (by decide) R5 e7
      have f57 := frM_tr f5 f7
      -- leaf 10: F_X12_readRing_45 n a0 v1 q24.1 q42.1 q42.2
      rw [if_neg n8]
      unfold rdRing
      rw [show (T (k + 1)).1 = 17 from t5, if_pos rfl, if_pos y5]
      rcases d7 with ⟨t7, v7, y7, R7⟩ | ⟨t7, w, g7⟩ | ⟨t7, y7, w, g7⟩
      · have b7 := y7.2.1
        rw [Int32.le_iff_toInt_le, ← v7, show (1 : Int32).toInt = 1 from rfl] at b7
        obtain ⟨a1, a2, a3⟩ := E_X12_readRing_45 (c := cN W) (W := W) H R7 (by rw [wl_f f57 (by decide)]; exact hW) K rfl e0 hc8 (by omega) hf
        rw [v5, v7] at a1
        rw [show (T (k + 1 + 2)).1 = 18 from t7, if_pos rfl, if_pos y7]
        exact ⟨a1, frM_tr (frM_le f57 (by decide) (by decide)) a2, a3.trans (z7.trans z5)⟩
      · rw [no_45 w hf, if_neg (show ¬ (T (k + 1 + 2)).1 = 18 from t7)]
        exact ⟨lnR_r rfl ⟨rfl, g7, M7⟩, (frM_le f57 (by decide) (by decide)), z7.trans z5⟩
      · rw [no_45 w hf, show (T (k + 1 + 2)).1 = 18 from t7, if_pos rfl, if_neg y7]
        exact ⟨lnR_r rfl ⟨rfl, g7, M7⟩, (frM_le f57 (by decide) (by decide)), z7.trans z5⟩
    · skip
      -- leaf 11: F_X12_readRing_45 n a0 v1 q24.1 (- 1 : Int32) q24.2
      rw [if_neg n8]
      unfold rdRing
      rw [no_45 rfl hf]
      rcases d5 with ⟨t5, v5, y5, R5⟩ | ⟨t5, w, g5⟩ | ⟨t5, y5, w, g5⟩
      · exfalso
        have := y5.2.1
        rw [Int32.le_iff_toInt_le, ← v5] at this
        exact c6 (by rw [Int32.le_iff_toInt_le]; have l0 : (0 : Int32).toInt = 0 := rfl; omega)
      · rw [if_neg (show ¬ (T (k + 1)).1 = 17 from t5)]
        exact ⟨lnR_r rfl ⟨rfl, g5, M5⟩, (frM_le f5 (by decide) (by decide)), z5⟩
      · rw [show (T (k + 1)).1 = 17 from t5, if_pos rfl, if_neg y5]
        exact ⟨lnR_r rfl ⟨rfl, g5, M5⟩, (frM_le f5 (by decide) (by decide)), z5⟩
