section
/-! acts of the reference: the fault, what is remembered, the world after -/
def rTh (m : Nat) (c : Int32) (h h2 : jH) : Prop := oi (oc h2) m 0 = c ∧ frM m [] [0] (oc h) (oc h2) ∧ h2.1 = h.1
def rRM (m r : Nat) (h q : jH) : Prop := oi (oc q) m 7 = nI (if r < 12 then r + 1 else 12) ∧ (∀ k, k < 435 → oi (oc q) (m + 5) (435 * ((if r < 12 then r + 1 else 12) - 1) + k) = wl (oc h) m k) ∧ (∀ j, 1 ≤ j → j < (if r < 12 then r + 1 else 12) → ∀ k, k < 435 → oi (oc q) (m + 5) (435 * ((if r < 12 then r + 1 else 12) - 1 - j) + k) = oi (oc h) (m + 5) (435 * (r - j) + k)) ∧ frM m [5] [7] (oc h) (oc q) ∧ q.1 = h.1
/-- one act: fault 0, the world W2, the world before it remembered -/
def rAct (m r : Nat) (W2 : jWd) (h q : jH) : Prop := oi (oc q) m 0 = 0 ∧ wl (oc q) m = W2 ∧ oi (oc q) m 7 = nI (if r < 12 then r + 1 else 12) ∧ (∀ k, k < 435 → oi (oc q) (m + 5) (435 * ((if r < 12 then r + 1 else 12) - 1) + k) = wl (oc h) m k) ∧ (∀ j, 1 ≤ j → j < (if r < 12 then r + 1 else 12) → ∀ k, k < 435 → oi (oc q) (m + 5) (435 * ((if r < 12 then r + 1 else 12) - 1 - j) + k) = oi (oc h) (m + 5) (435 * (r - j) + k)) ∧ frM m [1, 5, 8] [0, 7, 18] (oc h) (oc q) ∧ q.1 = h.1
theorem wl_f {m : Nat} {cs fs : List Nat} {O O2 : jO} (f : frM m cs fs O O2) (h : 1 ∉ cs) : wl O2 m = wl O m := by
  refine funext fun k => oi_M f (fun c hc q => h ?_) (fun q => by omega)
  have e : c = 1 := by omega
  rw [← e]; exact hc
theorem rTh_rfl {m : Nat} {h : jH} {c : Int32} (z : oi (oc h) m 0 = c) : rTh m c h h := ⟨z, frM_rfl, rfl⟩
theorem rTh_tr {m : Nat} {c d : Int32} {h h2 h3 : jH} (a : rTh m c h h2) (b : rTh m d h2 h3) : rTh m d h h3 := ⟨b.1, frM_tr a.2.1 b.2.1, b.2.2.trans a.2.2⟩
theorem rAct_tr {m r : Nat} {c : Int32} {W2 : jWd} {h h2 h3 : jH} (a : rTh m c h h2) (b : rAct m r W2 h2 h3) : rAct m r W2 h h3 := by
  obtain ⟨b1, b2, b3, b4, b5, b6, b7⟩ := b
  exact ⟨b1, b2, b3, fun k hk => (b4 k hk).trans (congrFun (wl_f a.2.1 (by decide)) k), fun j j1 j2 k hk => (b5 j j1 j2 k hk).trans (oi_M a.2.1 (fun c hc => by cases hc) (fun q => by omega)), frM_tr (frM_le a.2.1 (fun c hc => by cases hc) (by decide)) b6, b7.trans a.2.2⟩
theorem rAct_mk18 {m r : Nat} {W2 : jWd} {h hB hC : jH} (T : oi (oc h) m 0 = 0) (R : rRM m r h hB) (f2 : frM m [1, 8] [18] (oc hB) (oc hC)) (w : wl (oc hC) m = W2) (z : hC.1 = hB.1) : rAct m r W2 h hC := by
  obtain ⟨b1, b2, b3, b4, b5⟩ := R
  have n5 : ∀ c ∈ [1, 8], m + 5 ≠ m + c := fun c hc => by simp at hc; omega
  have n0 : ∀ c ∈ [1, 8], m ≠ m + c := fun c hc => by simp at hc; omega
  exact ⟨(oi_M f2 n0 (fun _ => by decide)).trans ((oi_M b4 (fun c hc => by simp at hc; omega) (fun _ => by decide)).trans T), w, (oi_M f2 n0 (fun _ => by decide)).trans b1, fun k hk => (oi_M f2 n5 (fun q => by omega)).trans (b2 k hk), fun j j1 j2 k hk => (oi_M f2 n5 (fun q => by omega)).trans (b3 j j1 j2 k hk), frM_tr (frM_le b4 (by decide) (by decide)) (frM_le f2 (by decide) (by decide)), z.trans b5⟩
theorem rAct_mk {m r : Nat} {W2 : jWd} {h hB hC : jH} (T : oi (oc h) m 0 = 0) (R : rRM m r h hB) (f2 : frM m [1, 8] [] (oc hB) (oc hC)) (w : wl (oc hC) m = W2) (z : hC.1 = hB.1) : rAct m r W2 h hC := rAct_mk18 T R (frM_le f2 (fun c h => h) (fun c h => by cases h)) w z
theorem rTh_W {m : Nat} {c : Int32} {W : jWd} {h h2 : jH} (T : rTh m c h h2) (M : mS (oc h) m) (hW : wl (oc h) m = W) {v : Int32} (h7 : oi (oc h) m 7 = v) : mS (oc h2) m ∧ wl (oc h2) m = W ∧ oi (oc h2) m 7 = v := ⟨mS_fr M T.2.1 (by decide) (by decide), (wl_f T.2.1 (by decide)).trans hW, (oi_M T.2.1 (fun c hc => by cases hc) (fun _ => by decide)).trans h7⟩
theorem i_ring {W : jWd} {x : Int32} (K : wOK W) (h : 0 ≤ x.toInt ∧ x.toInt < (W 0).toInt) : ∃ i : Nat, i < 8 ∧ x = nI i ∧ (i : Int) < (W 0).toInt := by
  have k := K.1
  exact ⟨x.toInt.toNat, by omega, nI_k (by omega), by omega⟩
theorem E_X12_throwsIf {n : Nat} {a0 : Nat} {x1 : Int32} {x2 : Int32} {h : jH} {q : Int32 × jH} (hx : x1 = 0 ∨ x1 = 1) (hf : F_X12_throwsIf n a0 x1 x2 h = some q) : (x1 = 0 ∧ q.1 = 0 ∧ q.2 = h) ∨ (x1 = 1 ∧ q.1 = 1 ∧ rTh a0 x2 h q.2) := by
  unfold F_X12_throwsIf at hf
  replace hf := jite hf
  rcases hf with ⟨c1, hf⟩ | ⟨c1, hf⟩
  · skip
    replace hf := jite hf
    rcases hf with ⟨c2, hf⟩ | ⟨c2, hf⟩
    · skip
      cases hf
      -- leaf 00: (x1, h)
      exact Or.inl ⟨c1, c1, rfl⟩
    · skip
      cases hf
  · skip
    replace hf := jbind hf
    obtain ⟨h6, e3, hf⟩ := hf
    obtain ⟨o3, z3⟩ := oc_pf e3
    clear e3
    replace hf := jite hf
    rcases hf with ⟨c4, hf⟩ | ⟨c4, hf⟩
    · skip
      cases hf
      -- leaf 10: (x1, h6)
      have y := hx.resolve_left c1
      have g0 : oi (oc h6) a0 0 = x2 := by rw [o3, oi_eq]
      have g1 : frM a0 [] [0] (oc h) (oc h6) := by rw [o3]; exact frM_f (by decide)
      exact Or.inr ⟨y, y, g0, g1, z3⟩
    · skip
      cases hf
theorem E_X12_noRing {W : jWd} {n : Nat} {a0 : Nat} {x1 : Int32} {h : jH} {q : Int32} (M : mS (oc h) a0) (hW : wl (oc h) a0 = W) (K : wOK W) (hf : F_X12_noRing n a0 x1 h = some q) : (q = 0 ∨ q = 1) ∧ (q = 1 ↔ ¬ (0 ≤ x1.toInt ∧ x1.toInt < (W 0).toInt)) := by
  unfold F_X12_noRing at hf
  replace hf := jbind hf
  obtain ⟨v3, e1, hf⟩ := hf
  replace e1 := (jcv_o e1).2
  have r1 := E_X12_lastRing M e1
  rw [hW] at r1
  subst r1
  replace hf := jbind hf
  obtain ⟨v6, e2, hf⟩ := hf
  have r2 := E_X12_in e2
  replace hf := jite hf
  rcases hf with ⟨c3, hf⟩ | ⟨c3, hf⟩
  · skip
    cases hf
    -- leaf 0: (1 : Int32)
    have k0 := K.1
    have l0 : (0 : Int32).toInt = 0 := rfl
    have l1 : (1 : Int32).toInt = 1 := rfl
    have e3 : (W 0 - 1).toInt = (W 0).toInt - 1 := by rw [jsub (by omega) (by omega)]; omega
    rw [e3, l0] at r2
    exact ⟨Or.inr rfl, fun _ z => absurd (c3.symm.trans (r2.2.mpr (by omega))) (by decide), fun _ => rfl⟩
  · skip
    cases hf
    -- leaf 1: (0 : Int32)
    have k0 := K.1
    have l0 : (0 : Int32).toInt = 0 := rfl
    have l1 : (1 : Int32).toInt = 1 := rfl
    have e3 : (W 0 - 1).toInt = (W 0).toInt - 1 := by rw [jsub (by omega) (by omega)]; omega
    rw [e3, l0] at r2
    have y := r2.2.mp (r2.1.resolve_left c3)
    exact ⟨Or.inl rfl, fun z => absurd z (by decide), fun z => absurd (by omega) z⟩
theorem E_X12_let_34 {W : jWd} {r : Nat} {i : Nat} {n : Nat} {a0 : Nat} {x1 : Int32} {x2 : Int32} {sa0 : Nat} {s1 : Int32} {h : jH} {q : Int32 × jH} (M : mS (oc h) a0) (hW : wl (oc h) a0 = W) (K : wOK W) (h7 : oi (oc h) a0 7 = nI r) (hr : r ≤ 12) (z0 : oi (oc h) a0 0 = 0) (hs : a0 = sa0) (h01 : s1 = 0 ∨ s1 = 1) (hi : x1 = nI i) (h8 : i < 8) (hf : F_X12_let_34 n a0 x1 x2 sa0 s1 h = some q) : (s1 = 1 ∧ q.1 = 0 ∧ rTh a0 2 h q.2) ∨ (s1 = 0 ∧ q.1 = W (16 + 8 * i) ∧ rAct a0 r (upd W (16 + 8 * i) x2) h q.2) := by
  unfold F_X12_let_34 at hf
  subst hs
  replace hf := jbind hf
  obtain ⟨q35, e1, hf⟩ := hf
  replace e1 := (jcv_o e1).2
  have r1 := E_X12_throwsIf h01 e1
  replace hf := jite hf
  rcases hf with ⟨c2, hf⟩ | ⟨c2, hf⟩
  · skip
    replace hf := jbind hf
    obtain ⟨h44, e3, hf⟩ := hf
    replace e3 := (jcv_o e3).2
    have hq : q35.2 = h := by
      rcases r1 with ⟨-, -, y⟩ | ⟨-, y, -⟩
      · exact y
      · exact absurd (y.symm.trans c2) (by decide)
    rw [hq] at e3
    have R3 : rRM a0 r h h44 := E_X12_remembers M h7 hr e3
    have M3 : mS (oc h44) a0 := mS_fr M R3.2.2.2.1 (by decide) (by decide)
    obtain ⟨t1, t2, t3, t4, t5, t8, t15, t17, t19, t20, t21⟩ := id M3
    have w3 : wl (oc h44) a0 = W := (wl_f R3.2.2.2.1 (by decide)).trans hW
    replace hf := jbind hf
    obtain ⟨v50, e4, hf⟩ := hf
    replace e4 := (jcv_o e4).2
    have r4 := E_X12_of (i := i) (j := 5) (t := 16 + 8 * i) M3 hi rfl (by omega) (by omega) e4
    rw [w3] at r4
    replace hf := jbind hf
    obtain ⟨p55, e5, hf⟩ := hf
    have r5 := oc_gR e5
    rw [t1] at r5
    cases r5
    clear e5
    replace hf := jbind hf
    obtain ⟨v60, e6, hf⟩ := hf
    have r6 := E_X12_at (i := i) (j := 5) (t := 16 + 8 * i) hi rfl (by omega) e6
    replace hf := jbind hf
    obtain ⟨h64, e7, hf⟩ := hf
    obtain ⟨o7, z7, y7⟩ := oc_as e7
    rw [jnar0] at o7
    clear e7
    cases hf
    -- leaf 0: (v50, h64)
    rcases r1 with ⟨s, -, -⟩ | ⟨-, y, -⟩
    · rw [r6, nI_cl (by omega)] at o7
      have f7 : frM a0 [1, 8] [] (oc h44) (oc h64) := by rw [o7]; exact frM_c (by decide)
      have w7 : wl (oc h64) a0 = upd W (16 + 8 * i) x2 := by rw [o7, wl_w, w3]
      exact Or.inr ⟨s, r4, rAct_mk z0 R3 f7 w7 z7⟩
    · exact absurd (y.symm.trans c2) (by decide)
  · skip
    cases hf
    -- leaf 1: ((0 : Int32), q35.2)
    rcases r1 with ⟨-, y, -⟩ | ⟨s, -, T⟩
    · exact absurd y c2
    · exact Or.inl ⟨s, rfl, T⟩
end
section
/-! acts of the reference: let, free, snag, seed, hook, chair -/
theorem ring_next {W : jWd} {i : Nat} (K : wOK W) (hi : (i : Int) < (W 0).toInt) (h : W (18 + 8 * i) = 1) : (i : Int) + 1 < (W 0).toInt := by
  obtain ⟨-, -, -, k4, -⟩ := K
  by_cases e : (i : Int) + 1 = (W 0).toInt
  · exact absurd ((k4 i e).symm.trans h) (by decide)
  · omega
theorem gap_ct {W : jWd} {m i : Nat} {O : jO} {x v : Int32} (w : wl O m = upd W (18 + 8 * i) x) (hn : (i : Int) + 1 < (W 0).toInt) (h : v = if (i : Int) + 1 < (wl O m 0).toInt then wl O m (11 + 8 * (i + 1)) - wl O m (11 + 8 * i) else 99) : v = W (11 + 8 * (i + 1)) - W (11 + 8 * i) := by
  rw [h, w, upd_n (by omega), if_pos hn, upd_n (by omega), upd_n (by omega)]
theorem bool_eq {v w : Int32} (a : v = 0 ∨ v = 1) (b : v = 1 ↔ w = 1) (c : w = 0 ∨ w = 1) : v = w := by
  rcases a with a | a
  · rcases c with c | c
    · rw [a, c]
    · exact absurd (a.symm.trans (b.mpr c)) (by decide)
  · rw [a, b.mp a]
/-- a chair put or taken -/
def chV (v : Int32) (k : Nat) (x : Int32) : Int32 := if x = 0 then v &&& (((1 : Int32) <<< (nI k &&& 31)) ^^^ (-1 : Int32)) else v ||| ((1 : Int32) <<< (nI k &&& 31))
theorem chr_eq {v : Int32} {k : Nat} (hk : k < 32) : (v &&& (((1 : Int32) <<< (nI k &&& 31)) ^^^ (-1 : Int32))) ||| ((1 : Int32) <<< (nI k &&& 31)) = v ||| ((1 : Int32) <<< (nI k &&& 31)) := b_ext fun i hi => by
  rw [b_set hk hi, b_clr hk hi, b_set hk hi]
  by_cases e : i = k <;> simp [e]
theorem chV_ans {v x b : Int32} {k : Nat} (hk : k < 32) (hx : x = 0 ∨ x = 1) (r : (b = 0 ∨ b = 1) ∧ (b = 1 ↔ bt v k = true)) : chV v k x = v ↔ b = x := by
  rcases hx with rfl | rfl
  · unfold chV
    rw [if_pos rfl]
    constructor
    · intro e
      refine r.1.resolve_right fun z => ?_
      have y := r.2.mp z
      rw [← e, b_clr hk hk] at y
      simp at y
    · intro e
      refine b_ext fun i hi => ?_
      rw [b_clr hk hi]
      by_cases w : i = k
      · subst w
        have nb : bt v i = false := by
          cases z : bt v i
          · rfl
          · exact absurd ((r.2.mpr z).symm.trans e) (by decide)
        rw [nb]; rfl
      · simp [w]
  · unfold chV
    rw [if_neg (by decide)]
    constructor
    · intro e
      refine r.2.mpr ?_
      rw [← e, b_set hk hk]
      simp
    · intro e
      have y := r.2.mp e
      refine b_ext fun i hi => ?_
      rw [b_set hk hi]
      by_cases w : i = k
      · subst w; rw [y]; rfl
      · simp [w]
theorem i_place {x : Int32} (h : 0 ≤ x.toInt ∧ x.toInt ≤ 31) : ∃ i : Nat, i < 32 ∧ x = nI i := ⟨x.toInt.toNat, by omega, nI_k (by omega)⟩
theorem E_X12_let {W : jWd} {r : Nat} {n : Nat} {a0 : Nat} {x1 : Int32} {x2 : Int32} {h : jH} {q : Int32 × jH} (M : mS (oc h) a0) (hW : wl (oc h) a0 = W) (K : wOK W) (h7 : oi (oc h) a0 7 = nI r) (hr : r ≤ 12) (hf : F_X12_let n a0 x1 x2 h = some q) : (¬ (0 ≤ x1.toInt ∧ x1.toInt < (W 0).toInt) ∧ q.1 = 0 ∧ rTh a0 1 h q.2) ∨ ∃ i : Nat, i < 8 ∧ x1 = nI i ∧ (i : Int) < (W 0).toInt ∧ ((¬ (0 ≤ x2.toInt ∧ x2.toInt ≤ 9) ∧ q.1 = 0 ∧ rTh a0 2 h q.2) ∨ ((0 ≤ x2.toInt ∧ x2.toInt ≤ 9) ∧ q.1 = W (16 + 8 * i) ∧ rAct a0 r (upd W (16 + 8 * i) x2) h q.2)) := by
  unfold F_X12_let at hf
  replace hf := jbind hf
  obtain ⟨h2, e1, hf⟩ := hf
  obtain ⟨o1, z1⟩ := oc_pf e1
  clear e1
  replace hf := jbind hf
  obtain ⟨v8, e2, hf⟩ := hf
  replace e2 := (jcv_o e2).2
  have T1 : rTh a0 0 h h2 := ⟨by rw [o1, oi_eq], by rw [o1]; exact frM_f (by decide), z1⟩
  obtain ⟨M1, w1, g1⟩ := rTh_W T1 M hW h7
  have r2 := E_X12_noRing M1 w1 K e2
  replace hf := jbind hf
  obtain ⟨q12, e3, hf⟩ := hf
  replace e3 := (jcv_o e3).2
  have r3 := E_X12_throwsIf r2.1 e3
  replace hf := jite hf
  rcases hf with ⟨c4, hf⟩ | ⟨c4, hf⟩
  · skip
    replace hf := jbind hf
    obtain ⟨v23, e5, hf⟩ := hf
    have r5 := E_X12_in e5
    replace hf := jite hf
    rcases hf with ⟨c6, hf⟩ | ⟨c6, hf⟩
    · skip
      -- leaf 00: F_X12_let_34 n a0 x1 x2 a0 (1 : Int32) q12.2
      have hq : q12.2 = h2 := by
        rcases r3 with ⟨-, -, y⟩ | ⟨-, y, -⟩
        · exact y
        · exact absurd (y.symm.trans c4) (by decide)
      have hv : v8 = 0 := by
        rcases r3 with ⟨y, -, -⟩ | ⟨-, y, -⟩
        · exact y
        · exact absurd (y.symm.trans c4) (by decide)
      obtain ⟨i, h8, hi, hi0⟩ := i_ring K (Classical.byContradiction fun z => absurd ((r2.2.mpr z).symm.trans hv) (by decide))
      have l0 : (0 : Int32).toInt = 0 := rfl
      have l9 : (9 : Int32).toInt = 9 := rfl
      rw [l0, l9] at r5
      rw [hq] at hf
      refine Or.inr ⟨i, h8, hi, hi0, ?_⟩
      rcases E_X12_let_34 (W := W) (r := r) (i := i) M1 w1 K g1 hr T1.1 rfl (Or.inr rfl) hi h8 hf with ⟨-, b, T⟩ | ⟨s, -, -⟩
      · exact Or.inl ⟨fun z => absurd ((r5.2.mpr z).symm.trans c6) (by decide), b, rTh_tr T1 T⟩
      · exact absurd s (by decide)
    · skip
      -- leaf 01: F_X12_let_34 n a0 x1 x2 a0 (0 : Int32) q12.2
      have hq : q12.2 = h2 := by
        rcases r3 with ⟨-, -, y⟩ | ⟨-, y, -⟩
        · exact y
        · exact absurd (y.symm.trans c4) (by decide)
      have hv : v8 = 0 := by
        rcases r3 with ⟨y, -, -⟩ | ⟨-, y, -⟩
        · exact y
        · exact absurd (y.symm.trans c4) (by decide)
      obtain ⟨i, h8, hi, hi0⟩ := i_ring K (Classical.byContradiction fun z => absurd ((r2.2.mpr z).symm.trans hv) (by decide))
      have l0 : (0 : Int32).toInt = 0 := rfl
      have l9 : (9 : Int32).toInt = 9 := rfl
      rw [l0, l9] at r5
      rw [hq] at hf
      refine Or.inr ⟨i, h8, hi, hi0, ?_⟩
      rcases E_X12_let_34 (W := W) (r := r) (i := i) M1 w1 K g1 hr T1.1 rfl (Or.inl rfl) hi h8 hf with ⟨s, -, -⟩ | ⟨-, b, A⟩
      · exact absurd s (by decide)
      · exact Or.inr ⟨r5.2.mp (r5.1.resolve_left c6), b, rAct_tr T1 A⟩
  · skip
    cases hf
    -- leaf 1: ((0 : Int32), q12.2)
    rcases r3 with ⟨-, y, -⟩ | ⟨s, -, T⟩
    · exact absurd y c4
    · exact Or.inl ⟨r2.2.mp s, rfl, rTh_tr T1 T⟩
theorem E_X12_free_34 {W : jWd} {r : Nat} {i : Nat} {n : Nat} {a0 : Nat} {x1 : Int32} {sa0 : Nat} {s1 : Int32} {h : jH} {q : Int32 × jH} (M : mS (oc h) a0) (hW : wl (oc h) a0 = W) (K : wOK W) (h7 : oi (oc h) a0 7 = nI r) (hr : r ≤ 12) (z0 : oi (oc h) a0 0 = 0) (hs : a0 = sa0) (h01 : s1 = 0 ∨ s1 = 1) (hi : x1 = nI i) (h8 : i < 8) (hn : s1 = 0 → (i : Int) + 1 < (W 0).toInt) (hf : F_X12_free_34 n a0 x1 sa0 s1 h = some q) : (s1 = 1 ∧ q.1 = 0 ∧ rTh a0 2 h q.2) ∨ (s1 = 0 ∧ q.1 = W (11 + 8 * (i + 1)) - W (11 + 8 * i) ∧ rAct a0 r (upd W (18 + 8 * i) 0) h q.2) := by
  unfold F_X12_free_34 at hf
  subst hs
  replace hf := jbind hf
  obtain ⟨q35, e1, hf⟩ := hf
  replace e1 := (jcv_o e1).2
  have r1 := E_X12_throwsIf h01 e1
  replace hf := jite hf
  rcases hf with ⟨c2, hf⟩ | ⟨c2, hf⟩
  · skip
    replace hf := jbind hf
    obtain ⟨h44, e3, hf⟩ := hf
    replace e3 := (jcv_o e3).2
    have hq : q35.2 = h := by
      rcases r1 with ⟨-, -, y⟩ | ⟨-, y, -⟩
      · exact y
      · exact absurd (y.symm.trans c2) (by decide)
    rw [hq] at e3
    have R3 : rRM a0 r h h44 := E_X12_remembers M h7 hr e3
    have M3 : mS (oc h44) a0 := mS_fr M R3.2.2.2.1 (by decide) (by decide)
    obtain ⟨t1, t2, t3, t4, t5, t8, t15, t17, t19, t20, t21⟩ := id M3
    have w3 : wl (oc h44) a0 = W := (wl_f R3.2.2.2.1 (by decide)).trans hW
    replace hf := jbind hf
    obtain ⟨p48, e4, hf⟩ := hf
    have r4 := oc_gR e4
    rw [t1] at r4
    cases r4
    clear e4
    replace hf := jbind hf
    obtain ⟨v54, e5, hf⟩ := hf
    have r5 := E_X12_at (i := i) (j := 7) (t := 18 + 8 * i) hi rfl (by omega) e5
    replace hf := jbind hf
    obtain ⟨h58, e6, hf⟩ := hf
    obtain ⟨o6, z6, y6⟩ := oc_as e6
    rw [jnar0] at o6
    clear e6
    replace hf := jbind hf
    obtain ⟨v61, e7, hf⟩ := hf
    replace e7 := (jcv_o e7).2
    cases hf
    -- leaf 0: (v61, h58)
    rcases r1 with ⟨s, -, -⟩ | ⟨-, y, -⟩
    · have hn := hn s
      rw [r5, nI_cl (by omega)] at o6
      have f7 : frM a0 [1, 8] [] (oc h44) (oc h58) := by rw [o6]; exact frM_c (by decide)
      have w7 : wl (oc h58) a0 = upd W (18 + 8 * i) 0 := by rw [o6, wl_w, w3]
      have K7 : wOK (wl (oc h58) a0) := by rw [w7]; exact wOK_ct K (Or.inl rfl)
      have g7 := gap_ct w7 hn (E_X12_gapOf (mS_fr M3 f7 (by decide) (by decide)) K7 hi (by rw [w7, upd_n (by omega)]; omega) e7)
      exact Or.inr ⟨s, g7, rAct_mk z0 R3 f7 w7 z6⟩
    · exact absurd (y.symm.trans c2) (by decide)
  · skip
    cases hf
    -- leaf 1: ((0 : Int32), q35.2)
    rcases r1 with ⟨-, y, -⟩ | ⟨s, -, T⟩
    · exact absurd y c2
    · exact Or.inl ⟨s, rfl, T⟩
theorem E_X12_snag_42 {W : jWd} {r : Nat} {i : Nat} {n : Nat} {a0 : Nat} {x1 : Int32} {sa0 : Nat} {s1 : Int32} {h : jH} {q : Int32 × jH} (M : mS (oc h) a0) (hW : wl (oc h) a0 = W) (K : wOK W) (h7 : oi (oc h) a0 7 = nI r) (hr : r ≤ 12) (z0 : oi (oc h) a0 0 = 0) (hs : a0 = sa0) (h01 : s1 = 0 ∨ s1 = 1) (hi : x1 = nI i) (h8 : i < 8) (hn : s1 = 0 → (i : Int) + 1 < (W 0).toInt) (hf : F_X12_snag_42 n a0 x1 sa0 s1 h = some q) : (s1 = 1 ∧ q.1 = 0 ∧ rTh a0 2 h q.2) ∨ (s1 = 0 ∧ q.1 = W (11 + 8 * (i + 1)) - W (11 + 8 * i) ∧ rAct a0 r (upd W (18 + 8 * i) 1) h q.2) := by
  unfold F_X12_snag_42 at hf
  subst hs
  replace hf := jbind hf
  obtain ⟨q43, e1, hf⟩ := hf
  replace e1 := (jcv_o e1).2
  have r1 := E_X12_throwsIf h01 e1
  replace hf := jite hf
  rcases hf with ⟨c2, hf⟩ | ⟨c2, hf⟩
  · skip
    replace hf := jbind hf
    obtain ⟨h52, e3, hf⟩ := hf
    replace e3 := (jcv_o e3).2
    have hq : q43.2 = h := by
      rcases r1 with ⟨-, -, y⟩ | ⟨-, y, -⟩
      · exact y
      · exact absurd (y.symm.trans c2) (by decide)
    rw [hq] at e3
    have R3 : rRM a0 r h h52 := E_X12_remembers M h7 hr e3
    have M3 : mS (oc h52) a0 := mS_fr M R3.2.2.2.1 (by decide) (by decide)
    obtain ⟨t1, t2, t3, t4, t5, t8, t15, t17, t19, t20, t21⟩ := id M3
    have w3 : wl (oc h52) a0 = W := (wl_f R3.2.2.2.1 (by decide)).trans hW
    replace hf := jbind hf
    obtain ⟨p56, e4, hf⟩ := hf
    have r4 := oc_gR e4
    rw [t1] at r4
    cases r4
    clear e4
    replace hf := jbind hf
    obtain ⟨v62, e5, hf⟩ := hf
    have r5 := E_X12_at (i := i) (j := 7) (t := 18 + 8 * i) hi rfl (by omega) e5
    replace hf := jbind hf
    obtain ⟨h66, e6, hf⟩ := hf
    obtain ⟨o6, z6, y6⟩ := oc_as e6
    rw [jnar0] at o6
    clear e6
    replace hf := jbind hf
    obtain ⟨v69, e7, hf⟩ := hf
    replace e7 := (jcv_o e7).2
    cases hf
    -- leaf 0: (v69, h66)
    rcases r1 with ⟨s, -, -⟩ | ⟨-, y, -⟩
    · have hn := hn s
      rw [r5, nI_cl (by omega)] at o6
      have f7 : frM a0 [1, 8] [] (oc h52) (oc h66) := by rw [o6]; exact frM_c (by decide)
      have w7 : wl (oc h66) a0 = upd W (18 + 8 * i) 1 := by rw [o6, wl_w, w3]
      have K7 : wOK (wl (oc h66) a0) := by rw [w7]; exact wOK_ct K (Or.inr ⟨rfl, hn⟩)
      have g7 := gap_ct w7 hn (E_X12_gapOf (mS_fr M3 f7 (by decide) (by decide)) K7 hi (by rw [w7, upd_n (by omega)]; omega) e7)
      exact Or.inr ⟨s, g7, rAct_mk z0 R3 f7 w7 z6⟩
    · exact absurd (y.symm.trans c2) (by decide)
  · skip
    cases hf
    -- leaf 1: ((0 : Int32), q43.2)
    rcases r1 with ⟨-, y, -⟩ | ⟨s, -, T⟩
    · exact absurd y c2
    · exact Or.inl ⟨s, rfl, T⟩
theorem E_X12_free {W : jWd} {r : Nat} {n : Nat} {a0 : Nat} {x1 : Int32} {h : jH} {q : Int32 × jH} (M : mS (oc h) a0) (hW : wl (oc h) a0 = W) (K : wOK W) (h7 : oi (oc h) a0 7 = nI r) (hr : r ≤ 12) (hf : F_X12_free n a0 x1 h = some q) : (¬ (0 ≤ x1.toInt ∧ x1.toInt < (W 0).toInt) ∧ q.1 = 0 ∧ rTh a0 1 h q.2) ∨ ∃ i : Nat, i < 8 ∧ x1 = nI i ∧ (i : Int) < (W 0).toInt ∧ ((W (18 + 8 * i) ≠ 1 ∧ q.1 = 0 ∧ rTh a0 2 h q.2) ∨ (¬ (W (18 + 8 * i) ≠ 1) ∧ (i : Int) + 1 < (W 0).toInt ∧ q.1 = W (11 + 8 * (i + 1)) - W (11 + 8 * i) ∧ rAct a0 r (upd W (18 + 8 * i) 0) h q.2)) := by
  unfold F_X12_free at hf
  replace hf := jbind hf
  obtain ⟨h2, e1, hf⟩ := hf
  obtain ⟨o1, z1⟩ := oc_pf e1
  clear e1
  replace hf := jbind hf
  obtain ⟨v8, e2, hf⟩ := hf
  replace e2 := (jcv_o e2).2
  have T1 : rTh a0 0 h h2 := ⟨by rw [o1, oi_eq], by rw [o1]; exact frM_f (by decide), z1⟩
  obtain ⟨M1, w1, g1⟩ := rTh_W T1 M hW h7
  have r2 := E_X12_noRing M1 w1 K e2
  replace hf := jbind hf
  obtain ⟨q12, e3, hf⟩ := hf
  replace e3 := (jcv_o e3).2
  have r3 := E_X12_throwsIf r2.1 e3
  replace hf := jite hf
  rcases hf with ⟨c4, hf⟩ | ⟨c4, hf⟩
  · skip
    replace hf := jbind hf
    obtain ⟨v23, e5, hf⟩ := hf
    replace e5 := (jcv_o e5).2
    have hq : q12.2 = h2 := by
      rcases r3 with ⟨-, -, y⟩ | ⟨-, y, -⟩
      · exact y
      · exact absurd (y.symm.trans c4) (by decide)
    have hv : v8 = 0 := by
      rcases r3 with ⟨y, -, -⟩ | ⟨-, y, -⟩
      · exact y
      · exact absurd (y.symm.trans c4) (by decide)
    obtain ⟨i, h8, hi, hi0⟩ := i_ring K (Classical.byContradiction fun z => absurd ((r2.2.mpr z).symm.trans hv) (by decide))
    have M5 : mS (oc q12.2) a0 := by rw [hq]; exact M1
    have w5 : wl (oc q12.2) a0 = W := by rw [hq]; exact w1
    have r5 := E_X12_is (i := i) (j := 7) (t := 18 + 8 * i) M5 hi rfl (by omega) (by omega) e5
    rw [w5] at r5
    replace hf := jite hf
    rcases hf with ⟨c6, hf⟩ | ⟨c6, hf⟩
    · skip
      -- leaf 00: F_X12_free_34 n a0 x1 a0 (1 : Int32) q12.2
      rw [hq] at hf
      refine Or.inr ⟨i, h8, hi, hi0, ?_⟩
      rcases E_X12_free_34 (W := W) (r := r) (i := i) M1 w1 K g1 hr T1.1 rfl (Or.inr rfl) hi h8 (fun z => absurd z (by decide)) hf with ⟨-, b, T⟩ | ⟨s, -, -⟩
      · exact Or.inl ⟨fun z => absurd ((r5.2.mpr z).symm.trans c6) (by decide), b, rTh_tr T1 T⟩
      · exact absurd s (by decide)
    · skip
      -- leaf 01: F_X12_free_34 n a0 x1 a0 (0 : Int32) q12.2
      rw [hq] at hf
      have ct := r5.2.mp (r5.1.resolve_left c6)
      have hn := ring_next K hi0 ct
      refine Or.inr ⟨i, h8, hi, hi0, ?_⟩
      rcases E_X12_free_34 (W := W) (r := r) (i := i) M1 w1 K g1 hr T1.1 rfl (Or.inl rfl) hi h8 (fun _ => hn) hf with ⟨s, -, -⟩ | ⟨-, b, A⟩
      · exact absurd s (by decide)
      · exact Or.inr ⟨fun z => z ct, hn, b, rAct_tr T1 A⟩
  · skip
    cases hf
    -- leaf 1: ((0 : Int32), q12.2)
    rcases r3 with ⟨-, y, -⟩ | ⟨s, -, T⟩
    · exact absurd y c4
    · exact Or.inl ⟨r2.2.mp s, rfl, rTh_tr T1 T⟩
theorem E_X12_snag {W : jWd} {r : Nat} {n : Nat} {a0 : Nat} {x1 : Int32} {h : jH} {q : Int32 × jH} (M : mS (oc h) a0) (hW : wl (oc h) a0 = W) (K : wOK W) (h7 : oi (oc h) a0 7 = nI r) (hr : r ≤ 12) (hf : F_X12_snag n a0 x1 h = some q) : (¬ (0 ≤ x1.toInt ∧ x1.toInt < (W 0).toInt) ∧ q.1 = 0 ∧ rTh a0 1 h q.2) ∨ ∃ i : Nat, i < 8 ∧ x1 = nI i ∧ (i : Int) < (W 0).toInt ∧ ((((i : Int) + 1 = (W 0).toInt ∨ W (18 + 8 * i) = 1) ∧ q.1 = 0 ∧ rTh a0 2 h q.2) ∨ (¬ (((i : Int) + 1 = (W 0).toInt ∨ W (18 + 8 * i) = 1)) ∧ (i : Int) + 1 < (W 0).toInt ∧ q.1 = W (11 + 8 * (i + 1)) - W (11 + 8 * i) ∧ rAct a0 r (upd W (18 + 8 * i) 1) h q.2)) := by
  unfold F_X12_snag at hf
  replace hf := jbind hf
  obtain ⟨h2, e1, hf⟩ := hf
  obtain ⟨o1, z1⟩ := oc_pf e1
  clear e1
  replace hf := jbind hf
  obtain ⟨v8, e2, hf⟩ := hf
  replace e2 := (jcv_o e2).2
  have T1 : rTh a0 0 h h2 := ⟨by rw [o1, oi_eq], by rw [o1]; exact frM_f (by decide), z1⟩
  obtain ⟨M1, w1, g1⟩ := rTh_W T1 M hW h7
  have r2 := E_X12_noRing M1 w1 K e2
  replace hf := jbind hf
  obtain ⟨q12, e3, hf⟩ := hf
  replace e3 := (jcv_o e3).2
  have r3 := E_X12_throwsIf r2.1 e3
  replace hf := jite hf
  rcases hf with ⟨c4, hf⟩ | ⟨c4, hf⟩
  · skip
    replace hf := jbind hf
    obtain ⟨v21, e5, hf⟩ := hf
    replace e5 := (jcv_o e5).2
    have hq : q12.2 = h2 := by
      rcases r3 with ⟨-, -, y⟩ | ⟨-, y, -⟩
      · exact y
      · exact absurd (y.symm.trans c4) (by decide)
    have hv : v8 = 0 := by
      rcases r3 with ⟨y, -, -⟩ | ⟨-, y, -⟩
      · exact y
      · exact absurd (y.symm.trans c4) (by decide)
    obtain ⟨i, h8, hi, hi0⟩ := i_ring K (Classical.byContradiction fun z => absurd ((r2.2.mpr z).symm.trans hv) (by decide))
    have M5 : mS (oc q12.2) a0 := by rw [hq]; exact M1
    have w5 : wl (oc q12.2) a0 = W := by rw [hq]; exact w1
    have r5 := E_X12_lastRing M5 e5
    rw [w5] at r5
    replace hf := jite hf
    rcases hf with ⟨c6, hf⟩ | ⟨c6, hf⟩
    · skip
      -- leaf 00: F_X12_snag_42 n a0 x1 a0 (1 : Int32) q12.2
      have k0 := K.1
      have l1 : (1 : Int32).toInt = 1 := rfl
      rw [r5, hi] at c6
      have y := congrArg Int32.toInt c6
      rw [nI_toInt (by omega), jsub (by omega) (by omega), l1] at y
      rw [hq] at hf
      refine Or.inr ⟨i, h8, hi, hi0, ?_⟩
      rcases E_X12_snag_42 (W := W) (r := r) (i := i) M1 w1 K g1 hr T1.1 rfl (Or.inr rfl) hi h8 (fun z => absurd z (by decide)) hf with ⟨-, b, T⟩ | ⟨s, -, -⟩
      · exact Or.inl ⟨Or.inl (by omega), b, rTh_tr T1 T⟩
      · exact absurd s (by decide)
    · skip
      replace hf := jbind hf
      obtain ⟨v31, e7, hf⟩ := hf
      replace e7 := (jcv_o e7).2
      have r7 := E_X12_is (i := i) (j := 7) (t := 18 + 8 * i) M5 hi rfl (by omega) (by omega) e7
      rw [w5] at r7
      replace hf := jite hf
      rcases hf with ⟨c8, hf⟩ | ⟨c8, hf⟩
      · skip
        -- leaf 010: F_X12_snag_42 n a0 x1 a0 (0 : Int32) q12.2
        have k0 := K.1
        have l1 : (1 : Int32).toInt = 1 := rfl
        have nl : ¬ (i : Int) + 1 = (W 0).toInt := fun z => c6 (by rw [hi, r5]; exact (nI_k (by rw [jsub (by omega) (by omega)]; omega)).symm)
        rw [hq] at hf
        have nc : ¬ W (18 + 8 * i) = 1 := fun z => absurd ((r7.2.mpr z).symm.trans c8) (by decide)
        refine Or.inr ⟨i, h8, hi, hi0, ?_⟩
        rcases E_X12_snag_42 (W := W) (r := r) (i := i) M1 w1 K g1 hr T1.1 rfl (Or.inl rfl) hi h8 (fun _ => by omega) hf with ⟨s, -, -⟩ | ⟨-, b, A⟩
        · exact absurd s (by decide)
        · exact Or.inr ⟨fun z => z.elim nl nc, by omega, b, rAct_tr T1 A⟩
      · skip
        -- leaf 011: F_X12_snag_42 n a0 x1 a0 (1 : Int32) q12.2
        rw [hq] at hf
        refine Or.inr ⟨i, h8, hi, hi0, ?_⟩
        rcases E_X12_snag_42 (W := W) (r := r) (i := i) M1 w1 K g1 hr T1.1 rfl (Or.inr rfl) hi h8 (fun z => absurd z (by decide)) hf with ⟨-, b, T⟩ | ⟨s, -, -⟩
        · exact Or.inl ⟨Or.inr (r7.2.mp (r7.1.resolve_left c8)), b, rTh_tr T1 T⟩
        · exact absurd s (by decide)
  · skip
    cases hf
    -- leaf 1: ((0 : Int32), q12.2)
    rcases r3 with ⟨-, y, -⟩ | ⟨s, -, T⟩
    · exact absurd y c4
    · exact Or.inl ⟨r2.2.mp s, rfl, rTh_tr T1 T⟩
theorem E_X12_seed {W : jWd} {n : Nat} {a0 : Nat} {x1 : Int32} {h : jH} {q : Int32 × jH} (M : mS (oc h) a0) (hW : wl (oc h) a0 = W) (hf : F_X12_seed n a0 x1 h = some q) : q.1 = W 10 ∧ oi (oc q.2) a0 0 = 0 ∧ wl (oc q.2) a0 = upd W 10 x1 ∧ frM a0 [1] [0] (oc h) (oc q.2) ∧ q.2.1 = h.1 := by
  unfold F_X12_seed at hf
  obtain ⟨s1, s2, s3, s4, s5, s8, s15, s17, s19, s20, s21⟩ := id M
  replace hf := jbind hf
  obtain ⟨h2, e1, hf⟩ := hf
  obtain ⟨o1, z1⟩ := oc_pf e1
  clear e1
  replace hf := jbind hf
  obtain ⟨p6, e2, hf⟩ := hf
  have r2 := oc_gR e2
  rw [o1] at r2
  rw [u2_ne (Or.inr (by decide))] at r2
  rw [s1] at r2
  cases r2
  clear e2
  replace hf := jbind hf
  obtain ⟨v11, e3, hf⟩ := hf
  obtain ⟨r3, y3⟩ := oc_al e3
  rw [show (10 : Int32).toNatClampNeg = 10 from rfl] at r3
  rw [o1] at r3
  rw [oi_ne (Or.inl (by omega))] at r3
  subst r3
  clear e3
  replace hf := jbind hf
  obtain ⟨p14, e4, hf⟩ := hf
  have r4 := oc_gR e4
  rw [o1] at r4
  rw [u2_ne (Or.inr (by decide))] at r4
  rw [s1] at r4
  cases r4
  clear e4
  replace hf := jbind hf
  obtain ⟨h20, e5, hf⟩ := hf
  obtain ⟨o5, z5, y5⟩ := oc_as e5
  rw [jnar0] at o5
  rw [show (10 : Int32).toNatClampNeg = 10 from rfl] at o5
  clear e5
  cases hf
  -- leaf : (v11, h20)
  have g0 : oi (oc h20) a0 0 = 0 := by rw [o5, oi_ne (Or.inl (by omega)), o1, oi_eq]
  have f1 : frM a0 [1] [0] (oc h) (oc h2) := by rw [o1]; exact frM_f (by decide)
  have f2 : frM a0 [1] [0] (oc h2) (oc h20) := by rw [o5]; exact frM_c (by decide)
  have g1 : wl (oc h20) a0 = upd W 10 x1 := by rw [o5, wl_w, o1, wl_n (by omega), hW]
  exact ⟨congrFun hW 10, g0, g1, frM_tr f1 f2, z5.trans z1⟩
theorem E_X12_hook {W : jWd} {r : Nat} {n : Nat} {a0 : Nat} {x1 : Int32} {x2 : Int32} {h : jH} {q : Int32 × jH} (M : mS (oc h) a0) (hW : wl (oc h) a0 = W) (K : wOK W) (h7 : oi (oc h) a0 7 = nI r) (hr : r ≤ 12) (hb : x2 = 0 ∨ x2 = 1) (hf : F_X12_hook n a0 x1 x2 h = some q) : (¬ (0 ≤ x1.toInt ∧ x1.toInt < (W 0).toInt) ∧ q.1 = 0 ∧ rTh a0 1 h q.2) ∨ ∃ i : Nat, i < 8 ∧ x1 = nI i ∧ (i : Int) < (W 0).toInt ∧ (q.1 = (if W (17 + 8 * i) = x2 then 0 else 1) ∧ rAct a0 r (upd W (17 + 8 * i) x2) h q.2) := by
  unfold F_X12_hook at hf
  replace hf := jbind hf
  obtain ⟨h2, e1, hf⟩ := hf
  obtain ⟨o1, z1⟩ := oc_pf e1
  clear e1
  replace hf := jbind hf
  obtain ⟨v8, e2, hf⟩ := hf
  replace e2 := (jcv_o e2).2
  have T1 : rTh a0 0 h h2 := ⟨by rw [o1, oi_eq], by rw [o1]; exact frM_f (by decide), z1⟩
  obtain ⟨M1, w1, g1⟩ := rTh_W T1 M hW h7
  have r2 := E_X12_noRing M1 w1 K e2
  replace hf := jbind hf
  obtain ⟨q12, e3, hf⟩ := hf
  replace e3 := (jcv_o e3).2
  have r3 := E_X12_throwsIf r2.1 e3
  replace hf := jite hf
  rcases hf with ⟨c4, hf⟩ | ⟨c4, hf⟩
  · skip
    replace hf := jbind hf
    obtain ⟨h21, e5, hf⟩ := hf
    replace e5 := (jcv_o e5).2
    have hq : q12.2 = h2 := by
      rcases r3 with ⟨-, -, y⟩ | ⟨-, y, -⟩
      · exact y
      · exact absurd (y.symm.trans c4) (by decide)
    have hv : v8 = 0 := by
      rcases r3 with ⟨y, -, -⟩ | ⟨-, y, -⟩
      · exact y
      · exact absurd (y.symm.trans c4) (by decide)
    obtain ⟨i, h8, hi, hi0⟩ := i_ring K (Classical.byContradiction fun z => absurd ((r2.2.mpr z).symm.trans hv) (by decide))
    rw [hq] at e5
    have R5 : rRM a0 r h2 h21 := E_X12_remembers M1 g1 hr e5
    have M5 : mS (oc h21) a0 := mS_fr M1 R5.2.2.2.1 (by decide) (by decide)
    obtain ⟨t1, t2, t3, t4, t5, t8, t15, t17, t19, t20, t21⟩ := id M5
    have w5 : wl (oc h21) a0 = W := (wl_f R5.2.2.2.1 (by decide)).trans w1
    replace hf := jbind hf
    obtain ⟨v28, e6, hf⟩ := hf
    replace e6 := (jcv_o e6).2
    have r6 := E_X12_is (i := i) (j := 6) (t := 17 + 8 * i) M5 hi rfl (by omega) (by omega) e6
    rw [w5] at r6
    replace hf := jbind hf
    obtain ⟨p33, e7, hf⟩ := hf
    have r7 := oc_gR e7
    rw [t1] at r7
    cases r7
    clear e7
    replace hf := jbind hf
    obtain ⟨v39, e8, hf⟩ := hf
    have r8 := E_X12_at (i := i) (j := 6) (t := 17 + 8 * i) hi rfl (by omega) e8
    replace hf := jite hf
    rcases hf with ⟨c9, hf⟩ | ⟨c9, hf⟩
    · skip
      replace hf := jbind hf
      obtain ⟨h51, e10, hf⟩ := hf
      obtain ⟨o10, z10, y10⟩ := oc_as e10
      rw [jnar0] at o10
      clear e10
      replace hf := jite hf
      rcases hf with ⟨c11, hf⟩ | ⟨c11, hf⟩
      · skip
        cases hf
        -- leaf 000: ((0 : Int32), h51)
        have hv6 : v28 = W (17 + 8 * i) := bool_eq r6.1 r6.2 (K.2.1 i hi0).2.2.2.2.2.2.1
        rw [r8, nI_cl (by omega)] at o10
        have f7 : frM a0 [1, 8] [] (oc h21) (oc h51) := by rw [o10]; exact frM_c (by decide)
        have hx2 : x2 = 0 := c9
        have w7 : wl (oc h51) a0 = upd W (17 + 8 * i) x2 := by rw [o10, wl_w, w5, hx2]
        exact Or.inr ⟨i, h8, hi, hi0, by rw [← hv6]; exact (if_pos c11).symm, rAct_tr T1 (rAct_mk T1.1 R5 f7 w7 z10)⟩
      · skip
        cases hf
        -- leaf 001: ((1 : Int32), h51)
        have hv6 : v28 = W (17 + 8 * i) := bool_eq r6.1 r6.2 (K.2.1 i hi0).2.2.2.2.2.2.1
        rw [r8, nI_cl (by omega)] at o10
        have f7 : frM a0 [1, 8] [] (oc h21) (oc h51) := by rw [o10]; exact frM_c (by decide)
        have hx2 : x2 = 0 := c9
        have w7 : wl (oc h51) a0 = upd W (17 + 8 * i) x2 := by rw [o10, wl_w, w5, hx2]
        exact Or.inr ⟨i, h8, hi, hi0, by rw [← hv6]; exact (if_neg c11).symm, rAct_tr T1 (rAct_mk T1.1 R5 f7 w7 z10)⟩
    · skip
      replace hf := jbind hf
      obtain ⟨h51, e12, hf⟩ := hf
      obtain ⟨o12, z12, y12⟩ := oc_as e12
      rw [jnar0] at o12
      clear e12
      replace hf := jite hf
      rcases hf with ⟨c13, hf⟩ | ⟨c13, hf⟩
      · skip
        cases hf
        -- leaf 010: ((0 : Int32), h51)
        have hv6 : v28 = W (17 + 8 * i) := bool_eq r6.1 r6.2 (K.2.1 i hi0).2.2.2.2.2.2.1
        rw [r8, nI_cl (by omega)] at o12
        have f7 : frM a0 [1, 8] [] (oc h21) (oc h51) := by rw [o12]; exact frM_c (by decide)
        have hx2 : x2 = 1 := hb.resolve_left c9
        have w7 : wl (oc h51) a0 = upd W (17 + 8 * i) x2 := by rw [o12, wl_w, w5, hx2]
        exact Or.inr ⟨i, h8, hi, hi0, by rw [← hv6]; exact (if_pos c13).symm, rAct_tr T1 (rAct_mk T1.1 R5 f7 w7 z12)⟩
      · skip
        cases hf
        -- leaf 011: ((1 : Int32), h51)
        have hv6 : v28 = W (17 + 8 * i) := bool_eq r6.1 r6.2 (K.2.1 i hi0).2.2.2.2.2.2.1
        rw [r8, nI_cl (by omega)] at o12
        have f7 : frM a0 [1, 8] [] (oc h21) (oc h51) := by rw [o12]; exact frM_c (by decide)
        have hx2 : x2 = 1 := hb.resolve_left c9
        have w7 : wl (oc h51) a0 = upd W (17 + 8 * i) x2 := by rw [o12, wl_w, w5, hx2]
        exact Or.inr ⟨i, h8, hi, hi0, by rw [← hv6]; exact (if_neg c13).symm, rAct_tr T1 (rAct_mk T1.1 R5 f7 w7 z12)⟩
  · skip
    cases hf
    -- leaf 1: ((0 : Int32), q12.2)
    rcases r3 with ⟨-, y, -⟩ | ⟨s, -, T⟩
    · exact absurd y c4
    · exact Or.inl ⟨r2.2.mp s, rfl, rTh_tr T1 T⟩
theorem E_X12_chair {W : jWd} {r : Nat} {n : Nat} {a0 : Nat} {x1 : Int32} {x2 : Int32} {h : jH} {q : Int32 × jH} (M : mS (oc h) a0) (hW : wl (oc h) a0 = W) (K : wOK W) (h7 : oi (oc h) a0 7 = nI r) (hr : r ≤ 12) (hb : x2 = 0 ∨ x2 = 1) (hf : F_X12_chair n a0 x1 x2 h = some q) : (¬ (0 ≤ x1.toInt ∧ x1.toInt ≤ 31) ∧ q.1 = 0 ∧ rTh a0 1 h q.2) ∨ ∃ i : Nat, i < 32 ∧ x1 = nI i ∧ q.1 = (if chV (W 7) i x2 = W 7 then 0 else 1) ∧ rAct a0 r (upd W 7 (chV (W 7) i x2)) h q.2 := by
  unfold F_X12_chair at hf
  replace hf := jbind hf
  obtain ⟨h2, e1, hf⟩ := hf
  obtain ⟨o1, z1⟩ := oc_pf e1
  clear e1
  replace hf := jbind hf
  obtain ⟨v7, e2, hf⟩ := hf
  have T1 : rTh a0 0 h h2 := ⟨by rw [o1, oi_eq], by rw [o1]; exact frM_f (by decide), z1⟩
  obtain ⟨M1, w1, g1⟩ := rTh_W T1 M hW h7
  have r2 := E_X12_noPlace e2
  replace hf := jbind hf
  obtain ⟨q11, e3, hf⟩ := hf
  replace e3 := (jcv_o e3).2
  have r3 := E_X12_throwsIf r2.1 e3
  replace hf := jite hf
  rcases hf with ⟨c4, hf⟩ | ⟨c4, hf⟩
  · skip
    replace hf := jbind hf
    obtain ⟨h20, e5, hf⟩ := hf
    replace e5 := (jcv_o e5).2
    have hq : q11.2 = h2 := by
      rcases r3 with ⟨-, -, y⟩ | ⟨-, y, -⟩
      · exact y
      · exact absurd (y.symm.trans c4) (by decide)
    have hv : v7 = 0 := by
      rcases r3 with ⟨y, -, -⟩ | ⟨-, y, -⟩
      · exact y
      · exact absurd (y.symm.trans c4) (by decide)
    obtain ⟨i, h8, hi⟩ := i_place (Classical.byContradiction fun z => absurd ((r2.2.mpr z).symm.trans hv) (by decide))
    rw [hq] at e5
    have R5 : rRM a0 r h2 h20 := E_X12_remembers M1 g1 hr e5
    have M5 : mS (oc h20) a0 := mS_fr M1 R5.2.2.2.1 (by decide) (by decide)
    obtain ⟨t1, t2, t3, t4, t5, t8, t15, t17, t19, t20, t21⟩ := id M5
    have w5 : wl (oc h20) a0 = W := (wl_f R5.2.2.2.1 (by decide)).trans w1
    replace hf := jbind hf
    obtain ⟨p24, e6, hf⟩ := hf
    have r6 := oc_gR e6
    rw [t1] at r6
    cases r6
    clear e6
    replace hf := jbind hf
    obtain ⟨v29, e7, hf⟩ := hf
    obtain ⟨r7, y7⟩ := oc_al e7
    rw [show (7 : Int32).toNatClampNeg = 7 from rfl] at r7
    subst r7
    clear e7
    replace hf := jbind hf
    obtain ⟨v31, e8, hf⟩ := hf
    have r8 := E_X12_has (k := i) hi h8 e8
    replace hf := jbind hf
    obtain ⟨p36, e9, hf⟩ := hf
    have r9 := oc_gR e9
    rw [t1] at r9
    cases r9
    clear e9
    replace hf := jbind hf
    obtain ⟨v41, e10, hf⟩ := hf
    obtain ⟨r10, y10⟩ := oc_al e10
    rw [show (7 : Int32).toNatClampNeg = 7 from rfl] at r10
    subst r10
    clear e10
    replace hf := jbind hf
    obtain ⟨p51, e11, hf⟩ := hf
    have r11 := oc_gR e11
    rw [t1] at r11
    cases r11
    clear e11
    replace hf := jite hf
    rcases hf with ⟨c12, hf⟩ | ⟨c12, hf⟩
    · skip
      replace hf := jbind hf
      obtain ⟨h71, e13, hf⟩ := hf
      obtain ⟨o13, z13, y13⟩ := oc_as e13
      rw [jnar0] at o13
      rw [show (7 : Int32).toNatClampNeg = 7 from rfl] at o13
      clear e13
      replace hf := jite hf
      rcases hf with ⟨c14, hf⟩ | ⟨c14, hf⟩
      · skip
        cases hf
        -- leaf 000: ((0 : Int32), h71)
        have c7 : oi (oc h20) (a0 + 1) 7 = W 7 := congrFun w5 7
        rw [hi, c7] at o13
        rw [c7] at r8
        have an := chV_ans h8 hb r8
        have f7 : frM a0 [1, 8] [] (oc h20) (oc h71) := by rw [o13]; exact frM_c (by decide)
        have w7 : wl (oc h71) a0 = upd W 7 (chV (W 7) i x2) := by rw [o13, wl_w, w5]; unfold chV; rw [if_pos c12]
        exact Or.inr ⟨i, h8, hi, (if_pos (an.mpr c14)).symm, rAct_tr T1 (rAct_mk T1.1 R5 f7 w7 z13)⟩
      · skip
        cases hf
        -- leaf 001: ((1 : Int32), h71)
        have c7 : oi (oc h20) (a0 + 1) 7 = W 7 := congrFun w5 7
        rw [hi, c7] at o13
        rw [c7] at r8
        have an := chV_ans h8 hb r8
        have f7 : frM a0 [1, 8] [] (oc h20) (oc h71) := by rw [o13]; exact frM_c (by decide)
        have w7 : wl (oc h71) a0 = upd W 7 (chV (W 7) i x2) := by rw [o13, wl_w, w5]; unfold chV; rw [if_pos c12]
        exact Or.inr ⟨i, h8, hi, (if_neg fun z => c14 (an.mp z)).symm, rAct_tr T1 (rAct_mk T1.1 R5 f7 w7 z13)⟩
    · skip
      replace hf := jbind hf
      obtain ⟨h71, e15, hf⟩ := hf
      obtain ⟨o15, z15, y15⟩ := oc_as e15
      rw [jnar0] at o15
      rw [show (7 : Int32).toNatClampNeg = 7 from rfl] at o15
      clear e15
      replace hf := jite hf
      rcases hf with ⟨c16, hf⟩ | ⟨c16, hf⟩
      · skip
        cases hf
        -- leaf 010: ((0 : Int32), h71)
        have c7 : oi (oc h20) (a0 + 1) 7 = W 7 := congrFun w5 7
        rw [hi, c7, chr_eq h8] at o15
        rw [c7] at r8
        have an := chV_ans h8 hb r8
        have f7 : frM a0 [1, 8] [] (oc h20) (oc h71) := by rw [o15]; exact frM_c (by decide)
        have w7 : wl (oc h71) a0 = upd W 7 (chV (W 7) i x2) := by rw [o15, wl_w, w5]; unfold chV; rw [if_neg c12]
        exact Or.inr ⟨i, h8, hi, (if_pos (an.mpr c16)).symm, rAct_tr T1 (rAct_mk T1.1 R5 f7 w7 z15)⟩
      · skip
        cases hf
        -- leaf 011: ((1 : Int32), h71)
        have c7 : oi (oc h20) (a0 + 1) 7 = W 7 := congrFun w5 7
        rw [hi, c7, chr_eq h8] at o15
        rw [c7] at r8
        have an := chV_ans h8 hb r8
        have f7 : frM a0 [1, 8] [] (oc h20) (oc h71) := by rw [o15]; exact frM_c (by decide)
        have w7 : wl (oc h71) a0 = upd W 7 (chV (W 7) i x2) := by rw [o15, wl_w, w5]; unfold chV; rw [if_neg c12]
        exact Or.inr ⟨i, h8, hi, (if_neg fun z => c16 (an.mp z)).symm, rAct_tr T1 (rAct_mk T1.1 R5 f7 w7 z15)⟩
  · skip
    cases hf
    -- leaf 1: ((0 : Int32), q11.2)
    rcases r3 with ⟨-, y, -⟩ | ⟨s, -, T⟩
    · exact absurd y c4
    · exact Or.inl ⟨r2.2.mp s, rfl, rTh_tr T1 T⟩
end
section
/-! acts of the class -/
/-- x: the class, its rod tells W, the next place of its acts is nx -/
def cPre (x nx : Nat) (W : jWd) (h : jH) : Prop :=
  (oc h x 1 = .ref (x + 6) ∧ oc h x 3 = .ref (x + 19) ∧ oc h (x + 19) 0 = .ref (x + 20) ∧ oi (oc h) (x + 19) 1 = nI nx ∧ nx ≤ 11 ∧ rodE (oc h) (x + 6) W ∧ wOK W) ∧
  (∀ b : Nat, oc h (x + 20) nx = .ref b → rodS (oc h) b ∧ x + 52 < b) ∧ x + 52 < h.1 ∧ (0 ≤ (oi (oc h) (x + 19) 2).toInt ∧ (oi (oc h) (x + 19) 2).toInt ≤ 12)
/-- b is the rod that remembers W -/
def cRm (x nx b : Nat) (W : jWd) (h q : jH) : Prop :=
  ((oc h (x + 20) nx = .ref b ∧ q.1 = h.1) ∨ (oc h (x + 20) nx = .null ∧ b = h.1 ∧ q.1 = h.1 + 7)) ∧ oc q (x + 20) nx = .ref b ∧ rodE (oc q) b W ∧ oi (oc q) (x + 19) 1 = nI ((nx + 1) % 12) ∧ (oi (oc q) (x + 19) 2).toInt = (if (oi (oc h) (x + 19) 2).toInt < 12 then (oi (oc h) (x + 19) 2).toInt + 1 else 12)
/-- the act before is remembered in the rod b, the class's rod tells W2 -/
def cAct (x nx : Nat) (W W2 : jWd) (h q : jH) : Prop :=
  rodE (oc q) (x + 6) W2 ∧ ∃ b : Nat, cRm x nx b W h q ∧ (∀ a k, a < h.1 → ¬ (b ≤ a ∧ a ≤ b + 6) → ¬ (a = x + 19 ∧ (k = 1 ∨ k = 2)) → ¬ (a = x + 20 ∧ k = nx) → ¬ (x + 6 ≤ a ∧ a ≤ x + 12) → a ≠ x + 18 → ¬ (a = x + 13 ∧ k = 5) → oc q a k = oc h a k)
theorem cRm_lb {x nx b : Nat} {W : jWd} {h q : jH} (hz : x + 52 < h.1) (hb : ∀ b : Nat, oc h (x + 20) nx = .ref b → rodS (oc h) b ∧ x + 52 < b) (A : cRm x nx b W h q) : x + 52 < b := by
  rcases A.1 with ⟨e, -⟩ | ⟨-, e, -⟩
  · exact (hb b e).2
  · rw [e]; exact hz
theorem c_rem {n x nx : Nat} {W : jWd} {h q : jH} (C : cPre x nx W h) (hf : F_X0_remember n (x + 19) (x + 6) h = some q) : oc q x 1 = .ref (x + 6) ∧ rodE (oc q) (x + 6) W ∧ cAct x nx W W h q := by
  obtain ⟨⟨x1, x3, sA, hx, hn, R, K⟩, hb, hz, sz⟩ := C
  obtain ⟨b, A, c5⟩ : ∃ b : Nat, cRm x nx b W h q ∧ (∀ a k, a < h.1 → ¬ (b ≤ a ∧ a ≤ b + 6) → ¬ (a = x + 19 ∧ (k = 1 ∨ k = 2)) → ¬ (a = x + 20 ∧ k = nx) → oc q a k = oc h a k) := by
    obtain ⟨b, B, c1, c2, c3, c4, c5⟩ := E_X0_remember (h := h) sA hx hn R K (fun b e => ⟨(hb b e).1, Or.inr (by have := (hb b e).2; omega), Or.inr (by have := (hb b e).2; omega)⟩) (by omega) (by omega) (by omega) sz hf
    exact ⟨b, ⟨B, c1, c2, c3, c4⟩, c5⟩
  have lb := cRm_lb hz hb A
  have y1 : oc q x 1 = .ref (x + 6) := (c5 _ _ (by omega) (by omega) (by omega) (by omega)).trans x1
  have y2 : rodE (oc q) (x + 6) W := rodE_fr R (fun a k h1 h2 => c5 _ _ (by omega) (by omega) (by omega) (by omega))
  exact ⟨y1, y2, y2, b, A, fun a k z1 z2 z3 z4 _ _ _ => c5 a k z1 z2 z3 z4⟩
/-- what the act does to the rod after that -/
theorem c_mkL {x nx : Nat} {W W2 : jWd} {h p q : jH} (hz : x + 52 < h.1) (hb : ∀ b : Nat, oc h (x + 20) nx = .ref b → rodS (oc h) b ∧ x + 52 < b) (A : cAct x nx W W h p) (f : frRL (x + 6) (x + 13) (oc p) (oc q)) (R : rodE (oc q) (x + 6) W2) (z : q.1 = p.1) : cAct x nx W W2 h q := by
  obtain ⟨-, b, A, c5⟩ := A
  have lb := cRm_lb hz hb A
  obtain ⟨B, c1, c2, c3, c4⟩ := A
  have o1 : ∀ k, oi (oc q) (x + 19) k = oi (oc p) (x + 19) k := fun k => by unfold oi; rw [f _ _ (by omega) (by omega) (by omega)]
  refine ⟨R, b, ⟨?_, (f _ _ (by omega) (by omega) (by omega)).trans c1, rodE_fr c2 (fun a k h1 h2 => f _ _ (by omega) (by omega) (by omega)), (o1 1).trans c3, by rw [o1 2]; exact c4⟩, fun a k z1 z2 z3 z4 z5 z6 z7 => (f _ _ (by omega) (by omega) (by omega)).trans (c5 a k z1 z2 z3 z4 z5 z6 z7)⟩
  rcases B with ⟨e, y⟩ | ⟨e, y1, y2⟩
  · exact Or.inl ⟨e, z.trans y⟩
  · exact Or.inr ⟨e, y1, z.trans y2⟩
theorem c_mk {x nx : Nat} {W W2 : jWd} {h p q : jH} (hz : x + 52 < h.1) (hb : ∀ b : Nat, oc h (x + 20) nx = .ref b → rodS (oc h) b ∧ x + 52 < b) (A : cAct x nx W W h p) (f : frR (x + 6) (oc p) (oc q)) (R : rodE (oc q) (x + 6) W2) (z : q.1 = p.1) : cAct x nx W W2 h q := c_mkL hz hb A (frRL_R f) R z
theorem c_keep {x nx : Nat} {W W2 : jWd} {h q : jH} (hz : x + 52 < h.1) (hb : ∀ b : Nat, oc h (x + 20) nx = .ref b → rodS (oc h) b ∧ x + 52 < b) (A : cAct x nx W W2 h q) : ∀ a k, a ≤ x + 52 → ¬ (a = x + 19 ∧ (k = 1 ∨ k = 2)) → ¬ (a = x + 20 ∧ k = nx) → ¬ (x + 6 ≤ a ∧ a ≤ x + 12) → a ≠ x + 18 → ¬ (a = x + 13 ∧ k = 5) → oc q a k = oc h a k := by
  obtain ⟨-, b, A, c5⟩ := A
  have lb := cRm_lb hz hb A
  exact fun a k z z2 z3 z4 z5 z6 => c5 a k (by omega) (by omega) z2 z3 z4 z5 z6
theorem E_X11_requireRing {W : jWd} {nx : Nat} {n : Nat} {a0 : Nat} {x1 : Int32} {h : jH} {q : jR × jH} (C : cPre a0 nx W h) (hf : F_X11_requireRing n a0 x1 h = some q) : ((0 ≤ x1.toInt ∧ x1.toInt < (W 0).toInt) ∧ q.1 = .inl 0 ∧ q.2 = h) ∨ (¬ (0 ≤ x1.toInt ∧ x1.toInt < (W 0).toInt) ∧ q.1 = .inr 2 ∧ q.2 = h) := by
  unfold F_X11_requireRing at hf
  obtain ⟨⟨X1, X3, sA, hx, hn, R, K⟩, hb, hz, sz⟩ := id C
  obtain ⟨⟨s0, s1, s2, s3, s4, s5⟩, ⟨u5, u10, u11, u12, u13, u14, u15, u16, u17⟩, RB, RC, RL⟩ := id R
  have l0 : (0 : Int32).toInt = 0 := rfl
  replace hf := jite hf
  rcases hf with ⟨c1, hf⟩ | ⟨c1, hf⟩
  · skip
    cases hf
    -- leaf 0: (.inr 2, h)
    rw [Int32.lt_iff_toInt_lt, l0] at c1
    exact Or.inr ⟨by omega, rfl, rfl⟩
  · skip
    replace hf := jbind hf
    obtain ⟨p6, e2, hf⟩ := hf
    have r2 := oc_gR e2
    rw [X1] at r2
    cases r2
    clear e2
    replace hf := jbind hf
    obtain ⟨v9, e3, hf⟩ := hf
    have r3 := oc_gI e3
    subst r3
    clear e3
    replace hf := jite hf
    rcases hf with ⟨c4, hf⟩ | ⟨c4, hf⟩
    · skip
      cases hf
      -- leaf 10: (.inl 0, h)
      rw [Int32.lt_iff_toInt_lt, l0] at c1
      rw [u5, Int32.lt_iff_toInt_lt] at c4
      exact Or.inl ⟨by omega, rfl, rfl⟩
    · skip
      cases hf
      -- leaf 11: (.inr 2, h)
      rw [u5, Int32.lt_iff_toInt_lt] at c4
      exact Or.inr ⟨by omega, rfl, rfl⟩
theorem E_X11_requirePlace {n : Nat} {a0 : Nat} {x1 : Int32} {h : jH} {q : jR × jH} (hf : F_X11_requirePlace n a0 x1 h = some q) : ((0 ≤ x1.toInt ∧ x1.toInt ≤ 31) ∧ q.1 = .inl 0 ∧ q.2 = h) ∨ (¬ (0 ≤ x1.toInt ∧ x1.toInt ≤ 31) ∧ q.1 = .inr 2 ∧ q.2 = h) := by
  unfold F_X11_requirePlace at hf
  have l0 : (0 : Int32).toInt = 0 := rfl
  have l31 : (31 : Int32).toInt = 31 := rfl
  replace hf := jite hf
  rcases hf with ⟨c1, hf⟩ | ⟨c1, hf⟩
  · skip
    cases hf
    -- leaf 0: (.inr 2, h)
    rw [Int32.lt_iff_toInt_lt, l0] at c1
    exact Or.inr ⟨by omega, rfl, rfl⟩
  · skip
    replace hf := jite hf
    rcases hf with ⟨c2, hf⟩ | ⟨c2, hf⟩
    · skip
      cases hf
      -- leaf 10: (.inl 0, h)
      rw [Int32.lt_iff_toInt_lt, l0] at c1
      rw [Int32.le_iff_toInt_le, l31] at c2
      exact Or.inl ⟨by omega, rfl, rfl⟩
    · skip
      cases hf
      -- leaf 11: (.inr 2, h)
      rw [Int32.le_iff_toInt_le, l31] at c2
      exact Or.inr ⟨by omega, rfl, rfl⟩
theorem E_X11_requireNumber {n : Nat} {a0 : Nat} {x1 : Int32} {x2 : Int32} {x3 : Int32} {h : jH} {q : jR × jH} (hf : F_X11_requireNumber n a0 x1 x2 x3 h = some q) : ((x2.toInt ≤ x1.toInt ∧ x1.toInt ≤ x3.toInt) ∧ q.1 = .inl 0 ∧ q.2 = h) ∨ (¬ (x2.toInt ≤ x1.toInt ∧ x1.toInt ≤ x3.toInt) ∧ q.1 = .inr 0 ∧ q.2 = h) := by
  unfold F_X11_requireNumber at hf
  replace hf := jite hf
  rcases hf with ⟨c1, hf⟩ | ⟨c1, hf⟩
  · skip
    cases hf
    -- leaf 0: (.inr 0, h)
    rw [Int32.lt_iff_toInt_lt] at c1
    exact Or.inr ⟨by omega, rfl, rfl⟩
  · skip
    replace hf := jite hf
    rcases hf with ⟨c2, hf⟩ | ⟨c2, hf⟩
    · skip
      cases hf
      -- leaf 10: (.inl 0, h)
      rw [Int32.lt_iff_toInt_lt] at c1
      rw [Int32.le_iff_toInt_le] at c2
      exact Or.inl ⟨by omega, rfl, rfl⟩
    · skip
      cases hf
      -- leaf 11: (.inr 0, h)
      rw [Int32.le_iff_toInt_le] at c2
      exact Or.inr ⟨by omega, rfl, rfl⟩
theorem E_X11_let {W : jWd} {nx : Nat} {n : Nat} {a0 : Nat} {x1 : Int32} {x2 : Int32} {h : jH} {q : jR × jH} (C : cPre a0 nx W h) (hf : F_X11_let n a0 x1 x2 h = some q) : (¬ (0 ≤ x1.toInt ∧ x1.toInt < (W 0).toInt) ∧ q.1 = .inr 2 ∧ q.2 = h) ∨ ∃ i : Nat, i < 8 ∧ x1 = nI i ∧ (i : Int) < (W 0).toInt ∧ ((¬ (0 ≤ x2.toInt ∧ x2.toInt ≤ 9) ∧ q.1 = .inr 0 ∧ q.2 = h) ∨ ((0 ≤ x2.toInt ∧ x2.toInt ≤ 9) ∧ q.1 = .inl (W (16 + 8 * i)) ∧ cAct a0 nx W (upd W (16 + 8 * i) x2) h q.2)) := by
  unfold F_X11_let at hf
  obtain ⟨⟨X1, X3, sA, hx, hn, R, K⟩, hb, hz, sz⟩ := id C
  obtain ⟨⟨s0, s1, s2, s3, s4, s5⟩, ⟨u5, u10, u11, u12, u13, u14, u15, u16, u17⟩, RB, RC, RL⟩ := id R
  replace hf := jbind hf
  obtain ⟨q2, e1, hf⟩ := hf
  replace e1 := (jcv_o e1).2
  have r1 := E_X11_requireRing C e1
  obtain ⟨wq2, h2⟩ := q2
  have hqq : h2 = h := r1.elim (fun y => y.2.2) (fun y => y.2.2)
  subst hqq
  rcases wq2 with r2 | xq2
  · skip
    replace hf := (jthen_l (q := (.inl r2, h2)) rfl).symm.trans hf
    dsimp only at hf
    replace hf := jbind hf
    obtain ⟨q10, e2, hf⟩ := hf
    replace e2 := (jcv_o e2).2
    have r2 := E_X11_requireNumber e2
    obtain ⟨wq10, h10⟩ := q10
    have hqq : h10 = h2 := r2.elim (fun y => y.2.2) (fun y => y.2.2)
    subst hqq
    rcases wq10 with r10 | xq10
    · skip
      replace hf := (jthen_l (q := (.inl r10, h10)) rfl).symm.trans hf
      dsimp only at hf
      replace hf := jbind hf
      obtain ⟨p14, e3, hf⟩ := hf
      have r3 := oc_gR e3
      rw [X3] at r3
      cases r3
      clear e3
      replace hf := jbind hf
      obtain ⟨p18, e4, hf⟩ := hf
      have r4 := oc_gR e4
      rw [X1] at r4
      cases r4
      clear e4
      replace hf := jbind hf
      obtain ⟨h21, e5, hf⟩ := hf
      replace e5 := (jcv_o e5).2
      obtain ⟨Y1, RR, AA⟩ := c_rem C e5
      obtain ⟨⟨t0, t1, t2, t3, t4, t5⟩, ⟨g5, g10, g11, g12, g13, g14, g15, g16, g17⟩, QB, QC, QL⟩ := id RR
      replace hf := jbind hf
      obtain ⟨p25, e6, hf⟩ := hf
      have r6 := oc_gR e6
      rw [Y1] at r6
      cases r6
      clear e6
      replace hf := jbind hf
      obtain ⟨p28, e7, hf⟩ := hf
      have r7 := oc_gR e7
      rw [t3] at r7
      cases r7
      clear e7
      replace hf := jbind hf
      obtain ⟨v32, e8, hf⟩ := hf
      obtain ⟨r8, y8⟩ := oc_al e8
      subst r8
      clear e8
      replace hf := jbind hf
      obtain ⟨p35, e9, hf⟩ := hf
      have r9 := oc_gR e9
      rw [Y1] at r9
      cases r9
      clear e9
      replace hf := jbind hf
      obtain ⟨p38, e10, hf⟩ := hf
      have r10 := oc_gR e10
      rw [t3] at r10
      cases r10
      clear e10
      replace hf := jbind hf
      obtain ⟨h43, e11, hf⟩ := hf
      obtain ⟨o11, z11, y11⟩ := oc_as e11
      rw [jnar0] at o11
      clear e11
      cases hf
      -- leaf : (.inl v32, h43)
      have P : (0 ≤ x1.toInt ∧ x1.toInt < (W 0).toInt) := by
        rcases r1 with ⟨P, -, -⟩ | ⟨-, y, -⟩
        · exact P
        · cases y
      obtain ⟨i, h8, hi, hi0⟩ := i_ring K P
      refine Or.inr ⟨i, h8, hi, hi0, ?_⟩
      have P2 : (0 ≤ x2.toInt ∧ x2.toInt ≤ 9) := by
        rcases r2 with ⟨P, -, -⟩ | ⟨-, y, -⟩
        · exact P
        · cases y
      rw [hi, nI_cl (by omega)] at o11
      have f7 : frR (a0 + 6) (oc h21) (oc h43) := by rw [o11]; exact frR_u2 (by omega)
      have R7 : rodE (oc h43) (a0 + 6) (upd W (16 + 8 * i) x2) := by rw [o11]; exact rodE_ln RR h8
      exact Or.inr ⟨P2, by rw [hi, nI_cl (by omega), (QB i hi0).2.2.2.2.2.1], c_mk hz hb AA f7 R7 z11⟩
    · skip
      replace hf := (jthen_r (q := (.inr xq10, h10)) rfl).symm.trans hf
      cases hf
      have P : (0 ≤ x1.toInt ∧ x1.toInt < (W 0).toInt) := by
        rcases r1 with ⟨P, -, -⟩ | ⟨-, y, -⟩
        · exact P
        · cases y
      obtain ⟨i, h8, hi, hi0⟩ := i_ring K P
      refine Or.inr ⟨i, h8, hi, hi0, ?_⟩
      rcases r2 with ⟨-, y, -⟩ | ⟨P2, y, -⟩
      · cases y
      · exact Or.inl ⟨P2, y, rfl⟩
  · skip
    replace hf := (jthen_r (q := (.inr xq2, h2)) rfl).symm.trans hf
    cases hf
    rcases r1 with ⟨-, y, -⟩ | ⟨P, y, -⟩
    · cases y
    · exact Or.inl ⟨P, y, rfl⟩
end
section
theorem chV_bit {v x : Int32} {k : Nat} (hk : k < 32) (hx : x = 0 ∨ x = 1) : ∀ j, j < 32 → (bt (chV v k x) j = true ↔ (if j = k then x = 1 else bt v j = true)) := by
  intro j hj
  rcases hx with rfl | rfl
  · unfold chV
    rw [if_pos rfl, b_clr hk hj]
    by_cases e : j = k <;> simp [e]
  · unfold chV
    rw [if_neg (by decide), b_set hk hj]
    by_cases e : j = k <;> simp [e]
theorem gap_c {W : jWd} {i : Nat} {x v e : Int32} (hn : (i : Int) + 1 < (W 0).toInt) (h : v = if (i : Int) + 1 < (upd W (18 + 8 * i) x 0).toInt then upd W (18 + 8 * i) x (11 + 8 * (i + 1)) - upd W (18 + 8 * i) x (11 + 8 * i) else e) : v = W (11 + 8 * (i + 1)) - W (11 + 8 * i) := by
  rw [h, upd_n (by omega), if_pos hn, upd_n (by omega), upd_n (by omega)]
theorem E_X11_bit {i : Nat} {n : Nat} {x0 : Int32} {x1 : Int32} {h : jH} {q : Int32} (hx : x1 = nI i) (h8 : i < 32) (hf : F_X11_bit n x0 x1 h = some q) : q = if bt x0 i = true then 1 else 0 := by
  unfold F_X11_bit at hf
  cases hf
  -- leaf : ((jushr x0 x1) &&& (1 : Int32))
  rw [hx]
  exact b_ask0 h8
theorem E_X11_withBit {i : Nat} {n : Nat} {x0 : Int32} {x1 : Int32} {x2 : Int32} {h : jH} {q : Int32} (hx : x1 = nI i) (hf : F_X11_withBit n x0 x1 x2 h = some q) : q = chV x0 i x2 := by
  unfold F_X11_withBit at hf
  replace hf := jite hf
  rcases hf with ⟨c1, hf⟩ | ⟨c1, hf⟩
  · skip
    cases hf
    -- leaf 0: (x0 &&& (((1 : Int32) <<< (x1 &&& 31)) ^^^ (- 1 : Int32)))
    unfold chV
    rw [if_pos c1, hx]
  · skip
    cases hf
    -- leaf 1: (x0 ||| ((1 : Int32) <<< (x1 &&& 31)))
    unfold chV
    rw [if_neg c1, hx]
theorem E_X11_free {W : jWd} {nx : Nat} {n : Nat} {a0 : Nat} {x1 : Int32} {h : jH} {q : jR × jH} (C : cPre a0 nx W h) (hf : F_X11_free n a0 x1 h = some q) : (¬ (0 ≤ x1.toInt ∧ x1.toInt < (W 0).toInt) ∧ q.1 = .inr 2 ∧ q.2 = h) ∨ ∃ i : Nat, i < 8 ∧ x1 = nI i ∧ (i : Int) < (W 0).toInt ∧ ((W (18 + 8 * i) ≠ 1 ∧ q.1 = .inr 1 ∧ q.2 = h) ∨ (¬ (W (18 + 8 * i) ≠ 1) ∧ (i : Int) + 1 < (W 0).toInt ∧ q.1 = .inl (W (11 + 8 * (i + 1)) - W (11 + 8 * i)) ∧ cAct a0 nx W (upd W (18 + 8 * i) 0) h q.2)) := by
  unfold F_X11_free at hf
  obtain ⟨⟨X1, X3, sA, hx, hn, R, K⟩, hb, hz, sz⟩ := id C
  obtain ⟨⟨s0, s1, s2, s3, s4, s5⟩, ⟨u5, u10, u11, u12, u13, u14, u15, u16, u17⟩, RB, RC, RL⟩ := id R
  replace hf := jbind hf
  obtain ⟨q2, e1, hf⟩ := hf
  replace e1 := (jcv_o e1).2
  have r1 := E_X11_requireRing C e1
  obtain ⟨wq2, h2⟩ := q2
  have hqq : h2 = h := r1.elim (fun y => y.2.2) (fun y => y.2.2)
  subst hqq
  rcases wq2 with r2 | xq2
  · skip
    replace hf := (jthen_l (q := (.inl r2, h2)) rfl).symm.trans hf
    dsimp only at hf
    replace hf := jbind hf
    obtain ⟨p6, e2, hf⟩ := hf
    have r2 := oc_gR e2
    rw [X1] at r2
    cases r2
    clear e2
    replace hf := jbind hf
    obtain ⟨v9, e3, hf⟩ := hf
    have r3 := oc_gI e3
    subst r3
    clear e3
    replace hf := jbind hf
    obtain ⟨v13, e4, hf⟩ := hf
    have P : (0 ≤ x1.toInt ∧ x1.toInt < (W 0).toInt) := by
      rcases r1 with ⟨P, -, -⟩ | ⟨-, y, -⟩
      · exact P
      · cases y
    obtain ⟨i, h8, hi, hi0⟩ := i_ring K P
    have r4 := E_X11_bit (i := i) hi (by omega) e4
    replace hf := jite hf
    rcases hf with ⟨c5, hf⟩ | ⟨c5, hf⟩
    · skip
      cases hf
      -- leaf 0: (.inr 1, h2)
      refine Or.inr ⟨i, h8, hi, hi0, ?_⟩
      exact Or.inl ⟨fun z => absurd ((r4.trans (if_pos ((RB i hi0).2.2.2.2.2.2.2.mpr z))).symm.trans c5) (by decide), rfl, rfl⟩
    · skip
      replace hf := jbind hf
      obtain ⟨p30, e6, hf⟩ := hf
      have r6 := oc_gR e6
      rw [X3] at r6
      cases r6
      clear e6
      replace hf := jbind hf
      obtain ⟨p34, e7, hf⟩ := hf
      have r7 := oc_gR e7
      rw [X1] at r7
      cases r7
      clear e7
      replace hf := jbind hf
      obtain ⟨h37, e8, hf⟩ := hf
      replace e8 := (jcv_o e8).2
      obtain ⟨Y1, RR, AA⟩ := c_rem C e8
      obtain ⟨⟨t0, t1, t2, t3, t4, t5⟩, ⟨g5, g10, g11, g12, g13, g14, g15, g16, g17⟩, QB, QC, QL⟩ := id RR
      replace hf := jbind hf
      obtain ⟨p41, e9, hf⟩ := hf
      have r9 := oc_gR e9
      rw [Y1] at r9
      cases r9
      clear e9
      replace hf := jbind hf
      obtain ⟨p45, e10, hf⟩ := hf
      have r10 := oc_gR e10
      rw [Y1] at r10
      cases r10
      clear e10
      replace hf := jbind hf
      obtain ⟨v48, e11, hf⟩ := hf
      have r11 := oc_gI e11
      subst r11
      clear e11
      replace hf := jbind hf
      obtain ⟨v53, e12, hf⟩ := hf
      have r12 := E_X11_withBit (i := i) hi e12
      subst r12
      replace hf := jbind hf
      obtain ⟨h56, e13, hf⟩ := hf
      obtain ⟨o13, z13⟩ := oc_pf e13
      clear e13
      replace hf := jbind hf
      obtain ⟨p60, e14, hf⟩ := hf
      have r14 := oc_gR e14
      rw [o13] at r14
      rw [u2_ne (Or.inl (by omega))] at r14
      rw [Y1] at r14
      cases r14
      clear e14
      replace hf := jbind hf
      obtain ⟨v65, e15, hf⟩ := hf
      replace e15 := (jcv_o e15).2
      cases hf
      -- leaf 1: (.inl v65, h56)
      refine Or.inr ⟨i, h8, hi, hi0, ?_⟩
      have ct : W (18 + 8 * i) = 1 := Classical.byContradiction fun z => c5 (r4.trans (if_neg fun y => z ((RB i hi0).2.2.2.2.2.2.2.mp y)))
      have hn := ring_next K hi0 ct
      have f7 : frR (a0 + 6) (oc h37) (oc h56) := by rw [o13]; exact frR_u2 (by omega)
      have R7 : rodE (oc h56) (a0 + 6) (upd W (18 + 8 * i) 0) := by rw [o13]; exact rodE_ct RR hi0 h8 (chV_bit (by omega) (Or.inl rfl)) K.1
      have g7 := gap_c hn (E_X8_gap R7 (wOK_ct K (Or.inl rfl)) hi (by omega) e15)
      exact Or.inr ⟨fun z => z ct, hn, by rw [g7], c_mk hz hb AA f7 R7 z13⟩
  · skip
    replace hf := (jthen_r (q := (.inr xq2, h2)) rfl).symm.trans hf
    cases hf
    rcases r1 with ⟨-, y, -⟩ | ⟨P, y, -⟩
    · cases y
    · exact Or.inl ⟨P, y, rfl⟩
theorem E_X11_snag {W : jWd} {nx : Nat} {n : Nat} {a0 : Nat} {x1 : Int32} {h : jH} {q : jR × jH} (C : cPre a0 nx W h) (hf : F_X11_snag n a0 x1 h = some q) : (¬ (0 ≤ x1.toInt ∧ x1.toInt < (W 0).toInt) ∧ q.1 = .inr 2 ∧ q.2 = h) ∨ ∃ i : Nat, i < 8 ∧ x1 = nI i ∧ (i : Int) < (W 0).toInt ∧ ((((i : Int) + 1 = (W 0).toInt ∨ W (18 + 8 * i) = 1) ∧ q.1 = .inr 1 ∧ q.2 = h) ∨ (¬ (((i : Int) + 1 = (W 0).toInt ∨ W (18 + 8 * i) = 1)) ∧ (i : Int) + 1 < (W 0).toInt ∧ q.1 = .inl (W (11 + 8 * (i + 1)) - W (11 + 8 * i)) ∧ cAct a0 nx W (upd W (18 + 8 * i) 1) h q.2)) := by
  unfold F_X11_snag at hf
  obtain ⟨⟨X1, X3, sA, hx, hn, R, K⟩, hb, hz, sz⟩ := id C
  obtain ⟨⟨s0, s1, s2, s3, s4, s5⟩, ⟨u5, u10, u11, u12, u13, u14, u15, u16, u17⟩, RB, RC, RL⟩ := id R
  replace hf := jbind hf
  obtain ⟨q2, e1, hf⟩ := hf
  replace e1 := (jcv_o e1).2
  have r1 := E_X11_requireRing C e1
  obtain ⟨wq2, h2⟩ := q2
  have hqq : h2 = h := r1.elim (fun y => y.2.2) (fun y => y.2.2)
  subst hqq
  rcases wq2 with r2 | xq2
  · skip
    replace hf := (jthen_l (q := (.inl r2, h2)) rfl).symm.trans hf
    dsimp only at hf
    replace hf := jbind hf
    obtain ⟨p7, e2, hf⟩ := hf
    have r2 := oc_gR e2
    rw [X1] at r2
    cases r2
    clear e2
    replace hf := jbind hf
    obtain ⟨v10, e3, hf⟩ := hf
    have r3 := oc_gI e3
    subst r3
    clear e3
    replace hf := jite hf
    rcases hf with ⟨c4, hf⟩ | ⟨c4, hf⟩
    · skip
      cases hf
      -- leaf 0: (.inr 1, h2)
      have P : (0 ≤ x1.toInt ∧ x1.toInt < (W 0).toInt) := by
        rcases r1 with ⟨P, -, -⟩ | ⟨-, y, -⟩
        · exact P
        · cases y
      obtain ⟨i, h8, hi, hi0⟩ := i_ring K P
      have k0 := K.1
      have l1 : (1 : Int32).toInt = 1 := rfl
      rw [u5, hi] at c4
      have y := congrArg Int32.toInt c4
      rw [nI_toInt (by omega), jsub (by omega) (by omega), l1] at y
      refine Or.inr ⟨i, h8, hi, hi0, ?_⟩
      exact Or.inl ⟨Or.inl (by omega), rfl, rfl⟩
    · skip
      replace hf := jbind hf
      obtain ⟨p19, e5, hf⟩ := hf
      have r5 := oc_gR e5
      rw [X1] at r5
      cases r5
      clear e5
      replace hf := jbind hf
      obtain ⟨v22, e6, hf⟩ := hf
      have r6 := oc_gI e6
      subst r6
      clear e6
      replace hf := jbind hf
      obtain ⟨v26, e7, hf⟩ := hf
      have P : (0 ≤ x1.toInt ∧ x1.toInt < (W 0).toInt) := by
        rcases r1 with ⟨P, -, -⟩ | ⟨-, y, -⟩
        · exact P
        · cases y
      obtain ⟨i, h8, hi, hi0⟩ := i_ring K P
      have k0 := K.1
      have l1 : (1 : Int32).toInt = 1 := rfl
      have nl : ¬ (i : Int) + 1 = (W 0).toInt := fun z => c4 (by rw [hi, u5]; exact (nI_k (by rw [jsub (by omega) (by omega)]; omega)).symm)
      have r7 := E_X11_bit (i := i) hi (by omega) e7
      replace hf := jite hf
      rcases hf with ⟨c8, hf⟩ | ⟨c8, hf⟩
      · skip
        cases hf
        -- leaf 10: (.inr 1, h2)
        refine Or.inr ⟨i, h8, hi, hi0, ?_⟩
        exact Or.inl ⟨Or.inr (Classical.byContradiction fun z => absurd ((r7.trans (if_neg fun y => z ((RB i hi0).2.2.2.2.2.2.2.mp y))).symm.trans c8) (by decide)), rfl, rfl⟩
      · skip
        replace hf := jbind hf
        obtain ⟨p44, e9, hf⟩ := hf
        have r9 := oc_gR e9
        rw [X3] at r9
        cases r9
        clear e9
        replace hf := jbind hf
        obtain ⟨p48, e10, hf⟩ := hf
        have r10 := oc_gR e10
        rw [X1] at r10
        cases r10
        clear e10
        replace hf := jbind hf
        obtain ⟨h51, e11, hf⟩ := hf
        replace e11 := (jcv_o e11).2
        obtain ⟨Y1, RR, AA⟩ := c_rem C e11
        obtain ⟨⟨t0, t1, t2, t3, t4, t5⟩, ⟨g5, g10, g11, g12, g13, g14, g15, g16, g17⟩, QB, QC, QL⟩ := id RR
        replace hf := jbind hf
        obtain ⟨p55, e12, hf⟩ := hf
        have r12 := oc_gR e12
        rw [Y1] at r12
        cases r12
        clear e12
        replace hf := jbind hf
        obtain ⟨p59, e13, hf⟩ := hf
        have r13 := oc_gR e13
        rw [Y1] at r13
        cases r13
        clear e13
        replace hf := jbind hf
        obtain ⟨v62, e14, hf⟩ := hf
        have r14 := oc_gI e14
        subst r14
        clear e14
        replace hf := jbind hf
        obtain ⟨v67, e15, hf⟩ := hf
        have r15 := E_X11_withBit (i := i) hi e15
        subst r15
        replace hf := jbind hf
        obtain ⟨h70, e16, hf⟩ := hf
        obtain ⟨o16, z16⟩ := oc_pf e16
        clear e16
        replace hf := jbind hf
        obtain ⟨p74, e17, hf⟩ := hf
        have r17 := oc_gR e17
        rw [o16] at r17
        rw [u2_ne (Or.inl (by omega))] at r17
        rw [Y1] at r17
        cases r17
        clear e17
        replace hf := jbind hf
        obtain ⟨v79, e18, hf⟩ := hf
        replace e18 := (jcv_o e18).2
        cases hf
        -- leaf 11: (.inl v79, h70)
        refine Or.inr ⟨i, h8, hi, hi0, ?_⟩
        have nc : ¬ W (18 + 8 * i) = 1 := fun z => c8 (r7.trans (if_pos ((RB i hi0).2.2.2.2.2.2.2.mpr z)))
        have hn : (i : Int) + 1 < (W 0).toInt := by omega
        have f7 : frR (a0 + 6) (oc h51) (oc h70) := by rw [o16]; exact frR_u2 (by omega)
        have R7 : rodE (oc h70) (a0 + 6) (upd W (18 + 8 * i) 1) := by rw [o16]; exact rodE_ct RR hi0 h8 (chV_bit (by omega) (Or.inr rfl)) K.1
        have g7 := gap_c hn (E_X8_gap R7 (wOK_ct K (Or.inr ⟨rfl, hn⟩)) hi (by omega) e18)
        exact Or.inr ⟨fun z => z.elim nl nc, hn, by rw [g7], c_mk hz hb AA f7 R7 z16⟩
  · skip
    replace hf := (jthen_r (q := (.inr xq2, h2)) rfl).symm.trans hf
    cases hf
    rcases r1 with ⟨-, y, -⟩ | ⟨P, y, -⟩
    · cases y
    · exact Or.inl ⟨P, y, rfl⟩
theorem E_X11_hook {W : jWd} {nx : Nat} {n : Nat} {a0 : Nat} {x1 : Int32} {x2 : Int32} {h : jH} {q : jR × jH} (C : cPre a0 nx W h) (hxb : x2 = 0 ∨ x2 = 1) (hf : F_X11_hook n a0 x1 x2 h = some q) : (¬ (0 ≤ x1.toInt ∧ x1.toInt < (W 0).toInt) ∧ q.1 = .inr 2 ∧ q.2 = h) ∨ ∃ i : Nat, i < 8 ∧ x1 = nI i ∧ (i : Int) < (W 0).toInt ∧ (q.1 = .inl (if W (17 + 8 * i) = x2 then 0 else 1) ∧ cAct a0 nx W (upd W (17 + 8 * i) x2) h q.2) := by
  unfold F_X11_hook at hf
  obtain ⟨⟨X1, X3, sA, hx, hn, R, K⟩, hb, hz, sz⟩ := id C
  obtain ⟨⟨s0, s1, s2, s3, s4, s5⟩, ⟨u5, u10, u11, u12, u13, u14, u15, u16, u17⟩, RB, RC, RL⟩ := id R
  replace hf := jbind hf
  obtain ⟨q2, e1, hf⟩ := hf
  replace e1 := (jcv_o e1).2
  have r1 := E_X11_requireRing C e1
  obtain ⟨wq2, h2⟩ := q2
  have hqq : h2 = h := r1.elim (fun y => y.2.2) (fun y => y.2.2)
  subst hqq
  rcases wq2 with r2 | xq2
  · skip
    replace hf := (jthen_l (q := (.inl r2, h2)) rfl).symm.trans hf
    dsimp only at hf
    replace hf := jbind hf
    obtain ⟨p6, e2, hf⟩ := hf
    have r2 := oc_gR e2
    rw [X3] at r2
    cases r2
    clear e2
    replace hf := jbind hf
    obtain ⟨p10, e3, hf⟩ := hf
    have r3 := oc_gR e3
    rw [X1] at r3
    cases r3
    clear e3
    replace hf := jbind hf
    obtain ⟨h13, e4, hf⟩ := hf
    replace e4 := (jcv_o e4).2
    obtain ⟨Y1, RR, AA⟩ := c_rem C e4
    obtain ⟨⟨t0, t1, t2, t3, t4, t5⟩, ⟨g5, g10, g11, g12, g13, g14, g15, g16, g17⟩, QB, QC, QL⟩ := id RR
    replace hf := jbind hf
    obtain ⟨p17, e5, hf⟩ := hf
    have r5 := oc_gR e5
    rw [Y1] at r5
    cases r5
    clear e5
    replace hf := jbind hf
    obtain ⟨v20, e6, hf⟩ := hf
    have r6 := oc_gI e6
    subst r6
    clear e6
    replace hf := jbind hf
    obtain ⟨p25, e7, hf⟩ := hf
    have r7 := oc_gR e7
    rw [Y1] at r7
    cases r7
    clear e7
    replace hf := jbind hf
    obtain ⟨v31, e8, hf⟩ := hf
    have P : (0 ≤ x1.toInt ∧ x1.toInt < (W 0).toInt) := by
      rcases r1 with ⟨P, -, -⟩ | ⟨-, y, -⟩
      · exact P
      · cases y
    obtain ⟨i, h8, hi, hi0⟩ := i_ring K P
    have r8 := E_X11_withBit (i := i) hi e8
    subst r8
    replace hf := jbind hf
    obtain ⟨h34, e9, hf⟩ := hf
    obtain ⟨o9, z9⟩ := oc_pf e9
    clear e9
    replace hf := jbind hf
    obtain ⟨p38, e10, hf⟩ := hf
    have r10 := oc_gR e10
    rw [o9] at r10
    rw [u2_ne (Or.inl (by omega))] at r10
    rw [Y1] at r10
    cases r10
    clear e10
    replace hf := jbind hf
    obtain ⟨v41, e11, hf⟩ := hf
    have r11 := oc_gI e11
    rw [o9] at r11
    rw [oi_eq] at r11
    subst r11
    clear e11
    replace hf := jite hf
    rcases hf with ⟨c12, hf⟩ | ⟨c12, hf⟩
    · skip
      cases hf
      -- leaf 0: (.inl (0 : Int32), h34)
      have an := chV_ans (v := oi (oc h13) (a0 + 6) 8) (show i < 32 by omega) hxb ⟨(K.2.1 i hi0).2.2.2.2.2.2.1, (QB i hi0).2.2.2.2.2.2.1.symm⟩
      have f7 : frR (a0 + 6) (oc h13) (oc h34) := by rw [o9]; exact frR_u2 (by omega)
      have R7 : rodE (oc h34) (a0 + 6) (upd W (17 + 8 * i) x2) := by rw [o9]; exact rodE_hk RR hi0 h8 (chV_bit (by omega) hxb) K.1
      exact Or.inr ⟨i, h8, hi, hi0, congrArg Sum.inl (if_pos (an.mp c12)).symm, c_mk hz hb AA f7 R7 z9⟩
    · skip
      cases hf
      -- leaf 1: (.inl (1 : Int32), h34)
      have an := chV_ans (v := oi (oc h13) (a0 + 6) 8) (show i < 32 by omega) hxb ⟨(K.2.1 i hi0).2.2.2.2.2.2.1, (QB i hi0).2.2.2.2.2.2.1.symm⟩
      have f7 : frR (a0 + 6) (oc h13) (oc h34) := by rw [o9]; exact frR_u2 (by omega)
      have R7 : rodE (oc h34) (a0 + 6) (upd W (17 + 8 * i) x2) := by rw [o9]; exact rodE_hk RR hi0 h8 (chV_bit (by omega) hxb) K.1
      exact Or.inr ⟨i, h8, hi, hi0, congrArg Sum.inl (if_neg fun z => c12 (an.mpr z)).symm, c_mk hz hb AA f7 R7 z9⟩
  · skip
    replace hf := (jthen_r (q := (.inr xq2, h2)) rfl).symm.trans hf
    cases hf
    rcases r1 with ⟨-, y, -⟩ | ⟨P, y, -⟩
    · cases y
    · exact Or.inl ⟨P, y, rfl⟩
theorem E_X11_chair {W : jWd} {nx : Nat} {n : Nat} {a0 : Nat} {x1 : Int32} {x2 : Int32} {h : jH} {q : jR × jH} (C : cPre a0 nx W h) (hf : F_X11_chair n a0 x1 x2 h = some q) : (¬ (0 ≤ x1.toInt ∧ x1.toInt ≤ 31) ∧ q.1 = .inr 2 ∧ q.2 = h) ∨ ∃ i : Nat, i < 32 ∧ x1 = nI i ∧ q.1 = .inl (if chV (W 7) i x2 = W 7 then 0 else 1) ∧ cAct a0 nx W (upd W 7 (chV (W 7) i x2)) h q.2 := by
  unfold F_X11_chair at hf
  obtain ⟨⟨X1, X3, sA, hx, hn, R, K⟩, hb, hz, sz⟩ := id C
  obtain ⟨⟨s0, s1, s2, s3, s4, s5⟩, ⟨u5, u10, u11, u12, u13, u14, u15, u16, u17⟩, RB, RC, RL⟩ := id R
  replace hf := jbind hf
  obtain ⟨q2, e1, hf⟩ := hf
  replace e1 := (jcv_o e1).2
  have r1 := E_X11_requirePlace e1
  obtain ⟨wq2, h2⟩ := q2
  have hqq : h2 = h := r1.elim (fun y => y.2.2) (fun y => y.2.2)
  subst hqq
  rcases wq2 with r2 | xq2
  · skip
    replace hf := (jthen_l (q := (.inl r2, h2)) rfl).symm.trans hf
    dsimp only at hf
    replace hf := jbind hf
    obtain ⟨p6, e2, hf⟩ := hf
    have r2 := oc_gR e2
    rw [X3] at r2
    cases r2
    clear e2
    replace hf := jbind hf
    obtain ⟨p10, e3, hf⟩ := hf
    have r3 := oc_gR e3
    rw [X1] at r3
    cases r3
    clear e3
    replace hf := jbind hf
    obtain ⟨h13, e4, hf⟩ := hf
    replace e4 := (jcv_o e4).2
    obtain ⟨Y1, RR, AA⟩ := c_rem C e4
    obtain ⟨⟨t0, t1, t2, t3, t4, t5⟩, ⟨g5, g10, g11, g12, g13, g14, g15, g16, g17⟩, QB, QC, QL⟩ := id RR
    replace hf := jbind hf
    obtain ⟨p17, e5, hf⟩ := hf
    have r5 := oc_gR e5
    rw [Y1] at r5
    cases r5
    clear e5
    replace hf := jbind hf
    obtain ⟨v20, e6, hf⟩ := hf
    have r6 := oc_gI e6
    subst r6
    clear e6
    replace hf := jbind hf
    obtain ⟨p25, e7, hf⟩ := hf
    have r7 := oc_gR e7
    rw [Y1] at r7
    cases r7
    clear e7
    replace hf := jbind hf
    obtain ⟨v31, e8, hf⟩ := hf
    have P : (0 ≤ x1.toInt ∧ x1.toInt ≤ 31) := by
      rcases r1 with ⟨P, -, -⟩ | ⟨-, y, -⟩
      · exact P
      · cases y
    obtain ⟨i, h8, hi⟩ := i_place P
    have r8 := E_X11_withBit (i := i) hi e8
    subst r8
    replace hf := jbind hf
    obtain ⟨h34, e9, hf⟩ := hf
    obtain ⟨o9, z9⟩ := oc_pf e9
    clear e9
    replace hf := jbind hf
    obtain ⟨p38, e10, hf⟩ := hf
    have r10 := oc_gR e10
    rw [o9] at r10
    rw [u2_ne (Or.inl (by omega))] at r10
    rw [Y1] at r10
    cases r10
    clear e10
    replace hf := jbind hf
    obtain ⟨v41, e11, hf⟩ := hf
    have r11 := oc_gI e11
    rw [o9] at r11
    rw [oi_eq] at r11
    subst r11
    clear e11
    replace hf := jite hf
    rcases hf with ⟨c12, hf⟩ | ⟨c12, hf⟩
    · skip
      cases hf
      -- leaf 0: (.inl (0 : Int32), h34)
      rw [g10] at c12
      have f7 : frR (a0 + 6) (oc h13) (oc h34) := by rw [o9]; exact frR_u2 (by omega)
      have R7 : rodE (oc h34) (a0 + 6) (upd W 7 (chV (W 7) i x2)) := by rw [o9, g10]; exact rodE_i10 RR
      exact Or.inr ⟨i, h8, hi, congrArg Sum.inl (if_pos c12).symm, c_mk hz hb AA f7 R7 z9⟩
    · skip
      cases hf
      -- leaf 1: (.inl (1 : Int32), h34)
      rw [g10] at c12
      have f7 : frR (a0 + 6) (oc h13) (oc h34) := by rw [o9]; exact frR_u2 (by omega)
      have R7 : rodE (oc h34) (a0 + 6) (upd W 7 (chV (W 7) i x2)) := by rw [o9, g10]; exact rodE_i10 RR
      exact Or.inr ⟨i, h8, hi, congrArg Sum.inl (if_neg c12).symm, c_mk hz hb AA f7 R7 z9⟩
  · skip
    replace hf := (jthen_r (q := (.inr xq2, h2)) rfl).symm.trans hf
    cases hf
    rcases r1 with ⟨-, y, -⟩ | ⟨P, y, -⟩
    · cases y
    · exact Or.inl ⟨P, y, rfl⟩
theorem E_X11_seed {W : jWd} {n : Nat} {a0 : Nat} {x1 : Int32} {h : jH} {q : Int32 × jH} (X1 : oc h a0 1 = .ref (a0 + 6)) (R : rodE (oc h) (a0 + 6) W) (hf : F_X11_seed n a0 x1 h = some q) : q.1 = W 10 ∧ rodE (oc q.2) (a0 + 6) (upd W 10 x1) ∧ frR (a0 + 6) (oc h) (oc q.2) ∧ q.2.1 = h.1 := by
  unfold F_X11_seed at hf
  obtain ⟨-, ⟨u5, u10, u11, u12, u13, u14, u15, u16, u17⟩, -⟩ := id R
  replace hf := jbind hf
  obtain ⟨p1, e1, hf⟩ := hf
  have r1 := oc_gR e1
  rw [X1] at r1
  cases r1
  clear e1
  replace hf := jbind hf
  obtain ⟨v4, e2, hf⟩ := hf
  have r2 := oc_gI e2
  subst r2
  clear e2
  replace hf := jbind hf
  obtain ⟨p9, e3, hf⟩ := hf
  have r3 := oc_gR e3
  rw [X1] at r3
  cases r3
  clear e3
  replace hf := jbind hf
  obtain ⟨h13, e4, hf⟩ := hf
  obtain ⟨o4, z4⟩ := oc_pf e4
  clear e4
  cases hf
  -- leaf : (v4, h13)
  have f7 : frR (a0 + 6) (oc h) (oc h13) := by rw [o4]; exact frR_u2 (by omega)
  have R7 : rodE (oc h13) (a0 + 6) (upd W 10 x1) := by rw [o4]; exact rodE_i16 R
  exact ⟨u16, R7, f7, z4⟩
end
section
/-! a pull, on both sides; f: the steps that the ring goes -/
def isF (W : jWd) (r : Nat) (d : Bool) (N f : Nat) : Prop := f ≤ N ∧ (∀ s, s < f → gv (mvO W r d s) r d ≠ 0) ∧ (f = N ∨ gv (mvO W r d f) r d = 0)
theorem isF_u {W : jWd} {r N f g : Nat} {d : Bool} (a : isF W r d N f) (b : isF W r d N g) : f = g := by
  obtain ⟨a1, a2, a3⟩ := a
  obtain ⟨b1, b2, b3⟩ := b
  rcases Nat.lt_trichotomy f g with h | h | h
  · rcases a3 with a3 | a3
    · omega
    · exact absurd a3 (b2 f h)
  · exact h
  · rcases b3 with b3 | b3
    · omega
    · exact absurd b3 (a2 g h)
theorem plW_n0 {W : jWd} {r f : Nat} {d : Bool} : plW W r d f 0 = W 0 := (upd_n (by decide)).trans (mvO_ot (Or.inl (by decide)) f)
theorem i_steps {x : Int32} (h : 1 ≤ x.toInt ∧ x.toInt ≤ 31) : ∃ N : Nat, N < 32 ∧ 1 ≤ N ∧ x = nI N := ⟨x.toInt.toNat, by omega, by omega, nI_k (by omega)⟩
theorem E_X12_pull {W : jWd} {r : Nat} {d : Bool} {n : Nat} {a0 : Nat} {x1 : Int32} {x2 : Int32} {x3 : Int32} {h : jH} {q : Int32 × jH} (M : mS (oc h) a0) (hW : wl (oc h) a0 = W) (K : wOK W) (h7 : oi (oc h) a0 7 = nI r) (hr : r ≤ 12) (hd : x2 = dI d) (hf : F_X12_pull n a0 x1 x2 x3 h = some q) : (¬ (0 ≤ x1.toInt ∧ x1.toInt < (W 0).toInt) ∧ q.1 = 0 ∧ rTh a0 1 h q.2) ∨ ∃ i : Nat, i < 8 ∧ x1 = nI i ∧ (i : Int) < (W 0).toInt ∧ ((¬ (1 ≤ x3.toInt ∧ x3.toInt ≤ 31) ∧ q.1 = 0 ∧ rTh a0 2 h q.2) ∨ ∃ N f : Nat, N < 32 ∧ 1 ≤ N ∧ x3 = nI N ∧ isF W i d N f ∧ q.1 = nI f ∧ rAct a0 r (tlW (plW W i d f) i (nI i) 0 (nI f)) h q.2) := by
  unfold F_X12_pull at hf
  replace hf := jbind hf
  obtain ⟨h2, e1, hf⟩ := hf
  obtain ⟨o1, z1⟩ := oc_pf e1
  clear e1
  replace hf := jbind hf
  obtain ⟨v8, e2, hf⟩ := hf
  replace e2 := (jcv_o e2).2
  have T1 : rTh a0 0 h h2 := ⟨by rw [o1, oi_eq], by rw [o1]; exact frM_f (by decide), z1⟩
  obtain ⟨M1, w1, g1⟩ := rTh_W T1 M hW h7
  have r2 := E_X12_noRing M1 w1 K e2
  replace hf := jbind hf
  obtain ⟨q12, e3, hf⟩ := hf
  replace e3 := (jcv_o e3).2
  have r3 := E_X12_throwsIf r2.1 e3
  replace hf := jite hf
  rcases hf with ⟨c4, hf⟩ | ⟨c4, hf⟩
  · skip
    replace hf := jbind hf
    obtain ⟨v20, e5, hf⟩ := hf
    have r5 := E_X12_noSteps e5
    replace hf := jbind hf
    obtain ⟨q24, e6, hf⟩ := hf
    replace e6 := (jcv_o e6).2
    have r6 := E_X12_throwsIf r5.1 e6
    replace hf := jite hf
    rcases hf with ⟨c7, hf⟩ | ⟨c7, hf⟩
    · skip
      replace hf := jbind hf
      obtain ⟨h33, e8, hf⟩ := hf
      replace e8 := (jcv_o e8).2
      have hq2 : q24.2 = q12.2 := by
        rcases r6 with ⟨-, -, y⟩ | ⟨-, y, -⟩
        · exact y
        · exact absurd (y.symm.trans c7) (by decide)
      have hv2 : v20 = 0 := by
        rcases r6 with ⟨y, -, -⟩ | ⟨-, y, -⟩
        · exact y
        · exact absurd (y.symm.trans c7) (by decide)
      obtain ⟨N, hN, hN1, h3⟩ := i_steps (Classical.byContradiction fun z => absurd ((r5.2.mpr z).symm.trans hv2) (by decide))
      have hq : q12.2 = h2 := by
        rcases r3 with ⟨-, -, y⟩ | ⟨-, y, -⟩
        · exact y
        · exact absurd (y.symm.trans c4) (by decide)
      have hv : v8 = 0 := by
        rcases r3 with ⟨y, -, -⟩ | ⟨-, y, -⟩
        · exact y
        · exact absurd (y.symm.trans c4) (by decide)
      obtain ⟨i, h8, hi, hi0⟩ := i_ring K (Classical.byContradiction fun z => absurd ((r2.2.mpr z).symm.trans hv) (by decide))
      rw [hq2] at e8
      rw [hq] at e8
      have R8 : rRM a0 r h2 h33 := E_X12_remembers M1 g1 hr e8
      have M8 : mS (oc h33) a0 := mS_fr M1 R8.2.2.2.1 (by decide) (by decide)
      obtain ⟨t1, t2, t3, t4, t5, t8, t15, t17, t19, t20, t21⟩ := id M8
      have w8 : wl (oc h33) a0 = W := (wl_f R8.2.2.2.1 (by decide)).trans w1
      replace hf := jbind hf
      obtain ⟨q40, e9, hf⟩ := hf
      replace e9 := (jcv_o e9).2
      obtain ⟨f, F1, F2, F3, F4, F5, F6, F7⟩ := E_X12_pulls M8 w8 K hi0 (show N < 500 by omega) hi hd h3 e9
      have M9 : mS (oc q40.2) a0 := mS_fr M8 F4 (by decide) (by decide)
      replace hf := jbind hf
      obtain ⟨h50, e10, hf⟩ := hf
      replace e10 := (jcv_o e10).2
      obtain ⟨G1, G2, G3⟩ := E_X12_tells M9 F3 h8 hi e10
      cases hf
      -- leaf 00: (q40.1, h50)
      have f7 : frM a0 [1, 8] [18] (oc h33) (oc h50) := frM_tr (frM_le F4 (by decide) (by decide)) (frM_le G2 (by decide) (by decide))
      rw [hi, F2] at G1
      exact Or.inr ⟨i, h8, hi, hi0, Or.inr ⟨N, f, hN, hN1, h3, ⟨F1, F6, F7⟩, F2, rAct_tr T1 (rAct_mk18 T1.1 R8 f7 G1 (G3.trans F5))⟩⟩
    · skip
      cases hf
      -- leaf 01: ((0 : Int32), q24.2)
      have hq : q12.2 = h2 := by
        rcases r3 with ⟨-, -, y⟩ | ⟨-, y, -⟩
        · exact y
        · exact absurd (y.symm.trans c4) (by decide)
      have hv : v8 = 0 := by
        rcases r3 with ⟨y, -, -⟩ | ⟨-, y, -⟩
        · exact y
        · exact absurd (y.symm.trans c4) (by decide)
      obtain ⟨i, h8, hi, hi0⟩ := i_ring K (Classical.byContradiction fun z => absurd ((r2.2.mpr z).symm.trans hv) (by decide))
      rw [hq] at r6
      rcases r6 with ⟨-, y, -⟩ | ⟨s, -, T⟩
      · exact absurd y c7
      · exact Or.inr ⟨i, h8, hi, hi0, Or.inl ⟨r5.2.mp s, rfl, rTh_tr T1 T⟩⟩
  · skip
    cases hf
    -- leaf 1: ((0 : Int32), q12.2)
    rcases r3 with ⟨-, y, -⟩ | ⟨s, -, T⟩
    · exact absurd y c4
    · exact Or.inl ⟨r2.2.mp s, rfl, rTh_tr T1 T⟩
theorem E_X11_pull {W : jWd} {nx : Nat} {d : Bool} {n : Nat} {a0 : Nat} {x1 : Int32} {x2 : Int32} {x3 : Int32} {h : jH} {q : jR × jH} (C : cPre a0 nx W h) (hd : x2 = dI d) (hf : F_X11_pull n a0 x1 x2 x3 h = some q) : (¬ (0 ≤ x1.toInt ∧ x1.toInt < (W 0).toInt) ∧ q.1 = .inr 2 ∧ q.2 = h) ∨ ∃ i : Nat, i < 8 ∧ x1 = nI i ∧ (i : Int) < (W 0).toInt ∧ ((¬ (1 ≤ x3.toInt ∧ x3.toInt ≤ 31) ∧ q.1 = .inr 0 ∧ q.2 = h) ∨ ∃ N f : Nat, N < 32 ∧ 1 ≤ N ∧ x3 = nI N ∧ isF W i d N f ∧ q.1 = .inl (nI f) ∧ wOK (plW W i d f) ∧ cAct a0 nx W (tlW (plW W i d f) i (nI i) 0 (nI f)) h q.2) := by
  unfold F_X11_pull at hf
  obtain ⟨⟨X1, X3, sA, hx, hn, R, K⟩, hb, hz, sz⟩ := id C
  obtain ⟨⟨s0, s1, s2, s3, s4, s5⟩, ⟨u5, u10, u11, u12, u13, u14, u15, u16, u17⟩, RB, RC, RL⟩ := id R
  replace hf := jbind hf
  obtain ⟨q2, e1, hf⟩ := hf
  replace e1 := (jcv_o e1).2
  have r1 := E_X11_requireRing C e1
  obtain ⟨wq2, h2⟩ := q2
  have hqq : h2 = h := r1.elim (fun y => y.2.2) (fun y => y.2.2)
  subst hqq
  rcases wq2 with r2 | xq2
  · skip
    replace hf := (jthen_l (q := (.inl r2, h2)) rfl).symm.trans hf
    dsimp only at hf
    replace hf := jbind hf
    obtain ⟨q10, e2, hf⟩ := hf
    replace e2 := (jcv_o e2).2
    have r2 := E_X11_requireNumber e2
    obtain ⟨wq10, h10⟩ := q10
    have hqq : h10 = h2 := r2.elim (fun y => y.2.2) (fun y => y.2.2)
    subst hqq
    rcases wq10 with r10 | xq10
    · skip
      replace hf := (jthen_l (q := (.inl r10, h10)) rfl).symm.trans hf
      dsimp only at hf
      replace hf := jbind hf
      obtain ⟨p14, e3, hf⟩ := hf
      have r3 := oc_gR e3
      rw [X3] at r3
      cases r3
      clear e3
      replace hf := jbind hf
      obtain ⟨p18, e4, hf⟩ := hf
      have r4 := oc_gR e4
      rw [X1] at r4
      cases r4
      clear e4
      replace hf := jbind hf
      obtain ⟨h21, e5, hf⟩ := hf
      replace e5 := (jcv_o e5).2
      obtain ⟨Y1, RR, AA⟩ := c_rem C e5
      obtain ⟨⟨t0, t1, t2, t3, t4, t5⟩, ⟨g5, g10, g11, g12, g13, g14, g15, g16, g17⟩, QB, QC, QL⟩ := id RR
      replace hf := jbind hf
      obtain ⟨p25, e6, hf⟩ := hf
      have r6 := oc_gR e6
      rw [Y1] at r6
      cases r6
      clear e6
      replace hf := jbind hf
      obtain ⟨q31, e7, hf⟩ := hf
      replace e7 := (jcv_o e7).2
      have P : (0 ≤ x1.toInt ∧ x1.toInt < (W 0).toInt) := by
        rcases r1 with ⟨P, -, -⟩ | ⟨-, y, -⟩
        · exact P
        · cases y
      obtain ⟨i, h8, hi, hi0⟩ := i_ring K P
      have P2 : (1 ≤ x3.toInt ∧ x3.toInt ≤ 31) := by
        rcases r2 with ⟨P, -, -⟩ | ⟨-, y, -⟩
        · exact P
        · cases y
      obtain ⟨N, hN, hN1, h3⟩ := i_steps P2
      obtain ⟨f, F1, F2, F3, K3, F4, F5, F6, F7⟩ := E_X8_move RR K hi0 (show N < 500 by omega) hi hd h3 e7
      have Y2 : oc q31.2 a0 1 = .ref (a0 + 6) := (F4 _ _ (by omega)).trans Y1
      obtain ⟨⟨t0, t1, t2, t3, t4, t5⟩, -, -, -, -⟩ := id F3
      replace hf := jbind hf
      obtain ⟨p37, e8, hf⟩ := hf
      have r8 := oc_gR e8
      rw [Y2] at r8
      cases r8
      clear e8
      replace hf := jbind hf
      obtain ⟨p40, e9, hf⟩ := hf
      have r9 := oc_gR e9
      rw [t4] at r9
      cases r9
      clear e9
      replace hf := jbind hf
      obtain ⟨p44, e10, hf⟩ := hf
      have r10 := oc_gR e10
      rw [Y2] at r10
      cases r10
      clear e10
      replace hf := jbind hf
      obtain ⟨h51, e11, hf⟩ := hf
      replace e11 := (jcv_o e11).2
      obtain ⟨G1, G2, G3⟩ := E_X5_add rfl F3 K3 hi (by rw [plW_n0]; exact hi0) (show (0 : Int32) = nI 0 from rfl) (by decide) F2 (show f < 32 by omega) e11
      cases hf
      -- leaf : (.inl q31.1, h51)
      exact Or.inr ⟨i, h8, hi, hi0, Or.inr ⟨N, f, hN, hN1, h3, ⟨F1, F6, F7⟩, congrArg Sum.inl F2, K3, c_mk hz hb AA (frR_tr F4 G2) G1 (G3.trans F5)⟩⟩
    · skip
      replace hf := (jthen_r (q := (.inr xq10, h10)) rfl).symm.trans hf
      cases hf
      have P : (0 ≤ x1.toInt ∧ x1.toInt < (W 0).toInt) := by
        rcases r1 with ⟨P, -, -⟩ | ⟨-, y, -⟩
        · exact P
        · cases y
      obtain ⟨i, h8, hi, hi0⟩ := i_ring K P
      rcases r2 with ⟨-, y, -⟩ | ⟨P2, y, -⟩
      · cases y
      · exact Or.inr ⟨i, h8, hi, hi0, Or.inl ⟨P2, y, rfl⟩⟩
  · skip
    replace hf := (jthen_r (q := (.inr xq2, h2)) rfl).symm.trans hf
    cases hf
    rcases r1 with ⟨-, y, -⟩ | ⟨P, y, -⟩
    · cases y
    · exact Or.inl ⟨P, y, rfl⟩
end
section
/-! hours as an act, on both sides -/
theorem i_hours {x : Int32} (h : 1 ≤ x.toInt ∧ x.toInt ≤ 80) : ∃ m : Nat, m ≤ 80 ∧ 1 ≤ m ∧ x = nI m := ⟨x.toInt.toNat, by omega, by omega, nI_k (by omega)⟩
theorem E_X12_hours_21 {W : jWd} {r : Nat} {m : Nat} {n : Nat} {a0 : Nat} {x1 : Int32} {sa0 : Nat} {s1 : Int32} {h : jH} {q : Int32 × jH} (M : mS (oc h) a0) (hW : wl (oc h) a0 = W) (K : wOK W) (h7 : oi (oc h) a0 7 = nI r) (hr : r ≤ 12) (z0 : oi (oc h) a0 0 = 0) (hs : a0 = sa0) (h01 : s1 = 0 ∨ s1 = 1) (LK : lawK W) (LB : lawB W) (hi : s1 = 0 → x1 = nI m) (h8 : m < 1000) (hf : F_X12_hours_21 n a0 x1 sa0 s1 h = some q) : (s1 = 1 ∧ q.1 = 0 ∧ rTh a0 1 h q.2) ∨ (s1 = 0 ∧ q.1 = (hrs false m W 0).2 ∧ rAct a0 r (hrs false m W 0).1 h q.2 ∧ rkE (oc q.2) a0 (hrs false m W 0).1) := by
  unfold F_X12_hours_21 at hf
  subst hs
  replace hf := jbind hf
  obtain ⟨q22, e1, hf⟩ := hf
  replace e1 := (jcv_o e1).2
  have r1 := E_X12_throwsIf h01 e1
  replace hf := jite hf
  rcases hf with ⟨c2, hf⟩ | ⟨c2, hf⟩
  · skip
    replace hf := jbind hf
    obtain ⟨h31, e3, hf⟩ := hf
    replace e3 := (jcv_o e3).2
    have s0 : s1 = 0 := by
      rcases r1 with ⟨y, -, -⟩ | ⟨-, y, -⟩
      · exact y
      · exact absurd (y.symm.trans c2) (by decide)
    have hi := hi s0
    have hq : q22.2 = h := by
      rcases r1 with ⟨-, -, y⟩ | ⟨-, y, -⟩
      · exact y
      · exact absurd (y.symm.trans c2) (by decide)
    rw [hq] at e3
    have R3 : rRM a0 r h h31 := E_X12_remembers M h7 hr e3
    have M3 : mS (oc h31) a0 := mS_fr M R3.2.2.2.1 (by decide) (by decide)
    obtain ⟨t1, t2, t3, t4, t5, t8, t15, t17, t19, t20, t21⟩ := id M3
    have w3 : wl (oc h31) a0 = W := (wl_f R3.2.2.2.1 (by decide)).trans hW
    replace hf := jbind hf
    obtain ⟨q37, e4, hf⟩ := hf
    replace e4 := (jcv_o e4).2
    obtain ⟨F1, F2, F3, F4⟩ := E_X12_goesOn (calm := false) (m := m) (⟨M3, w3, K, LK, LB⟩ : rkE (oc h31) a0 W) rfl (by omega) hi e4
    cases hf
    -- leaf 0: (q37.1, q37.2)
    exact Or.inr ⟨s0, F2, rAct_mk z0 R3 F3 F1.2.1 F4, F1⟩
  · skip
    cases hf
    -- leaf 1: ((0 : Int32), q22.2)
    rcases r1 with ⟨-, y, -⟩ | ⟨s, -, T⟩
    · exact absurd y c2
    · exact Or.inl ⟨s, rfl, T⟩
theorem E_X12_hours {W : jWd} {r : Nat} {n : Nat} {a0 : Nat} {x1 : Int32} {h : jH} {q : Int32 × jH} (M : mS (oc h) a0) (hW : wl (oc h) a0 = W) (K : wOK W) (h7 : oi (oc h) a0 7 = nI r) (hr : r ≤ 12) (LK : lawK W) (LB : lawB W) (hf : F_X12_hours n a0 x1 h = some q) : (¬ (1 ≤ x1.toInt ∧ x1.toInt ≤ 80) ∧ q.1 = 0 ∧ rTh a0 1 h q.2) ∨ ∃ m : Nat, m ≤ 80 ∧ 1 ≤ m ∧ x1 = nI m ∧ q.1 = (hrs false m W 0).2 ∧ rAct a0 r (hrs false m W 0).1 h q.2 ∧ rkE (oc q.2) a0 (hrs false m W 0).1 := by
  unfold F_X12_hours at hf
  replace hf := jbind hf
  obtain ⟨h2, e1, hf⟩ := hf
  obtain ⟨o1, z1⟩ := oc_pf e1
  clear e1
  replace hf := jbind hf
  obtain ⟨v10, e2, hf⟩ := hf
  have r2 := E_X12_in e2
  replace hf := jite hf
  rcases hf with ⟨c3, hf⟩ | ⟨c3, hf⟩
  · skip
    -- leaf 0: F_X12_hours_21 n a0 x1 a0 (1 : Int32) h2
    have T1 : rTh a0 0 h h2 := ⟨by rw [o1, oi_eq], by rw [o1]; exact frM_f (by decide), z1⟩
    obtain ⟨M1, w1, g1⟩ := rTh_W T1 M hW h7
    have l1 : (1 : Int32).toInt = 1 := rfl
    have l80 : (80 : Int32).toInt = 80 := rfl
    rw [l1, l80] at r2
    rcases E_X12_hours_21 (m := 0) M1 w1 K g1 hr T1.1 rfl (Or.inr rfl) LK LB (fun z => absurd z (by decide)) (by decide) hf with ⟨-, b, T⟩ | ⟨s, -⟩
    · exact Or.inl ⟨fun z => absurd ((r2.2.mpr z).symm.trans c3) (by decide), b, rTh_tr T1 T⟩
    · exact absurd s (by decide)
  · skip
    -- leaf 1: F_X12_hours_21 n a0 x1 a0 (0 : Int32) h2
    have T1 : rTh a0 0 h h2 := ⟨by rw [o1, oi_eq], by rw [o1]; exact frM_f (by decide), z1⟩
    obtain ⟨M1, w1, g1⟩ := rTh_W T1 M hW h7
    have l1 : (1 : Int32).toInt = 1 := rfl
    have l80 : (80 : Int32).toInt = 80 := rfl
    rw [l1, l80] at r2
    obtain ⟨m, h8, h1, hi⟩ := i_hours (r2.2.mp (r2.1.resolve_left c3))
    rcases E_X12_hours_21 (m := m) M1 w1 K g1 hr T1.1 rfl (Or.inl rfl) LK LB (fun _ => hi) (by omega) hf with ⟨s, -⟩ | ⟨-, b, A, F⟩
    · exact absurd s (by decide)
    · exact Or.inr ⟨m, h8, h1, hi, b, rAct_tr T1 A, F⟩
theorem E_X11_hours {W : jWd} {nx : Nat} {n : Nat} {a0 : Nat} {x1 : Int32} {h : jH} {q : jR × jH} (C : cPre a0 nx W h) (X8 : oc h a0 8 = .ref (a0 + 36)) (Z36 : oc h (a0 + 36) 0 = .ref (a0 + 13)) (LE : lawE (oc h) (a0 + 13) W) (hf : F_X11_hours n a0 x1 h = some q) : (¬ (1 ≤ x1.toInt ∧ x1.toInt ≤ 80) ∧ q.1 = .inr 0 ∧ q.2 = h) ∨ ∃ m : Nat, m ≤ 80 ∧ 1 ≤ m ∧ x1 = nI m ∧ q.1 = .inl (hrs false m W 0).2 ∧ cAct a0 nx W (hrs false m W 0).1 h q.2 ∧ clkE (oc q.2) (a0 + 36) (a0 + 13) (a0 + 6) (hrs false m W 0).1 := by
  unfold F_X11_hours at hf
  obtain ⟨⟨X1, X3, sA, hx, hn, R, K⟩, hb, hz, sz⟩ := id C
  obtain ⟨⟨s0, s1, s2, s3, s4, s5⟩, ⟨u5, u10, u11, u12, u13, u14, u15, u16, u17⟩, RB, RC, RL⟩ := id R
  replace hf := jbind hf
  obtain ⟨q5, e1, hf⟩ := hf
  replace e1 := (jcv_o e1).2
  have r1 := E_X11_requireNumber e1
  obtain ⟨wq5, h5⟩ := q5
  have hqq : h5 = h := r1.elim (fun y => y.2.2) (fun y => y.2.2)
  subst hqq
  rcases wq5 with r5 | xq5
  · skip
    replace hf := (jthen_l (q := (.inl r5, h5)) rfl).symm.trans hf
    dsimp only at hf
    replace hf := jbind hf
    obtain ⟨p9, e2, hf⟩ := hf
    have r2 := oc_gR e2
    rw [X3] at r2
    cases r2
    clear e2
    replace hf := jbind hf
    obtain ⟨p13, e3, hf⟩ := hf
    have r3 := oc_gR e3
    rw [X1] at r3
    cases r3
    clear e3
    replace hf := jbind hf
    obtain ⟨h16, e4, hf⟩ := hf
    replace e4 := (jcv_o e4).2
    obtain ⟨Y1, RR, AA⟩ := c_rem C e4
    obtain ⟨⟨t0, t1, t2, t3, t4, t5⟩, ⟨g5, g10, g11, g12, g13, g14, g15, g16, g17⟩, QB, QC, QL⟩ := id RR
    have kp := c_keep hz hb AA
    have Y8 : oc h16 a0 8 = .ref (a0 + 36) := (kp _ _ (by omega) (by omega) (by omega) (by omega) (by omega) (by omega)).trans X8
    have CE : clkE (oc h16) (a0 + 36) (a0 + 13) (a0 + 6) W := ⟨(kp _ _ (by omega) (by omega) (by omega) (by omega) (by omega) (by omega)).trans Z36, RR, lawE_fr LE (fun a k h1 h2 h3 => kp _ _ (by omega) (by omega) (by omega) (by omega) (by omega) (by omega)), K⟩
    replace hf := jbind hf
    obtain ⟨p20, e5, hf⟩ := hf
    have r5 := oc_gR e5
    rw [Y8] at r5
    cases r5
    clear e5
    replace hf := jbind hf
    obtain ⟨p24, e6, hf⟩ := hf
    have r6 := oc_gR e6
    rw [Y1] at r6
    cases r6
    clear e6
    replace hf := jbind hf
    obtain ⟨q28, e7, hf⟩ := hf
    replace e7 := (jcv_o e7).2
    have P : (1 ≤ x1.toInt ∧ x1.toInt ≤ 80) := by
      rcases r1 with ⟨P, -, -⟩ | ⟨-, y, -⟩
      · exact P
      · cases y
    obtain ⟨m, h8, h1, hi⟩ := i_hours P
    obtain ⟨F1, F2, F3, F4⟩ := E_X1_run CE (by show (_ ∨ _) ∧ (_ ∨ _) ∧ (_ ∨ _); omega) (show m < 1000 by omega) hi e7
    cases hf
    -- leaf : (.inl q28.1, q28.2)
    exact Or.inr ⟨m, h8, h1, hi, congrArg Sum.inl F2, c_mkL hz hb AA F3 F1.2.1 F4, F1⟩
  · skip
    replace hf := (jthen_r (q := (.inr xq5, h5)) rfl).symm.trans hf
    cases hf
    rcases r1 with ⟨-, y, -⟩ | ⟨P, y, -⟩
    · cases y
    · exact Or.inl ⟨P, y, rfl⟩
end
section
/-! a ring sewn on -/
/-- one ring more, at place x with cloth y -/
def hgW (W : jWd) (x y : Int32) : jWd := fun k => if k = 0 then W 0 + 1 else if k = 11 + 8 * cN W then x else if k = 12 + 8 * cN W then y else if k = 17 + 8 * cN W then 1 else if 11 + 8 * cN W ≤ k ∧ k < 19 + 8 * cN W then 0 else W k
def leW (W : jWd) : Int32 := if W 0 = 0 then 0 else W (11 + 8 * (cN W - 1)) + 1
def moW (W : jWd) : Int32 := if W 0 = 0 then 31 else (if W (11 + 8 * (cN W - 1)) + W (12 + 8 * (cN W - 1)) < (31 : Int32) then W (11 + 8 * (cN W - 1)) + W (12 + 8 * (cN W - 1)) else (31 : Int32))
def canS (W : jWd) (x : Int32) : Prop := ¬ W 0 = 8 ∧ (leW W).toInt ≤ x.toInt ∧ x.toInt ≤ (moW W).toInt
theorem cN_last {W : jWd} (K : wOK W) (h : ¬ W 0 = 0) : W 0 - 1 = nI (cN W - 1) ∧ 1 ≤ cN W ∧ cN W ≤ 8 := by
  have k := K.1
  have l1 : (1 : Int32).toInt = 1 := rfl
  have n0 : (W 0).toInt ≠ 0 := fun z => h (nI_k (k := 0) z)
  have e : (cN W : Int) = (W 0).toInt := by unfold cN; omega
  exact ⟨nI_k (by rw [jsub (by omega) (by omega)]; omega), by omega, by omega⟩
theorem E_X12_hangs_8 {n : Nat} {W : jWd} : ∀ (k : Nat) {a0 : Nat} {x1 : Int32} {x2 : Int32} {x3 : Int32} {x4 : Int32} {h : jH} {q : jH} (t : Nat) (M : mS (oc h) a0) (hw : ∀ k, wl (oc h) a0 k = if 11 + 8 * cN W ≤ k ∧ k < 11 + 8 * cN W + t then 0 else W k) (h3 : x3 = nI (cN W)) (h4 : x4 = nI t) (ht : t ≤ 8) (hc : cN W < 8), F_X12_hangs_8 n k a0 x1 x2 x3 x4 h = some q → wl (oc q) a0 = hgW W x1 x2 ∧ frM a0 [1] [] (oc h) (oc q) ∧ q.1 = h.1
  | 0, a0, x1, x2, x3, x4, h, q, t, M, hw, h3, h4, ht, hc, hf => by cases hf
  | k + 1, a0, x1, x2, x3, x4, h, q, t, M, hw, h3, h4, ht, hc, hf => by
    replace hf : F_X12_hangs_8_b n (F_X12_hangs_8 n k) a0 x1 x2 x3 x4 h = some q := hf
    unfold F_X12_hangs_8_b at hf
    obtain ⟨s1, s2, s3, s4, s5, s8, s15, s17, s19, s20, s21⟩ := id M
    replace hf := jite hf
    rcases hf with ⟨c1, hf⟩ | ⟨c1, hf⟩
    · skip
      replace hf := jbind hf
      obtain ⟨p34, e2, hf⟩ := hf
      have r2 := oc_gR e2
      rw [s1] at r2
      cases r2
      clear e2
      replace hf := jbind hf
      obtain ⟨v39, e3, hf⟩ := hf
      have r3 := E_X12_at (i := cN W) (j := 0) (t := 11 + 8 * cN W) h3 rfl (by omega) e3
      subst r3
      replace hf := jbind hf
      obtain ⟨h43, e4, hf⟩ := hf
      obtain ⟨o4, z4, y4⟩ := oc_as e4
      rw [jnar0] at o4
      clear e4
      rw [nI_cl (show 11 + 8 * cN W < 2147483648 by omega)] at o4
      replace hf := jbind hf
      obtain ⟨p45, e5, hf⟩ := hf
      have r5 := oc_gR e5
      rw [o4] at r5
      rw [u2_ne (Or.inl (by omega))] at r5
      rw [s1] at r5
      cases r5
      clear e5
      replace hf := jbind hf
      obtain ⟨v50, e6, hf⟩ := hf
      have r6 := E_X12_at (i := cN W) (j := 1) (t := 12 + 8 * cN W) h3 rfl (by omega) e6
      subst r6
      replace hf := jbind hf
      obtain ⟨h54, e7, hf⟩ := hf
      obtain ⟨o7, z7, y7⟩ := oc_as e7
      rw [jnar0] at o7
      clear e7
      rw [nI_cl (show 12 + 8 * cN W < 2147483648 by omega)] at o7
      replace hf := jbind hf
      obtain ⟨p56, e8, hf⟩ := hf
      have r8 := oc_gR e8
      rw [o7] at r8
      rw [u2_ne (Or.inl (by omega))] at r8
      rw [o4] at r8
      rw [u2_ne (Or.inl (by omega))] at r8
      rw [s1] at r8
      cases r8
      clear e8
      replace hf := jbind hf
      obtain ⟨v62, e9, hf⟩ := hf
      have r9 := E_X12_at (i := cN W) (j := 6) (t := 17 + 8 * cN W) h3 rfl (by omega) e9
      subst r9
      replace hf := jbind hf
      obtain ⟨h66, e10, hf⟩ := hf
      obtain ⟨o10, z10, y10⟩ := oc_as e10
      rw [jnar0] at o10
      clear e10
      rw [nI_cl (show 17 + 8 * cN W < 2147483648 by omega)] at o10
      replace hf := jbind hf
      obtain ⟨p68, e11, hf⟩ := hf
      have r11 := oc_gR e11
      rw [o10] at r11
      rw [u2_ne (Or.inl (by omega))] at r11
      rw [o7] at r11
      rw [u2_ne (Or.inl (by omega))] at r11
      rw [o4] at r11
      rw [u2_ne (Or.inl (by omega))] at r11
      rw [s1] at r11
      cases r11
      clear e11
      replace hf := jbind hf
      obtain ⟨v73, e12, hf⟩ := hf
      obtain ⟨r12, y12⟩ := oc_al e12
      rw [show (0 : Int32).toNatClampNeg = 0 from rfl] at r12
      rw [o10] at r12
      rw [oi_ne (Or.inr (by omega))] at r12
      rw [o7] at r12
      rw [oi_ne (Or.inr (by omega))] at r12
      rw [o4] at r12
      rw [oi_ne (Or.inr (by omega))] at r12
      subst r12
      clear e12
      replace hf := jbind hf
      obtain ⟨h76, e13, hf⟩ := hf
      obtain ⟨o13, z13, y13⟩ := oc_as e13
      rw [jnar0] at o13
      rw [show (0 : Int32).toNatClampNeg = 0 from rfl] at o13
      clear e13
      cases hf
      -- leaf 0: h76
      rw [h4, Int32.le_iff_toInt_le, nI_toInt (by omega), show (8 : Int32).toInt = 8 from rfl] at c1
      have t8 : t = 8 := by omega
      subst t8
      have g0 : oi (oc h) (a0 + 1) 0 = W 0 := (hw 0).trans (if_neg (by omega))
      rw [g0] at o13
      have w9 : wl (oc q) a0 = upd (upd (upd (upd (wl (oc h) a0) (11 + 8 * cN W) x1) (12 + 8 * cN W) x2) (17 + 8 * cN W) 1) 0 (W 0 + 1) := by rw [o13, wl_w, o10, wl_w, o7, wl_w, o4, wl_w]
      have f9 : frM a0 [1] [] (oc h) (oc q) := by rw [o13, o10, o7, o4]; exact frM_tr (frM_tr (frM_tr (frM_c (by decide)) (frM_c (by decide))) (frM_c (by decide))) (frM_c (by decide))
      refine ⟨?_, f9, z13.trans (z10.trans (z7.trans z4))⟩
      rw [w9]
      funext k
      unfold hgW
      by_cases k0 : k = 0
      · rw [k0, upd_eq, if_pos rfl]
      rw [upd_n k0, if_neg k0]
      by_cases k1 : k = 11 + 8 * cN W
      · rw [if_pos k1, upd_n (by omega), upd_n (by omega), k1, upd_eq]
      by_cases k2 : k = 12 + 8 * cN W
      · rw [if_neg k1, if_pos k2, upd_n (by omega), k2, upd_eq]
      by_cases k6 : k = 17 + 8 * cN W
      · rw [if_neg k1, if_neg k2, if_pos k6, k6, upd_eq]
      rw [if_neg k1, if_neg k2, if_neg k6, upd_n k6, upd_n k2, upd_n k1, hw k]
      by_cases y : 11 + 8 * cN W ≤ k ∧ k < 11 + 8 * cN W + 8
      · rw [if_pos y, if_pos (by omega)]
      · rw [if_neg y, if_neg (by omega)]
    · skip
      replace hf := jbind hf
      obtain ⟨p16, e14, hf⟩ := hf
      have r14 := oc_gR e14
      rw [s1] at r14
      cases r14
      clear e14
      replace hf := jbind hf
      obtain ⟨v22, e15, hf⟩ := hf
      have r15 := E_X12_at (i := cN W) (j := t) (t := 11 + 8 * cN W + t) h3 h4 (by omega) e15
      subst r15
      replace hf := jbind hf
      obtain ⟨h26, e16, hf⟩ := hf
      obtain ⟨o16, z16, y16⟩ := oc_as e16
      rw [jnar0] at o16
      clear e16
      rw [nI_cl (show 11 + 8 * cN W + t < 2147483648 by omega)] at o16
      -- leaf 1: rc8 a0 x1 x2 x3 (x4 + (1 : Int32)) h26
      rw [h4, Int32.le_iff_toInt_le, nI_toInt (by omega), show (8 : Int32).toInt = 8 from rfl] at c1
      have f16 : frM a0 [1] [] (oc h) (oc h26) := by rw [o16]; exact frM_c (by decide)
      have hw2 : ∀ u, wl (oc h26) a0 u = if 11 + 8 * cN W ≤ u ∧ u < 11 + 8 * cN W + (t + 1) then 0 else W u := by
        intro u
        rw [o16, wl_w]
        by_cases y : u = 11 + 8 * cN W + t
        · rw [y, upd_eq, if_pos (by omega)]
        · rw [upd_n y, hw u]
          by_cases w : 11 + 8 * cN W ≤ u ∧ u < 11 + 8 * cN W + t
          · rw [if_pos w, if_pos (by omega)]
          · rw [if_neg w, if_neg (by omega)]
      obtain ⟨b1, b2, b3⟩ := E_X12_hangs_8 (W := W) k (t + 1) (mS_fr M f16 (by decide) (by decide)) hw2 h3 (by rw [h4, nI_1]) (by omega) hc hf
      exact ⟨b1, frM_tr f16 b2, b3.trans z16⟩
theorem E_X12_hangs {W : jWd} {n : Nat} {a0 : Nat} {x1 : Int32} {x2 : Int32} {h : jH} {q : jH} (M : mS (oc h) a0) (hW : wl (oc h) a0 = W) (K : wOK W) (hc : cN W < 8) (hf : F_X12_hangs n a0 x1 x2 h = some q) : wl (oc q) a0 = hgW W x1 x2 ∧ frM a0 [1] [] (oc h) (oc q) ∧ q.1 = h.1 := by
  unfold F_X12_hangs at hf
  replace hf := jbind hf
  obtain ⟨v1, e1, hf⟩ := hf
  replace e1 := (jcv_o e1).2
  have r1 := E_X12_rings M e1
  rw [hW] at r1
  subst r1
  -- leaf : F_X12_hangs_8 n n a0 x1 x2 v1 (0 : Int32) h
  have k0 := K.1
  have h3 : W 0 = nI (cN W) := nI_k (by unfold cN; omega)
  exact E_X12_hangs_8 (W := W) n 0 M (fun k => by rw [if_neg (by omega), hW]) h3 rfl (by omega) hc hf
theorem E_X12_leastPlace {W : jWd} {n : Nat} {a0 : Nat} {h : jH} {q : Int32} (M : mS (oc h) a0) (hW : wl (oc h) a0 = W) (K : wOK W) (hf : F_X12_leastPlace n a0 h = some q) : q = leW W := by
  unfold F_X12_leastPlace at hf
  replace hf := jbind hf
  obtain ⟨v1, e1, hf⟩ := hf
  replace e1 := (jcv_o e1).2
  have r1 := E_X12_rings M e1
  rw [hW] at r1
  subst r1
  replace hf := jite hf
  rcases hf with ⟨c2, hf⟩ | ⟨c2, hf⟩
  · skip
    cases hf
    -- leaf 0: (0 : Int32)
    exact (if_pos c2).symm
  · skip
    replace hf := jbind hf
    obtain ⟨v13, e3, hf⟩ := hf
    replace e3 := (jcv_o e3).2
    have r3 := E_X12_lastRing M e3
    rw [hW] at r3
    subst r3
    obtain ⟨n1, n2, n3⟩ := cN_last K c2
    replace hf := jbind hf
    obtain ⟨v17, e4, hf⟩ := hf
    replace e4 := (jcv_o e4).2
    have r4 := E_X12_of (i := cN W - 1) (j := 0) (t := 11 + 8 * (cN W - 1)) M n1 rfl (by omega) (by omega) e4
    rw [hW] at r4
    subst r4
    cases hf
    -- leaf 1: (v17 + (1 : Int32))
    exact (if_neg c2).symm
theorem E_X12_mostPlace {W : jWd} {n : Nat} {a0 : Nat} {h : jH} {q : Int32} (M : mS (oc h) a0) (hW : wl (oc h) a0 = W) (K : wOK W) (hf : F_X12_mostPlace n a0 h = some q) : q = moW W := by
  unfold F_X12_mostPlace at hf
  replace hf := jbind hf
  obtain ⟨v1, e1, hf⟩ := hf
  replace e1 := (jcv_o e1).2
  have r1 := E_X12_rings M e1
  rw [hW] at r1
  subst r1
  replace hf := jite hf
  rcases hf with ⟨c2, hf⟩ | ⟨c2, hf⟩
  · skip
    cases hf
    -- leaf 0: (31 : Int32)
    exact (if_pos c2).symm
  · skip
    replace hf := jbind hf
    obtain ⟨v16, e3, hf⟩ := hf
    replace e3 := (jcv_o e3).2
    have r3 := E_X12_lastRing M e3
    rw [hW] at r3
    subst r3
    obtain ⟨n1, n2, n3⟩ := cN_last K c2
    replace hf := jbind hf
    obtain ⟨v20, e4, hf⟩ := hf
    replace e4 := (jcv_o e4).2
    have r4 := E_X12_of (i := cN W - 1) (j := 0) (t := 11 + 8 * (cN W - 1)) M n1 rfl (by omega) (by omega) e4
    rw [hW] at r4
    subst r4
    replace hf := jbind hf
    obtain ⟨v25, e5, hf⟩ := hf
    replace e5 := (jcv_o e5).2
    have r5 := E_X12_lastRing M e5
    rw [hW] at r5
    subst r5
    obtain ⟨n1, n2, n3⟩ := cN_last K c2
    replace hf := jbind hf
    obtain ⟨v29, e6, hf⟩ := hf
    replace e6 := (jcv_o e6).2
    have r6 := E_X12_of (i := cN W - 1) (j := 1) (t := 12 + 8 * (cN W - 1)) M n1 rfl (by omega) (by omega) e6
    rw [hW] at r6
    subst r6
    cases hf
    -- leaf 1: (if (v20 + v29) < (31 : Int32) then v20 + v29 else (31 : Int32))
    exact (if_neg c2).symm
end
section
/-! sew, the reference -/
theorem cN_lt {W : jWd} (K : wOK W) (h : ¬ W 0 = 8) : cN W < 8 := by
  have k := K.1
  have n8 : (W 0).toInt ≠ 8 := fun z => h (nI_k (k := 8) z)
  unfold cN
  omega
theorem E_X12_sew_70 {W : jWd} {r : Nat} {n : Nat} {a0 : Nat} {x1 : Int32} {x2 : Int32} {sa0 : Nat} {s1 : Int32} {h : jH} {q : Int32 × jH} (M : mS (oc h) a0) (hW : wl (oc h) a0 = W) (K : wOK W) (h7 : oi (oc h) a0 7 = nI r) (hr : r ≤ 12) (z0 : oi (oc h) a0 0 = 0) (hs : a0 = sa0) (h01 : s1 = 0 ∨ s1 = 1) (hc : s1 = 0 → cN W < 8) (hf : F_X12_sew_70 n a0 x1 x2 sa0 s1 h = some q) : (s1 = 1 ∧ q.1 = 0 ∧ rTh a0 3 h q.2) ∨ (s1 = 0 ∧ q.1 = hgW W x1 x2 0 - 1 ∧ rAct a0 r (hgW W x1 x2) h q.2) := by
  unfold F_X12_sew_70 at hf
  subst hs
  replace hf := jbind hf
  obtain ⟨q71, e1, hf⟩ := hf
  replace e1 := (jcv_o e1).2
  have r1 := E_X12_throwsIf h01 e1
  replace hf := jite hf
  rcases hf with ⟨c2, hf⟩ | ⟨c2, hf⟩
  · skip
    replace hf := jbind hf
    obtain ⟨h80, e3, hf⟩ := hf
    replace e3 := (jcv_o e3).2
    have s0 : s1 = 0 := by
      rcases r1 with ⟨y, -, -⟩ | ⟨-, y, -⟩
      · exact y
      · exact absurd (y.symm.trans c2) (by decide)
    have hq : q71.2 = h := by
      rcases r1 with ⟨-, -, y⟩ | ⟨-, y, -⟩
      · exact y
      · exact absurd (y.symm.trans c2) (by decide)
    rw [hq] at e3
    have R3 : rRM a0 r h h80 := E_X12_remembers M h7 hr e3
    have M3 : mS (oc h80) a0 := mS_fr M R3.2.2.2.1 (by decide) (by decide)
    obtain ⟨t1, t2, t3, t4, t5, t8, t15, t17, t19, t20, t21⟩ := id M3
    have w3 : wl (oc h80) a0 = W := (wl_f R3.2.2.2.1 (by decide)).trans hW
    replace hf := jbind hf
    obtain ⟨h86, e4, hf⟩ := hf
    replace e4 := (jcv_o e4).2
    obtain ⟨G1, G2, G3⟩ := E_X12_hangs M3 w3 K (hc s0) e4
    have M4 : mS (oc h86) a0 := mS_fr M3 G2 (by decide) (by decide)
    replace hf := jbind hf
    obtain ⟨v90, e5, hf⟩ := hf
    replace e5 := (jcv_o e5).2
    have r5 := E_X12_lastRing M4 e5
    rw [G1] at r5
    cases hf
    -- leaf 0: (v90, h86)
    exact Or.inr ⟨s0, r5, rAct_mk z0 R3 (f1 G2) G1 G3⟩
  · skip
    cases hf
    -- leaf 1: ((0 : Int32), q71.2)
    rcases r1 with ⟨-, y, -⟩ | ⟨s, -, T⟩
    · exact absurd y c2
    · exact Or.inl ⟨s, rfl, T⟩
theorem E_X12_sew_33 {W : jWd} {r : Nat} {n : Nat} {a0 : Nat} {x1 : Int32} {x2 : Int32} {sa0 : Nat} {s1 : Int32} {h : jH} {q : Int32 × jH} (M : mS (oc h) a0) (hW : wl (oc h) a0 = W) (K : wOK W) (h7 : oi (oc h) a0 7 = nI r) (hr : r ≤ 12) (z0 : oi (oc h) a0 0 = 0) (hs : a0 = sa0) (h01 : s1 = 0 ∨ s1 = 1) (hf : F_X12_sew_33 n a0 x1 x2 sa0 s1 h = some q) : (s1 = 1 ∧ q.1 = 0 ∧ rTh a0 2 h q.2) ∨ (s1 = 0 ∧ ((¬ canS W x1 ∧ q.1 = 0 ∧ rTh a0 3 h q.2) ∨ (canS W x1 ∧ q.1 = hgW W x1 x2 0 - 1 ∧ rAct a0 r (hgW W x1 x2) h q.2))) := by
  unfold F_X12_sew_33 at hf
  subst hs
  replace hf := jbind hf
  obtain ⟨q34, e1, hf⟩ := hf
  replace e1 := (jcv_o e1).2
  have r1 := E_X12_throwsIf h01 e1
  replace hf := jite hf
  rcases hf with ⟨c2, hf⟩ | ⟨c2, hf⟩
  · skip
    replace hf := jbind hf
    obtain ⟨v42, e3, hf⟩ := hf
    replace e3 := (jcv_o e3).2
    have s0 : s1 = 0 := by
      rcases r1 with ⟨y, -, -⟩ | ⟨-, y, -⟩
      · exact y
      · exact absurd (y.symm.trans c2) (by decide)
    have hq : q34.2 = h := by
      rcases r1 with ⟨-, -, y⟩ | ⟨-, y, -⟩
      · exact y
      · exact absurd (y.symm.trans c2) (by decide)
    rw [hq] at e3
    have r3 := E_X12_rings M e3
    rw [hW] at r3
    replace hf := jite hf
    rcases hf with ⟨c4, hf⟩ | ⟨c4, hf⟩
    · skip
      -- leaf 00: F_X12_sew_70 n a0 x1 x2 a0 (1 : Int32) q34.2
      rw [hq] at hf
      rcases E_X12_sew_70 M hW K h7 hr z0 rfl (Or.inr rfl) (fun z => absurd z (by decide)) hf with ⟨-, b, T⟩ | ⟨s, -⟩
      · exact Or.inr ⟨s0, Or.inl ⟨fun z => z.1 (r3.symm.trans c4), b, T⟩⟩
      · exact absurd s (by decide)
    · skip
      replace hf := jbind hf
      obtain ⟨v52, e5, hf⟩ := hf
      replace e5 := (jcv_o e5).2
      rw [hq] at e5
      have r5 := E_X12_leastPlace M hW K e5
      replace hf := jbind hf
      obtain ⟨v56, e6, hf⟩ := hf
      replace e6 := (jcv_o e6).2
      rw [hq] at e6
      have r6 := E_X12_mostPlace M hW K e6
      replace hf := jbind hf
      obtain ⟨v59, e7, hf⟩ := hf
      have r7 := E_X12_in e7
      replace hf := jite hf
      rcases hf with ⟨c8, hf⟩ | ⟨c8, hf⟩
      · skip
        -- leaf 010: F_X12_sew_70 n a0 x1 x2 a0 (1 : Int32) q34.2
        rw [hq] at hf
        rcases E_X12_sew_70 M hW K h7 hr z0 rfl (Or.inr rfl) (fun z => absurd z (by decide)) hf with ⟨-, b, T⟩ | ⟨s, -⟩
        · exact Or.inr ⟨s0, Or.inl ⟨fun z => absurd ((r7.2.mpr ⟨by rw [r5]; exact z.2.1, by rw [r6]; exact z.2.2⟩).symm.trans c8) (by decide), b, T⟩⟩
        · exact absurd s (by decide)
      · skip
        -- leaf 011: F_X12_sew_70 n a0 x1 x2 a0 (0 : Int32) q34.2
        rw [hq] at hf
        have y := r7.2.mp (r7.1.resolve_left c8)
        rw [r5, r6] at y
        have n8 : ¬ W 0 = 8 := fun z => c4 (r3.trans z)
        rcases E_X12_sew_70 M hW K h7 hr z0 rfl (Or.inl rfl) (fun _ => cN_lt K n8) hf with ⟨s, -⟩ | ⟨-, b, A⟩
        · exact absurd s (by decide)
        · exact Or.inr ⟨s0, Or.inr ⟨⟨n8, y⟩, b, A⟩⟩
  · skip
    cases hf
    -- leaf 1: ((0 : Int32), q34.2)
    rcases r1 with ⟨-, y, -⟩ | ⟨s, -, T⟩
    · exact absurd y c2
    · exact Or.inl ⟨s, rfl, T⟩
theorem E_X12_sew {W : jWd} {r : Nat} {n : Nat} {a0 : Nat} {x1 : Int32} {x2 : Int32} {h : jH} {q : Int32 × jH} (M : mS (oc h) a0) (hW : wl (oc h) a0 = W) (K : wOK W) (h7 : oi (oc h) a0 7 = nI r) (hr : r ≤ 12) (hf : F_X12_sew n a0 x1 x2 h = some q) : (¬ (0 ≤ x1.toInt ∧ x1.toInt ≤ 31) ∧ q.1 = 0 ∧ rTh a0 1 h q.2) ∨ ((0 ≤ x1.toInt ∧ x1.toInt ≤ 31) ∧ ((¬ (1 ≤ x2.toInt ∧ x2.toInt ≤ 9) ∧ q.1 = 0 ∧ rTh a0 2 h q.2) ∨ ((1 ≤ x2.toInt ∧ x2.toInt ≤ 9) ∧ ((¬ canS W x1 ∧ q.1 = 0 ∧ rTh a0 3 h q.2) ∨ (canS W x1 ∧ q.1 = hgW W x1 x2 0 - 1 ∧ rAct a0 r (hgW W x1 x2) h q.2))))) := by
  unfold F_X12_sew at hf
  replace hf := jbind hf
  obtain ⟨h2, e1, hf⟩ := hf
  obtain ⟨o1, z1⟩ := oc_pf e1
  clear e1
  replace hf := jbind hf
  obtain ⟨v7, e2, hf⟩ := hf
  have T1 : rTh a0 0 h h2 := ⟨by rw [o1, oi_eq], by rw [o1]; exact frM_f (by decide), z1⟩
  obtain ⟨M1, w1, g1⟩ := rTh_W T1 M hW h7
  have r2 := E_X12_noPlace e2
  replace hf := jbind hf
  obtain ⟨q11, e3, hf⟩ := hf
  replace e3 := (jcv_o e3).2
  have r3 := E_X12_throwsIf r2.1 e3
  replace hf := jite hf
  rcases hf with ⟨c4, hf⟩ | ⟨c4, hf⟩
  · skip
    replace hf := jbind hf
    obtain ⟨v22, e5, hf⟩ := hf
    have r5 := E_X12_in e5
    replace hf := jite hf
    rcases hf with ⟨c6, hf⟩ | ⟨c6, hf⟩
    · skip
      -- leaf 00: F_X12_sew_33 n a0 x1 x2 a0 (1 : Int32) q11.2
      have hq : q11.2 = h2 := by
        rcases r3 with ⟨-, -, y⟩ | ⟨-, y, -⟩
        · exact y
        · exact absurd (y.symm.trans c4) (by decide)
      have hv : v7 = 0 := by
        rcases r3 with ⟨y, -, -⟩ | ⟨-, y, -⟩
        · exact y
        · exact absurd (y.symm.trans c4) (by decide)
      have P : (0 ≤ x1.toInt ∧ x1.toInt ≤ 31) := Classical.byContradiction fun z => absurd ((r2.2.mpr z).symm.trans hv) (by decide)
      have l1 : (1 : Int32).toInt = 1 := rfl
      have l9 : (9 : Int32).toInt = 9 := rfl
      rw [l1, l9] at r5
      rw [hq] at hf
      rcases E_X12_sew_33 M1 w1 K g1 hr T1.1 rfl (Or.inr rfl) hf with ⟨-, b, T⟩ | ⟨s, -⟩
      · exact Or.inr ⟨P, Or.inl ⟨fun z => absurd ((r5.2.mpr z).symm.trans c6) (by decide), b, rTh_tr T1 T⟩⟩
      · exact absurd s (by decide)
    · skip
      -- leaf 01: F_X12_sew_33 n a0 x1 x2 a0 (0 : Int32) q11.2
      have hq : q11.2 = h2 := by
        rcases r3 with ⟨-, -, y⟩ | ⟨-, y, -⟩
        · exact y
        · exact absurd (y.symm.trans c4) (by decide)
      have hv : v7 = 0 := by
        rcases r3 with ⟨y, -, -⟩ | ⟨-, y, -⟩
        · exact y
        · exact absurd (y.symm.trans c4) (by decide)
      have P : (0 ≤ x1.toInt ∧ x1.toInt ≤ 31) := Classical.byContradiction fun z => absurd ((r2.2.mpr z).symm.trans hv) (by decide)
      have l1 : (1 : Int32).toInt = 1 := rfl
      have l9 : (9 : Int32).toInt = 9 := rfl
      rw [l1, l9] at r5
      rw [hq] at hf
      rcases E_X12_sew_33 M1 w1 K g1 hr T1.1 rfl (Or.inl rfl) hf with ⟨s, -⟩ | ⟨-, y⟩
      · exact absurd s (by decide)
      refine Or.inr ⟨P, Or.inr ⟨r5.2.mp (r5.1.resolve_left c6), ?_⟩⟩
      rcases y with ⟨a, b, T⟩ | ⟨a, b, A⟩
      · exact Or.inl ⟨a, b, rTh_tr T1 T⟩
      · exact Or.inr ⟨a, b, rAct_tr T1 A⟩
  · skip
    cases hf
    -- leaf 1: ((0 : Int32), q11.2)
    rcases r3 with ⟨-, y, -⟩ | ⟨s, -, T⟩
    · exact absurd y c4
    · exact Or.inl ⟨r2.2.mp s, rfl, rTh_tr T1 T⟩
end
section
/-! sew, the class -/
theorem hg_lo {W : jWd} {x y : Int32} {k : Nat} (h0 : k ≠ 0) (h : k < 11 + 8 * cN W ∨ 19 + 8 * cN W ≤ k) : hgW W x y k = W k := by
  unfold hgW
  rw [if_neg h0, if_neg (by omega), if_neg (by omega), if_neg (by omega), if_neg (by omega)]
theorem hg_pl {W : jWd} {x y : Int32} : hgW W x y (11 + 8 * cN W) = x := by
  unfold hgW
  rw [if_neg (by omega), if_pos rfl]
theorem hg_cl {W : jWd} {x y : Int32} : hgW W x y (12 + 8 * cN W) = y := by
  unfold hgW
  rw [if_neg (by omega), if_neg (by omega), if_pos rfl]
theorem hg_hk {W : jWd} {x y : Int32} : hgW W x y (17 + 8 * cN W) = 1 := by
  unfold hgW
  rw [if_neg (by omega), if_neg (by omega), if_neg (by omega), if_pos rfl]
theorem hg_z {W : jWd} {x y : Int32} {k : Nat} (h : 13 + 8 * cN W ≤ k ∧ k < 19 + 8 * cN W ∧ k ≠ 17 + 8 * cN W) : hgW W x y k = 0 := by
  unfold hgW
  rw [if_neg (by omega), if_neg (by omega), if_neg (by omega), if_neg (by omega), if_pos (by omega)]
theorem chV_f {v x : Int32} {k i : Nat} (hk : k < 32) (hx : x = 0 ∨ x = 1) (hi : i < 32) (n : i ≠ k) (h : bt v i = false) : bt (chV v k x) i = false := by
  have y := chV_bit (v := v) hk hx i hi
  rw [if_neg n, h] at y
  cases z : bt (chV v k x) i
  · rfl
  · exact absurd (y.mp z) (by decide)
/-- the class's rod with one ring more -/
theorem rodE_hg {O O2 : jO} {a0 : Nat} {W : jWd} {x1 x2 : Int32} (R : rodE O a0 W) (K : wOK W) (hc : cN W < 8)
    (E : O2 = u2 (u2 (u2 (u2 (u2 (u2 (u2 (u2 (u2 O (a0 + 1) (cN W) (.int x1)) (a0 + 2) (cN W) (.int x2)) (a0 + 3) (cN W) (.int 0)) (a0 + 4) (cN W) (.int 0)) a0 6 (.int (chV (oi O a0 6) (cN W) 0))) a0 7 (.int (chV (oi O a0 7) (cN W) 0))) a0 8 (.int (chV (oi O a0 8) (cN W) 1))) a0 9 (.int (chV (oi O a0 9) (cN W) 0))) a0 5 (.int (oi O a0 5 + 1))) : rodE O2 a0 (hgW W x1 x2) := by
  obtain ⟨⟨s0, s1, s2, s3, s4, s5⟩, ⟨u5, u10, u11, u12, u13, u14, u15, u16, u17⟩, RB, RC, RL⟩ := R
  have k0 := K.1
  have l1 : (1 : Int32).toInt = 1 := rfl
  have g0 : hgW W x1 x2 0 = W 0 + 1 := if_pos rfl
  have g0i : (hgW W x1 x2 0).toInt = (W 0).toInt + 1 := by rw [g0, jadd (by omega) (by omega)]; omega
  have ec : (cN W : Int) = (W 0).toInt := by unfold cN; omega
  have q6 : oi O2 a0 6 = chV (oi O a0 6) (cN W) 0 := by subst E; simp (disch := omega) only [oi_ne, oi_eq]
  have q7 : oi O2 a0 7 = chV (oi O a0 7) (cN W) 0 := by subst E; simp (disch := omega) only [oi_ne, oi_eq]
  have q8 : oi O2 a0 8 = chV (oi O a0 8) (cN W) 1 := by subst E; simp (disch := omega) only [oi_ne, oi_eq]
  have q9 : oi O2 a0 9 = chV (oi O a0 9) (cN W) 0 := by subst E; simp (disch := omega) only [oi_ne, oi_eq]
  have n : ∀ a k, (a ≠ a0 ∨ 10 ≤ k ∨ k < 5) → (a < a0 + 1 ∨ a0 + 4 < a ∨ k ≠ cN W) → O2 a k = O a k := fun a k h1 h2 => by subst E; simp (disch := omega) only [u2_ne]
  have ni : ∀ a k, (a ≠ a0 ∨ 10 ≤ k ∨ k < 5) → (a < a0 + 1 ∨ a0 + 4 < a ∨ k ≠ cN W) → oi O2 a k = oi O a k := fun a k h1 h2 => by unfold oi; rw [n a k h1 h2]
  have p1 : oi O2 (a0 + 1) (cN W) = x1 := by subst E; simp (disch := omega) only [oi_ne, oi_eq]
  have p2 : oi O2 (a0 + 2) (cN W) = x2 := by subst E; simp (disch := omega) only [oi_ne, oi_eq]
  have p3 : oi O2 (a0 + 3) (cN W) = 0 := by subst E; simp (disch := omega) only [oi_ne, oi_eq]
  have p4 : oi O2 (a0 + 4) (cN W) = 0 := by subst E; simp (disch := omega) only [oi_ne, oi_eq]
  have q5 : oi O2 a0 5 = hgW W x1 x2 0 := by rw [g0, ← u5]; subst E; exact oi_eq
  have lo : ∀ k, k ≠ 0 → k < 11 + 8 * cN W ∨ 19 + 8 * cN W ≤ k → hgW W x1 x2 k = W k := fun k h1 h2 => hg_lo h1 h2
  refine ⟨⟨(n _ _ (by omega) (by omega)).trans s0, (n _ _ (by omega) (by omega)).trans s1, (n _ _ (by omega) (by omega)).trans s2, (n _ _ (by omega) (by omega)).trans s3, (n _ _ (by omega) (by omega)).trans s4, (n _ _ (by omega) (by omega)).trans s5⟩, ⟨q5, ?_, ?_, ?_, ?_, ?_, ?_, ?_, ?_⟩, fun i hi => ?_, fun i hi h32 => ?_, ?_⟩
  · rw [ni _ _ (by omega) (by omega), lo 7 (by omega) (by omega)]; exact u10
  · rw [ni _ _ (by omega) (by omega), lo 5 (by omega) (by omega)]; exact u11
  · rw [ni _ _ (by omega) (by omega), lo 6 (by omega) (by omega)]; exact u12
  · rw [ni _ _ (by omega) (by omega), lo 3 (by omega) (by omega)]; exact u13
  · rw [ni _ _ (by omega) (by omega), lo 4 (by omega) (by omega)]; exact u14
  · rw [ni _ _ (by omega) (by omega), lo 8 (by omega) (by omega)]; exact u15
  · rw [ni _ _ (by omega) (by omega), lo 10 (by omega) (by omega)]; exact u16
  · rw [ni _ _ (by omega) (by omega), lo 1 (by omega) (by omega)]; exact u17
  · rw [g0i] at hi
    have b6 := chV_bit (v := oi O a0 6) (show cN W < 32 by omega) (Or.inl rfl : (0 : Int32) = 0 ∨ (0 : Int32) = 1) i (by omega)
    have b7 := chV_bit (v := oi O a0 7) (show cN W < 32 by omega) (Or.inl rfl : (0 : Int32) = 0 ∨ (0 : Int32) = 1) i (by omega)
    have b8 := chV_bit (v := oi O a0 8) (show cN W < 32 by omega) (Or.inr rfl : (1 : Int32) = 0 ∨ (1 : Int32) = 1) i (by omega)
    have b9 := chV_bit (v := oi O a0 9) (show cN W < 32 by omega) (Or.inl rfl : (0 : Int32) = 0 ∨ (0 : Int32) = 1) i (by omega)
    rw [← q6] at b6
    rw [← q7] at b7
    rw [← q8] at b8
    rw [← q9] at b9
    by_cases y : i = cN W
    · subst y
      rw [if_pos rfl] at b6 b7 b8 b9
      rw [hg_pl, hg_cl, hg_hk, hg_z (show _ by omega), hg_z (show _ by omega), hg_z (show _ by omega), hg_z (show _ by omega), hg_z (show _ by omega)]
      exact ⟨p1, p2, b6, b7, p3, p4, b8, b9⟩
    · rw [if_neg y] at b6 b7 b8 b9
      obtain ⟨r1, r2, r3, r4, r5, r6, r7, r8⟩ := RB i (by omega)
      rw [lo _ (by omega) (by omega), lo _ (by omega) (by omega), lo _ (by omega) (by omega), lo _ (by omega) (by omega), lo _ (by omega) (by omega), lo _ (by omega) (by omega), lo _ (by omega) (by omega), lo _ (by omega) (by omega)]
      exact ⟨(ni _ _ (by omega) (by omega)).trans r1, (ni _ _ (by omega) (by omega)).trans r2, b6.trans r3, b7.trans r4, (ni _ _ (by omega) (by omega)).trans r5, (ni _ _ (by omega) (by omega)).trans r6, b8.trans r7, b9.trans r8⟩
  · rw [g0i] at hi
    obtain ⟨r1, r2⟩ := RC i (by omega) h32
    rw [q7, q9]
    exact ⟨chV_f (by omega) (Or.inl rfl) h32 (by omega) r1, chV_f (by omega) (Or.inl rfl) h32 (by omega) r2⟩
  · exact logE_cg RL (fun k => ni _ _ (by omega) (by omega)) (fun k => ni _ _ (by omega) (by omega)) (fun k hk => lo k (by omega) (by omega))
end
section
/-! sew as an act of the class -/
theorem E_X8_nearestNew {W : jWd} {n : Nat} {a0 : Nat} {h : jH} {q : Int32} (R : rodE (oc h) a0 W) (K : wOK W) (hf : F_X8_nearestNew n a0 h = some q) : q = leW W := by
  unfold F_X8_nearestNew at hf
  obtain ⟨⟨s0, s1, s2, s3, s4, s5⟩, ⟨u5, u10, u11, u12, u13, u14, u15, u16, u17⟩, RB, RC, RL⟩ := id R
  replace hf := jbind hf
  obtain ⟨v1, e1, hf⟩ := hf
  have r1 := oc_gI e1
  subst r1
  clear e1
  replace hf := jite hf
  rcases hf with ⟨c2, hf⟩ | ⟨c2, hf⟩
  · skip
    cases hf
    -- leaf 0: (0 : Int32)
    rw [u5] at c2
    exact (if_pos c2).symm
  · skip
    replace hf := jbind hf
    obtain ⟨p12, e3, hf⟩ := hf
    have r3 := oc_gR e3
    rw [s0] at r3
    cases r3
    clear e3
    replace hf := jbind hf
    obtain ⟨v16, e4, hf⟩ := hf
    have r4 := oc_gI e4
    subst r4
    clear e4
    replace hf := jbind hf
    obtain ⟨v21, e5, hf⟩ := hf
    obtain ⟨r5, y5⟩ := oc_al e5
    subst r5
    clear e5
    cases hf
    -- leaf 1: (v21 + (1 : Int32))
    rw [u5] at c2
    obtain ⟨n1, n2, n3⟩ := cN_last K c2
    have hl : ((cN W - 1 : Nat) : Int) < (W 0).toInt := by
      have k0 := K.1
      have ec : (cN W : Int) = (W 0).toInt := by unfold cN; omega
      omega
    rw [u5, n1, nI_cl (by omega), (RB _ hl).1]
    exact (if_neg c2).symm
theorem E_X8_farthestNew {W : jWd} {n : Nat} {a0 : Nat} {h : jH} {q : Int32} (R : rodE (oc h) a0 W) (K : wOK W) (hf : F_X8_farthestNew n a0 h = some q) : q = moW W := by
  unfold F_X8_farthestNew at hf
  obtain ⟨⟨s0, s1, s2, s3, s4, s5⟩, ⟨u5, u10, u11, u12, u13, u14, u15, u16, u17⟩, RB, RC, RL⟩ := id R
  replace hf := jbind hf
  obtain ⟨v1, e1, hf⟩ := hf
  have r1 := oc_gI e1
  subst r1
  clear e1
  replace hf := jite hf
  rcases hf with ⟨c2, hf⟩ | ⟨c2, hf⟩
  · skip
    cases hf
    -- leaf 0: (31 : Int32)
    rw [u5] at c2
    exact (if_pos c2).symm
  · skip
    replace hf := jbind hf
    obtain ⟨p15, e3, hf⟩ := hf
    have r3 := oc_gR e3
    rw [s0] at r3
    cases r3
    clear e3
    replace hf := jbind hf
    obtain ⟨v19, e4, hf⟩ := hf
    have r4 := oc_gI e4
    subst r4
    clear e4
    replace hf := jbind hf
    obtain ⟨v24, e5, hf⟩ := hf
    obtain ⟨r5, y5⟩ := oc_al e5
    subst r5
    clear e5
    replace hf := jbind hf
    obtain ⟨p26, e6, hf⟩ := hf
    have r6 := oc_gR e6
    rw [s1] at r6
    cases r6
    clear e6
    replace hf := jbind hf
    obtain ⟨v30, e7, hf⟩ := hf
    have r7 := oc_gI e7
    subst r7
    clear e7
    replace hf := jbind hf
    obtain ⟨v35, e8, hf⟩ := hf
    obtain ⟨r8, y8⟩ := oc_al e8
    subst r8
    clear e8
    cases hf
    -- leaf 1: (if (v24 + v35) < (31 : Int32) then v24 + v35 else (31 : Int32))
    rw [u5] at c2
    obtain ⟨n1, n2, n3⟩ := cN_last K c2
    have hl : ((cN W - 1 : Nat) : Int) < (W 0).toInt := by
      have k0 := K.1
      have ec : (cN W : Int) = (W 0).toInt := by unfold cN; omega
      omega
    rw [u5, n1, nI_cl (by omega), (RB _ hl).1, (RB _ hl).2.1]
    exact (if_neg c2).symm
theorem E_X8_add {W : jWd} {n : Nat} {a0 : Nat} {x1 : Int32} {x2 : Int32} {h : jH} {q : jH} (R : rodE (oc h) a0 W) (K : wOK W) (hc : cN W < 8) (hf : F_X8_add n a0 x1 x2 h = some q) : rodE (oc q) a0 (hgW W x1 x2) ∧ frR a0 (oc h) (oc q) ∧ q.1 = h.1 := by
  unfold F_X8_add at hf
  obtain ⟨⟨s0, s1, s2, s3, s4, s5⟩, ⟨u5, u10, u11, u12, u13, u14, u15, u16, u17⟩, RB, RC, RL⟩ := id R
  have k0 := K.1
  have ec : (cN W : Int) = (W 0).toInt := by unfold cN; omega
  have h5 : oi (oc h) a0 5 = nI (cN W) := u5.trans (nI_k ec.symm)
  replace hf := jbind hf
  obtain ⟨v1, e1, hf⟩ := hf
  have r1 := oc_gI e1
  subst r1
  clear e1
  replace hf := jite hf
  rcases hf with ⟨c2, hf⟩ | ⟨c2, hf⟩
  · skip
    replace hf := jbind hf
    obtain ⟨p11, e3, hf⟩ := hf
    have r3 := oc_gR e3
    rw [s0] at r3
    cases r3
    clear e3
    replace hf := jbind hf
    obtain ⟨v15, e4, hf⟩ := hf
    have r4 := oc_gI e4
    subst r4
    clear e4
    replace hf := jbind hf
    obtain ⟨h19, e5, hf⟩ := hf
    obtain ⟨o5, z5, y5⟩ := oc_as e5
    rw [jnar0] at o5
    clear e5
    replace hf := jbind hf
    obtain ⟨p21, e6, hf⟩ := hf
    have r6 := oc_gR e6
    rw [o5] at r6
    rw [u2_ne (Or.inl (by omega))] at r6
    rw [s1] at r6
    cases r6
    clear e6
    replace hf := jbind hf
    obtain ⟨v25, e7, hf⟩ := hf
    have r7 := oc_gI e7
    rw [o5] at r7
    rw [oi_ne (Or.inl (by omega))] at r7
    subst r7
    clear e7
    replace hf := jbind hf
    obtain ⟨h29, e8, hf⟩ := hf
    obtain ⟨o8, z8, y8⟩ := oc_as e8
    rw [jnar0] at o8
    clear e8
    replace hf := jbind hf
    obtain ⟨p31, e9, hf⟩ := hf
    have r9 := oc_gR e9
    rw [o8] at r9
    rw [u2_ne (Or.inl (by omega))] at r9
    rw [o5] at r9
    rw [u2_ne (Or.inl (by omega))] at r9
    rw [s2] at r9
    cases r9
    clear e9
    replace hf := jbind hf
    obtain ⟨v35, e10, hf⟩ := hf
    have r10 := oc_gI e10
    rw [o8] at r10
    rw [oi_ne (Or.inl (by omega))] at r10
    rw [o5] at r10
    rw [oi_ne (Or.inl (by omega))] at r10
    subst r10
    clear e10
    replace hf := jbind hf
    obtain ⟨h39, e11, hf⟩ := hf
    obtain ⟨o11, z11, y11⟩ := oc_as e11
    rw [jnar0] at o11
    clear e11
    replace hf := jbind hf
    obtain ⟨p41, e12, hf⟩ := hf
    have r12 := oc_gR e12
    rw [o11] at r12
    rw [u2_ne (Or.inl (by omega))] at r12
    rw [o8] at r12
    rw [u2_ne (Or.inl (by omega))] at r12
    rw [o5] at r12
    rw [u2_ne (Or.inl (by omega))] at r12
    rw [s3] at r12
    cases r12
    clear e12
    replace hf := jbind hf
    obtain ⟨v45, e13, hf⟩ := hf
    have r13 := oc_gI e13
    rw [o11] at r13
    rw [oi_ne (Or.inl (by omega))] at r13
    rw [o8] at r13
    rw [oi_ne (Or.inl (by omega))] at r13
    rw [o5] at r13
    rw [oi_ne (Or.inl (by omega))] at r13
    subst r13
    clear e13
    replace hf := jbind hf
    obtain ⟨h49, e14, hf⟩ := hf
    obtain ⟨o14, z14, y14⟩ := oc_as e14
    rw [jnar0] at o14
    clear e14
    replace hf := jbind hf
    obtain ⟨v52, e15, hf⟩ := hf
    have r15 := oc_gI e15
    rw [o14] at r15
    rw [oi_ne (Or.inl (by omega))] at r15
    rw [o11] at r15
    rw [oi_ne (Or.inl (by omega))] at r15
    rw [o8] at r15
    rw [oi_ne (Or.inl (by omega))] at r15
    rw [o5] at r15
    rw [oi_ne (Or.inl (by omega))] at r15
    subst r15
    clear e15
    replace hf := jbind hf
    obtain ⟨v56, e16, hf⟩ := hf
    have r16 := oc_gI e16
    rw [o14] at r16
    rw [oi_ne (Or.inl (by omega))] at r16
    rw [o11] at r16
    rw [oi_ne (Or.inl (by omega))] at r16
    rw [o8] at r16
    rw [oi_ne (Or.inl (by omega))] at r16
    rw [o5] at r16
    rw [oi_ne (Or.inl (by omega))] at r16
    subst r16
    clear e16
    replace hf := jbind hf
    obtain ⟨v60, e17, hf⟩ := hf
    have r17 := E_X11_withBit (i := cN W) h5 e17
    subst r17
    replace hf := jbind hf
    obtain ⟨h63, e18, hf⟩ := hf
    obtain ⟨o18, z18⟩ := oc_pf e18
    clear e18
    replace hf := jbind hf
    obtain ⟨v68, e19, hf⟩ := hf
    have r19 := oc_gI e19
    rw [o18] at r19
    rw [oi_ne (Or.inr (by decide))] at r19
    rw [o14] at r19
    rw [oi_ne (Or.inl (by omega))] at r19
    rw [o11] at r19
    rw [oi_ne (Or.inl (by omega))] at r19
    rw [o8] at r19
    rw [oi_ne (Or.inl (by omega))] at r19
    rw [o5] at r19
    rw [oi_ne (Or.inl (by omega))] at r19
    subst r19
    clear e19
    replace hf := jbind hf
    obtain ⟨v72, e20, hf⟩ := hf
    have r20 := oc_gI e20
    rw [o18] at r20
    rw [oi_ne (Or.inr (by decide))] at r20
    rw [o14] at r20
    rw [oi_ne (Or.inl (by omega))] at r20
    rw [o11] at r20
    rw [oi_ne (Or.inl (by omega))] at r20
    rw [o8] at r20
    rw [oi_ne (Or.inl (by omega))] at r20
    rw [o5] at r20
    rw [oi_ne (Or.inl (by omega))] at r20
    subst r20
    clear e20
    replace hf := jbind hf
    obtain ⟨v76, e21, hf⟩ := hf
    have r21 := E_X11_withBit (i := cN W) h5 e21
    subst r21
    replace hf := jbind hf
    obtain ⟨h79, e22, hf⟩ := hf
    obtain ⟨o22, z22⟩ := oc_pf e22
    clear e22
    replace hf := jbind hf
    obtain ⟨v84, e23, hf⟩ := hf
    have r23 := oc_gI e23
    rw [o22] at r23
    rw [oi_ne (Or.inr (by decide))] at r23
    rw [o18] at r23
    rw [oi_ne (Or.inr (by decide))] at r23
    rw [o14] at r23
    rw [oi_ne (Or.inl (by omega))] at r23
    rw [o11] at r23
    rw [oi_ne (Or.inl (by omega))] at r23
    rw [o8] at r23
    rw [oi_ne (Or.inl (by omega))] at r23
    rw [o5] at r23
    rw [oi_ne (Or.inl (by omega))] at r23
    subst r23
    clear e23
    replace hf := jbind hf
    obtain ⟨v88, e24, hf⟩ := hf
    have r24 := oc_gI e24
    rw [o22] at r24
    rw [oi_ne (Or.inr (by decide))] at r24
    rw [o18] at r24
    rw [oi_ne (Or.inr (by decide))] at r24
    rw [o14] at r24
    rw [oi_ne (Or.inl (by omega))] at r24
    rw [o11] at r24
    rw [oi_ne (Or.inl (by omega))] at r24
    rw [o8] at r24
    rw [oi_ne (Or.inl (by omega))] at r24
    rw [o5] at r24
    rw [oi_ne (Or.inl (by omega))] at r24
    subst r24
    clear e24
    replace hf := jbind hf
    obtain ⟨v92, e25, hf⟩ := hf
    have r25 := E_X11_withBit (i := cN W) h5 e25
    subst r25
    replace hf := jbind hf
    obtain ⟨h95, e26, hf⟩ := hf
    obtain ⟨o26, z26⟩ := oc_pf e26
    clear e26
    replace hf := jbind hf
    obtain ⟨v100, e27, hf⟩ := hf
    have r27 := oc_gI e27
    rw [o26] at r27
    rw [oi_ne (Or.inr (by decide))] at r27
    rw [o22] at r27
    rw [oi_ne (Or.inr (by decide))] at r27
    rw [o18] at r27
    rw [oi_ne (Or.inr (by decide))] at r27
    rw [o14] at r27
    rw [oi_ne (Or.inl (by omega))] at r27
    rw [o11] at r27
    rw [oi_ne (Or.inl (by omega))] at r27
    rw [o8] at r27
    rw [oi_ne (Or.inl (by omega))] at r27
    rw [o5] at r27
    rw [oi_ne (Or.inl (by omega))] at r27
    subst r27
    clear e27
    replace hf := jbind hf
    obtain ⟨v104, e28, hf⟩ := hf
    have r28 := oc_gI e28
    rw [o26] at r28
    rw [oi_ne (Or.inr (by decide))] at r28
    rw [o22] at r28
    rw [oi_ne (Or.inr (by decide))] at r28
    rw [o18] at r28
    rw [oi_ne (Or.inr (by decide))] at r28
    rw [o14] at r28
    rw [oi_ne (Or.inl (by omega))] at r28
    rw [o11] at r28
    rw [oi_ne (Or.inl (by omega))] at r28
    rw [o8] at r28
    rw [oi_ne (Or.inl (by omega))] at r28
    rw [o5] at r28
    rw [oi_ne (Or.inl (by omega))] at r28
    subst r28
    clear e28
    replace hf := jbind hf
    obtain ⟨v108, e29, hf⟩ := hf
    have r29 := E_X11_withBit (i := cN W) h5 e29
    subst r29
    replace hf := jbind hf
    obtain ⟨h111, e30, hf⟩ := hf
    obtain ⟨o30, z30⟩ := oc_pf e30
    clear e30
    replace hf := jbind hf
    obtain ⟨v116, e31, hf⟩ := hf
    have r31 := oc_gI e31
    rw [o30] at r31
    rw [oi_ne (Or.inr (by decide))] at r31
    rw [o26] at r31
    rw [oi_ne (Or.inr (by decide))] at r31
    rw [o22] at r31
    rw [oi_ne (Or.inr (by decide))] at r31
    rw [o18] at r31
    rw [oi_ne (Or.inr (by decide))] at r31
    rw [o14] at r31
    rw [oi_ne (Or.inl (by omega))] at r31
    rw [o11] at r31
    rw [oi_ne (Or.inl (by omega))] at r31
    rw [o8] at r31
    rw [oi_ne (Or.inl (by omega))] at r31
    rw [o5] at r31
    rw [oi_ne (Or.inl (by omega))] at r31
    subst r31
    clear e31
    replace hf := jbind hf
    obtain ⟨h121, e32, hf⟩ := hf
    obtain ⟨o32, z32⟩ := oc_pf e32
    clear e32
    cases hf
    -- leaf 0: h121
    rw [h5, nI_cl (by omega)] at o5 o8 o11 o14
    refine ⟨rodE_hg R K hc (by rw [o32, o30, o26, o22, o18, o14, o11, o8, o5]), ?_, z32.trans (z30.trans (z26.trans (z22.trans (z18.trans (z14.trans (z11.trans (z8.trans (z5))))))))⟩
    rw [o32, o30, o26, o22, o18, o14, o11, o8, o5]
    exact frR_tr (frR_tr (frR_tr (frR_tr (frR_tr (frR_tr (frR_tr (frR_tr (frR_u2 (by omega)) (frR_u2 (by omega))) (frR_u2 (by omega))) (frR_u2 (by omega))) (frR_u2 (by omega))) (frR_u2 (by omega))) (frR_u2 (by omega))) (frR_u2 (by omega))) (frR_u2 (by omega))
  · skip
    cases hf
    -- leaf 1: h
    exact absurd c2 (by rw [h5, Int32.lt_iff_toInt_lt, nI_toInt (by omega), show (8 : Int32).toInt = 8 from rfl]; omega)
theorem E_X11_sew {W : jWd} {nx : Nat} {n : Nat} {a0 : Nat} {x1 : Int32} {x2 : Int32} {h : jH} {q : jR × jH} (C : cPre a0 nx W h) (hf : F_X11_sew n a0 x1 x2 h = some q) : (¬ (0 ≤ x1.toInt ∧ x1.toInt ≤ 31) ∧ q.1 = .inr 2 ∧ q.2 = h) ∨ ((0 ≤ x1.toInt ∧ x1.toInt ≤ 31) ∧ ((¬ (1 ≤ x2.toInt ∧ x2.toInt ≤ 9) ∧ q.1 = .inr 0 ∧ q.2 = h) ∨ ((1 ≤ x2.toInt ∧ x2.toInt ≤ 9) ∧ ((¬ canS W x1 ∧ q.1 = .inr 1 ∧ q.2 = h) ∨ (canS W x1 ∧ q.1 = .inl (hgW W x1 x2 0 - 1) ∧ cAct a0 nx W (hgW W x1 x2) h q.2))))) := by
  unfold F_X11_sew at hf
  obtain ⟨⟨X1, X3, sA, hx, hn, R, K⟩, hb, hz, sz⟩ := id C
  obtain ⟨⟨s0, s1, s2, s3, s4, s5⟩, ⟨u5, u10, u11, u12, u13, u14, u15, u16, u17⟩, RB, RC, RL⟩ := id R
  replace hf := jbind hf
  obtain ⟨q2, e1, hf⟩ := hf
  replace e1 := (jcv_o e1).2
  have r1 := E_X11_requirePlace e1
  obtain ⟨wq2, h2⟩ := q2
  have hqq : h2 = h := r1.elim (fun y => y.2.2) (fun y => y.2.2)
  subst hqq
  rcases wq2 with r2 | xq2
  · skip
    replace hf := (jthen_l (q := (.inl r2, h2)) rfl).symm.trans hf
    dsimp only at hf
    replace hf := jbind hf
    obtain ⟨q10, e2, hf⟩ := hf
    replace e2 := (jcv_o e2).2
    have r2 := E_X11_requireNumber e2
    obtain ⟨wq10, h10⟩ := q10
    have hqq : h10 = h2 := r2.elim (fun y => y.2.2) (fun y => y.2.2)
    subst hqq
    rcases wq10 with r10 | xq10
    · skip
      replace hf := (jthen_l (q := (.inl r10, h10)) rfl).symm.trans hf
      dsimp only at hf
      replace hf := jbind hf
      obtain ⟨p14, e3, hf⟩ := hf
      have r3 := oc_gR e3
      rw [X1] at r3
      cases r3
      clear e3
      replace hf := jbind hf
      obtain ⟨v17, e4, hf⟩ := hf
      have r4 := oc_gI e4
      subst r4
      clear e4
      replace hf := jite hf
      rcases hf with ⟨c5, hf⟩ | ⟨c5, hf⟩
      · skip
        cases hf
        -- leaf 0: (.inr 1, h10)
        have k0 := K.1
        rw [u5, Int32.le_iff_toInt_le, show (8 : Int32).toInt = 8 from rfl] at c5
        have P : (0 ≤ x1.toInt ∧ x1.toInt ≤ 31) := by
          rcases r1 with ⟨P, -, -⟩ | ⟨-, y, -⟩
          · exact P
          · cases y
        have P2 : (1 ≤ x2.toInt ∧ x2.toInt ≤ 9) := by
          rcases r2 with ⟨P, -, -⟩ | ⟨-, y, -⟩
          · exact P
          · cases y
        exact Or.inr ⟨P, Or.inr ⟨P2, Or.inl ⟨fun z => z.1 (nI_k (k := 8) (by show (W 0).toInt = 8; omega)), rfl, rfl⟩⟩⟩
      · skip
        replace hf := jbind hf
        obtain ⟨p27, e6, hf⟩ := hf
        have r6 := oc_gR e6
        rw [X1] at r6
        cases r6
        clear e6
        replace hf := jbind hf
        obtain ⟨v30, e7, hf⟩ := hf
        replace e7 := (jcv_o e7).2
        have r7 := E_X8_nearestNew R K e7
        replace hf := jite hf
        rcases hf with ⟨c8, hf⟩ | ⟨c8, hf⟩
        · skip
          cases hf
          -- leaf 10: (.inr 1, h10)
          rw [r7, Int32.lt_iff_toInt_lt] at c8
          have P : (0 ≤ x1.toInt ∧ x1.toInt ≤ 31) := by
            rcases r1 with ⟨P, -, -⟩ | ⟨-, y, -⟩
            · exact P
            · cases y
          have P2 : (1 ≤ x2.toInt ∧ x2.toInt ≤ 9) := by
            rcases r2 with ⟨P, -, -⟩ | ⟨-, y, -⟩
            · exact P
            · cases y
          exact Or.inr ⟨P, Or.inr ⟨P2, Or.inl ⟨fun z => by have := z.2.1; omega, rfl, rfl⟩⟩⟩
        · skip
          replace hf := jbind hf
          obtain ⟨p38, e9, hf⟩ := hf
          have r9 := oc_gR e9
          rw [X1] at r9
          cases r9
          clear e9
          replace hf := jbind hf
          obtain ⟨v41, e10, hf⟩ := hf
          replace e10 := (jcv_o e10).2
          have r10 := E_X8_farthestNew R K e10
          replace hf := jite hf
          rcases hf with ⟨c11, hf⟩ | ⟨c11, hf⟩
          · skip
            replace hf := jbind hf
            obtain ⟨p58, e12, hf⟩ := hf
            have r12 := oc_gR e12
            rw [X3] at r12
            cases r12
            clear e12
            replace hf := jbind hf
            obtain ⟨p62, e13, hf⟩ := hf
            have r13 := oc_gR e13
            rw [X1] at r13
            cases r13
            clear e13
            replace hf := jbind hf
            obtain ⟨h65, e14, hf⟩ := hf
            replace e14 := (jcv_o e14).2
            have n8 : ¬ W 0 = 8 := fun z => c5 (by rw [u5, z]; decide)
            have hc := cN_lt K n8
            obtain ⟨Y1, RR, AA⟩ := c_rem C e14
            obtain ⟨⟨t0, t1, t2, t3, t4, t5⟩, ⟨g5, g10, g11, g12, g13, g14, g15, g16, g17⟩, QB, QC, QL⟩ := id RR
            replace hf := jbind hf
            obtain ⟨p69, e15, hf⟩ := hf
            have r15 := oc_gR e15
            rw [Y1] at r15
            cases r15
            clear e15
            replace hf := jbind hf
            obtain ⟨h74, e16, hf⟩ := hf
            replace e16 := (jcv_o e16).2
            obtain ⟨G1, G2, G3⟩ := E_X8_add RR K hc e16
            have Y2 : oc h74 a0 1 = .ref (a0 + 6) := (G2 _ _ (by omega)).trans Y1
            replace hf := jbind hf
            obtain ⟨p78, e17, hf⟩ := hf
            have r17 := oc_gR e17
            rw [Y2] at r17
            cases r17
            clear e17
            replace hf := jbind hf
            obtain ⟨v81, e18, hf⟩ := hf
            have r18 := oc_gI e18
            subst r18
            clear e18
            cases hf
            -- leaf 110: (.inl (v81 - (1 : Int32)), h74)
            rw [r7, Int32.lt_iff_toInt_lt] at c8
            rw [r10, Int32.le_iff_toInt_le] at c11
            have P : (0 ≤ x1.toInt ∧ x1.toInt ≤ 31) := by
              rcases r1 with ⟨P, -, -⟩ | ⟨-, y, -⟩
              · exact P
              · cases y
            have P2 : (1 ≤ x2.toInt ∧ x2.toInt ≤ 9) := by
              rcases r2 with ⟨P, -, -⟩ | ⟨-, y, -⟩
              · exact P
              · cases y
            exact Or.inr ⟨P, Or.inr ⟨P2, Or.inr ⟨⟨n8, by omega, c11⟩, by rw [G1.2.1.1], c_mk hz hb AA G2 G1 G3⟩⟩⟩
          · skip
            cases hf
            -- leaf 111: (.inr 1, h10)
            rw [r10, Int32.le_iff_toInt_le] at c11
            have P : (0 ≤ x1.toInt ∧ x1.toInt ≤ 31) := by
              rcases r1 with ⟨P, -, -⟩ | ⟨-, y, -⟩
              · exact P
              · cases y
            have P2 : (1 ≤ x2.toInt ∧ x2.toInt ≤ 9) := by
              rcases r2 with ⟨P, -, -⟩ | ⟨-, y, -⟩
              · exact P
              · cases y
            exact Or.inr ⟨P, Or.inr ⟨P2, Or.inl ⟨fun z => c11 z.2.2, rfl, rfl⟩⟩⟩
    · skip
      replace hf := (jthen_r (q := (.inr xq10, h10)) rfl).symm.trans hf
      cases hf
      have P : (0 ≤ x1.toInt ∧ x1.toInt ≤ 31) := by
        rcases r1 with ⟨P, -, -⟩ | ⟨-, y, -⟩
        · exact P
        · cases y
      rcases r2 with ⟨-, y, -⟩ | ⟨P2, y, -⟩
      · cases y
      · exact Or.inr ⟨P, Or.inl ⟨P2, y, rfl⟩⟩
  · skip
    replace hf := (jthen_r (q := (.inr xq2, h2)) rfl).symm.trans hf
    cases hf
    rcases r1 with ⟨-, y, -⟩ | ⟨P, y, -⟩
    · cases y
    · exact Or.inl ⟨P, y, rfl⟩
end
section
/-! what always holds of a world holds after the simple acts; the law is as it was -/
theorem wOK_ln {W : jWd} {i : Nat} {x : Int32} (K : wOK W) (hx : 0 ≤ x.toInt ∧ x.toInt ≤ 9) : wOK (upd W (16 + 8 * i) x) := by
  have e : ∀ k, k ≠ 16 + 8 * i → upd W (16 + 8 * i) x k = W k := fun k h => upd_ne h
  obtain ⟨k0, k1, k2, k3, k4, k5, k6, k7, k8, k9, k10⟩ := K
  unfold wOK
  rw [e 0 (by omega), e 3 (by omega), e 4 (by omega), e 5 (by omega), e 6 (by omega), e 8 (by omega), e 9 (by omega), e 1 (by omega)]
  refine ⟨k0, fun j hj => ?_, fun j hj => ?_, fun j hj => ?_, k4, k5, k6, k7, k8, k9, k10⟩
  · rw [e (11 + 8 * j) (by omega), e (12 + 8 * j) (by omega), e (13 + 8 * j) (by omega), e (14 + 8 * j) (by omega), e (15 + 8 * j) (by omega), e (17 + 8 * j) (by omega), e (18 + 8 * j) (by omega)]
    obtain ⟨a1, a2, a3, a4, a5, a6, a7, a8⟩ := k1 j hj
    refine ⟨a1, a2, a3, a4, a5, ?_, a7, a8⟩
    by_cases q : j = i
    · subst q; rw [upd_eq]; exact hx
    · rw [e (16 + 8 * j) (by omega)]; exact a6
  · rw [e _ (by omega), e _ (by omega)]; exact k2 j hj
  · rw [e _ (by omega)]; exact k3 j hj
theorem wOK_7 {W : jWd} {x : Int32} (K : wOK W) : wOK (upd W 7 x) := by
  have e : ∀ k, k ≠ 7 → upd W 7 x k = W k := fun k h => upd_ne h
  obtain ⟨k0, k1, k2, k3, k4, k5, k6, k7, k8, k9, k10⟩ := K
  unfold wOK
  rw [e 0 (by omega), e 3 (by omega), e 4 (by omega), e 5 (by omega), e 6 (by omega), e 8 (by omega), e 9 (by omega), e 1 (by omega)]
  refine ⟨k0, fun j hj => ?_, fun j hj => ?_, fun j hj => ?_, k4, k5, k6, k7, k8, k9, k10⟩
  · rw [e _ (by omega), e _ (by omega), e _ (by omega), e _ (by omega), e _ (by omega), e _ (by omega), e _ (by omega), e _ (by omega)]; exact k1 j hj
  · rw [e _ (by omega), e _ (by omega)]; exact k2 j hj
  · rw [e _ (by omega)]; exact k3 j hj
theorem wOK_hg {W : jWd} {x y : Int32} (K : wOK W) (hx : 0 ≤ x.toInt ∧ x.toInt ≤ 31) (hy : 1 ≤ y.toInt ∧ y.toInt ≤ 9) (c : canS W x) : wOK (hgW W x y) := by
  have n8 := cN_lt K c.1
  have le := c.2.1
  have K0 := K.1
  have l1 : (1 : Int32).toInt = 1 := rfl
  have ec : (cN W : Int) = (W 0).toInt := by unfold cN; omega
  have g0 : hgW W x y 0 = W 0 + 1 := if_pos rfl
  have g0i : (hgW W x y 0).toInt = (W 0).toInt + 1 := by rw [g0, jadd (by omega) (by omega)]; omega
  have lo : ∀ k, k ≠ 0 → k < 11 + 8 * cN W ∨ 19 + 8 * cN W ≤ k → hgW W x y k = W k := fun k h1 h2 => hg_lo h1 h2
  have lst : 1 ≤ cN W → (W (11 + 8 * (cN W - 1))).toInt < x.toInt := fun h => by
    have b := ((K.2.1 (cN W - 1) (by omega)).1)
    have n0 : ¬ W 0 = 0 := fun z => by rw [z] at ec; have : (0 : Int32).toInt = 0 := rfl; omega
    have q : leW W = W (11 + 8 * (cN W - 1)) + 1 := if_neg n0
    rw [q, jadd (by omega) (by omega)] at le
    omega
  obtain ⟨k0, k1, k2, k3, k4, k5, k6, k7, k8, k9, k10⟩ := K
  unfold wOK
  rw [lo 3 (by omega) (by omega), lo 4 (by omega) (by omega), lo 5 (by omega) (by omega), lo 6 (by omega) (by omega), lo 8 (by omega) (by omega), lo 9 (by omega) (by omega), lo 1 (by omega) (by omega), g0i]
  refine ⟨by omega, fun j hj => ?_, fun j hj => ?_, fun j hj => ?_, k4, k5, k6, k7, k8, k9, k10⟩
  · by_cases q : j = cN W
    · subst q
      rw [hg_pl, hg_cl, hg_hk, hg_z (show _ by omega), hg_z (show _ by omega), hg_z (show _ by omega), hg_z (show _ by omega), hg_z (show _ by omega)]
      exact ⟨hx, hy, Or.inl rfl, Or.inl rfl, by decide, by decide, Or.inr rfl, Or.inl rfl⟩
    · rw [lo _ (by omega) (by omega), lo _ (by omega) (by omega), lo _ (by omega) (by omega), lo _ (by omega) (by omega), lo _ (by omega) (by omega), lo _ (by omega) (by omega), lo _ (by omega) (by omega), lo _ (by omega) (by omega)]
      exact k1 j (by omega)
  · by_cases q : j + 1 = cN W
    · have e1 := lst (by omega)
      rw [q, hg_pl, lo _ (by omega) (by omega)]
      rw [show cN W - 1 = j by omega] at e1
      exact e1
    · rw [lo _ (by omega) (by omega), lo _ (by omega) (by omega)]
      exact k2 j (by omega)
  · have q : j = cN W := by omega
    subst q
    exact hg_z (by omega)
/-- the law's places are left alone -/
theorem hg_law {W : jWd} {x y : Int32} (h : cN W < 8) : ∀ k, k = 2 ∨ 435 ≤ k → hgW W x y k = W k := fun k hk => hg_lo (by omega) (by omega)
theorem up_law {W : jWd} {i : Nat} {x : Int32} (h : i < 435 ∧ i ≠ 2) : ∀ k, k = 2 ∨ 435 ≤ k → upd W i x k = W k := fun k hk => upd_n (by omega)
theorem mvO_hi {W : jWd} {r : Nat} {d : Bool} {k : Nat} (h : 75 ≤ k) : ∀ t, mvO W r d t k = W k
  | 0 => rfl
  | t + 1 => by
    show stW (mvO W r d t) (gv (mvO W r d t) r d) d 8 k = W k
    unfold stW
    rw [if_neg (fun z => by omega)]
    exact mvO_hi h t
theorem pl_law {W : jWd} {r i f : Nat} {d : Bool} {x y z : Int32} : ∀ k, k = 2 ∨ 435 ≤ k → tlW (plW W r d f) i x y z k = W k := fun k hk => by
  rw [tlW_n (by omega)]
  by_cases q : k = 2
  · subst q; exact (upd_n (by decide)).trans (mvO_ot (Or.inl (by decide)) f)
  · exact (upd_n (by omega)).trans (mvO_hi (by omega) f)
end
section
/-! undo as an act of the class -/
theorem E_X11_undo {n : Nat} {a0 : Nat} {h : jH} {q : Int32 × jH} (X1 : oc h a0 1 = .ref (a0 + 6)) (X3 : oc h a0 3 = .ref (a0 + 19)) (hf : F_X11_undo n a0 h = some q) : (oi (oc h) (a0 + 19) 2 = 0 → q = (0, h)) ∧ (∀ (nx b : Nat) (W : jWd), oc h (a0 + 19) 0 = .ref (a0 + 20) → oi (oc h) (a0 + 19) 1 = nI nx → nx ≤ 11 → oc h (a0 + 20) ((nx + 11) % 12) = .ref b → rodE (oc h) b W → wOK W → rodS (oc h) (a0 + 6) → a0 + 52 < b → 0 < (oi (oc h) (a0 + 19) 2).toInt ∧ (oi (oc h) (a0 + 19) 2).toInt ≤ 12 → q.1 = 1 ∧ rodE (oc q.2) (a0 + 6) W ∧ oi (oc q.2) (a0 + 19) 1 = nI ((nx + 11) % 12) ∧ (oi (oc q.2) (a0 + 19) 2).toInt = (oi (oc h) (a0 + 19) 2).toInt - 1 ∧ q.2.1 = h.1 ∧ (∀ a k, ¬ (a0 + 6 ≤ a ∧ a ≤ a0 + 12) → ¬ (a = a0 + 19 ∧ (k = 1 ∨ k = 2)) → oc q.2 a k = oc h a k)) := by
  unfold F_X11_undo at hf
  replace hf := jbind hf
  obtain ⟨p1, e1, hf⟩ := hf
  have r1 := oc_gR e1
  rw [X3] at r1
  cases r1
  clear e1
  replace hf := jbind hf
  obtain ⟨p5, e2, hf⟩ := hf
  have r2 := oc_gR e2
  rw [X1] at r2
  cases r2
  clear e2
  replace hf := jbind hf
  obtain ⟨q8, e3, hf⟩ := hf
  replace e3 := (jcv_o e3).2
  replace hf := jite hf
  rcases hf with ⟨c4, hf⟩ | ⟨c4, hf⟩
  · skip
    cases hf
    -- leaf 0: (q8.1, q8.2)
    refine ⟨fun z => E_X0_takeBack_0 z e3, fun nx b W sA hx hn hb R K sr lb sz => ?_⟩
    exact E_X0_takeBack sA hx hn hb R K sr (by omega) (by omega) sz e3
  · skip
    cases hf
end
section
/-! the acts that are remembered, on both sides -/
def slotE (O : jO) (z x : Nat) : Prop := ∀ s : Nat, s < 12 → O (x + 20) s = .null ∨ ∃ b : Nat, O (x + 20) s = .ref b ∧ rodS O b ∧ x + 52 < b ∧ b + 6 < z
def apartE (O : jO) (x : Nat) : Prop := ∀ s t b c : Nat, s < 12 → t < 12 → s ≠ t → O (x + 20) s = .ref b → O (x + 20) t = .ref c → b + 6 < c ∨ c + 6 < b
/-- the j-th latest act -/
def actE (O : jO) (x m r nx : Nat) : Prop := ∀ j : Nat, j < r → ∃ (b : Nat) (V : jWd), O (x + 20) ((nx + 11 - j) % 12) = .ref b ∧ rodE O b V ∧ wOK V ∧ (∀ k, k < 435 → V k = oi O (m + 5) (435 * (r - 1 - j) + k)) ∧ V 2 = oi O (x + 13) 7
theorem act_step {x nx r : Nat} {W W2 V2 : jWd} {h h2 h3 : jH} (hn : nx ≤ 11) (hr : r ≤ 12) (S : slotE (oc h) h.1 x) (P : apartE (oc h) x) (A : actE (oc h) x (x + 40) r nx) (hw : ∀ k, k < 435 → wl (oc h) (x + 40) k = W k) (K : wOK W) (h2w : oi (oc h) (x + 13) 7 = W 2) (hz : x + 52 < h.1) (C : cAct x nx W W2 h h2) (D : rAct (x + 40) r V2 h2 h3) :
    slotE (oc h3) h3.1 x ∧ apartE (oc h3) x ∧ actE (oc h3) x (x + 40) (if r < 12 then r + 1 else 12) ((nx + 1) % 12) := by
  obtain ⟨d0, dw, d7, dA, dB, dF, dz⟩ := D
  obtain ⟨-, b, C1, c5⟩ := C
  have hb : ∀ b : Nat, oc h (x + 20) nx = .ref b → rodS (oc h) b ∧ x + 52 < b := fun b e => by
    rcases S nx (by omega) with q | ⟨c, q, q1, q2, q3⟩
    · rw [q] at e; cases e
    · rw [q] at e; cases e; exact ⟨q1, q2⟩
  have lb := cRm_lb hz hb C1
  obtain ⟨B, c1, c2, c3, c4⟩ := C1
  have f3 : ∀ a k : Nat, (a ≤ x + 39 ∨ x + 52 < a) → oc h3 a k = oc h2 a k := fun a k q => dF a k (fun c hc z => by simp at hc; omega) (fun z => by omega)
  have zz : b + 6 < h3.1 ∧ h.1 ≤ h3.1 := by
    rcases B with ⟨e, y⟩ | ⟨e, y, y2⟩
    · rcases S nx (by omega) with q | ⟨c, q, q1, q2, q3⟩
      · rw [q] at e; cases e
      · rw [q] at e; cases e; omega
    · omega
  have ow : ∀ s c : Nat, s < 12 → s ≠ nx → oc h (x + 20) s = .ref c → (c + 6 < b ∨ b + 6 < c) ∧ x + 52 < c ∧ c + 6 < h.1 ∧ rodS (oc h) c := fun s c hs ns e => by
    have l : rodS (oc h) c ∧ x + 52 < c ∧ c + 6 < h.1 := by
      rcases S s hs with q | ⟨c2, q, q1, q2, q3⟩
      · rw [q] at e; cases e
      · rw [q] at e; cases e; exact ⟨q1, q2, q3⟩
    refine ⟨?_, l.2.1, l.2.2, l.1⟩
    rcases B with ⟨y, -⟩ | ⟨-, y, -⟩
    · exact P s nx c b hs (by omega) ns e y
    · omega
  have kp : ∀ s c : Nat, s < 12 → s ≠ nx → oc h (x + 20) s = .ref c → ∀ a k : Nat, c ≤ a → a ≤ c + 6 → oc h3 a k = oc h a k := fun s c hs ns e a k h1 h2 => by
    obtain ⟨w1, w2, w3, -⟩ := ow s c hs ns e
    exact (f3 a k (by omega)).trans (c5 a k (by omega) (by omega) (by omega) (by omega) (by omega) (by omega) (by omega))
  have sn : ∀ s : Nat, s < 12 → s ≠ nx → oc h3 (x + 20) s = oc h (x + 20) s := fun s hs ns => (f3 _ _ (by omega)).trans (c5 _ _ (by omega) (by omega) (by omega) (by omega) (by omega) (by omega) (by omega))
  have s0 : oc h3 (x + 20) nx = .ref b := (f3 _ _ (by omega)).trans c1
  have rb : rodE (oc h3) b W := rodE_fr c2 (fun a k h1 h2 => f3 a k (by omega))
  have h13 : oi (oc h3) (x + 13) 7 = oi (oc h) (x + 13) 7 := by
    unfold oi
    rw [f3 _ _ (by omega), c5 _ _ (by omega) (by omega) (by omega) (by omega) (by omega) (by omega) (by omega)]
  refine ⟨fun s hs => ?_, fun s t c d hs ht ne e1 e2 => ?_, fun j hj => ?_⟩
  · by_cases q : s = nx
    · subst q; exact Or.inr ⟨b, s0, rb.1, lb, zz.1⟩
    · rw [sn s hs q]
      rcases S s hs with w | ⟨c, w, w1, w2, w3⟩
      · exact Or.inl w
      · exact Or.inr ⟨c, w, rodS_fr w1 (fun k => kp s c hs q w _ _ (by omega) (by omega)) (kp s c hs q w _ _ (by omega) (by omega)), w2, by omega⟩
  · by_cases q : s = nx
    · subst q
      rw [s0] at e1
      cases e1
      rw [sn t ht (Ne.symm ne)] at e2
      exact (ow t d ht (Ne.symm ne) e2).1.symm
    · rw [sn s hs q] at e1
      by_cases q2 : t = nx
      · subst q2
        rw [s0] at e2
        cases e2
        exact (ow s c hs q e1).1
      · rw [sn t ht q2] at e2
        exact P s t c d hs ht ne e1 e2
  · by_cases j0 : j = 0
    · subst j0
      refine ⟨b, W, ?_, rb, K, fun k hk => ?_, (h13.trans h2w).symm⟩
      · rw [show ((nx + 1) % 12 + 11 - 0) % 12 = nx by omega]; exact s0
      · have y := dA k hk
        have w : wl (oc h2) (x + 40) k = wl (oc h) (x + 40) k := by
          show oi (oc h2) (x + 40 + 1) k = oi (oc h) (x + 40 + 1) k
          unfold oi
          rw [c5 _ _ (by omega) (by omega) (by omega) (by omega) (by omega) (by omega) (by omega)]
        exact ((y.trans w).trans (hw k hk)).symm
    · have jr : j - 1 < r := by split at hj <;> omega
      have j12 : j ≤ 11 := by split at hj <;> omega
      obtain ⟨c, V, a1, a2, a3, a4, a5⟩ := A (j - 1) jr
      have es : ((nx + 1) % 12 + 11 - j) % 12 = (nx + 11 - (j - 1)) % 12 := by omega
      have ns : (nx + 11 - (j - 1)) % 12 ≠ nx := by omega
      have hs : (nx + 11 - (j - 1)) % 12 < 12 := by omega
      refine ⟨c, V, ?_, rodE_fr a2 (kp _ c hs ns a1), a3, fun k hk => ?_, a5.trans h13.symm⟩
      · rw [es, sn _ hs ns]; exact a1
      · have y := dB j (by omega) hj k hk
        have w : oi (oc h2) (x + 40 + 5) (435 * (r - j) + k) = oi (oc h) (x + 40 + 5) (435 * (r - j) + k) := by
          unfold oi
          rw [c5 _ _ (by omega) (by omega) (by omega) (by omega) (by omega) (by omega) (by omega)]
        have z := a4 k hk
        rw [show r - 1 - (j - 1) = r - j by omega] at z
        exact z.trans (y.trans w).symm
end
section
/-! acts left alone, and one taken back -/
theorem slot_keep {x z z2 : Nat} {O O2 : jO} (fr : ∀ a k : Nat, (a = x + 20 ∨ x + 52 < a ∨ a = x + 45) → O2 a k = O a k) (hz : z ≤ z2) (S : slotE O z x) (P : apartE O x) : slotE O2 z2 x ∧ apartE O2 x := by
  refine ⟨fun s hs => ?_, fun s t b c hs ht ne e1 e2 => ?_⟩
  · rw [fr _ _ (Or.inl rfl)]
    rcases S s hs with w | ⟨c, w, w1, w2, w3⟩
    · exact Or.inl w
    · exact Or.inr ⟨c, w, rodS_fr w1 (fun k => fr _ _ (by omega)) (fr _ _ (by omega)), w2, by omega⟩
  · rw [fr _ _ (Or.inl rfl)] at e1 e2
    exact P s t b c hs ht ne e1 e2
theorem act_keep {x z r nx : Nat} {O O2 : jO} (fr : ∀ a k : Nat, (a = x + 20 ∨ x + 52 < a ∨ a = x + 45 ∨ (a = x + 13 ∧ k = 7)) → O2 a k = O a k) (S : slotE O z x) (hn : nx ≤ 11) (A : actE O x (x + 40) r nx) : actE O2 x (x + 40) r nx := by
  intro j hj
  obtain ⟨c, V, a1, a2, a3, a4, a5⟩ := A j hj
  have l : x + 52 < c := by
    rcases S ((nx + 11 - j) % 12) (by omega) with q | ⟨d, q, q1, q2, q3⟩
    · rw [q] at a1; cases a1
    · rw [q] at a1; cases a1; exact q2
  refine ⟨c, V, (fr _ _ (Or.inl rfl)).trans a1, rodE_fr a2 (fun a k h1 h2 => fr _ _ (by omega)), a3, fun k hk => (a4 k hk).trans ?_, a5.trans ?_⟩
  · unfold oi
    rw [fr _ _ (Or.inr (Or.inr (Or.inl rfl)))]
  · unfold oi
    rw [fr _ _ (Or.inr (Or.inr (Or.inr ⟨rfl, rfl⟩)))]
theorem act_undo {x z r nx : Nat} {O O2 : jO} (fr : ∀ a k : Nat, (a = x + 20 ∨ x + 52 < a ∨ a = x + 45 ∨ (a = x + 13 ∧ k = 7)) → O2 a k = O a k) (S : slotE O z x) (hn : nx ≤ 11) (hr : r ≤ 12) (A : actE O x (x + 40) r nx) : actE O2 x (x + 40) (r - 1) ((nx + 11) % 12) := by
  intro j hj
  obtain ⟨c, V, a1, a2, a3, a4, a5⟩ := act_keep fr S hn A (j + 1) (by omega)
  refine ⟨c, V, ?_, a2, a3, fun k hk => ?_, a5⟩
  · rw [show ((nx + 11) % 12 + 11 - j) % 12 = (nx + 11 - (j + 1)) % 12 by omega]; exact a1
  · rw [a4 k hk, show r - 1 - (j + 1) = r - 1 - 1 - j by omega]
/-- the latest act, as undo finds it -/
theorem act_last {x z r nx : Nat} {O : jO} (S : slotE O z x) (P : apartE O x) (hn : nx ≤ 11) (hr : 1 ≤ r) (A : actE O x (x + 40) r nx) : ∃ (b : Nat) (V : jWd), O (x + 20) ((nx + 11) % 12) = .ref b ∧ x + 52 < b ∧ rodE O b V ∧ wOK V ∧ (∀ k, k < 435 → V k = oi O (x + 45) (435 * (r - 1) + k)) ∧ V 2 = oi O (x + 13) 7 := by
  obtain ⟨c, V, a1, a2, a3, a4, a5⟩ := A 0 (by omega)
  refine ⟨c, V, a1, ?_, a2, a3, a4, a5⟩
  rcases S ((nx + 11) % 12) (by omega) with q | ⟨d, q, q1, q2, q3⟩
  · rw [show (nx + 11 - 0) % 12 = (nx + 11) % 12 by omega, q] at a1; cases a1
  · rw [show (nx + 11 - 0) % 12 = (nx + 11) % 12 by omega, q] at a1; cases a1; exact q2
end
section
/-! readers, draft, clock and pulls of the class stand where they were made; image and fault alike -/
def rdrS (O : jO) (x : Nat) : Prop :=
  (O x 2 = .ref (x + 13) ∧ O x 4 = .ref (x + 21) ∧ O x 5 = .ref (x + 28) ∧ O x 6 = .ref (x + 34) ∧ O x 7 = .ref (x + 35) ∧ O x 9 = .ref (x + 37)) ∧
  (O (x + 34) 0 = .ref (x + 1) ∧ O (x + 34) 1 = .int 14 ∧ O (x + 34) 2 = .ref (x + 21)) ∧ (O (x + 35) 0 = .ref (x + 1) ∧ O (x + 35) 1 = .int 12 ∧ O (x + 35) 2 = .ref (x + 28)) ∧
  (O (x + 36) 1 = .ref (x + 21) ∧ O (x + 37) 0 = .ref (x + 1) ∧ O (x + 37) 1 = .ref (x + 21) ∧ O (x + 37) 2 = .ref (x + 38) ∧ O (x + 37) 3 = .ref (x + 39)) ∧ rodS O (x + 21) ∧ lawS O (x + 28)
theorem rdrS_fr {O O2 : jO} {x : Nat} (S : rdrS O x) (f : ∀ a k : Nat, ((a = x ∧ k ≤ 9) ∨ (x + 34 ≤ a ∧ a ≤ x + 37) ∨ (a = x + 21 ∧ k ≤ 4) ∨ (a = x + 26 ∧ k = 0) ∨ (a = x + 28 ∧ k ≤ 4)) → O2 a k = O a k) : rdrS O2 x := by
  obtain ⟨⟨a1, a2, a3, a4, a5, a6⟩, ⟨b1, b2, b3⟩, ⟨c1, c2, c3⟩, ⟨d1, d2, d3, d4, d5⟩, ⟨e1, e2, e3, e4, e5, e6⟩, ⟨g1, g2, g3, g4, g5⟩⟩ := S
  refine ⟨⟨?_, ?_, ?_, ?_, ?_, ?_⟩, ⟨?_, ?_, ?_⟩, ⟨?_, ?_, ?_⟩, ⟨?_, ?_, ?_, ?_, ?_⟩, ⟨?_, ?_, ?_, ?_, ?_, ?_⟩, ⟨?_, ?_, ?_, ?_, ?_⟩⟩
  all_goals first
    | exact (f _ _ (by omega)).trans a1 | exact (f _ _ (by omega)).trans a2 | exact (f _ _ (by omega)).trans a3 | exact (f _ _ (by omega)).trans a4 | exact (f _ _ (by omega)).trans a5 | exact (f _ _ (by omega)).trans a6
    | exact (f _ _ (by omega)).trans b1 | exact (f _ _ (by omega)).trans b2 | exact (f _ _ (by omega)).trans b3 | exact (f _ _ (by omega)).trans c1 | exact (f _ _ (by omega)).trans c2 | exact (f _ _ (by omega)).trans c3
    | exact (f _ _ (by omega)).trans d1 | exact (f _ _ (by omega)).trans d2 | exact (f _ _ (by omega)).trans d3 | exact (f _ _ (by omega)).trans d4 | exact (f _ _ (by omega)).trans d5
    | exact (f _ _ (by omega)).trans e1 | exact (f _ _ (by omega)).trans e2 | exact (f _ _ (by omega)).trans e3 | exact (f _ _ (by omega)).trans e4 | exact (f _ _ (by omega)).trans e5 | exact (f _ _ (by omega)).trans e6
    | exact (f _ _ (by omega)).trans g1 | exact (f _ _ (by omega)).trans g2 | exact (f _ _ (by omega)).trans g3 | exact (f _ _ (by omega)).trans g4 | exact (f _ _ (by omega)).trans g5
/-- what the reference's image tells -/
def iwl (O : jO) (x : Nat) : jWd := fun k => oi O (x + 42) k
def kptE (O : jO) (z x kr kl : Nat) : Prop := (O x 10 = .ref kr ∧ O x 11 = .ref kl ∧ oi O (x + 40) 6 = 1) ∧ (rodE O kr (iwl O x) ∧ lawE O kl (iwl O x) ∧ wOK (iwl O x) ∧ lawK (iwl O x) ∧ lawB (iwl O x)) ∧ (x + 52 < kr ∧ kr + 6 < z ∧ x + 52 < kl ∧ kl + 5 < z ∧ (kr + 6 < kl ∨ kl + 5 < kr)) ∧ ∀ s b : Nat, s < 12 → O (x + 20) s = .ref b → (b + 6 < kr ∨ kr + 6 < b) ∧ (b + 6 < kl ∨ kl + 5 < b)
def imE (O : jO) (z x : Nat) : Prop := rdrS O x ∧ oi O x 12 = oi O (x + 40) 14 ∧ ((O x 10 = .null ∧ O x 11 = .null ∧ oi O (x + 40) 6 = 0) ∨ ∃ kr kl : Nat, kptE O z x kr kl)
theorem im_keep {O O2 : jO} {x z z2 : Nat} (fr : ∀ a k : Nat, (a = x ∨ (x + 34 ≤ a ∧ a ≤ x + 37) ∨ (a = x + 21 ∧ k ≤ 4) ∨ (a = x + 26 ∧ k = 0) ∨ (a = x + 28 ∧ k ≤ 4) ∨ a = x + 42 ∨ (a = x + 40 ∧ (k = 6 ∨ k = 14)) ∨ (x + 52 < a ∧ a < z ∧ ∀ s b : Nat, s < 12 → O (x + 20) s = .ref b → a < b ∨ b + 6 < a)) → O2 a k = O a k)
    (sl : ∀ s b : Nat, s < 12 → O2 (x + 20) s = .ref b → O (x + 20) s = .ref b ∨ z ≤ b) (hz : z ≤ z2) (I : imE O z x) : imE O2 z2 x := by
  obtain ⟨S, F, I⟩ := I
  have fi : ∀ a k : Nat, (a = x ∨ a = x + 42 ∨ (a = x + 40 ∧ (k = 6 ∨ k = 14))) → oi O2 a k = oi O a k := fun a k h => by unfold oi; rw [fr a k (by omega)]
  have ew : iwl O2 x = iwl O x := funext fun k => fi _ _ (by omega)
  refine ⟨rdrS_fr S (fun a k h => fr a k (by omega)), by rw [fi _ _ (by omega), fi _ _ (by omega)]; exact F, ?_⟩
  rcases I with ⟨a1, a2, a3⟩ | ⟨kr, kl, ⟨a1, a2, a3⟩, ⟨b1, b2, b3, b4, b5⟩, ⟨c1, c2, c3, c4, c5⟩, d⟩
  · exact Or.inl ⟨(fr _ _ (by omega)).trans a1, (fr _ _ (by omega)).trans a2, (fi _ _ (by omega)).trans a3⟩
  · refine Or.inr ⟨kr, kl, ⟨(fr _ _ (by omega)).trans a1, (fr _ _ (by omega)).trans a2, (fi _ _ (by omega)).trans a3⟩, ?_, ⟨c1, by omega, c3, by omega, c5⟩, fun s b hs e => ?_⟩
    · rw [ew]
      refine ⟨rodE_fr b1 (fun a k h1 h2 => fr a k ?_), lawE_fr b2 (fun a k h1 h2 h3 => fr a k ?_), b3, b4, b5⟩
      · exact Or.inr (Or.inr (Or.inr (Or.inr (Or.inr (Or.inr (Or.inr ⟨by omega, by omega, fun s b hs e => by have := (d s b hs e).1; omega⟩))))))
      · exact Or.inr (Or.inr (Or.inr (Or.inr (Or.inr (Or.inr (Or.inr ⟨by omega, by omega, fun s b hs e => by have := (d s b hs e).2; omega⟩))))))
    · rcases sl s b hs e with y | y
      · exact d s b hs y
      · exact ⟨by omega, by omega⟩
/-! class and reference alike (but for image and readers): W is the world of both, L the tape's length, r acts remembered, nx the class's next slot -/
def eqS (x nx r L : Nat) (W : jWd) (h : jH) : Prop :=
  (oc h x 0 = .ref (x + 1) ∧ oc h x 1 = .ref (x + 6) ∧ oc h x 3 = .ref (x + 19) ∧ oc h x 8 = .ref (x + 36) ∧ oc h (x + 36) 0 = .ref (x + 13) ∧ oc h (x + 19) 0 = .ref (x + 20) ∧ tpS (oc h) (x + 1) ∧ mS (oc h) (x + 40)) ∧
  (oi (oc h) (x + 19) 1 = nI nx ∧ nx ≤ 11 ∧ (oi (oc h) (x + 19) 2).toInt = (r : Int) ∧ oi (oc h) (x + 40) 7 = nI r ∧ r ≤ 12 ∧ x + 52 < h.1 ∧ slotE (oc h) h.1 x ∧ apartE (oc h) x ∧ actE (oc h) x (x + 40) r nx) ∧
  (rodE (oc h) (x + 6) W ∧ wl (oc h) (x + 40) = W ∧ wOK W ∧ lawE (oc h) (x + 13) W ∧ lawK W ∧ lawB W) ∧
  (oi (oc h) (x + 1) 6 = nI L ∧ oi (oc h) (x + 40) 9 = nI L ∧ L ≤ 400 ∧ (∀ i, i < 400 → oi (oc h) (x + 2) i = oi (oc h) (x + 46) i) ∧ imE (oc h) h.1 x)
theorem eq_pre {x nx r L : Nat} {W : jWd} {h : jH} (E : eqS x nx r L W h) : cPre x nx W h := by
  obtain ⟨⟨e0, e1, e3, e8, e36, e19, -, -⟩, ⟨n1, n2, n3, n4, n5, n6, S, P, A⟩, ⟨R, -, K, -⟩, -⟩ := E
  refine ⟨⟨e1, e3, e19, n1, n2, R, K⟩, fun b e => ?_, n6, by omega⟩
  rcases S nx (by omega) with q | ⟨c, q, q1, q2, q3⟩
  · rw [q] at e; cases e
  · rw [q] at e; cases e; exact ⟨q1, q2⟩
theorem eq_actL {x nx r L : Nat} {W W2 : jWd} {h h2 h3 : jH} (E : eqS x nx r L W h) (C : cAct x nx W W2 h h2) (D : rAct (x + 40) r W2 h2 h3) (K2 : wOK W2) (LE2 : lawE (oc h2) (x + 13) W2) (LK2 : lawK W2) (LB2 : lawB W2) : eqS x ((nx + 1) % 12) (if r < 12 then r + 1 else 12) L W2 h3 := by
  have hb := (eq_pre E).2.1
  obtain ⟨⟨e0, e1, e3, e8, e36, e19, ⟨t0, t1, t2, t3⟩, M⟩, ⟨n1, n2, n3, n4, n5, n6, S, P, A⟩, ⟨R, hw, K, LE, LK, LB⟩, ⟨l1, l2, l3, l4, I⟩⟩ := E
  have f2 := c_keep n6 hb C
  obtain ⟨q1, q2, q3⟩ := act_step n2 n5 S P A (fun k _ => congrFun hw k) K LE.2.1 n6 C D
  have C' := C
  obtain ⟨R2, b, ⟨B, c1, c2, c3, c4⟩, c5⟩ := C'
  obtain ⟨d0, dw, d7, dA, dB, dF, dz⟩ := D
  have f3 : ∀ a k : Nat, a ≠ x + 41 → a ≠ x + 45 → a ≠ x + 48 → ¬ (a = x + 40 ∧ (k = 0 ∨ k = 7 ∨ k = 18)) → oc h3 a k = oc h2 a k := fun a k z1 z2 z3 z4 => dF a k (fun c hc z => by simp at hc; omega) (fun z w => z4 ⟨z, by simpa using w⟩)
  have f : ∀ a k : Nat, a ≤ x + 52 → ¬ (x + 6 ≤ a ∧ a ≤ x + 12) → a ≠ x + 18 → ¬ (a = x + 13 ∧ k = 5) → ¬ (a = x + 19 ∧ (k = 1 ∨ k = 2)) → a ≠ x + 20 → a ≠ x + 41 → a ≠ x + 45 → a ≠ x + 48 → ¬ (a = x + 40 ∧ (k = 0 ∨ k = 7 ∨ k = 18)) → oc h3 a k = oc h a k := fun a k y1 y2 y3 y4 y5 y6 y7 y8 y9 y10 => (f3 a k y7 y8 y9 y10).trans (f2 a k y1 y5 (by omega) y2 y3 y4)
  have fi : ∀ a k : Nat, a ≤ x + 52 → ¬ (x + 6 ≤ a ∧ a ≤ x + 12) → a ≠ x + 18 → ¬ (a = x + 13 ∧ k = 5) → ¬ (a = x + 19 ∧ (k = 1 ∨ k = 2)) → a ≠ x + 20 → a ≠ x + 41 → a ≠ x + 45 → a ≠ x + 48 → ¬ (a = x + 40 ∧ (k = 0 ∨ k = 7 ∨ k = 18)) → oi (oc h3) a k = oi (oc h) a k := fun a k y1 y2 y3 y4 y5 y6 y7 y8 y9 y10 => by unfold oi; rw [f a k y1 y2 y3 y4 y5 y6 y7 y8 y9 y10]
  have g : ∀ a k : Nat, a ≤ x + 39 → oc h3 a k = oc h2 a k := fun a k z => f3 a k (by omega) (by omega) (by omega) (by omega)
  have gi : ∀ a k : Nat, a ≤ x + 39 → oi (oc h3) a k = oi (oc h2) a k := fun a k z => by unfold oi; rw [g a k z]
  refine ⟨⟨?_, ?_, ?_, ?_, ?_, ?_, ⟨?_, ?_, ?_, ?_⟩, ?_⟩, ⟨?_, by omega, ?_, d7, by split <;> omega, ?_, q1, q2, q3⟩, ⟨?_, dw, K2, ?_, LK2, LB2⟩, ⟨?_, ?_, l3, fun i hi => ?_, ?_⟩⟩
  · exact (f _ _ (by omega) (by omega) (by omega) (by omega) (by omega) (by omega) (by omega) (by omega) (by omega) (by omega)).trans e0
  · exact (f _ _ (by omega) (by omega) (by omega) (by omega) (by omega) (by omega) (by omega) (by omega) (by omega) (by omega)).trans e1
  · exact (f _ _ (by omega) (by omega) (by omega) (by omega) (by omega) (by omega) (by omega) (by omega) (by omega) (by omega)).trans e3
  · exact (f _ _ (by omega) (by omega) (by omega) (by omega) (by omega) (by omega) (by omega) (by omega) (by omega) (by omega)).trans e8
  · exact (f _ _ (by omega) (by omega) (by omega) (by omega) (by omega) (by omega) (by omega) (by omega) (by omega) (by omega)).trans e36
  · exact (f _ _ (by omega) (by omega) (by omega) (by omega) (by omega) (by omega) (by omega) (by omega) (by omega) (by omega)).trans e19
  · exact (f _ _ (by omega) (by omega) (by omega) (by omega) (by omega) (by omega) (by omega) (by omega) (by omega) (by omega)).trans t0
  · exact (f _ _ (by omega) (by omega) (by omega) (by omega) (by omega) (by omega) (by omega) (by omega) (by omega) (by omega)).trans t1
  · exact (f _ _ (by omega) (by omega) (by omega) (by omega) (by omega) (by omega) (by omega) (by omega) (by omega) (by omega)).trans t2
  · exact (f _ _ (by omega) (by omega) (by omega) (by omega) (by omega) (by omega) (by omega) (by omega) (by omega) (by omega)).trans t3
  · have M2 : mS (oc h2) (x + 40) := by
      obtain ⟨s1, s2, s3, s4, s5, s8, s15, s17, s19, s20, s21⟩ := M
      have k2 : ∀ k, oc h2 (x + 40) k = oc h (x + 40) k := fun k => f2 _ k (by omega) (by omega) (by omega) (by omega) (by omega) (by omega)
      exact ⟨(k2 _).trans s1, (k2 _).trans s2, (k2 _).trans s3, (k2 _).trans s4, (k2 _).trans s5, (k2 _).trans s8, (k2 _).trans s15, (k2 _).trans s17, (k2 _).trans s19, (k2 _).trans s20, (k2 _).trans s21⟩
    exact mS_fr M2 dF (by decide) (by decide)
  · exact (gi _ _ (by omega)).trans c3
  · rw [gi _ _ (by omega), c4, n3]; split <;> split <;> omega
  · rcases B with ⟨-, y⟩ | ⟨-, -, y⟩ <;> omega
  · exact rodE_fr R2 (fun a k z1 z2 => g a k (by omega))
  · exact lawE_fr LE2 (fun a k z1 z2 z3 => g a k (by omega))
  · exact (fi _ _ (by omega) (by omega) (by omega) (by omega) (by omega) (by omega) (by omega) (by omega) (by omega) (by omega)).trans l1
  · exact (fi _ _ (by omega) (by omega) (by omega) (by omega) (by omega) (by omega) (by omega) (by omega) (by omega) (by omega)).trans l2
  · rw [fi (x + 2) i (by omega) (by omega) (by omega) (by omega) (by omega) (by omega) (by omega) (by omega) (by omega) (by omega), fi (x + 46) i (by omega) (by omega) (by omega) (by omega) (by omega) (by omega) (by omega) (by omega) (by omega) (by omega)]
    exact l4 i hi
  · refine im_keep (O := oc h) (z := h.1) (fun a k z => ?_) (fun s d hs e => ?_) (by rcases B with ⟨-, y⟩ | ⟨-, -, y⟩ <;> omega) I
    · have u : a < h.1 ∧ (a ≤ x + 42 ∨ x + 52 < a) ∧ ¬ (b ≤ a ∧ a ≤ b + 6) := by
        have lb := cRm_lb n6 hb ⟨B, c1, c2, c3, c4⟩
        rcases z with z | z | z | z | z | z | z | ⟨z1, z2, z3⟩
        · omega
        · omega
        · omega
        · omega
        · omega
        · omega
        · omega
        · refine ⟨z2, by omega, ?_⟩
          rcases B with ⟨y, -⟩ | ⟨-, y, -⟩
          · have := z3 nx b (by omega) y; omega
          · omega
      have v : ¬ (a = x + 19 ∧ (k = 1 ∨ k = 2)) ∧ ¬ (a = x + 20 ∧ k = nx) ∧ ¬ (x + 6 ≤ a ∧ a ≤ x + 12) ∧ a ≠ x + 18 ∧ ¬ (a = x + 13 ∧ k = 5) ∧ a ≠ x + 41 ∧ a ≠ x + 45 ∧ a ≠ x + 48 ∧ ¬ (a = x + 40 ∧ (k = 0 ∨ k = 7 ∨ k = 18)) := by omega
      exact (f3 a k v.2.2.2.2.2.1 v.2.2.2.2.2.2.1 v.2.2.2.2.2.2.2.1 v.2.2.2.2.2.2.2.2).trans (c5 a k u.1 u.2.2 v.1 v.2.1 v.2.2.1 v.2.2.2.1 v.2.2.2.2.1)
    · by_cases ns : s = nx
      · rw [ns, f3 _ _ (by omega) (by omega) (by omega) (by omega), c1] at e
        cases e
        rcases B with ⟨y, -⟩ | ⟨-, y, -⟩
        · rw [ns]; exact Or.inl y
        · exact Or.inr (by omega)
      · rw [f3 _ _ (by omega) (by omega) (by omega) (by omega), f2 _ _ (by omega) (by omega) (by omega) (by omega) (by omega) (by omega)] at e
        exact Or.inl e
theorem eq_act {x nx r L : Nat} {W W2 : jWd} {h h2 h3 : jH} (E : eqS x nx r L W h) (C : cAct x nx W W2 h h2) (D : rAct (x + 40) r W2 h2 h3) (K2 : wOK W2) (hl : ∀ k, k = 2 ∨ 435 ≤ k → W2 k = W k) (LK2 : lawK W2) (LB2 : lawB W2) : eqS x ((nx + 1) % 12) (if r < 12 then r + 1 else 12) L W2 h3 :=
  eq_actL E C D K2 (lawE_cg (lawE_fr E.2.2.1.2.2.2.1 (fun a k z1 z2 z3 => c_keep E.2.1.2.2.2.2.2.1 (eq_pre E).2.1 C a k (by omega) (by omega) (by omega) (by omega) (by omega) (by omega))) hl) LK2 LB2
end
section
/-! the calls keep eqS: a call that throws, an act; let -/
theorem eq_thr {x nx r L : Nat} {W : jWd} {h h3 : jH} {c : Int32} (E : eqS x nx r L W h) (T : rTh (x + 40) c h h3) : eqS x nx r L W h3 := by
  obtain ⟨⟨e0, e1, e3, e8, e36, e19, ⟨t0, t1, t2, t3⟩, M⟩, ⟨n1, n2, n3, n4, n5, n6, S, P, A⟩, ⟨R, hw, K, LE, LK, LB⟩, ⟨l1, l2, l3, l4, I⟩⟩ := E
  obtain ⟨-, dF, dz⟩ := T
  have f : ∀ a k : Nat, ¬ (a = x + 40 ∧ k = 0) → oc h3 a k = oc h a k := fun a k z => dF a k (fun c hc => by cases hc) (fun y w => z ⟨y, by simpa using w⟩)
  have fi : ∀ a k : Nat, ¬ (a = x + 40 ∧ k = 0) → oi (oc h3) a k = oi (oc h) a k := fun a k z => by unfold oi; rw [f a k z]
  obtain ⟨q1, q2⟩ := slot_keep (O2 := oc h3) (z2 := h3.1) (fun a k z => f a k (by omega)) (by omega) S P
  have q3 := act_keep (O2 := oc h3) (fun a k z => f a k (by omega)) S n2 A
  refine ⟨⟨(f _ _ (by omega)).trans e0, (f _ _ (by omega)).trans e1, (f _ _ (by omega)).trans e3, (f _ _ (by omega)).trans e8, (f _ _ (by omega)).trans e36, (f _ _ (by omega)).trans e19, ⟨(f _ _ (by omega)).trans t0, (f _ _ (by omega)).trans t1, (f _ _ (by omega)).trans t2, (f _ _ (by omega)).trans t3⟩, mS_fr M dF (by decide) (by decide)⟩, ⟨(fi _ _ (by omega)).trans n1, n2, by rw [fi _ _ (by omega)]; exact n3, (fi _ _ (by omega)).trans n4, n5, by omega, q1, q2, q3⟩, ⟨rodE_fr R (fun a k z1 z2 => f _ _ (by omega)), (wl_f dF (by decide)).trans hw, K, lawE_fr LE (fun a k z1 z2 z3 => f _ _ (by omega)), LK, LB⟩, ⟨(fi _ _ (by omega)).trans l1, (fi _ _ (by omega)).trans l2, l3, fun i hi => ?_, im_keep (O := oc h) (z := h.1) (fun a k z => f a k (by omega)) (fun s d hs e => Or.inl (by rw [← f _ _ (by omega)]; exact e)) (by omega) I⟩⟩
  rw [fi _ _ (by omega), fi _ _ (by omega)]
  exact l4 i hi
theorem eq_mid {x nx r L : Nat} {W W2 : jWd} {h h2 : jH} (E : eqS x nx r L W h) (C : cAct x nx W W2 h h2) : mS (oc h2) (x + 40) ∧ wl (oc h2) (x + 40) = W ∧ oi (oc h2) (x + 40) 7 = nI r := by
  have f2 := c_keep E.2.1.2.2.2.2.2.1 (eq_pre E).2.1 C
  obtain ⟨⟨-, -, -, -, -, -, -, M⟩, ⟨-, -, -, n4, -⟩, ⟨-, hw, -⟩, -⟩ := E
  obtain ⟨s1, s2, s3, s4, s5, s8, s15, s17, s19, s20, s21⟩ := M
  have k2 : ∀ a k : Nat, 40 ≤ a → a ≤ 52 → oc h2 (x + a) k = oc h (x + a) k := fun a k z1 z2 => f2 _ k (by omega) (by omega) (by omega) (by omega) (by omega) (by omega)
  have k3 : ∀ k, oc h2 (x + 40) k = oc h (x + 40) k := fun k => k2 40 k (by omega) (by omega)
  refine ⟨⟨(k3 _).trans s1, (k3 _).trans s2, (k3 _).trans s3, (k3 _).trans s4, (k3 _).trans s5, (k3 _).trans s8, (k3 _).trans s15, (k3 _).trans s17, (k3 _).trans s19, (k3 _).trans s20, (k3 _).trans s21⟩, ?_, ?_⟩
  · rw [← hw]
    funext k
    show oi (oc h2) (x + 41) k = oi (oc h) (x + 41) k
    unfold oi
    rw [k2 41 k (by omega) (by omega)]
  · rw [← n4]
    unfold oi
    rw [k3]
/-- the class's answer (or throw), the reference's answer and fault; l: which throw is which fault -/
def ansE (l : List (Nat × Int32)) (a : jR) (b f : Int32) : Prop := (a = .inl b ∧ f = 0) ∨ ∃ p ∈ l, a = .inr p.1 ∧ b = 0 ∧ f = p.2
theorem no_ring {W : jWd} {v : Int32} {i : Nat} (K : wOK W) (h8 : i < 8) (hi : v = nI i) (hi0 : (i : Int) < (W 0).toInt) : 0 ≤ v.toInt ∧ v.toInt < (W 0).toInt := by
  rw [hi, nI_toInt (by omega)]; omega
theorem eq_let {x nx r L n : Nat} {W : jWd} {v w : Int32} {h : jH} {q : jR × jH} {p : Int32 × jH} (E : eqS x nx r L W h) (e1 : F_X11_let n x v w h = some q) (e2 : F_X12_let n (x + 40) v w q.2 = some p) : (∃ nx2 r2 W2, eqS x nx2 r2 L W2 p.2) ∧ ansE [(2, 1), (0, 2)] q.1 p.1 (oi (oc p.2) (x + 40) 0) := by
  have C := eq_pre E
  obtain ⟨⟨-, -, -, -, -, -, -, M⟩, ⟨-, -, -, n4, n5, -⟩, ⟨-, hw, K, -, LK, LB⟩, -⟩ := id E
  rcases E_X11_let C e1 with ⟨P, y, z⟩ | ⟨i, h8, hi, hi0, ⟨P, y, z⟩ | ⟨P, y, A⟩⟩
  · rw [z] at e2
    rcases E_X12_let M hw K n4 n5 e2 with ⟨-, y2, T⟩ | ⟨j, j8, hj, hj0, -⟩
    · exact ⟨⟨_, _, _, eq_thr E T⟩, Or.inr ⟨(2, 1), by simp, y, y2, T.1⟩⟩
    · exact absurd (no_ring K j8 hj hj0) P
  · rw [z] at e2
    rcases E_X12_let M hw K n4 n5 e2 with ⟨P2, -, -⟩ | ⟨j, j8, hj, hj0, ⟨-, y2, T⟩ | ⟨P2, -, -⟩⟩
    · exact absurd (no_ring K h8 hi hi0) P2
    · exact ⟨⟨_, _, _, eq_thr E T⟩, Or.inr ⟨(0, 2), by simp, y, y2, T.1⟩⟩
    · exact absurd P2 P
  · obtain ⟨M2, w2, g2⟩ := eq_mid E A
    rcases E_X12_let M2 w2 K g2 n5 e2 with ⟨P2, -, -⟩ | ⟨j, j8, hj, hj0, ⟨P2, -, -⟩ | ⟨-, y2, D⟩⟩
    · exact absurd (no_ring K h8 hi hi0) P2
    · exact absurd P P2
    · have ij : j = i := (nI_eq (by omega) (by omega)).mp (hj.symm.trans hi)
      subst ij
      have hl := up_law (W := W) (i := 16 + 8 * j) (x := w) ⟨by omega, by omega⟩
      exact ⟨⟨_, _, _, eq_act E A D (wOK_ln K P) hl (lawK_cg LK hl) (lawB_cg LB hl)⟩, Or.inl ⟨by rw [y, y2], D.1⟩⟩
end
section
/-! hook, chair, free, snag keep eqS -/
theorem eq_hook {x nx r L n : Nat} {W : jWd} {v w : Int32} {h : jH} {q : jR × jH} {p : Int32 × jH} (hw2 : w = 0 ∨ w = 1) (E : eqS x nx r L W h) (e1 : F_X11_hook n x v w h = some q) (e2 : F_X12_hook n (x + 40) v w q.2 = some p) : (∃ nx2 r2 W2, eqS x nx2 r2 L W2 p.2) ∧ ansE [(2, 1)] q.1 p.1 (oi (oc p.2) (x + 40) 0) := by
  have C := eq_pre E
  obtain ⟨⟨-, -, -, -, -, -, -, M⟩, ⟨-, -, -, n4, n5, -⟩, ⟨-, hw, K, -, LK, LB⟩, -⟩ := id E
  rcases E_X11_hook C hw2 e1 with ⟨P, y, z⟩ | ⟨i, h8, hi, hi0, y, A⟩
  · rw [z] at e2
    rcases E_X12_hook M hw K n4 n5 hw2 e2 with ⟨-, y2, T⟩ | ⟨j, j8, hj, hj0, -⟩
    · exact ⟨⟨_, _, _, eq_thr E T⟩, Or.inr ⟨(2, 1), by simp, y, y2, T.1⟩⟩
    · exact absurd (no_ring K j8 hj hj0) P
  · obtain ⟨M2, w2, g2⟩ := eq_mid E A
    rcases E_X12_hook M2 w2 K g2 n5 hw2 e2 with ⟨P2, -, -⟩ | ⟨j, j8, hj, hj0, y2, D⟩
    · exact absurd (no_ring K h8 hi hi0) P2
    · have ij : j = i := (nI_eq (by omega) (by omega)).mp (hj.symm.trans hi)
      subst ij
      have hl := up_law (W := W) (i := 17 + 8 * j) (x := w) ⟨by omega, by omega⟩
      exact ⟨⟨_, _, _, eq_act E A D (wOK_hk K hw2) hl (lawK_cg LK hl) (lawB_cg LB hl)⟩, Or.inl ⟨by rw [y, y2], D.1⟩⟩
theorem eq_chair {x nx r L n : Nat} {W : jWd} {v w : Int32} {h : jH} {q : jR × jH} {p : Int32 × jH} (hw2 : w = 0 ∨ w = 1) (E : eqS x nx r L W h) (e1 : F_X11_chair n x v w h = some q) (e2 : F_X12_chair n (x + 40) v w q.2 = some p) : (∃ nx2 r2 W2, eqS x nx2 r2 L W2 p.2) ∧ ansE [(2, 1)] q.1 p.1 (oi (oc p.2) (x + 40) 0) := by
  have C := eq_pre E
  obtain ⟨⟨-, -, -, -, -, -, -, M⟩, ⟨-, -, -, n4, n5, -⟩, ⟨-, hw, K, -, LK, LB⟩, -⟩ := id E
  have pl : ∀ i : Nat, i < 32 → v = nI i → 0 ≤ v.toInt ∧ v.toInt ≤ 31 := fun i h1 h2 => by rw [h2, nI_toInt (by omega)]; omega
  rcases E_X11_chair C e1 with ⟨P, y, z⟩ | ⟨i, h8, hi, y, A⟩
  · rw [z] at e2
    rcases E_X12_chair M hw K n4 n5 hw2 e2 with ⟨-, y2, T⟩ | ⟨j, j8, hj, -⟩
    · exact ⟨⟨_, _, _, eq_thr E T⟩, Or.inr ⟨(2, 1), by simp, y, y2, T.1⟩⟩
    · exact absurd (pl j j8 hj) P
  · obtain ⟨M2, w2, g2⟩ := eq_mid E A
    rcases E_X12_chair M2 w2 K g2 n5 hw2 e2 with ⟨P2, -, -⟩ | ⟨j, j8, hj, y2, D⟩
    · exact absurd (pl i h8 hi) P2
    · have ij : j = i := (nI_eq (by omega) (by omega)).mp (hj.symm.trans hi)
      subst ij
      have hl := up_law (W := W) (i := 7) (x := chV (W 7) j w) ⟨by omega, by omega⟩
      exact ⟨⟨_, _, _, eq_act E A D (wOK_7 K) hl (lawK_cg LK hl) (lawB_cg LB hl)⟩, Or.inl ⟨by rw [y, y2], D.1⟩⟩
theorem eq_free {x nx r L n : Nat} {W : jWd} {v : Int32} {h : jH} {q : jR × jH} {p : Int32 × jH} (E : eqS x nx r L W h) (e1 : F_X11_free n x v h = some q) (e2 : F_X12_free n (x + 40) v q.2 = some p) : (∃ nx2 r2 W2, eqS x nx2 r2 L W2 p.2) ∧ ansE [(2, 1), (1, 2)] q.1 p.1 (oi (oc p.2) (x + 40) 0) := by
  have C := eq_pre E
  obtain ⟨⟨-, -, -, -, -, -, -, M⟩, ⟨-, -, -, n4, n5, -⟩, ⟨-, hw, K, -, LK, LB⟩, -⟩ := id E
  rcases E_X11_free C e1 with ⟨P, y, z⟩ | ⟨i, h8, hi, hi0, ⟨P, y, z⟩ | ⟨P, P3, y, A⟩⟩
  · rw [z] at e2
    rcases E_X12_free M hw K n4 n5 e2 with ⟨-, y2, T⟩ | ⟨j, j8, hj, hj0, -⟩
    · exact ⟨⟨_, _, _, eq_thr E T⟩, Or.inr ⟨(2, 1), by simp, y, y2, T.1⟩⟩
    · exact absurd (no_ring K j8 hj hj0) P
  · rw [z] at e2
    rcases E_X12_free M hw K n4 n5 e2 with ⟨P2, -, -⟩ | ⟨j, j8, hj, hj0, ⟨-, y2, T⟩ | ⟨P2, -, -, -⟩⟩
    · exact absurd (no_ring K h8 hi hi0) P2
    · exact ⟨⟨_, _, _, eq_thr E T⟩, Or.inr ⟨(1, 2), by simp, y, y2, T.1⟩⟩
    · have ij : j = i := (nI_eq (by omega) (by omega)).mp (hj.symm.trans hi)
      subst ij
      exact absurd P P2
  · obtain ⟨M2, w2, g2⟩ := eq_mid E A
    rcases E_X12_free M2 w2 K g2 n5 e2 with ⟨P2, -, -⟩ | ⟨j, j8, hj, hj0, ⟨P2, -, -⟩ | ⟨-, -, y2, D⟩⟩
    · exact absurd (no_ring K h8 hi hi0) P2
    · have ij : j = i := (nI_eq (by omega) (by omega)).mp (hj.symm.trans hi)
      subst ij
      exact absurd P2 P
    · have ij : j = i := (nI_eq (by omega) (by omega)).mp (hj.symm.trans hi)
      subst ij
      have hl := up_law (W := W) (i := 18 + 8 * j) (x := 0) ⟨by omega, by omega⟩
      exact ⟨⟨_, _, _, eq_act E A D (wOK_ct K (Or.inl rfl)) hl (lawK_cg LK hl) (lawB_cg LB hl)⟩, Or.inl ⟨by rw [y, y2], D.1⟩⟩
theorem eq_snag {x nx r L n : Nat} {W : jWd} {v : Int32} {h : jH} {q : jR × jH} {p : Int32 × jH} (E : eqS x nx r L W h) (e1 : F_X11_snag n x v h = some q) (e2 : F_X12_snag n (x + 40) v q.2 = some p) : (∃ nx2 r2 W2, eqS x nx2 r2 L W2 p.2) ∧ ansE [(2, 1), (1, 2)] q.1 p.1 (oi (oc p.2) (x + 40) 0) := by
  have C := eq_pre E
  obtain ⟨⟨-, -, -, -, -, -, -, M⟩, ⟨-, -, -, n4, n5, -⟩, ⟨-, hw, K, -, LK, LB⟩, -⟩ := id E
  rcases E_X11_snag C e1 with ⟨P, y, z⟩ | ⟨i, h8, hi, hi0, ⟨P, y, z⟩ | ⟨P, P3, y, A⟩⟩
  · rw [z] at e2
    rcases E_X12_snag M hw K n4 n5 e2 with ⟨-, y2, T⟩ | ⟨j, j8, hj, hj0, -⟩
    · exact ⟨⟨_, _, _, eq_thr E T⟩, Or.inr ⟨(2, 1), by simp, y, y2, T.1⟩⟩
    · exact absurd (no_ring K j8 hj hj0) P
  · rw [z] at e2
    rcases E_X12_snag M hw K n4 n5 e2 with ⟨P2, -, -⟩ | ⟨j, j8, hj, hj0, ⟨-, y2, T⟩ | ⟨P2, -, -, -⟩⟩
    · exact absurd (no_ring K h8 hi hi0) P2
    · exact ⟨⟨_, _, _, eq_thr E T⟩, Or.inr ⟨(1, 2), by simp, y, y2, T.1⟩⟩
    · have ij : j = i := (nI_eq (by omega) (by omega)).mp (hj.symm.trans hi)
      subst ij
      exact absurd P P2
  · obtain ⟨M2, w2, g2⟩ := eq_mid E A
    rcases E_X12_snag M2 w2 K g2 n5 e2 with ⟨P2, -, -⟩ | ⟨j, j8, hj, hj0, ⟨P2, -, -⟩ | ⟨-, -, y2, D⟩⟩
    · exact absurd (no_ring K h8 hi hi0) P2
    · have ij : j = i := (nI_eq (by omega) (by omega)).mp (hj.symm.trans hi)
      subst ij
      exact absurd P2 P
    · have ij : j = i := (nI_eq (by omega) (by omega)).mp (hj.symm.trans hi)
      subst ij
      have hl := up_law (W := W) (i := 18 + 8 * j) (x := 1) ⟨by omega, by omega⟩
      exact ⟨⟨_, _, _, eq_act E A D (wOK_ct K (Or.inr ⟨rfl, P3⟩)) hl (lawK_cg LK hl) (lawB_cg LB hl)⟩, Or.inl ⟨by rw [y, y2], D.1⟩⟩
end
section
/-! pull and sew keep eqS -/
theorem eq_pull {x nx r L n : Nat} {W : jWd} {d : Bool} {v s w : Int32} {h : jH} {q : jR × jH} {p : Int32 × jH} (hd : s = dI d) (E : eqS x nx r L W h) (e1 : F_X11_pull n x v s w h = some q) (e2 : F_X12_pull n (x + 40) v s w q.2 = some p) : (∃ nx2 r2 W2, eqS x nx2 r2 L W2 p.2) ∧ ansE [(2, 1), (0, 2)] q.1 p.1 (oi (oc p.2) (x + 40) 0) := by
  have C := eq_pre E
  obtain ⟨⟨-, -, -, -, -, -, -, M⟩, ⟨-, -, -, n4, n5, -⟩, ⟨-, hw, K, -, LK, LB⟩, -⟩ := id E
  have st : ∀ N : Nat, N < 32 → 1 ≤ N → w = nI N → 1 ≤ w.toInt ∧ w.toInt ≤ 31 := fun i h1 h2 h3 => by rw [h3, nI_toInt (by omega)]; omega
  rcases E_X11_pull C hd e1 with ⟨P, y, z⟩ | ⟨i, h8, hi, hi0, ⟨P, y, z⟩ | ⟨N, f, hN, hN1, h3, F, y, K3, A⟩⟩
  · rw [z] at e2
    rcases E_X12_pull M hw K n4 n5 hd e2 with ⟨-, y2, T⟩ | ⟨j, j8, hj, hj0, -⟩
    · exact ⟨⟨_, _, _, eq_thr E T⟩, Or.inr ⟨(2, 1), by simp, y, y2, T.1⟩⟩
    · exact absurd (no_ring K j8 hj hj0) P
  · rw [z] at e2
    rcases E_X12_pull M hw K n4 n5 hd e2 with ⟨P2, -, -⟩ | ⟨j, j8, hj, hj0, ⟨-, y2, T⟩ | ⟨N, f, hN, hN1, h3, -⟩⟩
    · exact absurd (no_ring K h8 hi hi0) P2
    · exact ⟨⟨_, _, _, eq_thr E T⟩, Or.inr ⟨(0, 2), by simp, y, y2, T.1⟩⟩
    · exact absurd (st N hN hN1 h3) P
  · obtain ⟨M2, w2, g2⟩ := eq_mid E A
    rcases E_X12_pull M2 w2 K g2 n5 hd e2 with ⟨P2, -, -⟩ | ⟨j, j8, hj, hj0, ⟨P2, -, -⟩ | ⟨N2, f2, hN2, hN12, h32, F2, y2, D⟩⟩
    · exact absurd (no_ring K h8 hi hi0) P2
    · exact absurd (st N hN hN1 h3) P2
    · have ij : j = i := (nI_eq (by omega) (by omega)).mp (hj.symm.trans hi)
      subst ij
      have NN : N2 = N := (nI_eq (by omega) (by omega)).mp (h32.symm.trans h3)
      subst NN
      have ff := isF_u F2 F
      subst ff
      have hl := pl_law (W := W) (r := j) (i := j) (f := f2) (d := d) (x := nI j) (y := 0) (z := nI f2)
      exact ⟨⟨_, _, _, eq_act E A D (wOK_tl K3) hl (lawK_cg LK hl) (lawB_cg LB hl)⟩, Or.inl ⟨by rw [y, y2], D.1⟩⟩
theorem eq_sew {x nx r L n : Nat} {W : jWd} {v w : Int32} {h : jH} {q : jR × jH} {p : Int32 × jH} (E : eqS x nx r L W h) (e1 : F_X11_sew n x v w h = some q) (e2 : F_X12_sew n (x + 40) v w q.2 = some p) : (∃ nx2 r2 W2, eqS x nx2 r2 L W2 p.2) ∧ ansE [(2, 1), (0, 2), (1, 3)] q.1 p.1 (oi (oc p.2) (x + 40) 0) := by
  have C := eq_pre E
  obtain ⟨⟨-, -, -, -, -, -, -, M⟩, ⟨-, -, -, n4, n5, -⟩, ⟨-, hw, K, -, LK, LB⟩, -⟩ := id E
  rcases E_X11_sew C e1 with ⟨P, y, z⟩ | ⟨P, ⟨Q, y, z⟩ | ⟨Q, ⟨U, y, z⟩ | ⟨U, y, A⟩⟩⟩
  · rw [z] at e2
    rcases E_X12_sew M hw K n4 n5 e2 with ⟨-, y2, T⟩ | ⟨P2, -⟩
    · exact ⟨⟨_, _, _, eq_thr E T⟩, Or.inr ⟨(2, 1), by simp, y, y2, T.1⟩⟩
    · exact absurd P2 P
  · rw [z] at e2
    rcases E_X12_sew M hw K n4 n5 e2 with ⟨P2, -⟩ | ⟨-, ⟨-, y2, T⟩ | ⟨Q2, -⟩⟩
    · exact absurd P P2
    · exact ⟨⟨_, _, _, eq_thr E T⟩, Or.inr ⟨(0, 2), by simp, y, y2, T.1⟩⟩
    · exact absurd Q2 Q
  · rw [z] at e2
    rcases E_X12_sew M hw K n4 n5 e2 with ⟨P2, -⟩ | ⟨-, ⟨Q2, -⟩ | ⟨-, ⟨-, y2, T⟩ | ⟨U2, -⟩⟩⟩
    · exact absurd P P2
    · exact absurd Q Q2
    · exact ⟨⟨_, _, _, eq_thr E T⟩, Or.inr ⟨(1, 3), by simp, y, y2, T.1⟩⟩
    · exact absurd U2 U
  · obtain ⟨M2, w2, g2⟩ := eq_mid E A
    rcases E_X12_sew M2 w2 K g2 n5 e2 with ⟨P2, -⟩ | ⟨-, ⟨Q2, -⟩ | ⟨-, ⟨U2, -⟩ | ⟨-, y2, D⟩⟩⟩
    · exact absurd P P2
    · exact absurd Q Q2
    · exact absurd U U2
    · have hl := hg_law (W := W) (x := v) (y := w) (cN_lt K U.1)
      exact ⟨⟨_, _, _, eq_act E A D (wOK_hg K P Q U) hl (lawK_cg LK hl) (lawB_cg LB hl)⟩, Or.inl ⟨by rw [y, y2], D.1⟩⟩
end
section
/-! feed and end keep eqS -/
theorem eq_tape {x nx r L L2 : Nat} {W : jWd} {h h3 : jH} (E : eqS x nx r L W h) (f : ∀ a k : Nat, ¬ (a = x + 1 ∧ k = 6) → a ≠ x + 2 → a ≠ x + 46 → a ≠ x + 47 → ¬ (a = x + 40 ∧ (k = 0 ∨ k = 9)) → oc h3 a k = oc h a k) (dz : h3.1 = h.1)
    (T : oi (oc h3) (x + 1) 6 = nI L2 ∧ oi (oc h3) (x + 40) 9 = nI L2 ∧ L2 ≤ 400 ∧ ∀ i, i < 400 → oi (oc h3) (x + 2) i = oi (oc h3) (x + 46) i) : eqS x nx r L2 W h3 := by
  obtain ⟨⟨e0, e1, e3, e8, e36, e19, ⟨t0, t1, t2, t3⟩, s1, s2, s3, s4, s5, s8, s15, s17, s19, s20, s21⟩, ⟨n1, n2, n3, n4, n5, n6, S, P, A⟩, ⟨R, hw, K, LE, LK, LB⟩, ⟨-, -, -, -, I⟩⟩ := E
  have g : ∀ a k : Nat, a ≠ x + 1 → a ≠ x + 2 → a ≠ x + 46 → a ≠ x + 47 → ¬ (a = x + 40 ∧ (k = 0 ∨ k = 9)) → oc h3 a k = oc h a k := fun a k z1 z2 z3 z4 z5 => f a k (by omega) z2 z3 z4 z5
  have gi : ∀ a k : Nat, a ≠ x + 1 → a ≠ x + 2 → a ≠ x + 46 → a ≠ x + 47 → ¬ (a = x + 40 ∧ (k = 0 ∨ k = 9)) → oi (oc h3) a k = oi (oc h) a k := fun a k z1 z2 z3 z4 z5 => by unfold oi; rw [g a k z1 z2 z3 z4 z5]
  obtain ⟨q1, q2⟩ := slot_keep (O2 := oc h3) (z2 := h3.1) (fun a k z => g a k (by omega) (by omega) (by omega) (by omega) (by omega)) (by omega) S P
  have q3 := act_keep (O2 := oc h3) (fun a k z => g a k (by omega) (by omega) (by omega) (by omega) (by omega)) S n2 A
  have m : ∀ k : Nat, k ≠ 0 → k ≠ 9 → oc h3 (x + 40) k = oc h (x + 40) k := fun k z1 z2 => g _ k (by omega) (by omega) (by omega) (by omega) (by omega)
  have c : ∀ k : Nat, oc h3 x k = oc h x k := fun k => g _ k (by omega) (by omega) (by omega) (by omega) (by omega)
  have t : ∀ k : Nat, k ≠ 6 → oc h3 (x + 1) k = oc h (x + 1) k := fun k z => f _ k (by omega) (by omega) (by omega) (by omega) (by omega)
  refine ⟨⟨(c _).trans e0, (c _).trans e1, (c _).trans e3, (c _).trans e8, (g _ _ (by omega) (by omega) (by omega) (by omega) (by omega)).trans e36, (g _ _ (by omega) (by omega) (by omega) (by omega) (by omega)).trans e19, ⟨(t _ (by decide)).trans t0, (t _ (by decide)).trans t1, (t _ (by decide)).trans t2, (t _ (by decide)).trans t3⟩, (m _ (by decide) (by decide)).trans s1, (m _ (by decide) (by decide)).trans s2, (m _ (by decide) (by decide)).trans s3, (m _ (by decide) (by decide)).trans s4, (m _ (by decide) (by decide)).trans s5, (m _ (by decide) (by decide)).trans s8, (m _ (by decide) (by decide)).trans s15, (m _ (by decide) (by decide)).trans s17, (m _ (by decide) (by decide)).trans s19, (m _ (by decide) (by decide)).trans s20, (m _ (by decide) (by decide)).trans s21⟩, ⟨(gi _ _ (by omega) (by omega) (by omega) (by omega) (by omega)).trans n1, n2, ?_, (gi _ _ (by omega) (by omega) (by omega) (by omega) (by omega)).trans n4, n5, by omega, q1, q2, q3⟩, ⟨rodE_fr R (fun a k z1 z2 => g a k (by omega) (by omega) (by omega) (by omega) (by omega)), ?_, K, lawE_fr LE (fun a k z1 z2 z3 => g a k (by omega) (by omega) (by omega) (by omega) (by omega)), LK, LB⟩, ⟨T.1, T.2.1, T.2.2.1, T.2.2.2, im_keep (O := oc h) (z := h.1) (fun a k z => f a k (by omega) (by omega) (by omega) (by omega) (by omega)) (fun s d hs e => Or.inl (by rw [← f (x + 20) s (by omega) (by omega) (by omega) (by omega) (by omega)]; exact e)) (by omega) I⟩⟩
  · rw [gi _ _ (by omega) (by omega) (by omega) (by omega) (by omega)]; exact n3
  · rw [← hw]
    funext k
    exact gi (x + 41) k (by omega) (by omega) (by omega) (by omega) (by omega)
theorem eq_feed {x nx r L n : Nat} {W : jWd} {v1 v2 v3 v4 v5 : Int32} {h : jH} {q p : Int32 × jH} (E : eqS x nx r L W h) (e1 : F_X11_feed n x v1 v2 v3 v4 v5 h = some q) (e2 : F_X12_feed n (x + 40) v1 v2 v3 v4 v5 q.2 = some p) : (∃ L2, eqS x nx r L2 W p.2) ∧ q.1 = p.1 ∧ oi (oc p.2) (x + 40) 0 = 0 := by
  obtain ⟨⟨e0, -, -, -, -, -, ts, M⟩, -, -, ⟨l1, l2, l3, l4, -⟩⟩ := id E
  rcases E_X11_feed e0 ts l1 l3 e1 with ⟨P, y⟩ | ⟨P, y, y6, yb, yf, yz⟩
  · rw [y] at e2
    rcases E_X12_feed M l2 l3 e2 with ⟨-, y2, T⟩ | ⟨P2, -⟩
    · exact ⟨⟨L, eq_thr E T⟩, by rw [y, y2], T.1⟩
    · omega
  · have M2 : mS (oc q.2) (x + 40) := by
      obtain ⟨s1, s2, s3, s4, s5, s8, s15, s17, s19, s20, s21⟩ := M
      have k2 : ∀ k, oc q.2 (x + 40) k = oc h (x + 40) k := fun k => yf _ k (by omega) (by omega)
      exact ⟨(k2 _).trans s1, (k2 _).trans s2, (k2 _).trans s3, (k2 _).trans s4, (k2 _).trans s5, (k2 _).trans s8, (k2 _).trans s15, (k2 _).trans s17, (k2 _).trans s19, (k2 _).trans s20, (k2 _).trans s21⟩
    have yi : ∀ a k : Nat, a ≠ x + 2 → ¬ (a = x + 1 ∧ k = 6) → oi (oc q.2) a k = oi (oc h) a k := fun a k z1 z2 => by unfold oi; rw [yf a k (by omega) z2]
    rcases E_X12_feed M2 ((yi _ _ (by omega) (by omega)).trans l2) l3 e2 with ⟨P2, -⟩ | ⟨-, w, w0, w9, wb, wf, wz⟩
    · omega
    · have fr : ∀ a k : Nat, a ≠ x + 46 → a ≠ x + 47 → ¬ (a = x + 40 ∧ (k = 0 ∨ k = 9)) → oc p.2 a k = oc q.2 a k := fun a k z1 z2 z3 => wf a k (fun c hc z => by simp at hc; omega) (fun z y => z3 ⟨z, by simpa using y⟩)
      have fi : ∀ a k : Nat, a ≠ x + 46 → a ≠ x + 47 → ¬ (a = x + 40 ∧ (k = 0 ∨ k = 9)) → oi (oc p.2) a k = oi (oc q.2) a k := fun a k z1 z2 z3 => by unfold oi; rw [fr a k z1 z2 z3]
      refine ⟨⟨L + 20, eq_tape E (fun a k z1 z2 z3 z4 z5 => (fr a k z3 z4 z5).trans (yf a k z2 z1)) (wz.trans yz) ⟨(fi _ _ (by omega) (by omega) (by omega)).trans y6, w9, by omega, fun i hi => ?_⟩⟩, by rw [y, w], w0⟩
      have b1 := (fi (x + 2) i (by omega) (by omega) (by omega)).trans (yb i)
      have b2 := wb i
      rw [yi _ _ (by omega) (by omega)] at b2
      rw [b1]
      refine Eq.trans ?_ b2.symm
      by_cases z : L ≤ i ∧ i < L + 20
      · rw [if_pos z, if_pos z]
      · rw [if_neg z, if_neg z]; exact l4 i hi
end
section
/-! end and seed keep eqS -/
theorem eq_end {x nx r L n : Nat} {W : jWd} {v : Int32} {h : jH} {q p : Int32 × jH} (E : eqS x nx r L W h) (e1 : F_X11_end n x v h = some q) (e2 : F_X12_end n (x + 40) v q.2 = some p) : (∃ L2, eqS x nx r L2 W p.2) ∧ q.1 = p.1 ∧ oi (oc p.2) (x + 40) 0 = 0 := by
  obtain ⟨⟨e0, -, -, -, -, -, ts, M⟩, -, -, ⟨l1, l2, l3, l4, -⟩⟩ := id E
  rcases E_X11_end e0 l1 l3 e1 with ⟨P, y⟩ | ⟨P, Q, y, y6, yf, yz⟩
  · rw [y] at e2
    rcases E_X12_end l2 l3 e2 with ⟨-, y2, y0, yf, yz⟩ | ⟨P2, Q2, -⟩
    · exact ⟨⟨L, eq_thr E ⟨y0, yf, yz⟩⟩, by rw [y, y2], y0⟩
    · omega
  · have yi : ∀ a k : Nat, ¬ (a = x + 1 ∧ k = 6) → oi (oc q.2) a k = oi (oc h) a k := fun a k z => by unfold oi; rw [yf a k z]
    rcases E_X12_end ((yi _ _ (by omega)).trans l2) l3 e2 with ⟨P2, -⟩ | ⟨-, -, w, w0, w9, wf, wz⟩
    · omega
    · have fr : ∀ a k : Nat, ¬ (a = x + 40 ∧ (k = 0 ∨ k = 9)) → oc p.2 a k = oc q.2 a k := fun a k z3 => wf a k (fun c hc z => by cases hc) (fun z y => z3 ⟨z, by simpa using y⟩)
      have fi : ∀ a k : Nat, ¬ (a = x + 40 ∧ (k = 0 ∨ k = 9)) → oi (oc p.2) a k = oi (oc q.2) a k := fun a k z => by unfold oi; rw [fr a k z]
      have vk : v = nI v.toInt.toNat := nI_k (by omega)
      refine ⟨⟨v.toInt.toNat, eq_tape E (fun a k z1 z2 z3 z4 z5 => (fr a k z5).trans (yf a k z1)) (wz.trans yz) ⟨((fi _ _ (by omega)).trans y6).trans vk, w9.trans vk, by omega, fun i hi => ?_⟩⟩, by rw [y, w], w0⟩
      rw [fi _ _ (by omega), fi _ _ (by omega), yi _ _ (by omega), yi _ _ (by omega)]
      exact l4 i hi
end
section
/-! seed and undo keep eqS -/
theorem eq_wld {x nx r L nx2 r2 : Nat} {W W2 : jWd} {h h3 : jH} (E : eqS x nx r L W h) (f : ∀ a k : Nat, ¬ (x + 6 ≤ a ∧ a ≤ x + 12) → ¬ (a = x + 19 ∧ (k = 1 ∨ k = 2)) → a ≠ x + 41 → ¬ (a = x + 40 ∧ (k = 0 ∨ k = 7)) → oc h3 a k = oc h a k) (dz : h3.1 = h.1)
    (N : oi (oc h3) (x + 19) 1 = nI nx2 ∧ nx2 ≤ 11 ∧ (oi (oc h3) (x + 19) 2).toInt = (r2 : Int) ∧ oi (oc h3) (x + 40) 7 = nI r2 ∧ r2 ≤ 12 ∧ actE (oc h3) x (x + 40) r2 nx2) (R2 : rodE (oc h3) (x + 6) W2) (w2 : wl (oc h3) (x + 40) = W2) (K2 : wOK W2) (hl : ∀ k, k = 2 ∨ 435 ≤ k → W2 k = W k) : eqS x nx2 r2 L W2 h3 := by
  obtain ⟨⟨e0, e1, e3, e8, e36, e19, ⟨t0, t1, t2, t3⟩, s1, s2, s3, s4, s5, s8, s15, s17, s19, s20, s21⟩, ⟨n1, n2, n3, n4, n5, n6, S, P, A⟩, ⟨R, hw, K, LE, LK, LB⟩, ⟨l1, l2, l3, l4, I⟩⟩ := E
  obtain ⟨m1, m2, m3, m4, m5, m6⟩ := N
  obtain ⟨q1, q2⟩ := slot_keep (O2 := oc h3) (z2 := h3.1) (fun a k z => f a k (by omega) (by omega) (by omega) (by omega)) (by omega) S P
  have m : ∀ k : Nat, k ≠ 0 → k ≠ 7 → oc h3 (x + 40) k = oc h (x + 40) k := fun k z1 z2 => f _ k (by omega) (by omega) (by omega) (by omega)
  have c : ∀ a k : Nat, a ≤ x + 5 → oc h3 a k = oc h a k := fun a k z => f _ k (by omega) (by omega) (by omega) (by omega)
  have ci : ∀ a k : Nat, a ≤ x + 5 → oi (oc h3) a k = oi (oc h) a k := fun a k z => by unfold oi; rw [c a k z]
  refine ⟨⟨(c _ _ (by omega)).trans e0, (c _ _ (by omega)).trans e1, (c _ _ (by omega)).trans e3, (c _ _ (by omega)).trans e8, (f _ _ (by omega) (by omega) (by omega) (by omega)).trans e36, (f _ _ (by omega) (by omega) (by omega) (by omega)).trans e19, ⟨(c _ _ (by omega)).trans t0, (c _ _ (by omega)).trans t1, (c _ _ (by omega)).trans t2, (c _ _ (by omega)).trans t3⟩, (m _ (by decide) (by decide)).trans s1, (m _ (by decide) (by decide)).trans s2, (m _ (by decide) (by decide)).trans s3, (m _ (by decide) (by decide)).trans s4, (m _ (by decide) (by decide)).trans s5, (m _ (by decide) (by decide)).trans s8, (m _ (by decide) (by decide)).trans s15, (m _ (by decide) (by decide)).trans s17, (m _ (by decide) (by decide)).trans s19, (m _ (by decide) (by decide)).trans s20, (m _ (by decide) (by decide)).trans s21⟩, ⟨m1, m2, m3, m4, m5, by omega, q1, q2, m6⟩, ⟨R2, w2, K2, lawE_cg (lawE_fr LE (fun a k z1 z2 z3 => f a k (by omega) (by omega) (by omega) (by omega))) hl, lawK_cg LK hl, lawB_cg LB hl⟩, ⟨(ci _ _ (by omega)).trans l1, ?_, l3, fun i hi => ?_, im_keep (O := oc h) (z := h.1) (fun a k z => f a k (by omega) (by omega) (by omega) (by omega)) (fun s d hs e => Or.inl (by rw [← f (x + 20) s (by omega) (by omega) (by omega) (by omega)]; exact e)) (by omega) I⟩⟩
  · rw [← l2]
    unfold oi
    rw [m 9 (by decide) (by decide)]
  · have y : oi (oc h3) (x + 46) i = oi (oc h) (x + 46) i := by unfold oi; rw [f (x + 46) i (by omega) (by omega) (by omega) (by omega)]
    rw [ci _ _ (by omega), y]
    exact l4 i hi
theorem eq_seed {x nx r L n : Nat} {W : jWd} {v : Int32} {h : jH} {q p : Int32 × jH} (E : eqS x nx r L W h) (e1 : F_X11_seed n x v h = some q) (e2 : F_X12_seed n (x + 40) v q.2 = some p) : (∃ W2, eqS x nx r L W2 p.2) ∧ q.1 = p.1 ∧ oi (oc p.2) (x + 40) 0 = 0 := by
  obtain ⟨⟨-, x1, -, -, -, -, -, M⟩, ⟨n1, n2, n3, n4, n5, n6, S, P, A⟩, ⟨R, hw, K, -⟩, -⟩ := id E
  obtain ⟨y, yR, yf, yz⟩ := E_X11_seed x1 R e1
  have M2 : mS (oc q.2) (x + 40) := by
    obtain ⟨s1, s2, s3, s4, s5, s8, s15, s17, s19, s20, s21⟩ := M
    have k2 : ∀ k, oc q.2 (x + 40) k = oc h (x + 40) k := fun k => yf _ k (by omega)
    exact ⟨(k2 _).trans s1, (k2 _).trans s2, (k2 _).trans s3, (k2 _).trans s4, (k2 _).trans s5, (k2 _).trans s8, (k2 _).trans s15, (k2 _).trans s17, (k2 _).trans s19, (k2 _).trans s20, (k2 _).trans s21⟩
  have w2 : wl (oc q.2) (x + 40) = W := by
    rw [← hw]
    funext k
    show oi (oc q.2) (x + 41) k = oi (oc h) (x + 41) k
    unfold oi
    rw [yf _ _ (by omega)]
  obtain ⟨u, u0, uw, uf, uz⟩ := E_X12_seed M2 w2 e2
  have fr : ∀ a k : Nat, a ≠ x + 41 → ¬ (a = x + 40 ∧ k = 0) → oc p.2 a k = oc q.2 a k := fun a k z1 z2 => uf a k (fun c hc z => by simp at hc; omega) (fun z y => z2 ⟨z, by simpa using y⟩)
  have f : ∀ a k : Nat, ¬ (x + 6 ≤ a ∧ a ≤ x + 12) → a ≠ x + 41 → ¬ (a = x + 40 ∧ k = 0) → oc p.2 a k = oc h a k := fun a k z1 z2 z3 => (fr a k z2 z3).trans (yf a k (by omega))
  have fi : ∀ a k : Nat, ¬ (x + 6 ≤ a ∧ a ≤ x + 12) → a ≠ x + 41 → ¬ (a = x + 40 ∧ k = 0) → oi (oc p.2) a k = oi (oc h) a k := fun a k z1 z2 z3 => by unfold oi; rw [f a k z1 z2 z3]
  refine ⟨⟨upd W 10 v, eq_wld E (fun a k z1 z2 z3 z4 => f a k z1 z3 (by omega)) (uz.trans yz) ⟨(fi _ _ (by omega) (by omega) (by omega)).trans n1, n2, by rw [fi _ _ (by omega) (by omega) (by omega)]; exact n3, (fi _ _ (by omega) (by omega) (by omega)).trans n4, n5, act_keep (O2 := oc p.2) (fun a k z => f a k (by omega) (by omega) (by omega)) S n2 A⟩ (rodE_fr yR (fun a k z1 z2 => fr a k (by omega) (by omega))) uw (wOK_10 K) (up_law ⟨by decide, by decide⟩)⟩, by rw [y, u], u0⟩
end
section
/-! hours and undo keep eqS -/
theorem eq_hours {x nx r L n : Nat} {W : jWd} {v : Int32} {h : jH} {q : jR × jH} {p : Int32 × jH} (E : eqS x nx r L W h) (e1 : F_X11_hours n x v h = some q) (e2 : F_X12_hours n (x + 40) v q.2 = some p) : (∃ nx2 r2 W2, eqS x nx2 r2 L W2 p.2) ∧ ansE [(0, 1)] q.1 p.1 (oi (oc p.2) (x + 40) 0) := by
  have C := eq_pre E
  obtain ⟨⟨-, -, -, e8, e36, -, -, M⟩, ⟨-, -, -, n4, n5, -⟩, ⟨-, hw, K, LE, LK, LB⟩, -⟩ := id E
  have hr : ∀ m : Nat, m ≤ 80 → 1 ≤ m → v = nI m → 1 ≤ v.toInt ∧ v.toInt ≤ 80 := fun m h1 h2 h3 => by rw [h3, nI_toInt (by omega)]; omega
  rcases E_X11_hours C e8 e36 LE e1 with ⟨P, y, z⟩ | ⟨m, h8, h1, hi, y, A, CE⟩
  · rw [z] at e2
    rcases E_X12_hours M hw K n4 n5 LK LB e2 with ⟨-, y2, T⟩ | ⟨j, j8, j1, hj, -⟩
    · exact ⟨⟨_, _, _, eq_thr E T⟩, Or.inr ⟨(0, 1), by simp, y, y2, T.1⟩⟩
    · exact absurd (hr j j8 j1 hj) P
  · obtain ⟨M2, w2, g2⟩ := eq_mid E A
    rcases E_X12_hours M2 w2 K g2 n5 LK LB e2 with ⟨P2, -, -⟩ | ⟨j, j8, j1, hj, y2, D, RK⟩
    · exact absurd (hr m h8 h1 hi) P2
    · have ij : j = m := (nI_eq (by omega) (by omega)).mp (hj.symm.trans hi)
      subst ij
      exact ⟨⟨_, _, _, eq_actL E A D CE.2.2.2 CE.2.2.1 RK.2.2.2.1 RK.2.2.2.2⟩, Or.inl ⟨by rw [y, y2], D.1⟩⟩
theorem eq_undo {x nx r L n : Nat} {W : jWd} {h : jH} {q p : Int32 × jH} (E : eqS x nx r L W h) (e1 : F_X11_undo n x h = some q) (e2 : F_X12_undo n (x + 40) q.2 = some p) : (∃ nx2 r2 W2, eqS x nx2 r2 L W2 p.2) ∧ q.1 = p.1 ∧ oi (oc p.2) (x + 40) 0 = 0 := by
  obtain ⟨⟨-, x1, x3, -, -, e19, -, M⟩, ⟨n1, n2, n3, n4, n5, n6, S, P, A⟩, ⟨R, hw, K, LE, -, -⟩, -⟩ := id E
  obtain ⟨c1, c2⟩ := E_X11_undo x1 x3 e1
  by_cases r0 : r = 0
  · have y := c1 (by rw [← Int32.toInt_inj, n3, r0]; rfl)
    rw [y] at e2
    rcases E_X12_undo M n4 n5 e2 with ⟨-, y2, F, z, w0⟩ | ⟨r1, -⟩
    · exact ⟨⟨_, _, _, eq_thr E ⟨w0, F, z⟩⟩, by rw [y, y2], w0⟩
    · omega
  · obtain ⟨b, V, b1, b2, b3, b4, b5, b6⟩ := act_last S P n2 (by omega) A
    obtain ⟨y, yR, y1, y2, yz, yf⟩ := c2 nx b V e19 n1 n2 b1 b3 b4 R.1 b2 (by rw [n3]; omega)
    have k2 : ∀ a k : Nat, x + 20 ≤ a → oc q.2 a k = oc h a k := fun a k z => yf a k (by omega) (by omega)
    have M2 : mS (oc q.2) (x + 40) := by
      obtain ⟨s1, s2, s3, s4, s5, s8, s15, s17, s19, s20, s21⟩ := M
      have k3 : ∀ k, oc q.2 (x + 40) k = oc h (x + 40) k := fun k => k2 _ k (by omega)
      exact ⟨(k3 _).trans s1, (k3 _).trans s2, (k3 _).trans s3, (k3 _).trans s4, (k3 _).trans s5, (k3 _).trans s8, (k3 _).trans s15, (k3 _).trans s17, (k3 _).trans s19, (k3 _).trans s20, (k3 _).trans s21⟩
    have g2 : oi (oc q.2) (x + 40) 7 = nI r := by rw [← n4]; unfold oi; rw [k2 _ _ (by omega)]
    have w2 : wl (oc q.2) (x + 40) = W := by
      rw [← hw]
      funext k
      show oi (oc q.2) (x + 41) k = oi (oc h) (x + 41) k
      unfold oi
      rw [k2 _ _ (by omega)]
    rcases E_X12_undo M2 g2 n5 e2 with ⟨r1, -⟩ | ⟨-, w, w7, ww, wf, wz, w0⟩
    · omega
    · have fr : ∀ a k : Nat, a ≠ x + 41 → ¬ (a = x + 40 ∧ (k = 0 ∨ k = 7)) → oc p.2 a k = oc q.2 a k := fun a k z1 z2 => wf a k (fun c hc z => by simp at hc; omega) (fun z y => z2 ⟨z, by simpa using y⟩)
      have f : ∀ a k : Nat, ¬ (x + 6 ≤ a ∧ a ≤ x + 12) → ¬ (a = x + 19 ∧ (k = 1 ∨ k = 2)) → a ≠ x + 41 → ¬ (a = x + 40 ∧ (k = 0 ∨ k = 7)) → oc p.2 a k = oc h a k := fun a k z1 z2 z3 z4 => (fr a k z3 z4).trans (yf a k z1 z2)
      have gi : ∀ a k : Nat, a ≤ x + 39 → oi (oc p.2) a k = oi (oc q.2) a k := fun a k z => by unfold oi; rw [fr a k (by omega) (by omega)]
      have lo : ∀ k, k < 435 → wl (oc p.2) (x + 40) k = V k := fun k hk => by
        rw [ww k, if_pos hk, b5 k hk]
        unfold oi
        rw [k2 _ _ (by omega)]
      refine ⟨⟨(nx + 11) % 12, r - 1, wl (oc p.2) (x + 40), eq_wld E f (wz.trans yz) ⟨(gi _ _ (by omega)).trans y1, by omega, ?_, w7, by omega, act_undo (fun a k z => f a k (by omega) (by omega) (by omega) (by omega)) S n2 n5 A⟩ (rodE_fr (rodE_cg yR b4 lo) (fun a k z1 z2 => fr a k (by omega) (by omega))) rfl (wOK_cg b4 (fun k hk => lo k (by omega))) ?_⟩, by rw [y, w], w0⟩
      · rw [gi _ _ (by omega), y2, n3]; omega
      · intro k hk
        rcases hk with hk | hk
        · rw [hk, lo 2 (by omega), b6, LE.2.1]
        · rw [ww k, if_neg (by omega), w2]
end
section
/-! what the reference reads of its tape: rows of bytes, words, numbers -/
def bIn (b : Nat → Int32) (L : Nat) (lo hi : Int32) (i : Nat) : Prop := i < L ∧ lo ≤ b i ∧ b i ≤ hi
def isRow (P : Nat → Prop) (i j : Nat) : Prop := i ≤ j ∧ (∀ k, i ≤ k → k < j → P k) ∧ ¬ P j
theorem row_u {P : Nat → Prop} {i j k : Nat} (a : isRow P i j) (c : isRow P i k) : j = k := by
  obtain ⟨a1, a2, a3⟩ := a
  obtain ⟨c1, c2, c3⟩ := c
  rcases Nat.lt_trichotomy j k with z | z | z
  · exact absurd (c2 j a1 z) a3
  · exact z
  · exact absurd (a2 k c1 z) c3
theorem row_0 {P : Nat → Prop} {i : Nat} (h : ¬ P i) : isRow P i i := ⟨Nat.le_refl i, fun k h1 h2 => by omega, h⟩
theorem row_s {P : Nat → Prop} {i j : Nat} (h : P i) (r : isRow P (i + 1) j) : isRow P i j :=
  ⟨by have := r.1; omega, fun k h1 h2 => by
    by_cases z : k = i
    · rw [z]; exact h
    · exact r.2.1 k (by omega) h2, r.2.2⟩
theorem row_L {b : Nat → Int32} {L i j : Nat} {lo hi : Int32} (r : isRow (bIn b L lo hi) i j) (hi : i ≤ L) : j ≤ L := by
  rcases Nat.lt_or_ge L j with z | z
  · have y := (r.2.1 (j - 1) (by omega) (by omega)).1
    omega
  · exact z
/-- the word l stands from s to e -/
def spl (b : Nat → Int32) (s e : Nat) (l : List Int32) : Prop := e = s + l.length ∧ ∀ i, i < l.length → b (s + i) = l.getD i 0
theorem spl_u {b : Nat → Int32} {s e : Nat} {l l2 : List Int32} (a : spl b s e l) (c : spl b s e l2) : l = l2 := by
  have hl : l.length = l2.length := by have := a.1; have := c.1; omega
  refine List.ext_getElem hl fun i h1 h2 => ?_
  have x := a.2 i h1
  have y := c.2 i h2
  rw [List.getD_eq_getElem?_getD, List.getElem?_eq_getElem h1] at x
  rw [List.getD_eq_getElem?_getD, List.getElem?_eq_getElem h2] at y
  exact x.symm.trans y
/-- the number that k digits from s on make -/
def dV (b : Nat → Int32) (s : Nat) : Nat → Int32
  | 0 => 0
  | k + 1 => (10 * dV b s k + b (s + k)) - 48
theorem dV_b {b : Nat → Int32} {s : Nat} : ∀ k : Nat, k ≤ 3 → (∀ i, i < k → (48 : Int32) ≤ b (s + i) ∧ b (s + i) ≤ 57) → 0 ≤ (dV b s k).toInt ∧ (dV b s k).toInt + 1 ≤ 10 ^ k
  | 0, _, _ => by show 0 ≤ (0 : Int32).toInt ∧ (0 : Int32).toInt + 1 ≤ 10 ^ 0; decide
  | k + 1, hk, h => by
    obtain ⟨a, c⟩ := dV_b k (by omega) (fun i hi => h i (by omega))
    obtain ⟨d1, d2⟩ := h k (by omega)
    rw [Int32.le_iff_toInt_le] at d1 d2
    have l48 : (48 : Int32).toInt = 48 := rfl
    have l57 : (57 : Int32).toInt = 57 := rfl
    have l10 : (10 : Int32).toInt = 10 := rfl
    have p : (10 : Int) ^ k ≤ 100 := by
      rcases (by omega : k = 0 ∨ k = 1 ∨ k = 2) with z | z | z <;> subst z <;> decide
    have m : ((10 : Int32) * dV b s k).toInt = 10 * (dV b s k).toInt := by rw [Int32.toInt_mul, l10]; exact Int.bmod_eq_of_le (by omega) (by omega)
    have e : (dV b s (k + 1)).toInt = 10 * (dV b s k).toInt + (b (s + k)).toInt - 48 := by
      show ((10 * dV b s k + b (s + k)) - 48 : Int32).toInt = _
      rw [jsub (by rw [jadd (by omega) (by omega)]; omega) (by rw [jadd (by omega) (by omega)]; omega), jadd (by omega) (by omega), m, l48]
    rw [e, Int.pow_succ]
    omega
/-- the reference reads: the tape's bytes are b, its end L, the point p -/
def rb (O : jO) (m : Nat) (b : Nat → Int32) (L p : Nat) : Prop := mS O m ∧ oi O m 11 = nI L ∧ L ≤ 400 ∧ (∀ i, oi O (m + 6) i = b i) ∧ oi O m 10 = nI p ∧ p ≤ L
theorem rb_pt {O : jO} {m L p j : Nat} {b : Nat → Int32} (R : rb O m b L p) (hj : j ≤ L) : rb (u2 O m 10 (.int (nI j))) m b L j := by
  obtain ⟨M, e1, e2, e3, -, -⟩ := R
  exact ⟨mS_fr M (frM_f (cs := []) (fs := [10]) (by decide)) (by decide) (by decide), by rw [oi_ne (Or.inr (by decide))]; exact e1, e2, fun i => by rw [oi_ne (Or.inl (by omega))]; exact e3 i, oi_eq, hj⟩
theorem rb_fr {O O2 : jO} {m L p : Nat} {cs fs : List Nat} {b : Nat → Int32} (R : rb O m b L p) (f : frM m cs fs O O2) (hc : 0 ∉ cs) (hc6 : 6 ∉ cs) (hf : ∀ k ∈ [1, 2, 3, 4, 5, 8, 15, 17, 19, 20, 21], k ∉ fs) (h10 : 10 ∉ fs) (h11 : 11 ∉ fs) : rb O2 m b L p := by
  obtain ⟨M, e1, e2, e3, e4, e5⟩ := R
  exact ⟨mS_fr M f hc hf, (frM_oi f hc h11).trans e1, e2, fun i => (oi_M f (fun c z q => by have : c = 6 := by omega
                                                                                            subst this; exact hc6 z) (fun q => by omega)).trans (e3 i), (frM_oi f hc h10).trans e4, e5⟩
theorem E_X12_isAt {b : Nat → Int32} {L : Nat} {p : Nat} {n : Nat} {a0 : Nat} {x1 : Int32} {x2 : Int32} {h : jH} {q : Int32} (R : rb (oc h) a0 b L p) (hf : F_X12_isAt n a0 x1 x2 h = some q) : (q = 1 ∧ bIn b L x1 x2 p) ∨ (q = 0 ∧ ¬ bIn b L x1 x2 p) := by
  unfold F_X12_isAt at hf
  obtain ⟨M, b11, bL, b6, b10, bp⟩ := id R
  obtain ⟨s1, s2, s3, s4, s5, s8, s15, s17, s19, s20, s21⟩ := id M
  replace hf := jbind hf
  obtain ⟨v1, e1, hf⟩ := hf
  have r1 := oc_gI e1
  subst r1
  clear e1
  replace hf := jbind hf
  obtain ⟨v5, e2, hf⟩ := hf
  have r2 := oc_gI e2
  subst r2
  clear e2
  replace hf := jite hf
  rcases hf with ⟨c3, hf⟩ | ⟨c3, hf⟩
  · skip
    cases hf
    -- leaf 0: (0 : Int32)
    rw [b10, b11, Int32.le_iff_toInt_le, nI_toInt (by omega), nI_toInt (by omega)] at c3
    exact Or.inr ⟨rfl, fun z => by have := z.1; omega⟩
  · skip
    replace hf := jbind hf
    obtain ⟨p12, e4, hf⟩ := hf
    have r4 := oc_gR e4
    rw [s8] at r4
    cases r4
    clear e4
    replace hf := jbind hf
    obtain ⟨v16, e5, hf⟩ := hf
    have r5 := oc_gI e5
    subst r5
    clear e5
    replace hf := jbind hf
    obtain ⟨v19, e6, hf⟩ := hf
    obtain ⟨r6, y6⟩ := oc_al e6
    subst r6
    clear e6
    replace hf := jite hf
    rcases hf with ⟨c7, hf⟩ | ⟨c7, hf⟩
    · skip
      cases hf
      -- leaf 10: (0 : Int32)
      rw [b10, nI_cl (by omega), b6] at c7
      exact Or.inr ⟨rfl, fun z => by have := z.2.1; rw [Int32.le_iff_toInt_le] at this; rw [Int32.lt_iff_toInt_lt] at c7; omega⟩
    · skip
      replace hf := jbind hf
      obtain ⟨p25, e8, hf⟩ := hf
      have r8 := oc_gR e8
      rw [s8] at r8
      cases r8
      clear e8
      replace hf := jbind hf
      obtain ⟨v29, e9, hf⟩ := hf
      have r9 := oc_gI e9
      subst r9
      clear e9
      replace hf := jbind hf
      obtain ⟨v32, e10, hf⟩ := hf
      obtain ⟨r10, y10⟩ := oc_al e10
      subst r10
      clear e10
      replace hf := jite hf
      rcases hf with ⟨c11, hf⟩ | ⟨c11, hf⟩
      · skip
        cases hf
        -- leaf 110: (0 : Int32)
        rw [b10, nI_cl (by omega), b6] at c11
        exact Or.inr ⟨rfl, fun z => by have := z.2.2; rw [Int32.le_iff_toInt_le] at this; rw [Int32.lt_iff_toInt_lt] at c11; omega⟩
      · skip
        cases hf
        -- leaf 111: (1 : Int32)
        rw [b10, b11, Int32.le_iff_toInt_le, nI_toInt (by omega), nI_toInt (by omega)] at c3
        rw [b10, nI_cl (by omega), b6] at c7 c11
        exact Or.inl ⟨rfl, by omega, by rw [Int32.le_iff_toInt_le]; rw [Int32.lt_iff_toInt_lt] at c7; omega, by rw [Int32.le_iff_toInt_le]; rw [Int32.lt_iff_toInt_lt] at c11; omega⟩
theorem E_X12_blanks_0 {n : Nat} {b : Nat → Int32} {L : Nat} : ∀ (k : Nat) {a0 : Nat} {h : jH} {q : jH} (p : Nat) (R : rb (oc h) a0 b L p), F_X12_blanks_0 n k a0 h = some q → ∃ j, isRow (bIn b L 32 32) p j ∧ rb (oc q) a0 b L j ∧ oi (oc q) a0 12 = nI j ∧ frM a0 [] [10, 12] (oc h) (oc q) ∧ q.1 = h.1
  | 0, a0, h, q, p, R, hf => by cases hf
  | k + 1, a0, h, q, p, R, hf => by
    replace hf : F_X12_blanks_0_b n (F_X12_blanks_0 n k) a0 h = some q := hf
    unfold F_X12_blanks_0_b at hf
    obtain ⟨M, b11, bL, b6, b10, bp⟩ := id R
    obtain ⟨s1, s2, s3, s4, s5, s8, s15, s17, s19, s20, s21⟩ := id M
    replace hf := jbind hf
    obtain ⟨v5, e1, hf⟩ := hf
    replace e1 := (jcv_o e1).2
    have r1 := E_X12_isAt R e1
    replace hf := jite hf
    rcases hf with ⟨c2, hf⟩ | ⟨c2, hf⟩
    · skip
      replace hf := jbind hf
      obtain ⟨v26, e3, hf⟩ := hf
      have r3 := oc_gI e3
      subst r3
      clear e3
      replace hf := jbind hf
      obtain ⟨h29, e4, hf⟩ := hf
      obtain ⟨o4, z4⟩ := oc_pf e4
      clear e4
      cases hf
      -- leaf 0: h29
      rcases r1 with ⟨y, -⟩ | ⟨-, y⟩
      · exact absurd (c2.symm.trans y) (by decide)
      have f4 : frM a0 [] [10, 12] (oc h) (oc q) := by rw [o4]; exact frM_f (by decide)
      have g4 : oi (oc q) a0 12 = nI p := by rw [o4, oi_eq]; exact b10
      have R4 : rb (oc q) a0 b L p := by rw [o4]; exact rb_fr R (frM_f (cs := []) (fs := [12]) (by decide)) (by decide) (by decide) (by decide) (by decide) (by decide)
      exact ⟨p, row_0 y, R4, g4, f4, z4⟩
    · skip
      replace hf := jbind hf
      obtain ⟨v13, e5, hf⟩ := hf
      have r5 := oc_gI e5
      subst r5
      clear e5
      replace hf := jbind hf
      obtain ⟨h18, e6, hf⟩ := hf
      obtain ⟨o6, z6⟩ := oc_pf e6
      clear e6
      -- leaf 1: rc0 a0 h18
      rcases r1 with ⟨-, y⟩ | ⟨y, -⟩
      rotate_left
      · exact absurd y c2
      have hp : p < L := y.1
      rw [b10, nI_1] at o6
      have R4 : rb (oc h18) a0 b L (p + 1) := by rw [o6]; exact rb_pt R (by omega)
      have f4 : frM a0 [] [10, 12] (oc h) (oc h18) := by rw [o6]; exact frM_f (by decide)
      obtain ⟨j, j1, j2, j3, j4, j5⟩ := E_X12_blanks_0 k (p + 1) R4 hf
      exact ⟨j, row_s y j1, j2, j3, frM_tr f4 j4, j5.trans z6⟩
theorem E_X12_blanks {b : Nat → Int32} {L : Nat} {p : Nat} {n : Nat} {a0 : Nat} {h : jH} {q : jH} (R : rb (oc h) a0 b L p) (hf : F_X12_blanks n a0 h = some q) : ∃ j, isRow (bIn b L 32 32) p j ∧ rb (oc q) a0 b L j ∧ oi (oc q) a0 12 = nI j ∧ frM a0 [] [10, 12] (oc h) (oc q) ∧ q.1 = h.1 := by
  unfold F_X12_blanks at hf
  -- leaf : F_X12_blanks_0 n n a0 h
  exact E_X12_blanks_0 n p R hf
theorem E_X12_letters_4 {n : Nat} {b : Nat → Int32} {L : Nat} : ∀ (k : Nat) {a0 : Nat} {h : jH} {q : jH} (p : Nat) (R : rb (oc h) a0 b L p), F_X12_letters_4 n k a0 h = some q → ∃ j, isRow (bIn b L 97 122) p j ∧ rb (oc q) a0 b L j ∧ frM a0 [] [10] (oc h) (oc q) ∧ q.1 = h.1
  | 0, a0, h, q, p, R, hf => by cases hf
  | k + 1, a0, h, q, p, R, hf => by
    replace hf : F_X12_letters_4_b n (F_X12_letters_4 n k) a0 h = some q := hf
    unfold F_X12_letters_4_b at hf
    obtain ⟨M, b11, bL, b6, b10, bp⟩ := id R
    obtain ⟨s1, s2, s3, s4, s5, s8, s15, s17, s19, s20, s21⟩ := id M
    replace hf := jbind hf
    obtain ⟨v9, e1, hf⟩ := hf
    replace e1 := (jcv_o e1).2
    have r1 := E_X12_isAt R e1
    replace hf := jite hf
    rcases hf with ⟨c2, hf⟩ | ⟨c2, hf⟩
    · skip
      cases hf
      -- leaf 0: h
      rcases r1 with ⟨y, -⟩ | ⟨-, y⟩
      · exact absurd (c2.symm.trans y) (by decide)
      exact ⟨p, row_0 y, R, frM_rfl, rfl⟩
    · skip
      replace hf := jbind hf
      obtain ⟨v17, e3, hf⟩ := hf
      have r3 := oc_gI e3
      subst r3
      clear e3
      replace hf := jbind hf
      obtain ⟨h22, e4, hf⟩ := hf
      obtain ⟨o4, z4⟩ := oc_pf e4
      clear e4
      -- leaf 1: rc4 a0 h22
      rcases r1 with ⟨-, y⟩ | ⟨y, -⟩
      rotate_left
      · exact absurd y c2
      have hp : p < L := y.1
      rw [b10, nI_1] at o4
      have R4 : rb (oc h22) a0 b L (p + 1) := by rw [o4]; exact rb_pt R (by omega)
      have f4 : frM a0 [] [10] (oc h) (oc h22) := by rw [o4]; exact frM_f (by decide)
      obtain ⟨j, j1, j2, j4, j5⟩ := E_X12_letters_4 k (p + 1) R4 hf
      exact ⟨j, row_s y j1, j2, frM_tr f4 j4, j5.trans z4⟩
theorem E_X12_letters {b : Nat → Int32} {L : Nat} {p : Nat} {n : Nat} {a0 : Nat} {h : jH} {q : jH} (R : rb (oc h) a0 b L p) (hf : F_X12_letters n a0 h = some q) : ∃ s e, isRow (bIn b L 32 32) p s ∧ isRow (bIn b L 97 122) s e ∧ rb (oc q) a0 b L e ∧ oi (oc q) a0 12 = nI s ∧ frM a0 [] [10, 12] (oc h) (oc q) ∧ q.1 = h.1 := by
  unfold F_X12_letters at hf
  replace hf := jbind hf
  obtain ⟨h1, e1, hf⟩ := hf
  replace e1 := (jcv_o e1).2
  obtain ⟨s1, t1, R1, g1, f1, z1⟩ := E_X12_blanks R e1
  -- leaf : F_X12_letters_4 n n a0 h1
  obtain ⟨j, j1, j2, j4, j5⟩ := E_X12_letters_4 n s1 R1 hf
  exact ⟨s1, j, t1, j1, j2, (frM_oi j4 (by decide) (by decide)).trans g1, frM_tr f1 (frM_le j4 (by decide) (by decide)), j5.trans z1⟩
end
section
/-! words, signs and numbers as the reference reads them -/
theorem jtl_o {t : Nat} {v : Int32} (e : jtl t = some v) : v = nI (jtb t).length := by
  unfold jtl at e
  split at e
  · exact (Option.some.inj e).symm
  · cases e
theorem jtc_o {t : Nat} {i v : Int32} (e : jtc t i = some v) : v = (jtb t).getD i.toNatClampNeg 0 := by
  unfold jtc at e
  split at e
  · cases e
  · exact (Option.some.inj e).symm
theorem nI_sb {a c : Nat} (h : c ≤ a) (ha : a < 2147483648) : nI a - nI c = nI (a - c) := nI_k (by rw [jsub (by rw [nI_toInt ha, nI_toInt (by omega)]; omega) (by rw [nI_toInt ha, nI_toInt (by omega)]; omega), nI_toInt ha, nI_toInt (by omega)]; omega)
/-- a number between lo and hi stands from s to e -/
def numOK (b : Nat → Int32) (s e : Nat) (lo hi : Int32) : Prop := s < e ∧ e ≤ s + 3 ∧ lo ≤ dV b s (e - s) ∧ dV b s (e - s) ≤ hi
/-- what number answers, from s to e -/
def numA (b : Nat → Int32) (s e : Nat) (lo hi v : Int32) : Prop := (v = -1 ∧ ¬ numOK b s e lo hi) ∨ (v = dV b s (e - s) ∧ numOK b s e lo hi)
theorem E_X12_isWord_24 {n : Nat} {b : Nat → Int32} {L : Nat} {p : Nat} {s : Nat} (hs : s ≤ 400) : ∀ (k : Nat) {a0 : Nat} {t1 : Nat} {x2 : Int32} {x3 : Int32} {h : jH} {q : Int32} (j : Nat) (R : rb (oc h) a0 b L p) (g : oi (oc h) a0 12 = nI s) (hT : (jtb t1).length < 400) (h2 : x2 = 0 ∨ x2 = 1) (hx : x3 = nI j) (hj : j ≤ (jtb t1).length), F_X12_isWord_24 n k a0 t1 x2 x3 h = some q → (q = 0 ∨ q = 1) ∧ (q = 1 ↔ (x2 = 1 ∧ ∀ i, j ≤ i → i < (jtb t1).length → b (s + i) = (jtb t1).getD i 0))
  | 0, a0, t1, x2, x3, h, q, j, R, g, hT, h2, hx, hj, hf => by cases hf
  | k + 1, a0, t1, x2, x3, h, q, j, R, g, hT, h2, hx, hj, hf => by
    replace hf : F_X12_isWord_24_b n (F_X12_isWord_24 n k) a0 t1 x2 x3 h = some q := hf
    unfold F_X12_isWord_24_b at hf
    obtain ⟨M, b11, bL, b6, b10, bp⟩ := id R
    obtain ⟨s1, s2, s3, s4, s5, s8, s15, s17, s19, s20, s21⟩ := id M
    replace hf := jite hf
    rcases hf with ⟨c1, hf⟩ | ⟨c1, hf⟩
    · skip
      replace hf := jite hf
      rcases hf with ⟨c2, hf⟩ | ⟨c2, hf⟩
      · skip
        cases hf
        -- leaf 00: x2
        exact ⟨c2, fun z => absurd (c1.symm.trans z) (by decide), fun z => absurd (c1.symm.trans z.1) (by decide)⟩
      · skip
        cases hf
    · skip
      replace hf := jbind hf
      obtain ⟨v30, e3, hf⟩ := hf
      replace hf := jite hf
      rcases hf with ⟨c4, hf⟩ | ⟨c4, hf⟩
      · skip
        replace hf := jite hf
        rcases hf with ⟨c5, hf⟩ | ⟨c5, hf⟩
        · skip
          cases hf
          -- leaf 100: x2
          have r9 := jtl_o e3
          rw [r9, hx, Int32.le_iff_toInt_le, nI_toInt (by omega), nI_toInt (by omega)] at c4
          exact ⟨c5, fun z => ⟨z, fun i h1 h2 => by omega⟩, fun z => z.1⟩
        · skip
          cases hf
      · skip
        replace hf := jbind hf
        obtain ⟨p37, e6, hf⟩ := hf
        have r6 := oc_gR e6
        rw [s8] at r6
        cases r6
        clear e6
        replace hf := jbind hf
        obtain ⟨v41, e7, hf⟩ := hf
        have r7 := oc_gI e7
        subst r7
        clear e7
        replace hf := jbind hf
        obtain ⟨v46, e8, hf⟩ := hf
        obtain ⟨r8, y8⟩ := oc_al e8
        subst r8
        clear e8
        replace hf := jbind hf
        obtain ⟨v49, e9, hf⟩ := hf
        replace hf := jite hf
        rcases hf with ⟨c10, hf⟩ | ⟨c10, hf⟩
        · skip
          -- leaf 110: rc24 a0 t1 (1 : Int32) (x3 + (1 : Int32)) h
          have r9 := jtl_o e3
          rw [r9, hx, Int32.le_iff_toInt_le, nI_toInt (by omega), nI_toInt (by omega)] at c4
          have jl : j < (jtb t1).length := by omega
          have r99 := jtc_o e9
          have ea : nI s + nI j = nI (s + j) := nI_add s j
          rw [r99, g, hx, ea, nI_cl (by omega), nI_cl (by omega), b6] at c10
          rw [hx] at hf
          obtain ⟨q1, q2⟩ := E_X12_isWord_24 hs k (j + 1) R g hT (Or.inr rfl) (nI_1 j) (by omega) hf
          refine ⟨q1, fun z => ⟨h2.resolve_left c1, fun i h1 h3 => ?_⟩, fun z => q2.mpr ⟨rfl, fun i h1 h3 => z.2 i (by omega) h3⟩⟩
          by_cases y : i = j
          · rw [y]; exact c10
          · exact (q2.mp z).2 i (by omega) h3
        · skip
          -- leaf 111: rc24 a0 t1 (0 : Int32) (x3 + (1 : Int32)) h
          have r9 := jtl_o e3
          rw [r9, hx, Int32.le_iff_toInt_le, nI_toInt (by omega), nI_toInt (by omega)] at c4
          have jl : j < (jtb t1).length := by omega
          have r99 := jtc_o e9
          have ea : nI s + nI j = nI (s + j) := nI_add s j
          rw [r99, g, hx, ea, nI_cl (by omega), nI_cl (by omega), b6] at c10
          rw [hx] at hf
          obtain ⟨q1, q2⟩ := E_X12_isWord_24 hs k (j + 1) R g hT (Or.inl rfl) (nI_1 j) (by omega) hf
          exact ⟨q1, fun z => absurd (q2.mp z).1 (by decide), fun z => absurd (z.2 j (Nat.le_refl j) jl) c10⟩
theorem E_X12_isWord {b : Nat → Int32} {L : Nat} {p : Nat} {s : Nat} {n : Nat} {a0 : Nat} {t1 : Nat} {h : jH} {q : Int32} (R : rb (oc h) a0 b L p) (g : oi (oc h) a0 12 = nI s) (hs : s ≤ p) (hT : (jtb t1).length < 400) (hf : F_X12_isWord n a0 t1 h = some q) : (q = 0 ∨ q = 1) ∧ (q = 1 ↔ spl b s p (jtb t1)) := by
  unfold F_X12_isWord at hf
  obtain ⟨M, b11, bL, b6, b10, bp⟩ := id R
  replace hf := jbind hf
  obtain ⟨v1, e1, hf⟩ := hf
  have r1 := oc_gI e1
  subst r1
  clear e1
  replace hf := jbind hf
  obtain ⟨v5, e2, hf⟩ := hf
  have r2 := oc_gI e2
  subst r2
  clear e2
  replace hf := jbind hf
  obtain ⟨v10, e3, hf⟩ := hf
  replace hf := jite hf
  rcases hf with ⟨c4, hf⟩ | ⟨c4, hf⟩
  · skip
    -- leaf 0: F_X12_isWord_24 n n a0 t1 (1 : Int32) (0 : Int32) h
    have r9 := jtl_o e3
    rw [r9, b10, g, nI_sb hs (by omega), nI_eq (by omega) (by omega)] at c4
    obtain ⟨q1, q2⟩ := E_X12_isWord_24 (b := b) (L := L) (p := p) (s := s) (by omega) n 0 R g hT (Or.inr rfl) rfl (by omega) hf
    exact ⟨q1, fun z => ⟨by omega, fun i hi => (q2.mp z).2 i (by omega) hi⟩, fun z => q2.mpr ⟨rfl, fun i _ hi => z.2 i hi⟩⟩
  · skip
    -- leaf 1: F_X12_isWord_24 n n a0 t1 (0 : Int32) (0 : Int32) h
    have r9 := jtl_o e3
    rw [r9, b10, g, nI_sb hs (by omega), nI_eq (by omega) (by omega)] at c4
    obtain ⟨q1, q2⟩ := E_X12_isWord_24 (b := b) (L := L) (p := p) (s := s) (by omega) n 0 R g hT (Or.inl rfl) rfl (by omega) hf
    exact ⟨q1, fun z => absurd (q2.mp z).1 (by decide), fun z => absurd z.1 (by omega)⟩
theorem E_X12_passes {b : Nat → Int32} {L : Nat} {p : Nat} {n : Nat} {a0 : Nat} {t1 : Nat} {h : jH} {q : Int32 × jH} (R : rb (oc h) a0 b L p) (hT : (jtb t1).length < 400) (hf : F_X12_passes n a0 t1 h = some q) : ∃ s e, isRow (bIn b L 32 32) p s ∧ isRow (bIn b L 97 122) s e ∧ oi (oc q.2) a0 12 = nI s ∧ ((q.1 = 1 ∧ spl b s e (jtb t1) ∧ rb (oc q.2) a0 b L e) ∨ (q.1 = 0 ∧ ¬ spl b s e (jtb t1) ∧ rb (oc q.2) a0 b L s)) ∧ frM a0 [] [10, 12] (oc h) (oc q.2) ∧ q.2.1 = h.1 := by
  unfold F_X12_passes at hf
  replace hf := jbind hf
  obtain ⟨h1, e1, hf⟩ := hf
  replace e1 := (jcv_o e1).2
  obtain ⟨s1, e10, t1_, u1, R1, g1, f1, z1⟩ := E_X12_letters R e1
  replace hf := jbind hf
  obtain ⟨v6, e2, hf⟩ := hf
  replace e2 := (jcv_o e2).2
  obtain ⟨q2a, q2b⟩ := E_X12_isWord R1 g1 u1.1 hT e2
  replace hf := jite hf
  rcases hf with ⟨c3, hf⟩ | ⟨c3, hf⟩
  · skip
    replace hf := jbind hf
    obtain ⟨v16, e4, hf⟩ := hf
    have r4 := oc_gI e4
    subst r4
    clear e4
    replace hf := jbind hf
    obtain ⟨h19, e5, hf⟩ := hf
    obtain ⟨o5, z5⟩ := oc_pf e5
    clear e5
    cases hf
    -- leaf 0: ((0 : Int32), h19)
    have w5 : frM a0 [] [10, 12] (oc h1) (oc h19) := by rw [o5]; exact frM_f (by decide)
    have w6 : rb (oc h19) a0 b L s1 := by rw [o5, g1]; exact rb_pt R1 (by have := R1.2.2.2.2.2; have := u1.1; omega)
    have w7 : oi (oc h19) a0 12 = nI s1 := by rw [o5, oi_ne (Or.inr (by decide))]; exact g1
    exact ⟨s1, e10, t1_, u1, w7, Or.inr ⟨rfl, fun z => absurd (c3.symm.trans (q2b.mpr z)) (by decide), w6⟩, frM_tr f1 w5, z5.trans z1⟩
  · skip
    cases hf
    -- leaf 1: ((1 : Int32), h1)
    exact ⟨s1, e10, t1_, u1, g1, Or.inl ⟨rfl, q2b.mp (q2a.resolve_left c3), R1⟩, f1, z1⟩
theorem E_X12_sign {b : Nat → Int32} {L : Nat} {p : Nat} {n : Nat} {a0 : Nat} {x1 : Int32} {h : jH} {q : Int32 × jH} (R : rb (oc h) a0 b L p) (hf : F_X12_sign n a0 x1 h = some q) : ∃ s, isRow (bIn b L 32 32) p s ∧ oi (oc q.2) a0 12 = nI s ∧ ((q.1 = 1 ∧ bIn b L x1 x1 s ∧ rb (oc q.2) a0 b L (s + 1)) ∨ (q.1 = 0 ∧ ¬ bIn b L x1 x1 s ∧ rb (oc q.2) a0 b L s)) ∧ frM a0 [] [10, 12] (oc h) (oc q.2) ∧ q.2.1 = h.1 := by
  unfold F_X12_sign at hf
  replace hf := jbind hf
  obtain ⟨h1, e1, hf⟩ := hf
  replace e1 := (jcv_o e1).2
  obtain ⟨s1, t1, R1, g1, f1, z1⟩ := E_X12_blanks R e1
  replace hf := jbind hf
  obtain ⟨v7, e2, hf⟩ := hf
  replace e2 := (jcv_o e2).2
  have r2 := E_X12_isAt R1 e2
  replace hf := jite hf
  rcases hf with ⟨c3, hf⟩ | ⟨c3, hf⟩
  · skip
    cases hf
    -- leaf 0: ((0 : Int32), h1)
    rcases r2 with ⟨y, -⟩ | ⟨-, y⟩
    · exact absurd (c3.symm.trans y) (by decide)
    exact ⟨s1, t1, g1, Or.inr ⟨rfl, y, R1⟩, f1, z1⟩
  · skip
    replace hf := jbind hf
    obtain ⟨v17, e4, hf⟩ := hf
    have r4 := oc_gI e4
    subst r4
    clear e4
    replace hf := jbind hf
    obtain ⟨h22, e5, hf⟩ := hf
    obtain ⟨o5, z5⟩ := oc_pf e5
    clear e5
    cases hf
    -- leaf 1: ((1 : Int32), h22)
    rcases r2 with ⟨-, y⟩ | ⟨y, -⟩
    rotate_left
    · exact absurd y c3
    have g10 := R1.2.2.2.2.1
    rw [g10, nI_1] at o5
    have hp : s1 < L := y.1
    have w5 : frM a0 [] [10, 12] (oc h1) (oc h22) := by rw [o5]; exact frM_f (by decide)
    have w6 : rb (oc h22) a0 b L (s1 + 1) := by rw [o5]; exact rb_pt R1 (by omega)
    have w7 : oi (oc h22) a0 12 = nI s1 := by rw [o5, oi_ne (Or.inr (by decide))]; exact g1
    exact ⟨s1, t1, w7, Or.inl ⟨rfl, y, w6⟩, frM_tr f1 w5, z5.trans z1⟩
theorem E_X12_number_6 {n : Nat} {b : Nat → Int32} {L : Nat} {s : Nat} : ∀ (k : Nat) {a0 : Nat} {x1 : Int32} {x2 : Int32} {x3 : Int32} {h : jH} {q : Int32 × jH} (p : Nat) (R : rb (oc h) a0 b L p) (g : oi (oc h) a0 12 = nI s) (hs : s ≤ p) (hx : x3 = dV b s (min (p - s) 3)), F_X12_number_6 n k a0 x1 x2 x3 h = some q → ∃ e, isRow (bIn b L 48 57) p e ∧ rb (oc q.2) a0 b L e ∧ numA b s e x1 x2 q.1 ∧ frM a0 [] [10] (oc h) (oc q.2) ∧ q.2.1 = h.1
  | 0, a0, x1, x2, x3, h, q, p, R, g, hs, hx, hf => by cases hf
  | k + 1, a0, x1, x2, x3, h, q, p, R, g, hs, hx, hf => by
    replace hf : F_X12_number_6_b n (F_X12_number_6 n k) a0 x1 x2 x3 h = some q := hf
    unfold F_X12_number_6_b at hf
    obtain ⟨M, b11, bL, b6, b10, bp⟩ := id R
    obtain ⟨s1, s2, s3, s4, s5, s8, s15, s17, s19, s20, s21⟩ := id M
    replace hf := jbind hf
    obtain ⟨v11, e1, hf⟩ := hf
    replace e1 := (jcv_o e1).2
    have r1 := E_X12_isAt R e1
    replace hf := jite hf
    rcases hf with ⟨c2, hf⟩ | ⟨c2, hf⟩
    · skip
      replace hf := jbind hf
      obtain ⟨v66, e3, hf⟩ := hf
      have r3 := oc_gI e3
      subst r3
      clear e3
      replace hf := jbind hf
      obtain ⟨v70, e4, hf⟩ := hf
      have r4 := oc_gI e4
      subst r4
      clear e4
      replace hf := jite hf
      rcases hf with ⟨c5, hf⟩ | ⟨c5, hf⟩
      · skip
        cases hf
        -- leaf 00: ((- 1 : Int32), h)
        rcases r1 with ⟨y, -⟩ | ⟨-, y⟩
        · exact absurd (c2.symm.trans y) (by decide)
        rw [b10, g, nI_eq (by omega) (by omega)] at c5
        exact ⟨p, row_0 y, R, Or.inl ⟨rfl, fun z => by have := z.1; omega⟩, frM_rfl, rfl⟩
      · skip
        replace hf := jbind hf
        obtain ⟨v77, e6, hf⟩ := hf
        have r6 := oc_gI e6
        subst r6
        clear e6
        replace hf := jbind hf
        obtain ⟨v81, e7, hf⟩ := hf
        have r7 := oc_gI e7
        subst r7
        clear e7
        replace hf := jite hf
        rcases hf with ⟨c8, hf⟩ | ⟨c8, hf⟩
        · skip
          cases hf
          -- leaf 010: ((- 1 : Int32), h)
          rcases r1 with ⟨y, -⟩ | ⟨-, y⟩
          · exact absurd (c2.symm.trans y) (by decide)
          rw [b10, g, nI_sb hs (by omega)] at c8
          rw [Int32.lt_iff_toInt_lt, nI_toInt (by omega), show (3 : Int32).toInt = 3 from rfl] at c8
          exact ⟨p, row_0 y, R, Or.inl ⟨rfl, fun z => by have := z.2.1; omega⟩, frM_rfl, rfl⟩
        · skip
          replace hf := jite hf
          rcases hf with ⟨c9, hf⟩ | ⟨c9, hf⟩
          · skip
            cases hf
            -- leaf 0110: ((- 1 : Int32), h)
            rcases r1 with ⟨y, -⟩ | ⟨-, y⟩
            · exact absurd (c2.symm.trans y) (by decide)
            rw [b10, g, nI_sb hs (by omega)] at c8
            rw [Int32.lt_iff_toInt_lt, nI_toInt (by omega), show (3 : Int32).toInt = 3 from rfl] at c8
            rw [show min (p - s) 3 = p - s by omega] at hx
            exact ⟨p, row_0 y, R, Or.inl ⟨rfl, fun z => by have := z.2.2.1; rw [← hx, Int32.le_iff_toInt_le] at this; rw [Int32.lt_iff_toInt_lt] at c9; omega⟩, frM_rfl, rfl⟩
          · skip
            replace hf := jite hf
            rcases hf with ⟨c10, hf⟩ | ⟨c10, hf⟩
            · skip
              cases hf
              -- leaf 01110: (x3, h)
              rcases r1 with ⟨y, -⟩ | ⟨-, y⟩
              · exact absurd (c2.symm.trans y) (by decide)
              rw [b10, g, nI_sb hs (by omega)] at c8
              rw [Int32.lt_iff_toInt_lt, nI_toInt (by omega), show (3 : Int32).toInt = 3 from rfl] at c8
              rw [show min (p - s) 3 = p - s by omega] at hx
              rw [b10, g, nI_eq (by omega) (by omega)] at c5
              exact ⟨p, row_0 y, R, Or.inr ⟨hx, by omega, by omega, by rw [← hx, Int32.le_iff_toInt_le]; rw [Int32.lt_iff_toInt_lt] at c9; omega, by rw [← hx]; exact c10⟩, frM_rfl, rfl⟩
            · skip
              cases hf
              -- leaf 01111: ((- 1 : Int32), h)
              rcases r1 with ⟨y, -⟩ | ⟨-, y⟩
              · exact absurd (c2.symm.trans y) (by decide)
              rw [b10, g, nI_sb hs (by omega)] at c8
              rw [Int32.lt_iff_toInt_lt, nI_toInt (by omega), show (3 : Int32).toInt = 3 from rfl] at c8
              rw [show min (p - s) 3 = p - s by omega] at hx
              exact ⟨p, row_0 y, R, Or.inl ⟨rfl, fun z => c10 (by have := z.2.2.2; rw [← hx] at this; exact this)⟩, frM_rfl, rfl⟩
    · skip
      replace hf := jbind hf
      obtain ⟨v18, e11, hf⟩ := hf
      have r11 := oc_gI e11
      subst r11
      clear e11
      replace hf := jbind hf
      obtain ⟨v22, e12, hf⟩ := hf
      have r12 := oc_gI e12
      subst r12
      clear e12
      replace hf := jite hf
      rcases hf with ⟨c13, hf⟩ | ⟨c13, hf⟩
      · skip
        replace hf := jbind hf
        obtain ⟨v54, e14, hf⟩ := hf
        have r14 := oc_gI e14
        subst r14
        clear e14
        replace hf := jbind hf
        obtain ⟨h59, e15, hf⟩ := hf
        obtain ⟨o15, z15⟩ := oc_pf e15
        clear e15
        -- leaf 10: rc6 a0 x1 x2 x3 h59
        rcases r1 with ⟨-, y⟩ | ⟨y, -⟩
        rotate_left
        · exact absurd y c2
        have hp : p < L := y.1
        rw [b10, g, nI_sb hs (by omega), Int32.le_iff_toInt_le, nI_toInt (by omega), show (3 : Int32).toInt = 3 from rfl] at c13
        rw [b10, nI_1] at o15
        have R4 : rb (oc h59) a0 b L (p + 1) := by rw [o15]; exact rb_pt R (by omega)
        have f4 : frM a0 [] [10] (oc h) (oc h59) := by rw [o15]; exact frM_f (by decide)
        have g4 : oi (oc h59) a0 12 = nI s := by rw [o15, oi_ne (Or.inr (by decide))]; exact g
        obtain ⟨j, j1, j2, j3, j4, j5⟩ := E_X12_number_6 k (p + 1) R4 g4 (by omega) (by rw [hx, show min (p - s) 3 = 3 by omega, show min (p + 1 - s) 3 = 3 by omega]) hf
        exact ⟨j, row_s y j1, j2, j3, frM_tr f4 j4, j5.trans z15⟩
      · skip
        replace hf := jbind hf
        obtain ⟨p35, e16, hf⟩ := hf
        have r16 := oc_gR e16
        rw [s8] at r16
        cases r16
        clear e16
        replace hf := jbind hf
        obtain ⟨v39, e17, hf⟩ := hf
        have r17 := oc_gI e17
        subst r17
        clear e17
        replace hf := jbind hf
        obtain ⟨v42, e18, hf⟩ := hf
        obtain ⟨r18, y18⟩ := oc_al e18
        subst r18
        clear e18
        replace hf := jbind hf
        obtain ⟨v54, e19, hf⟩ := hf
        have r19 := oc_gI e19
        subst r19
        clear e19
        replace hf := jbind hf
        obtain ⟨h59, e20, hf⟩ := hf
        obtain ⟨o20, z20⟩ := oc_pf e20
        clear e20
        -- leaf 11: rc6 a0 x1 x2 ((((10 : Int32) * x3) + v42) - (48 : Int32)) h59
        rcases r1 with ⟨-, y⟩ | ⟨y, -⟩
        rotate_left
        · exact absurd y c2
        have hp : p < L := y.1
        rw [b10, g, nI_sb hs (by omega), Int32.le_iff_toInt_le, nI_toInt (by omega), show (3 : Int32).toInt = 3 from rfl] at c13
        rw [b10, nI_cl (by omega), b6] at hf
        rw [b10, nI_1] at o20
        have R4 : rb (oc h59) a0 b L (p + 1) := by rw [o20]; exact rb_pt R (by omega)
        have f4 : frM a0 [] [10] (oc h) (oc h59) := by rw [o20]; exact frM_f (by decide)
        have g4 : oi (oc h59) a0 12 = nI s := by rw [o20, oi_ne (Or.inr (by decide))]; exact g
        obtain ⟨j, j1, j2, j3, j4, j5⟩ := E_X12_number_6 k (p + 1) R4 g4 (by omega) (by rw [hx, show min (p - s) 3 = p - s by omega, show min (p + 1 - s) 3 = p - s + 1 by omega]; show _ = (10 * dV b s (p - s) + b (s + (p - s))) - 48; rw [show s + (p - s) = p by omega]) hf
        exact ⟨j, row_s y j1, j2, j3, frM_tr f4 j4, j5.trans z20⟩
theorem E_X12_number {b : Nat → Int32} {L : Nat} {p : Nat} {n : Nat} {a0 : Nat} {x1 : Int32} {x2 : Int32} {h : jH} {q : Int32 × jH} (R : rb (oc h) a0 b L p) (hf : F_X12_number n a0 x1 x2 h = some q) : ∃ s e, isRow (bIn b L 32 32) p s ∧ isRow (bIn b L 48 57) s e ∧ oi (oc q.2) a0 12 = nI s ∧ rb (oc q.2) a0 b L e ∧ numA b s e x1 x2 q.1 ∧ frM a0 [] [10, 12] (oc h) (oc q.2) ∧ q.2.1 = h.1 := by
  unfold F_X12_number at hf
  replace hf := jbind hf
  obtain ⟨h1, e1, hf⟩ := hf
  replace e1 := (jcv_o e1).2
  obtain ⟨s1, t1, R1, g1, f1, z1⟩ := E_X12_blanks R e1
  -- leaf : F_X12_number_6 n n a0 x1 x2 (0 : Int32) h1
  obtain ⟨j, j1, j2, j3, j4, j5⟩ := E_X12_number_6 (s := s1) n s1 R1 g1 (Nat.le_refl s1) (by rw [Nat.sub_self]; rfl) hf
  exact ⟨s1, j, t1, j1, (frM_oi j4 (by decide) (by decide)).trans g1, j2, j3, frM_tr f1 (frM_le j4 (by decide) (by decide)), j5.trans z1⟩
theorem E_X12_after {b : Nat → Int32} {L : Nat} {p : Nat} {n : Nat} {a0 : Nat} {t1 : Nat} {x2 : Int32} {x3 : Int32} {h : jH} {q : Int32 × jH} (R : rb (oc h) a0 b L p) (hT : (jtb t1).length < 400) (hf : F_X12_after n a0 t1 x2 x3 h = some q) : ∃ s e, isRow (bIn b L 32 32) p s ∧ isRow (bIn b L 97 122) s e ∧ ((q.1 = -1 ∧ ¬ spl b s e (jtb t1) ∧ oi (oc q.2) a0 12 = nI s) ∨ (spl b s e (jtb t1) ∧ ∃ s2 e2, isRow (bIn b L 32 32) e s2 ∧ isRow (bIn b L 48 57) s2 e2 ∧ oi (oc q.2) a0 12 = nI s2 ∧ rb (oc q.2) a0 b L e2 ∧ numA b s2 e2 x2 x3 q.1)) ∧ frM a0 [] [10, 12] (oc h) (oc q.2) ∧ q.2.1 = h.1 := by
  unfold F_X12_after at hf
  replace hf := jbind hf
  obtain ⟨h1, e1, hf⟩ := hf
  replace e1 := (jcv_o e1).2
  obtain ⟨s1, e10, t1_, u1, R1, g1, f1, z1⟩ := E_X12_letters R e1
  replace hf := jbind hf
  obtain ⟨v6, e2, hf⟩ := hf
  replace e2 := (jcv_o e2).2
  obtain ⟨q2a, q2b⟩ := E_X12_isWord R1 g1 u1.1 hT e2
  replace hf := jite hf
  rcases hf with ⟨c3, hf⟩ | ⟨c3, hf⟩
  · skip
    cases hf
    -- leaf 0: ((- 1 : Int32), h1)
    exact ⟨s1, e10, t1_, u1, Or.inl ⟨rfl, fun z => absurd (c3.symm.trans (q2b.mpr z)) (by decide), g1⟩, f1, z1⟩
  · skip
    replace hf := jbind hf
    obtain ⟨q15, e4, hf⟩ := hf
    replace e4 := (jcv_o e4).2
    obtain ⟨s4, e40, t4, u4, g4, R4, N4, f4, z4⟩ := E_X12_number R1 e4
    cases hf
    -- leaf 1: (q15.1, q15.2)
    exact ⟨s1, e10, t1_, u1, Or.inr ⟨q2b.mp (q2a.resolve_left c3), s4, e40, t4, u4, g4, R4, N4⟩, frM_tr f1 f4, z4.trans z1⟩
end
