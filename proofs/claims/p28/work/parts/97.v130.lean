/-! a line of a pole's text, the class -/
def bndP (w : Int32) (W : jWd) : Int32 × Int32 := if w = 5 then (0, 7) else if w = 6 then (0, 999) else if w = 19 then (0, W 0 - 2) else if w = 21 then (1, 31) else (0, 31)
def kpW (w : Int32) (W : jWd) (v : Int32) : jWd := if w = 5 then upd W 3 v else if w = 19 then upd W (18 + 8 * v.toInt.toNat) 1 else if w = 20 then upd W 7 (chV (W 7) v.toInt.toNat 1) else if w = 21 then upd W 5 v else if w = 22 then upd W 6 v else upd W 4 v
def bgn (w : Int32) : Prop := w = 19 ∨ w = 20 ∨ w = 21 ∨ w = 22 ∨ w = 5 ∨ w = 6
theorem rdPole_n {T : Nat → Int32 × Int32} {W : jWd} {k : Nat} {w : Int32} (e : (T k).1 = w) (hb : bgn w) : rdPole T W k = rdNum T (k + 1) (bndP w W).1 (bndP w W).2 (kpW w W) := by
  unfold rdPole
  rw [e]
  rcases hb with z | z | z | z | z | z <;> subst z <;> rfl
theorem rdPole_0 {T : Nat → Int32 × Int32} {W : jWd} {k : Nat} (e : (T k).1 = 0) (n8 : ¬ W 0 = 8) : rdPole T W k = rdRing T W (k + 1) := by
  unfold rdPole
  rw [if_pos e, if_neg n8]
theorem rdPole_8 {T : Nat → Int32 × Int32} {W : jWd} {k : Nat} (e : (T k).1 = 0) (n8 : W 0 = 8) : rdPole T W k = .inr k := by
  unfold rdPole
  rw [if_pos e, if_pos n8]
theorem rdPole_x {T : Nat → Int32 × Int32} {W : jWd} {k : Nat} (e : (T k).1 ≠ 0) (hb : ¬ bgn (T k).1) : rdPole T W k = .inr k := by
  unfold bgn at hb
  unfold rdPole
  rw [if_neg e, if_neg (fun z => hb (by simp [z])), if_neg (fun z => hb (by simp [z])), if_neg (fun z => hb (by simp [z])), if_neg (fun z => hb (by simp [z])), if_neg (fun z => hb (by simp [z])), if_neg (fun z => hb (by simp [z]))]
theorem b_n {w : Int32} {W : jWd} {T : Nat → Int32 × Int32} {k : Nat} (K : wOK W) (h : nOK T k (bndP w W).1 (bndP w W).2) : 0 ≤ (T k).2.toInt ∧ (T k).2.toInt ≤ 999 ∧ (w ≠ 5 → w ≠ 6 → (T k).2.toInt ≤ 31) ∧ (w = 19 → (T k).2.toInt + 1 < (W 0).toInt) ∧ (w = 5 → (T k).2.toInt ≤ 7) ∧ (w = 21 → 1 ≤ (T k).2.toInt) := by
  obtain ⟨-, a, c⟩ := h
  rw [Int32.le_iff_toInt_le] at a c
  have k0 := K.1
  have l0 : (0 : Int32).toInt = 0 := rfl
  have l1 : (1 : Int32).toInt = 1 := rfl
  have l2 : (2 : Int32).toInt = 2 := rfl
  have l7 : (7 : Int32).toInt = 7 := rfl
  have l31 : (31 : Int32).toInt = 31 := rfl
  have l9 : (999 : Int32).toInt = 999 := rfl
  have e2 : (W 0 - 2).toInt = (W 0).toInt - 2 := by rw [jsub (by omega) (by omega)]; rfl
  unfold bndP at a c
  by_cases z5 : w = 5
  · subst z5; rw [if_pos rfl] at a c; dsimp only at a c
    exact ⟨by omega, by omega, fun z => absurd rfl z, fun z => absurd z (by decide), fun _ => by omega, fun z => absurd z (by decide)⟩
  · rw [if_neg z5] at a c
    by_cases z6 : w = 6
    · subst z6; rw [if_pos rfl] at a c; dsimp only at a c
      exact ⟨by omega, by omega, fun _ z => absurd rfl z, fun z => absurd z (by decide), fun z => absurd z (by decide), fun z => absurd z (by decide)⟩
    · rw [if_neg z6] at a c
      by_cases z19 : w = 19
      · subst z19; rw [if_pos rfl] at a c; dsimp only at a c
        exact ⟨by omega, by omega, fun _ _ => by omega, fun _ => by omega, fun z => absurd z (by decide), fun z => absurd z (by decide)⟩
      · rw [if_neg z19] at a c
        by_cases z21 : w = 21
        · subst z21; rw [if_pos rfl] at a c; dsimp only at a c
          exact ⟨by omega, by omega, fun _ _ => by omega, fun z => absurd z (by decide), fun z => absurd z (by decide), fun _ => by omega⟩
        · rw [if_neg z21] at a c; dsimp only at a c
          exact ⟨by omega, by omega, fun _ _ => by omega, fun z => absurd z z19, fun z => absurd z z5, fun z => absurd z z21⟩
theorem E_X9_readNumber {b : Nat → Int32} {L : Nat} {m : Nat} {T : Nat → Int32 × Int32} {st : Nat → Nat} {k : Nat} {x : Nat} {W : jWd} {n : Nat} {a0 : Nat} {x1 : Int32} {h : jH} {q : Int32 × jH} (K : ck (oc h) (x + 1) b L m T st k) (S : rrS (oc h) x) (ha : a0 = x + 34) (R : rodE (oc h) (x + 21) W) (KW : wOK W) (hf : F_X9_readNumber n a0 x1 h = some q) : ((nOK T k (bndP x1 W).1 (bndP x1 W).2 ∧ q.1 = (T k).2 ∧ ck (oc q.2) (x + 1) b L m T st (k + 1)) ∨ (¬ nOK T k (bndP x1 W).1 (bndP x1 W).2 ∧ q = (-1, h))) ∧ (∀ a j : Nat, ¬ (a = x + 1 ∧ j = 5) → oc q.2 a j = oc h a j) ∧ q.2.1 = h.1 := by
  unfold F_X9_readNumber at hf
  subst ha
  replace hf := jite hf
  rcases hf with ⟨c1, hf⟩ | ⟨c1, hf⟩
  · skip
    replace hf := jbind hf
    obtain ⟨p74, e2, hf⟩ := hf
    have r2 := oc_gR e2
    rw [S.1] at r2
    cases r2
    clear e2
    replace hf := jbind hf
    obtain ⟨q80, e3, hf⟩ := hf
    replace e3 := (jcv_o e3).2
    obtain ⟨r, f, z⟩ := E_X10_takeNumber K e3
    cases hf
    -- leaf 0: (q80.1, q80.2)
    have eb : bndP x1 W = (0, 7) := by unfold bndP; rw [if_pos c1]
    rw [eb]
    exact ⟨r, f, z⟩
  · skip
    replace hf := jite hf
    rcases hf with ⟨c4, hf⟩ | ⟨c4, hf⟩
    · skip
      replace hf := jbind hf
      obtain ⟨p85, e5, hf⟩ := hf
      have r5 := oc_gR e5
      rw [S.1] at r5
      cases r5
      clear e5
      replace hf := jbind hf
      obtain ⟨q92, e6, hf⟩ := hf
      replace e6 := (jcv_o e6).2
      obtain ⟨r, f, z⟩ := E_X10_takeNumber K e6
      cases hf
      -- leaf 10: (q92.1, q92.2)
      have eb : bndP x1 W = (0, 999) := by unfold bndP; rw [if_neg c1, if_pos c4]
      rw [eb]
      exact ⟨r, f, z⟩
    · skip
      replace hf := jite hf
      rcases hf with ⟨c7, hf⟩ | ⟨c7, hf⟩
      · skip
        replace hf := jbind hf
        obtain ⟨p45, e8, hf⟩ := hf
        have r8 := oc_gR e8
        rw [S.1] at r8
        cases r8
        clear e8
        replace hf := jbind hf
        obtain ⟨p50, e9, hf⟩ := hf
        have r9 := oc_gR e9
        rw [S.2.2] at r9
        cases r9
        clear e9
        replace hf := jbind hf
        obtain ⟨v53, e10, hf⟩ := hf
        have r10 := oc_gI e10
        subst r10
        clear e10
        replace hf := jbind hf
        obtain ⟨q58, e11, hf⟩ := hf
        replace e11 := (jcv_o e11).2
        obtain ⟨r, f, z⟩ := E_X10_takeNumber K e11
        cases hf
        -- leaf 110: (q58.1, q58.2)
        rw [R.2.1.1] at r
        have eb : bndP x1 W = (0, W 0 - 2) := by unfold bndP; rw [if_neg c1, if_neg c4, if_pos c7]
        rw [eb]
        exact ⟨r, f, z⟩
      · skip
        replace hf := jite hf
        rcases hf with ⟨c12, hf⟩ | ⟨c12, hf⟩
        · skip
          replace hf := jbind hf
          obtain ⟨p63, e13, hf⟩ := hf
          have r13 := oc_gR e13
          rw [S.1] at r13
          cases r13
          clear e13
          replace hf := jbind hf
          obtain ⟨q69, e14, hf⟩ := hf
          replace e14 := (jcv_o e14).2
          obtain ⟨r, f, z⟩ := E_X10_takeNumber K e14
          cases hf
          -- leaf 1110: (q69.1, q69.2)
          have eb : bndP x1 W = (1, 31) := by unfold bndP; rw [if_neg c1, if_neg c4, if_neg c7, if_pos c12]
          rw [eb]
          exact ⟨r, f, z⟩
        · skip
          replace hf := jbind hf
          obtain ⟨p97, e15, hf⟩ := hf
          have r15 := oc_gR e15
          rw [S.1] at r15
          cases r15
          clear e15
          replace hf := jbind hf
          obtain ⟨q103, e16, hf⟩ := hf
          replace e16 := (jcv_o e16).2
          obtain ⟨r, f, z⟩ := E_X10_takeNumber K e16
          cases hf
          -- leaf 1111: (q103.1, q103.2)
          have eb : bndP x1 W = (0, 31) := by unfold bndP; rw [if_neg c1, if_neg c4, if_neg c7, if_neg c12]
          rw [eb]
          exact ⟨r, f, z⟩
theorem E_X9_keepNumber {x : Nat} {W : jWd} {n : Nat} {a0 : Nat} {x1 : Int32} {x2 : Int32} {h : jH} {q : jH} (S : rrS (oc h) x) (ha : a0 = x + 34) (R : rodE (oc h) (x + 21) W) (KW : wOK W) (h0 : 0 ≤ x2.toInt) (h19 : x1 = 19 → x2.toInt + 1 < (W 0).toInt) (h20 : x1 = 20 → x2.toInt ≤ 31) (hf : F_X9_keepNumber n a0 x1 x2 h = some q) : rodE (oc q) (x + 21) (kpW x1 W x2) ∧ frR (x + 21) (oc h) (oc q) ∧ q.1 = h.1 := by
  unfold F_X9_keepNumber at hf
  subst ha
  have k0 := KW.1
  replace hf := jite hf
  rcases hf with ⟨c1, hf⟩ | ⟨c1, hf⟩
  · skip
    replace hf := jbind hf
    obtain ⟨p119, e2, hf⟩ := hf
    have r2 := oc_gR e2
    rw [S.2.2] at r2
    cases r2
    clear e2
    replace hf := jbind hf
    obtain ⟨h123, e3, hf⟩ := hf
    obtain ⟨o3, z3⟩ := oc_pf e3
    clear e3
    cases hf
    -- leaf 0: h123
    have ek : kpW x1 W x2 = upd W 3 x2 := by unfold kpW; rw [if_pos c1]
    refine ⟨?_, by rw [o3]; exact frR_u2 (by omega), z3⟩
    rw [ek, o3]
    exact rodE_i13 R
  · skip
    replace hf := jite hf
    rcases hf with ⟨c4, hf⟩ | ⟨c4, hf⟩
    · skip
      replace hf := jbind hf
      obtain ⟨p53, e5, hf⟩ := hf
      have r5 := oc_gR e5
      rw [S.2.2] at r5
      cases r5
      clear e5
      replace hf := jbind hf
      obtain ⟨p57, e6, hf⟩ := hf
      have r6 := oc_gR e6
      rw [S.2.2] at r6
      cases r6
      clear e6
      replace hf := jbind hf
      obtain ⟨v60, e7, hf⟩ := hf
      have r7 := oc_gI e7
      subst r7
      clear e7
      replace hf := jbind hf
      obtain ⟨v65, e8, hf⟩ := hf
      have r8 := E_X11_withBit (i := x2.toInt.toNat) (nI_k (by omega)) e8
      subst r8
      replace hf := jbind hf
      obtain ⟨h68, e9, hf⟩ := hf
      obtain ⟨o9, z9⟩ := oc_pf e9
      clear e9
      cases hf
      -- leaf 10: h68
      have b19 := h19 c4
      have ek : kpW x1 W x2 = upd W (18 + 8 * x2.toInt.toNat) 1 := by unfold kpW; rw [if_neg c1, if_pos c4]
      refine ⟨?_, by rw [o9]; exact frR_u2 (by omega), z9⟩
      rw [ek, o9]
      exact rodE_ct R (by omega) (by omega) (fun j hj => chV_bit (by omega) (Or.inr rfl) j hj) k0
    · skip
      replace hf := jite hf
      rcases hf with ⟨c10, hf⟩ | ⟨c10, hf⟩
      · skip
        replace hf := jbind hf
        obtain ⟨p75, e11, hf⟩ := hf
        have r11 := oc_gR e11
        rw [S.2.2] at r11
        cases r11
        clear e11
        replace hf := jbind hf
        obtain ⟨p79, e12, hf⟩ := hf
        have r12 := oc_gR e12
        rw [S.2.2] at r12
        cases r12
        clear e12
        replace hf := jbind hf
        obtain ⟨v82, e13, hf⟩ := hf
        have r13 := oc_gI e13
        subst r13
        clear e13
        replace hf := jbind hf
        obtain ⟨v87, e14, hf⟩ := hf
        have r14 := E_X11_withBit (i := x2.toInt.toNat) (nI_k (by omega)) e14
        subst r14
        replace hf := jbind hf
        obtain ⟨h90, e15, hf⟩ := hf
        obtain ⟨o15, z15⟩ := oc_pf e15
        clear e15
        cases hf
        -- leaf 110: h90
        have b20 := h20 c10
        have ek : kpW x1 W x2 = upd W 7 (chV (W 7) x2.toInt.toNat 1) := by unfold kpW; rw [if_neg c1, if_neg c4, if_pos c10]
        refine ⟨?_, by rw [o15]; exact frR_u2 (by omega), z15⟩
        rw [ek, o15]
        rw [R.2.1.2.1]
        exact rodE_i10 R
      · skip
        replace hf := jite hf
        rcases hf with ⟨c16, hf⟩ | ⟨c16, hf⟩
        · skip
          replace hf := jbind hf
          obtain ⟨p97, e17, hf⟩ := hf
          have r17 := oc_gR e17
          rw [S.2.2] at r17
          cases r17
          clear e17
          replace hf := jbind hf
          obtain ⟨h101, e18, hf⟩ := hf
          obtain ⟨o18, z18⟩ := oc_pf e18
          clear e18
          cases hf
          -- leaf 1110: h101
          have ek : kpW x1 W x2 = upd W 5 x2 := by unfold kpW; rw [if_neg c1, if_neg c4, if_neg c10, if_pos c16]
          refine ⟨?_, by rw [o18]; exact frR_u2 (by omega), z18⟩
          rw [ek, o18]
          exact rodE_i11 R
        · skip
          replace hf := jite hf
          rcases hf with ⟨c19, hf⟩ | ⟨c19, hf⟩
          · skip
            replace hf := jbind hf
            obtain ⟨p108, e20, hf⟩ := hf
            have r20 := oc_gR e20
            rw [S.2.2] at r20
            cases r20
            clear e20
            replace hf := jbind hf
            obtain ⟨h112, e21, hf⟩ := hf
            obtain ⟨o21, z21⟩ := oc_pf e21
            clear e21
            cases hf
            -- leaf 11110: h112
            have ek : kpW x1 W x2 = upd W 6 x2 := by unfold kpW; rw [if_neg c1, if_neg c4, if_neg c10, if_neg c16, if_pos c19]
            refine ⟨?_, by rw [o21]; exact frR_u2 (by omega), z21⟩
            rw [ek, o21]
            exact rodE_i12 R
          · skip
            replace hf := jbind hf
            obtain ⟨p130, e22, hf⟩ := hf
            have r22 := oc_gR e22
            rw [S.2.2] at r22
            cases r22
            clear e22
            replace hf := jbind hf
            obtain ⟨h134, e23, hf⟩ := hf
            obtain ⟨o23, z23⟩ := oc_pf e23
            clear e23
            cases hf
            -- leaf 11111: h134
            have ek : kpW x1 W x2 = upd W 4 x2 := by unfold kpW; rw [if_neg c1, if_neg c4, if_neg c10, if_neg c16, if_neg c19]
            refine ⟨?_, by rw [o23]; exact frR_u2 (by omega), z23⟩
            rw [ek, o23]
            exact rodE_i14 R
theorem E_X9_beginsLine {n : Nat} {x0 : Int32} {h : jH} {q : Int32} (hf : F_X9_beginsLine n x0 h = some q) : (q = 0 ∨ q = 1) ∧ (q = 1 ↔ (x0 = 0 ∨ bgn x0)) := by
  unfold F_X9_beginsLine at hf
  replace hf := jite hf
  rcases hf with ⟨c1, hf⟩ | ⟨c1, hf⟩
  · skip
    cases hf
    -- leaf 0: (1 : Int32)
    exact ⟨Or.inr rfl, fun _ => Or.inl c1, fun _ => rfl⟩
  · skip
    replace hf := jite hf
    rcases hf with ⟨c2, hf⟩ | ⟨c2, hf⟩
    · skip
      cases hf
      -- leaf 10: (1 : Int32)
      exact ⟨Or.inr rfl, fun _ => Or.inr (by unfold bgn; simp [c2]), fun _ => rfl⟩
    · skip
      replace hf := jite hf
      rcases hf with ⟨c3, hf⟩ | ⟨c3, hf⟩
      · skip
        cases hf
        -- leaf 110: (1 : Int32)
        exact ⟨Or.inr rfl, fun _ => Or.inr (by unfold bgn; simp [c3]), fun _ => rfl⟩
      · skip
        replace hf := jite hf
        rcases hf with ⟨c4, hf⟩ | ⟨c4, hf⟩
        · skip
          cases hf
          -- leaf 1110: (1 : Int32)
          exact ⟨Or.inr rfl, fun _ => Or.inr (by unfold bgn; simp [c4]), fun _ => rfl⟩
        · skip
          replace hf := jite hf
          rcases hf with ⟨c5, hf⟩ | ⟨c5, hf⟩
          · skip
            cases hf
            -- leaf 11110: (1 : Int32)
            exact ⟨Or.inr rfl, fun _ => Or.inr (by unfold bgn; simp [c5]), fun _ => rfl⟩
          · skip
            replace hf := jite hf
            rcases hf with ⟨c6, hf⟩ | ⟨c6, hf⟩
            · skip
              cases hf
              -- leaf 111110: (1 : Int32)
              exact ⟨Or.inr rfl, fun _ => Or.inr (by unfold bgn; simp [c6]), fun _ => rfl⟩
            · skip
              replace hf := jite hf
              rcases hf with ⟨c7, hf⟩ | ⟨c7, hf⟩
              · skip
                cases hf
                -- leaf 1111110: (1 : Int32)
                exact ⟨Or.inr rfl, fun _ => Or.inr (by unfold bgn; simp [c7]), fun _ => rfl⟩
              · skip
                cases hf
                -- leaf 1111111: (0 : Int32)
                exact ⟨Or.inl rfl, fun z => absurd z (by decide), fun z => by unfold bgn at z; exfalso; simp [c1, c2, c3, c4, c5, c6, c7] at z⟩
theorem E_X9_readLine_33 {b : Nat → Int32} {L : Nat} {m : Nat} {T : Nat → Int32 × Int32} {st : Nat → Nat} {k : Nat} {x : Nat} {W : jWd} {n : Nat} {a0 : Nat} {x1 : Int32} {h : jH} {q : Int32 × jH} (K : ck (oc h) (x + 1) b L m T st k) (S : rrS (oc h) x) (ha : a0 = x + 34) (R : rodE (oc h) (x + 21) W) (KW : wOK W) (hn : (T k).1 ≠ -1) (hx : x1 = (T k).1) (hb : x1 = 0 ∨ bgn x1) (n8 : x1 = 0 → ¬ W 0 = 8) (J : jlen h (x + 24) = some 8 ∧ jlen h (x + 25) = some 8) (hf : F_X9_readLine_33 n a0 x1 h = some q) : lnC (oc q.2) q.1 x b L m T st (rdPole T W k) ∧ frD x (oc h) (oc q.2) ∧ q.2.1 = h.1 := by
  unfold F_X9_readLine_33 at hf
  subst ha
  replace hf := jbind hf
  obtain ⟨p34, e1, hf⟩ := hf
  have r1 := oc_gR e1
  rw [S.1] at r1
  cases r1
  clear e1
  replace hf := jbind hf
  obtain ⟨h37, e2, hf⟩ := hf
  replace e2 := (jcv_o e2).2
  obtain ⟨K2, f2, z2⟩ := E_X10_skip K hn e2
  have F2 : frD x (oc h) (oc h37) := frD_5 f2
  have S2 : rrS (oc h37) x := rrS_D S F2
  have R2 := rodE_5 R f2
  replace hf := jite hf
  rcases hf with ⟨c3, hf⟩ | ⟨c3, hf⟩
  · skip
    replace hf := jbind hf
    obtain ⟨q45, e4, hf⟩ := hf
    replace e4 := (jcv_o e4).2
    have J2 : jlen h37 (x + 24) = some 8 ∧ jlen h37 (x + 25) = some 8 := ⟨Ln_X10_skip e2 _ _ J.1, Ln_X10_skip e2 _ _ J.2⟩
    obtain ⟨r4, f4, z4⟩ := E_X9_readRing K2 S2 rfl R2 KW (cN_lt KW (n8 c3)) J2 e4
    replace hf := jite hf
    rcases hf with ⟨c5, hf⟩ | ⟨c5, hf⟩
    · skip
      cases hf
      -- leaf 00: (q45.1, q45.2)
      rw [rdPole_0 (hx.symm.trans c3) (n8 c3)]
      exact ⟨r4, frD_tr F2 f4, z4.trans z2⟩
    · skip
      cases hf
  · skip
    replace hf := jbind hf
    obtain ⟨q51, e6, hf⟩ := hf
    replace e6 := (jcv_o e6).2
    obtain ⟨r6, f6, z6⟩ := E_X9_readNumber K2 S2 rfl R2 KW e6
    have hb2 := hb.resolve_left c3
    replace hf := jite hf
    rcases hf with ⟨c7, hf⟩ | ⟨c7, hf⟩
    · skip
      cases hf
      -- leaf 10: ((0 : Int32), q51.2)
      rcases r6 with ⟨y6, v6, -⟩ | ⟨y6, w⟩
      · exfalso
        have := (b_n KW y6).1
        rw [← v6, c7] at this
        exact absurd this (by decide)
      rw [w]
      exact ⟨lnC_r (by rw [rdPole_n hx.symm hb2]; unfold rdNum; rw [if_neg y6]) ⟨rfl, K2, R2.1⟩, F2, z2⟩
    · skip
      replace hf := jbind hf
      obtain ⟨h65, e8, hf⟩ := hf
      replace e8 := (jcv_o e8).2
      rcases r6 with ⟨y6, v6, K6⟩ | ⟨-, w⟩
      rotate_left
      · exact absurd (by rw [w]) c7
      have S6 : rrS (oc q51.2) x := rrS_D S2 (frD_5 f6)
      have R6 := rodE_5 R2 f6
      have bn := b_n KW y6
      obtain ⟨R8, f8, z8⟩ := E_X9_keepNumber S6 rfl R6 KW (by rw [v6]; exact bn.1) (fun z => by rw [v6]; exact bn.2.2.2.1 z) (fun z => by rw [v6]; exact bn.2.2.1 (by rw [z]; decide) (by rw [z]; decide)) e8
      cases hf
      -- leaf 11: ((1 : Int32), h65)
      rw [v6] at R8
      exact ⟨lnC_l (by rw [rdPole_n hx.symm hb2]; unfold rdNum; rw [if_pos y6]) ⟨rfl, ck_D K6 f8, R8⟩, frD_tr F2 (frD_tr (frD_5 f6) (frD_R f8)), z8.trans (z6.trans z2)⟩
theorem E_X9_readLine {b : Nat → Int32} {L : Nat} {m : Nat} {T : Nat → Int32 × Int32} {st : Nat → Nat} {k : Nat} {x : Nat} {W : jWd} {n : Nat} {a0 : Nat} {h : jH} {q : Int32 × jH} (K : ck (oc h) (x + 1) b L m T st k) (S : rrS (oc h) x) (ha : a0 = x + 34) (R : rodE (oc h) (x + 21) W) (KW : wOK W) (J : jlen h (x + 24) = some 8 ∧ jlen h (x + 25) = some 8) (hf : F_X9_readLine n a0 h = some q) : lnC (oc q.2) q.1 x b L m T st (rdPole T W k) ∧ frD x (oc h) (oc q.2) ∧ q.2.1 = h.1 := by
  unfold F_X9_readLine at hf
  subst ha
  replace hf := jbind hf
  obtain ⟨p1, e1, hf⟩ := hf
  have r1 := oc_gR e1
  rw [S.1] at r1
  cases r1
  clear e1
  replace hf := jbind hf
  obtain ⟨v4, e2, hf⟩ := hf
  replace e2 := (jcv_o e2).2
  have r2 := E_X10_kind K e2
  replace hf := jbind hf
  obtain ⟨v9, e3, hf⟩ := hf
  have r3 := E_X9_beginsLine e3
  replace hf := jite hf
  rcases hf with ⟨c4, hf⟩ | ⟨c4, hf⟩
  · skip
    cases hf
    -- leaf 0: ((0 : Int32), h)
    rw [r2] at r3
    have nb : ¬ ((T k).1 = 0 ∨ bgn (T k).1) := fun z => absurd (c4.symm.trans (r3.2.mpr z)) (by decide)
    exact ⟨lnC_r (rdPole_x (fun z => nb (Or.inl z)) (fun z => nb (Or.inr z))) ⟨rfl, K, R.1⟩, frD_0, rfl⟩
  · skip
    replace hf := jite hf
    rcases hf with ⟨c5, hf⟩ | ⟨c5, hf⟩
    · skip
      replace hf := jbind hf
      obtain ⟨p20, e6, hf⟩ := hf
      have r6 := oc_gR e6
      rw [S.2.2] at r6
      cases r6
      clear e6
      replace hf := jbind hf
      obtain ⟨v23, e7, hf⟩ := hf
      have r7 := oc_gI e7
      subst r7
      clear e7
      replace hf := jite hf
      rcases hf with ⟨c8, hf⟩ | ⟨c8, hf⟩
      · skip
        -- leaf 100: F_X9_readLine_33 n a0 v4 h
        rw [R.2.1.1] at c8
        exact E_X9_readLine_33 K S rfl R KW (by rw [← r2, c5]; decide) r2 (Or.inl c5) (fun _ z => by rw [z] at c8; exact absurd c8 (by decide)) J hf
      · skip
        cases hf
        -- leaf 101: ((0 : Int32), h)
        rw [R.2.1.1, Int32.lt_iff_toInt_lt, show (8 : Int32).toInt = 8 from rfl] at c8
        have k0 := KW.1
        exact ⟨lnC_r (rdPole_8 (r2.symm.trans c5) (nI_k (k := 8) (by show (W 0).toInt = 8; omega))) ⟨rfl, K, R.1⟩, frD_0, rfl⟩
    · skip
      -- leaf 11: F_X9_readLine_33 n a0 v4 h
      have hb : bgn v4 := (r3.2.mp (r3.1.resolve_left c4)).resolve_left c5
      exact E_X9_readLine_33 K S rfl R KW (by rw [← r2]; intro z; rw [z] at hb; exact absurd hb (by unfold bgn; decide)) r2 (Or.inr hb) (fun z => absurd z c5) J hf
