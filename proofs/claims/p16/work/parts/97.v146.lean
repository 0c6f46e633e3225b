section
/-! a line of a law's text, the reference -/
abbrev jLn : Type := (Int32 × Int32) × List (Int32 × Int32)
def lnW (W : jWd) (n s : Nat) (e : jLn) : jWd := upd (emW (upd (upd (upd W (1285 + 4 * n) e.1.1) (1286 + 4 * n) e.1.2) (1287 + 4 * n) (nI s)) s e.2) (1288 + 4 * n) (nI (s + e.2.length))
def lwS (W0 : jWd) (S : List jLn) : jWd × Nat × Nat := S.foldl (fun a e => (lnW a.1 a.2.1 a.2.2 e, a.2.1 + 1, a.2.2 + e.2.length)) (W0, 0, 0)
theorem lwS_app {W0 : jWd} {S : List jLn} {e : jLn} : lwS W0 (S ++ [e]) = (lnW (lwS W0 S).1 (lwS W0 S).2.1 (lwS W0 S).2.2 e, (lwS W0 S).2.1 + 1, (lwS W0 S).2.2 + e.2.length) := by
  unfold lwS
  rw [List.foldl_append]
  rfl
def kdL (w : Int32) : Int32 := if w = 3 then 0 else if w = 15 then 1 else 2
/-- what comes behind a line's first word -/
def rdLT (T : Nat → Int32 × Int32) (k : Nat) : jRd := if nOK T k 0 100 then (if (T (k + 1)).1 = 14 then rdG T 2000 0 0 (k + 2) else .inl (k + 1, [])) else .inr k
def rdLaw (T : Nat → Int32 × Int32) (S : List jLn) (k : Nat) : (Nat × List jLn) ⊕ Nat :=
  if (T k).1 = 3 ∨ (T k).1 = 15 ∨ (T k).1 = 16 then
    match rdLT T (k + 1) with
    | .inr f => .inr f
    | .inl d => .inl (d.1, S ++ [((kdL (T k).1, (T (k + 1)).2), d.2)])
  else .inr k
/-- the reference behind j lines -/
def lawP (x : Nat) (W0 : jWd) (O : jO) (S : List jLn) (j k : Nat) : Prop := wl O x = (lwS W0 S).1 ∧ oi O x 16 = nI (lwS W0 S).2.2 ∧ (lwS W0 S).2.1 = j ∧ (lwS W0 S).2.2 ≤ k
theorem nI_l1 {n : Nat} : (1285 : Int32) + (4 : Int32) * nI n = nI (1285 + 4 * n) := by
  show nI 1285 + nI 4 * nI n = _
  rw [nI_mul, nI_add]
theorem E_X12_readLawLine_53 {b : Nat → Int32} {L : Nat} {m : Nat} {T : Nat → Int32 × Int32} {st : Nat → Nat} {en : Nat → Nat} {k : Nat} {W : jWd} {s : Nat} {j : Nat} {kd : Nat} {n : Nat} {a0 : Nat} {x2 : Int32} {sa0 : Nat} {s1 : Int32} {s2 : Int32} {h : jH} {q : Int32 × jH} (H : tkE b L m T st en) (hs : a0 + 1 = sa0) (h2 : x2 = s1) (hx : s1 = nI (1285 + 4 * j)) (hj : j < 12) (hk : s2 = nI kd) (hkd : kd ≤ 2) (R : rc (oc h) a0 b L st k) (hW : wl (oc h) a0 = W) (g : oi (oc h) a0 16 = nI s) (sk : s ≤ k) (hm4 : m ≤ 400) (hf : F_X12_readLawLine_53 n a0 x2 sa0 s1 s2 h = some q) : (∀ d, rdLT T k = .inl d → q.1 = 1 ∧ rc (oc q.2) a0 b L st d.1 ∧ wl (oc q.2) a0 = lnW W j s ((nI kd, (T k).2), d.2) ∧ oi (oc q.2) a0 16 = nI (s + d.2.length) ∧ s + d.2.length ≤ d.1) ∧ (∀ f, rdLT T k = .inr f → q.1 = 0 ∧ oi (oc q.2) a0 12 = nI (st f)) ∧ frQ a0 (oc h) (oc q.2) ∧ q.2.1 = h.1 := by
  unfold F_X12_readLawLine_53 at hf
  subst h2 hs hk
  subst hx
  have M := rc_mS R
  have x_1 : nI (1285 + 4 * j) + (1 : Int32) = nI (1286 + 4 * j) := by rw [nI_1]; congr 1; omega
  have x_2 : nI (1285 + 4 * j) + (2 : Int32) = nI (1287 + 4 * j) := by have : nI (1285 + 4 * j) + nI 2 = nI (1285 + 4 * j + 2) := nI_add _ _; rw [show (2 : Int32) = nI 2 from rfl, this]; congr 1; omega
  have x_3 : nI (1285 + 4 * j) + (3 : Int32) = nI (1288 + 4 * j) := by have : nI (1285 + 4 * j) + nI 3 = nI (1285 + 4 * j + 3) := nI_add _ _; rw [show (3 : Int32) = nI 3 from rfl, this]; congr 1; omega
  replace hf := jbind hf
  obtain ⟨h53, e1, hf⟩ := hf
  obtain ⟨o1, z1, y1⟩ := oc_as e1
  rw [jnar0] at o1
  clear e1
  replace hf := jbind hf
  obtain ⟨p55, e2, hf⟩ := hf
  have r2 := oc_gR e2
  rw [o1] at r2
  rw [u2_ne (Or.inl (by omega))] at r2
  rw [M.1] at r2
  cases r2
  clear e2
  replace hf := jbind hf
  obtain ⟨v59, e3, hf⟩ := hf
  obtain ⟨r3, y3⟩ := oc_al e3
  rw [o1] at r3
  rw [oi_eq] at r3
  subst r3
  clear e3
  replace hf := jite hf
  rcases hf with ⟨c4, hf⟩ | ⟨c4, hf⟩
  · skip
    replace hf := jbind hf
    obtain ⟨p66, e5, hf⟩ := hf
    have r5 := oc_gR e5
    rw [o1] at r5
    rw [u2_ne (Or.inl (by omega))] at r5
    rw [M.1] at r5
    cases r5
    clear e5
    replace hf := jbind hf
    obtain ⟨q76, e6, hf⟩ := hf
    replace e6 := (jcv_o e6).2
    rw [nI_cl (by omega)] at o1
    have f1 : frM a0 [1] [] (oc h) (oc h53) := by rw [o1]; exact frM_c (by decide)
    have F1 : frQ a0 (oc h) (oc h53) := by rw [o1]; exact frQ_w (by omega)
    have w1 : wl (oc h53) a0 = upd W (1285 + 4 * j) (nI kd) := by rw [o1, wl_w, hW]
    have R53 : rc (oc h53) a0 b L st k := rc_fr R f1 (by decide) (by decide) (by decide) (by decide) (by decide)
    obtain ⟨d6, M6, g6, f6, z6⟩ := T_number H (by decide) R53 e6
    have g16 : oi (oc q76.2) a0 16 = nI s := (frM_oi f6 (by decide) (by decide)).trans ((frM_oi f1 (by decide) (by decide)).trans g)
    replace hf := jbind hf
    obtain ⟨h79, e7, hf⟩ := hf
    obtain ⟨o7, z7, y7⟩ := oc_as e7
    rw [jnar0] at o7
    clear e7
    replace hf := jbind hf
    obtain ⟨p81, e8, hf⟩ := hf
    have r8 := oc_gR e8
    rw [o7] at r8
    rw [u2_ne (Or.inl (by omega))] at r8
    rw [M6.1] at r8
    cases r8
    clear e8
    replace hf := jbind hf
    obtain ⟨v87, e9, hf⟩ := hf
    obtain ⟨r9, y9⟩ := oc_al e9
    rw [o7] at r9
    rw [oi_eq] at r9
    subst r9
    clear e9
    replace hf := jite hf
    rcases hf with ⟨c10, hf⟩ | ⟨c10, hf⟩
    · skip
      replace hf := jbind hf
      obtain ⟨p94, e11, hf⟩ := hf
      have r11 := oc_gR e11
      rw [o7] at r11
      rw [u2_ne (Or.inl (by omega))] at r11
      rw [M6.1] at r11
      cases r11
      clear e11
      replace hf := jbind hf
      obtain ⟨v101, e12, hf⟩ := hf
      have r12 := oc_gI e12
      rw [o7] at r12
      rw [oi_ne (Or.inl (by omega))] at r12
      subst r12
      clear e12
      replace hf := jbind hf
      obtain ⟨h104, e13, hf⟩ := hf
      obtain ⟨o13, z13, y13⟩ := oc_as e13
      rw [jnar0] at o13
      clear e13
      replace hf := jbind hf
      obtain ⟨h107, e14, hf⟩ := hf
      obtain ⟨o14, z14⟩ := oc_pf e14
      clear e14
      replace hf := jbind hf
      obtain ⟨q113, e15, hf⟩ := hf
      replace e15 := (jcv_o e15).2
      rw [x_1, nI_cl (by omega)] at o7
      rw [x_2, nI_cl (by omega), g16] at o13
      rcases d6 with ⟨v6, y6, R6⟩ | ⟨v6, y6⟩
      rotate_left
      · rw [v6] at c10; exact absurd c10 (by decide)
      have km := tk_n3 H y6.1
      rw [v6] at o7
      have f7 : frM a0 [1] [13] (oc q76.2) (oc h107) := by rw [o14, o13, o7]; exact frM_tr (frM_c (by decide)) (frM_tr (frM_c (by decide)) (frM_f (by decide)))
      have F7 : frQ a0 (oc q76.2) (oc h107) := by rw [o14, o13, o7]; exact frQ_tr (frQ_w (by omega)) (frQ_tr (frQ_w (by omega)) (frQ_f (by decide)))
      have w7 : wl (oc h107) a0 = upd (upd (upd W (1285 + 4 * j) (nI kd)) (1286 + 4 * j) (T k).2) (1287 + 4 * j) (nI s) := by rw [o14, wl_n (by omega), o13, wl_w, o7, wl_w, wl_f f6 (by decide), w1]
      have R7 : rc (oc h107) a0 b L st (k + 1) := rc_fr R6 f7 (by decide) (by decide) (by decide) (by decide) (by decide)
      have d13 : oi (oc h107) a0 13 = nI 0 := by rw [o14, oi_eq]; rfl
      have s16 : oi (oc h107) a0 16 = nI s := (frM_oi f7 (by decide) (by decide)).trans g16
      obtain ⟨d15, g15, f15, z15⟩ := T_passes (w := 14) H (by decide) R7 e15
      have w15 : wl (oc q113.2) a0 = upd (upd (upd W (1285 + 4 * j) (nI kd)) (1286 + 4 * j) (T k).2) (1287 + 4 * j) (nI s) := (wl_f f15 (by decide)).trans w7
      have s15 : oi (oc q113.2) a0 16 = nI s := (frM_oi f15 (by decide) (by decide)).trans s16
      have FF : frQ a0 (oc h) (oc q113.2) := frQ_tr F1 (frQ_tr (fr2 f6) (frQ_tr F7 (fr2 f15)))
      have ZZ : q113.2.1 = h.1 := z15.trans (z14.trans (z13.trans (z7.trans (z6.trans z1))))
      have M15 : mS (oc q113.2) a0 := mS_fr (rc_mS R7) f15 (by decide) (by decide)
      replace hf := jite hf
      rcases hf with ⟨c16, hf⟩ | ⟨c16, hf⟩
      · skip
        replace hf := jbind hf
        obtain ⟨p129, e17, hf⟩ := hf
        have r17 := oc_gR e17
        rw [M15.1] at r17
        cases r17
        clear e17
        replace hf := jbind hf
        obtain ⟨v136, e18, hf⟩ := hf
        have r18 := oc_gI e18
        subst r18
        clear e18
        replace hf := jbind hf
        obtain ⟨h139, e19, hf⟩ := hf
        obtain ⟨o19, z19, y19⟩ := oc_as e19
        rw [jnar0] at o19
        clear e19
        cases hf
        -- leaf 000: ((1 : Int32), h139)
        rcases d15 with ⟨w, -⟩ | ⟨-, t15, R15⟩
        · exact absurd (c16.symm.trans w) (by decide)
        rw [x_3, nI_cl (by omega), s15] at o19
        have E : rdLT T k = .inl (k + 1, []) := by unfold rdLT; rw [if_pos y6, if_neg (show ¬ (T (k + 1)).1 = 14 from t15)]
        have f19 : frM a0 [1] [] (oc q113.2) (oc h139) := by rw [o19]; exact frM_c (by decide)
        have w19 : wl (oc h139) a0 = lnW W j s ((nI kd, (T k).2), []) := by rw [o19, wl_w, w15]; rfl
        have s19 : oi (oc h139) a0 16 = nI s := (frM_oi f19 (by decide) (by decide)).trans s15
        refine ⟨fun d y => ?_, fun f y => (by rw [E] at y; cases y), frQ_tr FF (by rw [o19]; exact frQ_w (by omega)), z19.trans ZZ⟩
        rw [E] at y
        cases y
        exact ⟨rfl, rc_fr R15 f19 (by decide) (by decide) (by decide) (by decide) (by decide), w19, s19, by simp; omega⟩
      · skip
        replace hf := jbind hf
        obtain ⟨q120, e20, hf⟩ := hf
        replace e20 := (jcv_o e20).2
        rcases d15 with ⟨-, t15, R15⟩ | ⟨w, -⟩
        rotate_left
        · exact absurd w c16
        have km2 := tk_m H (k := k + 1) (by rw [t15]; decide)
        have hm := H.2.2.2.1
        have m4 : m ≤ 400 := hm4
        have A := (R_MC H (n := n) 30).1 a0 (k + 1 + 1) _ s 0 2000 q113.2 q120 ⟨R15, w15, s15, (frM_oi f15 (by decide) (by decide)).trans d13, by omega, by omega, m4⟩ (by omega) (by omega) e20
        have M20 : mS (oc q120.2) a0 := mS_fr M15 (frQ_M A.2.2.1) (by decide) (by decide)
        have E : rdLT T k = rdG T 2000 0 0 (k + 2) := by unfold rdLT; rw [if_pos y6, if_pos (show (T (k + 1)).1 = 14 from t15)]
        replace hf := jite hf
        rcases hf with ⟨c21, hf⟩ | ⟨c21, hf⟩
        · skip
          cases hf
          -- leaf 0010: ((0 : Int32), q120.2)
          refine ⟨fun d y => ?_, fun f y => ?_, frQ_tr FF A.2.2.1, A.2.2.2.trans ZZ⟩
          · rw [E] at y; exact absurd (c21.symm.trans (A.1 d y).1) (by decide)
          · rw [E] at y; exact ⟨rfl, (A.2.1 f y).2⟩
        · skip
          replace hf := jbind hf
          obtain ⟨p129, e22, hf⟩ := hf
          have r22 := oc_gR e22
          rw [M20.1] at r22
          cases r22
          clear e22
          replace hf := jbind hf
          obtain ⟨v136, e23, hf⟩ := hf
          have r23 := oc_gI e23
          subst r23
          clear e23
          replace hf := jbind hf
          obtain ⟨h139, e24, hf⟩ := hf
          obtain ⟨o24, z24, y24⟩ := oc_as e24
          rw [jnar0] at o24
          clear e24
          cases hf
          -- leaf 0011: ((1 : Int32), h139)
          rw [x_3, nI_cl (by omega)] at o24
          have F24 : frQ a0 (oc q120.2) (oc h139) := by rw [o24]; exact frQ_w (by omega)
          have f24 : frM a0 [1] [] (oc q120.2) (oc h139) := by rw [o24]; exact frM_c (by decide)
          refine ⟨fun d y => ?_, fun f y => ?_, frQ_tr FF (frQ_tr A.2.2.1 F24), z24.trans (A.2.2.2.trans ZZ)⟩
          · rw [E] at y
            obtain ⟨-, Rd⟩ := A.1 d y
            have s24 : oi (oc q120.2) a0 16 = nI (s + d.2.length) := Rd.2.2.1
            rw [s24] at o24
            exact ⟨rfl, rc_fr Rd.1 f24 (by decide) (by decide) (by decide) (by decide) (by decide), by rw [o24, wl_w, Rd.2.1]; rfl, (frM_oi f24 (by decide) (by decide)).trans s24, Rd.2.2.2.2.1⟩
          · rw [E] at y
            exact absurd (A.2.1 f y).1 c21
    · skip
      cases hf
      -- leaf 01: ((0 : Int32), h79)
      rw [x_1, nI_cl (by omega)] at o7
      have F7 : frQ a0 (oc q76.2) (oc h79) := by rw [o7]; exact frQ_w (by omega)
      have f7 : frM a0 [1] [] (oc q76.2) (oc h79) := by rw [o7]; exact frM_c (by decide)
      have ny : ¬ nOK T k 0 100 := by
        rcases d6 with ⟨v6, y6, -⟩ | ⟨-, y6⟩
        · exact absurd (by rw [v6]; exact y6.2.1) c10
        · exact y6
      have E : rdLT T k = .inr k := if_neg ny
      refine ⟨fun d y => (by rw [E] at y; cases y), fun f y => ?_, frQ_tr F1 (frQ_tr (fr2 f6) F7), z7.trans (z6.trans z1)⟩
      rw [E] at y
      cases y
      exact ⟨rfl, (frM_oi f7 (by decide) (by decide)).trans g6⟩
  · skip
    cases hf
    -- leaf 1: ((0 : Int32), h53)
    exact absurd (by rw [Int32.le_iff_toInt_le, nI_toInt (by omega)]; have l0 : (0 : Int32).toInt = 0 := rfl; omega) c4
theorem no_53 {n a0 : Nat} {x2 s1 : Int32} {h : jH} {q : Int32 × jH} (M : mS (oc h) a0) {j : Nat} (hj : j < 12) (h2 : x2 = s1) (hx : s1 = nI (1285 + 4 * j)) (hf : F_X12_readLawLine_53 n a0 x2 (a0 + 1) s1 (-1) h = some q) : q.1 = 0 ∧ frM a0 [1] [] (oc h) (oc q.2) ∧ frQ a0 (oc h) (oc q.2) ∧ q.2.1 = h.1 := by
  subst h2
  subst hx
  unfold F_X12_readLawLine_53 at hf
  obtain ⟨h53, e1, hf⟩ := jbind hf
  obtain ⟨o1, z1, -⟩ := oc_as e1
  rw [jnar0, nI_cl (by omega)] at o1
  obtain ⟨p55, e2, hf⟩ := jbind hf
  have r2 := oc_gR e2
  rw [o1, u2_ne (Or.inl (by omega)), M.1] at r2
  cases r2
  obtain ⟨v59, e3, hf⟩ := jbind hf
  obtain ⟨r3, -⟩ := oc_al e3
  rw [o1, nI_cl (by omega), oi_eq] at r3
  subst r3
  rw [if_neg (by decide)] at hf
  cases hf
  have f1 : frM a0 [1] [] (oc h) (oc h53) := by rw [o1]; exact frM_c (by decide)
  exact ⟨rfl, f1, by show frQ a0 (oc h) (oc h53); rw [o1]; exact frQ_w (by omega), z1⟩
end
section
/-! law, the reference -/
theorem E_X12_readLawLine {b : Nat → Int32} {L : Nat} {m : Nat} {T : Nat → Int32 × Int32} {st : Nat → Nat} {en : Nat → Nat} {k : Nat} {W : jWd} {s : Nat} {j : Nat} {n : Nat} {a0 : Nat} {x1 : Int32} {h : jH} {q : Int32 × jH} (H : tkE b L m T st en) (R : rw2 (oc h) a0 b L st k) (hx : x1 = nI j) (hj : j < 12) (hW : wl (oc h) a0 = W) (g : oi (oc h) a0 16 = nI s) (sk : s ≤ k) (hm4 : m ≤ 400) (hf : F_X12_readLawLine n a0 x1 h = some q) : (((T k).1 = 3 ∨ (T k).1 = 15 ∨ (T k).1 = 16) → (∀ d, rdLT T (k + 1) = .inl d → q.1 = 1 ∧ rc (oc q.2) a0 b L st d.1 ∧ wl (oc q.2) a0 = lnW W j s ((kdL (T k).1, (T (k + 1)).2), d.2) ∧ oi (oc q.2) a0 16 = nI (s + d.2.length) ∧ s + d.2.length ≤ d.1) ∧ (∀ f, rdLT T (k + 1) = .inr f → q.1 = 0 ∧ oi (oc q.2) a0 12 = nI (st f))) ∧ (¬ ((T k).1 = 3 ∨ (T k).1 = 15 ∨ (T k).1 = 16) → q.1 = 0 ∧ oi (oc q.2) a0 12 = nI (st k)) ∧ frQ a0 (oc h) (oc q.2) ∧ q.2.1 = h.1 := by
  unfold F_X12_readLawLine at hf
  have M := rw_mS R
  replace hf := jbind hf
  obtain ⟨p9, e1, hf⟩ := hf
  have r1 := oc_gR e1
  rw [M.1] at r1
  cases r1
  clear e1
  replace hf := jbind hf
  obtain ⟨v16, e2, hf⟩ := hf
  replace e2 := (jcv_o e2).2
  have r2 := T_isWord (w := 3) H (by decide) R e2
  replace hf := jite hf
  rcases hf with ⟨c3, hf⟩ | ⟨c3, hf⟩
  · skip
    replace hf := jbind hf
    obtain ⟨v29, e4, hf⟩ := hf
    replace e4 := (jcv_o e4).2
    have r4 := T_isWord (w := 15) H (by decide) R e4
    replace hf := jite hf
    rcases hf with ⟨c5, hf⟩ | ⟨c5, hf⟩
    · skip
      replace hf := jbind hf
      obtain ⟨v42, e6, hf⟩ := hf
      replace e6 := (jcv_o e6).2
      have r6 := T_isWord (w := 16) H (by decide) R e6
      replace hf := jite hf
      rcases hf with ⟨c7, hf⟩ | ⟨c7, hf⟩
      · skip
        -- leaf 000: F_X12_readLawLine_53 n a0 ((1285 : Int32) + ((4 : Int32) * x1)) p9 ((1285 : Int32) + ((4 : Int32) * 
        have n : ∀ w : Nat, w = 3 ∨ w = 15 ∨ w = 16 → (T k).1 ≠ nI w := fun w hw z => by
          rcases hw with y | y | y <;> subst y
          · exact absurd ((r2.2.mpr z).symm.trans c3) (by decide)
          · exact absurd ((r4.2.mpr z).symm.trans c5) (by decide)
          · exact absurd ((r6.2.mpr z).symm.trans c7) (by decide)
        obtain ⟨e, Rb, -, g9⟩ := R
        obtain ⟨a1, a2, a3, a4⟩ := no_53 M hj rfl (by rw [hx]; exact nI_l1) hf
        refine ⟨fun z => ?_, fun _ => ⟨a1, (frM_oi a2 (by decide) (by decide)).trans g9⟩, a3, a4⟩
        rcases z with z | z | z
        · exact absurd z (n 3 (by decide))
        · exact absurd z (n 15 (by decide))
        · exact absurd z (n 16 (by decide))
      · skip
        -- leaf 001: F_X12_readLawLine_53 n a0 ((1285 : Int32) + ((4 : Int32) * x1)) p9 ((1285 : Int32) + ((4 : Int32) * 
        have eT : (T k).1 = nI 16 := r6.2.mp (r6.1.resolve_left c7)
        have R1 := rw_n H (w := 16) (by decide) R eT
        obtain ⟨a1, a2, a3, a4⟩ := E_X12_readLawLine_53 (j := j) (s := s) (W := W) (kd := 2) H rfl rfl (by rw [hx]; exact nI_l1) hj rfl (by decide) R1 hW g (by omega) hm4 hf
        have ek : kdL (T k).1 = nI 2 := by rw [eT]; rfl
        refine ⟨fun _ => ⟨fun d y => ?_, a2⟩, fun n => absurd (Or.inr (Or.inr eT)) n, a3, a4⟩
        rw [ek]
        exact a1 d y
    · skip
      -- leaf 01: F_X12_readLawLine_53 n a0 ((1285 : Int32) + ((4 : Int32) * x1)) p9 ((1285 : Int32) + ((4 : Int32) * 
      have eT : (T k).1 = nI 15 := r4.2.mp (r4.1.resolve_left c5)
      have R1 := rw_n H (w := 15) (by decide) R eT
      obtain ⟨a1, a2, a3, a4⟩ := E_X12_readLawLine_53 (j := j) (s := s) (W := W) (kd := 1) H rfl rfl (by rw [hx]; exact nI_l1) hj rfl (by decide) R1 hW g (by omega) hm4 hf
      have ek : kdL (T k).1 = nI 1 := by rw [eT]; rfl
      refine ⟨fun _ => ⟨fun d y => ?_, a2⟩, fun n => absurd (Or.inr (Or.inl eT)) n, a3, a4⟩
      rw [ek]
      exact a1 d y
  · skip
    -- leaf 1: F_X12_readLawLine_53 n a0 ((1285 : Int32) + ((4 : Int32) * x1)) p9 ((1285 : Int32) + ((4 : Int32) * 
    have eT : (T k).1 = nI 3 := r2.2.mp (r2.1.resolve_left c3)
    have R1 := rw_n H (w := 3) (by decide) R eT
    obtain ⟨a1, a2, a3, a4⟩ := E_X12_readLawLine_53 (j := j) (s := s) (W := W) (kd := 0) H rfl rfl (by rw [hx]; exact nI_l1) hj rfl (by decide) R1 hW g (by omega) hm4 hf
    have ek : kdL (T k).1 = nI 0 := by rw [eT]; rfl
    refine ⟨fun _ => ⟨fun d y => ?_, a2⟩, fun n => absurd (Or.inl eT) n, a3, a4⟩
    rw [ek]
    exact a1 d y
theorem E_X12_readLine_16L {b : Nat → Int32} {L : Nat} {m : Nat} {T : Nat → Int32 × Int32} {st : Nat → Nat} {en : Nat → Nat} {k : Nat} {W : jWd} {s : Nat} {j : Nat} {n : Nat} {a0 : Nat} {x1 : Int32} {x2 : Int32} {s0 : Int32} {s1 : Int32} {h : jH} {q : Int32 × jH} (H : tkE b L m T st en) (R : rw2 (oc h) a0 b L st k) (hx : x2 = nI j) (hx0 : s0 = nI j) (hj : j ≤ 12) (h1 : x1 = 0) (hs1 : s1 = 12) (hW : wl (oc h) a0 = W) (g : oi (oc h) a0 16 = nI s) (sk : s ≤ k) (hm4 : m ≤ 400) (hf : F_X12_readLine_16 n a0 x1 x2 s0 s1 h = some q) : (j < 12 → (((T k).1 = 3 ∨ (T k).1 = 15 ∨ (T k).1 = 16) → (∀ d, rdLT T (k + 1) = .inl d → q.1 = 1 ∧ rc (oc q.2) a0 b L st d.1 ∧ wl (oc q.2) a0 = lnW W j s ((kdL (T k).1, (T (k + 1)).2), d.2) ∧ oi (oc q.2) a0 16 = nI (s + d.2.length) ∧ s + d.2.length ≤ d.1) ∧ (∀ f, rdLT T (k + 1) = .inr f → q.1 = 0 ∧ oi (oc q.2) a0 12 = nI (st f))) ∧ (¬ ((T k).1 = 3 ∨ (T k).1 = 15 ∨ (T k).1 = 16) → q.1 = 0 ∧ oi (oc q.2) a0 12 = nI (st k))) ∧ (j = 12 → q.1 = 0 ∧ oi (oc q.2) a0 12 = nI (st k)) ∧ frQ a0 (oc h) (oc q.2) ∧ q.2.1 = h.1 := by
  unfold F_X12_readLine_16 at hf
  replace hf := jite hf
  rcases hf with ⟨c1, hf⟩ | ⟨c1, hf⟩
  · skip
    cases hf
    -- leaf 0: ((0 : Int32), h)
    rw [hs1, hx0, Int32.le_iff_toInt_le, nI_toInt (by omega), show (12 : Int32).toInt = 12 from rfl] at c1
    obtain ⟨e, Rb, -, g9⟩ := R
    exact ⟨fun z => by omega, fun _ => ⟨rfl, g9⟩, frQ_0, rfl⟩
  · skip
    replace hf := jite hf
    rcases hf with ⟨c2, hf⟩ | ⟨c2, hf⟩
    · skip
      replace hf := jbind hf
      obtain ⟨q35, e3, hf⟩ := hf
      replace e3 := (jcv_o e3).2
      rw [hs1, hx0, Int32.le_iff_toInt_le, nI_toInt (by omega), show (12 : Int32).toInt = 12 from rfl] at c1
      obtain ⟨a1, a2, a3, a4⟩ := E_X12_readLawLine H R hx (by omega) hW g sk hm4 e3
      replace hf := jite hf
      rcases hf with ⟨c4, hf⟩ | ⟨c4, hf⟩
      · skip
        cases hf
        -- leaf 100: ((0 : Int32), q35.2)
        rw [c4] at a1 a2
        exact ⟨fun _ => ⟨a1, a2⟩, fun z => by omega, a3, a4⟩
      · skip
        cases hf
        -- leaf 101: ((1 : Int32), q35.2)
        have e1 : q35.1 = 1 := by
          by_cases z : (T k).1 = 3 ∨ (T k).1 = 15 ∨ (T k).1 = 16
          · rcases hR : rdLT T (k + 1) with p | f
            · exact ((a1 z).1 p hR).1
            · exact absurd ((a1 z).2 f hR).1 c4
          · exact absurd (a2 z).1 c4
        rw [e1] at a1 a2
        exact ⟨fun _ => ⟨a1, a2⟩, fun z => by omega, a3, a4⟩
    · skip
      replace hf := jbind hf
      obtain ⟨q24, e5, hf⟩ := hf
      replace e5 := (jcv_o e5).2
      replace hf := jite hf
      rcases hf with ⟨c6, hf⟩ | ⟨c6, hf⟩
      · skip
        cases hf
        -- leaf 110: ((0 : Int32), q24.2)
        exact absurd h1 c2
      · skip
        cases hf
        -- leaf 111: ((1 : Int32), q24.2)
        exact absurd h1 c2
theorem E_X12_readLineL {b : Nat → Int32} {L : Nat} {m : Nat} {T : Nat → Int32 × Int32} {st : Nat → Nat} {en : Nat → Nat} {k : Nat} {W : jWd} {s : Nat} {j : Nat} {n : Nat} {a0 : Nat} {x1 : Int32} {x2 : Int32} {h : jH} {q : Int32 × jH} (H : tkE b L m T st en) (R : rc (oc h) a0 b L st k) (hx : x2 = nI j) (hj : j ≤ 12) (hp : x1 = 0) (hW : wl (oc h) a0 = W) (g : oi (oc h) a0 16 = nI s) (sk : s ≤ k) (hm4 : m ≤ 400) (hf : F_X12_readLine n a0 x1 x2 h = some q) : (j < 12 → (((T k).1 = 3 ∨ (T k).1 = 15 ∨ (T k).1 = 16) → (∀ d, rdLT T (k + 1) = .inl d → q.1 = 1 ∧ rc (oc q.2) a0 b L st d.1 ∧ wl (oc q.2) a0 = lnW W j s ((kdL (T k).1, (T (k + 1)).2), d.2) ∧ oi (oc q.2) a0 16 = nI (s + d.2.length) ∧ s + d.2.length ≤ d.1) ∧ (∀ f, rdLT T (k + 1) = .inr f → q.1 = 0 ∧ oi (oc q.2) a0 12 = nI (st f))) ∧ (¬ ((T k).1 = 3 ∨ (T k).1 = 15 ∨ (T k).1 = 16) → q.1 = 0 ∧ oi (oc q.2) a0 12 = nI (st k))) ∧ (j = 12 → q.1 = 0 ∧ oi (oc q.2) a0 12 = nI (st k)) ∧ frQ a0 (oc h) (oc q.2) ∧ q.2.1 = h.1 := by
  unfold F_X12_readLine at hf
  replace hf := jbind hf
  obtain ⟨h1, e1, hf⟩ := hf
  replace e1 := (jcv_o e1).2
  obtain ⟨R1, f1, z1⟩ := T_letters H R e1
  replace hf := jite hf
  rcases hf with ⟨c2, hf⟩ | ⟨c2, hf⟩
  · skip
    -- leaf 0: F_X12_readLine_16 n a0 x1 x2 x2 (12 : Int32) h1
    obtain ⟨a1, a2, a3, a4⟩ := E_X12_readLine_16L (k := k) (W := W) (s := s) H R1 hx hx hj hp rfl (by rw [wl_f f1 (by decide)]; exact hW) ((frM_oi f1 (by decide) (by decide)).trans g) sk hm4 hf
    exact ⟨a1, a2, frQ_tr (fr2 f1) a3, a4.trans z1⟩
  · skip
    -- leaf 1: F_X12_readLine_16 n a0 x1 x2 x2 (14 : Int32) h1
    exact absurd hp c2
theorem frQ_Z {x : Nat} {O O2 : jO} (f : frQ x O O2) : frZ x [1] [10, 12, 13, 16] 1284 O O2 := ⟨frQ_M f, fun j hj => by unfold oi; rw [f (x + 1) j (by omega) (by omega)]⟩
theorem lawHL {n a0 : Nat} {W0 : jWd} {b : Nat → Int32} {L m : Nat} {T : Nat → Int32 × Int32} {st en : Nat → Nat} (H : tkE b L m T st en) (hm4 : m ≤ 400) : HLn (List jLn) (lawP a0 W0) (rdLaw T) n a0 0 b L st [1] [10, 12, 13, 16] 12 1284 := by
  intro kk j S h q R PW hj e
  obtain ⟨p1, p2, p3, p4⟩ := PW
  obtain ⟨a1, a2, a3, a4⟩ := E_X12_readLineL H R rfl hj rfl p1 p2 p4 hm4 e
  refine ⟨fun z => ?_, a2, frQ_Z a3, a4⟩
  obtain ⟨b1, b2⟩ := a1 z
  by_cases t : (T kk).1 = 3 ∨ (T kk).1 = 15 ∨ (T kk).1 = 16
  · obtain ⟨c1, c2⟩ := b1 t
    rcases hR : rdLT T (kk + 1) with d | f
    · have E : rdLaw T S kk = .inl (d.1, S ++ [((kdL (T kk).1, (T (kk + 1)).2), d.2)]) := by
        unfold rdLaw
        rw [if_pos t, hR]
      obtain ⟨d1, d2, d3, d4, d5⟩ := c1 d hR
      refine ⟨fun p y => ?_, fun f y => (by rw [E] at y; cases y)⟩
      rw [E] at y
      cases y
      refine ⟨d1, d2, ?_, ?_, ?_, ?_⟩
      · rw [lwS_app, p3]; exact d3
      · rw [lwS_app]; exact d4
      · rw [lwS_app]; exact congrArg (· + 1) p3
      · rw [lwS_app]; exact d5
    · have E : rdLaw T S kk = .inr f := by
        unfold rdLaw
        rw [if_pos t, hR]
      refine ⟨fun p y => (by rw [E] at y; cases y), fun g y => ?_⟩
      rw [E] at y
      cases y
      exact c2 f hR
  · have E : rdLaw T S kk = .inr kk := if_neg t
    refine ⟨fun p y => (by rw [E] at y; cases y), fun g y => ?_⟩
    rw [E] at y
    cases y
    exact b2 t
theorem lawHP {a0 : Nat} {W0 : jWd} : HPr (List jLn) (lawP a0 W0) a0 := fun O O2 S j k k2 P h f => ⟨by rw [wl_f f (by decide)]; exact P.1, (frM_oi f (by decide) (by decide)).trans P.2.1, P.2.2.1, Nat.le_trans P.2.2.2 h⟩
end
section
/-! law, the reference: what comes of the lines -/
theorem emW_lo {k : Nat} : ∀ (l : List (Int32 × Int32)) (W : jWd) (s : Nat), k < 1333 → emW W s l k = W k
  | [], W, s, h => rfl
  | e :: t, W, s, h => by
    show emW _ (s + 1) t k = _
    rw [emW_lo t _ _ h, upd_ne (by omega), upd_ne (by omega)]
theorem lnW_lo {W : jWd} {n s k : Nat} {e : jLn} (h : k < 1285) : lnW W n s e k = W k := by
  unfold lnW
  rw [upd_ne (by omega), emW_lo _ _ _ (by omega), upd_ne (by omega), upd_ne (by omega), upd_ne (by omega)]
theorem fold_lo {k : Nat} (h : k < 1285) : ∀ (S : List jLn) (a : jWd × Nat × Nat), (S.foldl (fun a e => (lnW a.1 a.2.1 a.2.2 e, a.2.1 + 1, a.2.2 + e.2.length)) a).1 k = a.1 k
  | [], a => rfl
  | e :: S, a => by
    rw [List.foldl_cons, fold_lo h S]
    exact lnW_lo h
theorem lwS_lo {W0 : jWd} {S : List jLn} {k : Nat} (h : k < 1285) : (lwS W0 S).1 k = W0 k := fold_lo h S _
/-- the world behind a law's text of lines S -/
def lawW (W : jWd) (S : List jLn) : jWd := fun j => if j = 2 then 1 else if j = 435 then nI (lwS W S).2.1 else if 435 ≤ j ∧ j < 1284 then (lwS W S).1 (j + 849) else if j = 1284 then nI (lwS W S).2.1 else (lwS W S).1 j
theorem E_X12_law_52 {n : Nat} : ∀ (k : Nat) {a0 : Nat} {x1 : Int32} {x2 : Int32} {h : jH} {q : Int32 × jH} (t : Nat) (M : mS (oc h) a0) (hx : x2 = nI t) (ht : t ≤ 849), F_X12_law_52 n k a0 x1 x2 h = some q → (∀ j, wl (oc q.2) a0 j = if j = 2 then 1 else if 435 + t ≤ j ∧ j < 1284 then wl (oc h) a0 (j + 849) else wl (oc h) a0 j) ∧ oi (oc q.2) a0 7 = 0 ∧ q.1 = x1 ∧ frM a0 [1] [7] (oc h) (oc q.2) ∧ q.2.1 = h.1
  | 0, a0, x1, x2, h, q, t, M, hx, ht, hf => by cases hf
  | k + 1, a0, x1, x2, h, q, t, M, hx, ht, hf => by
    replace hf : F_X12_law_52_b n (F_X12_law_52 n k) a0 x1 x2 h = some q := hf
    unfold F_X12_law_52_b at hf
    obtain ⟨s1, s2, s3, s4, s5, s8, s15, s17, s19, s20, s21⟩ := id M
    subst hx
    have lN : (849 : Int32).toInt = 849 := rfl
    replace hf := jite hf
    rcases hf with ⟨c1, hf⟩ | ⟨c1, hf⟩
    · skip
      replace hf := jbind hf
      obtain ⟨p86, e2, hf⟩ := hf
      have r2 := oc_gR e2
      rw [s1] at r2
      cases r2
      clear e2
      replace hf := jbind hf
      obtain ⟨h91, e3, hf⟩ := hf
      obtain ⟨o3, z3, y3⟩ := oc_as e3
      rw [jnar0] at o3
      rw [show (2 : Int32).toNatClampNeg = 2 from rfl] at o3
      clear e3
      replace hf := jbind hf
      obtain ⟨h94, e4, hf⟩ := hf
      obtain ⟨o4, z4⟩ := oc_pf e4
      clear e4
      cases hf
      -- leaf 0: (x1, h94)
      rw [Int32.le_iff_toInt_le, nI_toInt (by omega)] at c1
      have f : frM a0 [1] [7] (oc h) (oc h94) := by rw [o4, o3]; exact frM_tr (frM_c (by decide)) (frM_f (by decide))
      have w : wl (oc h94) a0 = upd (wl (oc h) a0) 2 1 := by rw [o4, wl_n (by omega), o3, wl_w]
      have g7 : oi (oc h94) a0 7 = 0 := by rw [o4, oi_eq]
      refine ⟨fun j => ?_, g7, rfl, f, z4.trans z3⟩
      show wl (oc h94) a0 j = _
      rw [w]
      by_cases y : j = 2
      · rw [y, upd_eq, if_pos rfl]
      · rw [upd_ne y, if_neg y, if_neg (by omega)]
    · skip
      replace hf := jbind hf
      obtain ⟨p60, e5, hf⟩ := hf
      have r5 := oc_gR e5
      rw [s1] at r5
      cases r5
      clear e5
      replace hf := jbind hf
      obtain ⟨p69, e6, hf⟩ := hf
      have r6 := oc_gR e6
      rw [s1] at r6
      cases r6
      clear e6
      replace hf := jbind hf
      obtain ⟨v77, e7, hf⟩ := hf
      obtain ⟨r7, y7⟩ := oc_al e7
      subst r7
      clear e7
      replace hf := jbind hf
      obtain ⟨h78, e8, hf⟩ := hf
      obtain ⟨o8, z8, y8⟩ := oc_as e8
      rw [jnar0] at o8
      clear e8
      -- leaf 1: rc52 a0 x1 (x2 + (1 : Int32)) h78
      rw [Int32.le_iff_toInt_le, nI_toInt (by omega)] at c1
      have e1 : (435 : Int32) + nI t = nI (435 + t) := nI_add 435 t
      have e2 : (1284 : Int32) + nI t = nI (1284 + t) := nI_add 1284 t
      rw [e1, e2, nI_cl (show 435 + t < 2147483648 by omega), nI_cl (show 1284 + t < 2147483648 by omega)] at o8
      have f8 : frM a0 [1] [7] (oc h) (oc h78) := by rw [o8]; exact frM_c (by decide)
      have w8 : wl (oc h78) a0 = upd (wl (oc h) a0) (435 + t) (wl (oc h) a0 (1284 + t)) := by rw [o8, wl_w]
      obtain ⟨a1, a2, a3, a4, a5⟩ := E_X12_law_52 k (t + 1) (mS_fr M f8 (by decide) (by decide)) (nI_1 t) (by omega) hf
      refine ⟨fun j => ?_, a2, a3, frM_tr f8 a4, a5.trans z8⟩
      rw [a1 j, w8]
      by_cases y : j = 2
      · rw [if_pos y, if_pos y]
      rw [if_neg y, if_neg y]
      by_cases y1 : j = 435 + t
      · rw [if_neg (by omega), if_pos (by omega), y1, upd_eq, show 435 + t + 849 = 1284 + t by omega]
      · by_cases y2 : 435 + t ≤ j ∧ j < 1284
        · rw [if_pos (by omega), if_pos y2, upd_ne (by omega)]
        · rw [if_neg (by omega), if_neg y2, upd_ne y1]
theorem E_X12_law_32 {W : jWd} {j : Nat} {n : Nat} {a0 : Nat} {x1 : Int32} {sa0 : Nat} {s1 : Int32} {h : jH} {q : Int32 × jH} (hs : a0 = sa0) (h01 : s1 = 0 ∨ s1 = 1) (M : mS (oc h) a0) (hW : wl (oc h) a0 = W) (z0 : oi (oc h) a0 0 = 0) (hf : F_X12_law_32 n a0 x1 sa0 s1 h = some q) : (s1 = 1 ∧ q.1 = 0 ∧ rTh a0 1 h q.2) ∨ (s1 = 0 ∧ q.1 = x1 ∧ (∀ j, wl (oc q.2) a0 j = if j = 2 then 1 else if j = 435 then x1 else if 435 ≤ j ∧ j < 1284 then W (j + 849) else if j = 1284 then x1 else W j) ∧ oi (oc q.2) a0 7 = 0 ∧ oi (oc q.2) a0 0 = 0 ∧ frM a0 [1] [7] (oc h) (oc q.2) ∧ q.2.1 = h.1) := by
  unfold F_X12_law_32 at hf
  subst hs
  replace hf := jbind hf
  obtain ⟨q33, e1, hf⟩ := hf
  replace e1 := (jcv_o e1).2
  have r1 := E_X12_throwsIf h01 e1
  have M1 : mS (oc q33.2) a0 := by rcases r1 with ⟨-, -, e0⟩ | ⟨-, -, T⟩; rw [e0]; exact M; exact mS_fr M T.2.1 (by decide) (by decide)
  replace hf := jite hf
  rcases hf with ⟨c2, hf⟩ | ⟨c2, hf⟩
  · skip
    replace hf := jbind hf
    obtain ⟨p42, e3, hf⟩ := hf
    have r3 := oc_gR e3
    rw [M1.1] at r3
    cases r3
    clear e3
    replace hf := jbind hf
    obtain ⟨h49, e4, hf⟩ := hf
    obtain ⟨o4, z4, y4⟩ := oc_as e4
    rw [jnar0] at o4
    rw [show (1284 : Int32).toNatClampNeg = 1284 from rfl] at o4
    clear e4
    -- leaf 0: F_X12_law_52 n n a0 x1 (0 : Int32) h49
    rcases r1 with ⟨s0, -, e0⟩ | ⟨-, y, -⟩
    rotate_left
    · exact absurd (y.symm.trans c2) (by decide)
    rw [e0] at o4 z4
    have f4 : frM a0 [1] [] (oc h) (oc h49) := by rw [o4]; exact frM_c (by decide)
    have w4 : wl (oc h49) a0 = upd W 1284 x1 := by rw [o4, wl_w, hW]
    obtain ⟨a1, a2, a3, a4, a5⟩ := E_X12_law_52 n 0 (mS_fr M f4 (by decide) (by decide)) rfl (by omega) hf
    refine Or.inr ⟨s0, a3, fun j => ?_, a2, (frM_oi a4 (by decide) (by decide)).trans ((frM_oi f4 (by decide) (by decide)).trans z0), frM_tr (frM_le f4 (by decide) (by decide)) a4, a5.trans z4⟩
    rw [a1 j, w4]
    by_cases y : j = 2
    · rw [if_pos y, if_pos y]
    rw [if_neg y, if_neg y]
    by_cases y1 : j = 435
    · rw [if_pos (by omega), if_pos y1, y1, upd_eq]
    rw [if_neg y1]
    by_cases y2 : 435 ≤ j ∧ j < 1284
    · rw [if_pos (by omega), if_pos y2, upd_ne (by omega)]
    rw [if_neg (by omega), if_neg y2]
    by_cases y3 : j = 1284
    · rw [if_pos y3, y3, upd_eq]
    · rw [if_neg y3, upd_ne y3]
  · skip
    cases hf
    -- leaf 1: ((0 : Int32), q33.2)
    rcases r1 with ⟨-, y, -⟩ | ⟨s0, -, T⟩
    · exact absurd y c2
    exact Or.inl ⟨s0, rfl, T⟩
theorem E_X12_law {b : Nat → Int32} {L : Nat} {m : Nat} {T : Nat → Int32 × Int32} {st : Nat → Nat} {en : Nat → Nat} {W : jWd} {n : Nat} {a0 : Nat} {h : jH} {q : Int32 × jH} (H : tkE b L m T st en) (M : mS (oc h) a0) (hW : wl (oc h) a0 = W) (h9 : oi (oc h) a0 9 = nI L) (hb : ∀ i, oi (oc h) (a0 + 6) i = b i) (hm4 : m ≤ 400) (hf : F_X12_law n a0 h = some q) : (∀ f, (if (T 0).1 = -1 then .inl [] else rdLines (rdLaw T) T 12 [] 0) = .inr f → q.1 = 0 ∧ oi (oc q.2) a0 0 = 1 ∧ oi (oc q.2) a0 14 = nI (st f) ∧ oi (oc q.2) a0 7 = oi (oc h) a0 7 ∧ ∀ j, j < 1284 → wl (oc q.2) a0 j = W j) ∧ (∀ S, (if (T 0).1 = -1 then .inl [] else rdLines (rdLaw T) T 12 [] 0) = .inl S → q.1 = nI (lwS W S).2.1 ∧ (lwS W S).2.1 ≤ 12 ∧ oi (oc q.2) a0 0 = 0 ∧ oi (oc q.2) a0 14 = -1 ∧ oi (oc q.2) a0 7 = 0 ∧ wl (oc q.2) a0 = lawW W S) ∧ oi (oc q.2) a0 9 = 0 ∧ frM a0 [1] [0, 7, 9, 10, 11, 12, 13, 14, 16] (oc h) (oc q.2) ∧ q.2.1 = h.1 := by
  unfold F_X12_law at hf
  replace hf := jbind hf
  obtain ⟨q2, e1, hf⟩ := hf
  replace e1 := (jcv_o e1).2
  obtain ⟨A1, A2, A0, A9, ⟨Af, AZ⟩, Az⟩ := E_X12_readAll (N := 12) (Z := 1284) (cs := [1]) (fs := [10, 12, 13, 16]) (W := ([] : List jLn)) (by decide) (by decide) (by decide) H (lawHL (W0 := W) H hm4) lawHP M h9 hb (fun O f g => ⟨by rw [wl_f f (by decide)]; exact hW, g, rfl, Nat.le_refl 0⟩) (by decide) (by decide) e1
  have M2 := mS_fr M Af (by decide) (by decide)
  have a7 : oi (oc q2.2) a0 7 = oi (oc h) a0 7 := frM_oi Af (by decide) (by decide)
  have RR : lsG (lawP a0 W) (oc q2.2) q2.1 a0 st 12 0 (if (T 0).1 = -1 then .inl [] else rdLines (rdLaw T) T 12 [] 0) := by
    split
    · rename_i z
      obtain ⟨y1, y2⟩ := A1 z
      exact lsG_l (k2 := 0) rfl ⟨Nat.le_refl 0, by omega, y1, y2⟩
    · rename_i z
      exact ⟨fun W2 y => by
        obtain ⟨j2, k2, b1, b2, b3, b4⟩ := (A2 z).1 W2 y
        exact ⟨j2, k2, by omega, b2, b3, b4⟩, (A2 z).2⟩
  replace hf := jite hf
  rcases hf with ⟨c2, hf⟩ | ⟨c2, hf⟩
  · skip
    replace hf := jbind hf
    obtain ⟨h19, e3, hf⟩ := hf
    obtain ⟨o3, z3⟩ := oc_pf e3
    clear e3
    replace hf := jite hf
    rcases hf with ⟨c4, hf⟩ | ⟨c4, hf⟩
    · skip
      -- leaf 00: F_X12_law_32 n a0 q2.1 a0 (0 : Int32) h19
      rcases hR : (if (T 0).1 = -1 then .inl [] else rdLines (rdLaw T) T 12 [] 0) with S | f
      rotate_left
      · exfalso
        have := (RR.2 f hR).1
        rw [Int32.le_iff_toInt_le, this] at c2
        exact absurd c2 (by decide)
      obtain ⟨j2, k2, -, l2, v2, w2, s2, n2, -⟩ := RR.1 S hR
      have fo : frM a0 [] [14] (oc q2.2) (oc h19) := by rw [o3]; exact frM_f (by decide)
      have M3 := mS_fr M2 fo (by decide) (by decide)
      have g0 : oi (oc h19) a0 0 = 0 := (frM_oi fo (by decide) (by decide)).trans A0
      have g9 : oi (oc h19) a0 9 = 0 := (frM_oi fo (by decide) (by decide)).trans A9
      have g7 : oi (oc h19) a0 7 = oi (oc h) a0 7 := (frM_oi fo (by decide) (by decide)).trans a7
      have gZ : ∀ j, j < 1284 → wl (oc h19) a0 j = W j := fun j hj => by rw [wl_f fo (by decide), ← hW]; exact AZ j hj
      have FF : frM a0 [1] [0, 7, 9, 10, 11, 12, 13, 14, 16] (oc h) (oc h19) := frM_tr (frM_le Af (by decide) (by decide)) (frM_le fo (by decide) (by decide))
      have g14 : oi (oc h19) a0 14 = -1 := by rw [o3, oi_eq]
      have w3 : wl (oc h19) a0 = (lwS W S).1 := (wl_f fo (by decide)).trans w2
      rcases E_X12_law_32 (j := 0) rfl (Or.inl rfl) M3 w3 g0 hf with ⟨y, -⟩ | ⟨-, v, tw, t7, t0, tf, tz⟩
      · exact absurd y (by decide)
      refine ⟨fun f y => (by rw [hR] at y; cases y), fun S2 y => ?_, (frM_oi tf (by decide) (by decide)).trans g9, frM_tr FF (frM_le tf (by decide) (by decide)), tz.trans (z3.trans Az)⟩
      rw [hR] at y
      cases y
      refine ⟨by rw [v, v2, n2], by omega, t0, (frM_oi tf (by decide) (by decide)).trans g14, t7, ?_⟩
      funext j
      rw [tw j]
      unfold lawW
      rw [v2, n2]
    · skip
      -- leaf 01: F_X12_law_32 n a0 q2.1 a0 (1 : Int32) h19
      exact absurd c2 c4
  · skip
    replace hf := jbind hf
    obtain ⟨v12, e5, hf⟩ := hf
    have r5 := oc_gI e5
    subst r5
    clear e5
    replace hf := jbind hf
    obtain ⟨h19, e6, hf⟩ := hf
    obtain ⟨o6, z6⟩ := oc_pf e6
    clear e6
    replace hf := jite hf
    rcases hf with ⟨c7, hf⟩ | ⟨c7, hf⟩
    · skip
      -- leaf 10: F_X12_law_32 n a0 q2.1 a0 (0 : Int32) h19
      exact absurd c7 c2
    · skip
      -- leaf 11: F_X12_law_32 n a0 q2.1 a0 (1 : Int32) h19
      rcases hR : (if (T 0).1 = -1 then .inl [] else rdLines (rdLaw T) T 12 [] 0) with S | f
      · exfalso
        obtain ⟨j2, k2, -, b2, b3, -⟩ := RR.1 S hR
        exact c2 (by rw [b3, Int32.le_iff_toInt_le, nI_toInt (by omega)]; have l0 : (0 : Int32).toInt = 0 := rfl; omega)
      obtain ⟨v1, g12⟩ := RR.2 f hR
      have fo : frM a0 [] [14] (oc q2.2) (oc h19) := by rw [o6]; exact frM_f (by decide)
      have M3 := mS_fr M2 fo (by decide) (by decide)
      have g0 : oi (oc h19) a0 0 = 0 := (frM_oi fo (by decide) (by decide)).trans A0
      have g9 : oi (oc h19) a0 9 = 0 := (frM_oi fo (by decide) (by decide)).trans A9
      have g7 : oi (oc h19) a0 7 = oi (oc h) a0 7 := (frM_oi fo (by decide) (by decide)).trans a7
      have gZ : ∀ j, j < 1284 → wl (oc h19) a0 j = W j := fun j hj => by rw [wl_f fo (by decide), ← hW]; exact AZ j hj
      have FF : frM a0 [1] [0, 7, 9, 10, 11, 12, 13, 14, 16] (oc h) (oc h19) := frM_tr (frM_le Af (by decide) (by decide)) (frM_le fo (by decide) (by decide))
      have g14 : oi (oc h19) a0 14 = nI (st f) := by rw [o6, oi_eq]; exact g12
      rcases E_X12_law_32 (j := 0) rfl (Or.inr rfl) M3 rfl g0 hf with ⟨-, v, T9⟩ | ⟨y, -⟩
      rotate_left
      · exact absurd y (by decide)
      obtain ⟨t0, tf, tz⟩ := T9
      exact ⟨fun f2 y => (by rw [hR] at y; cases y; exact ⟨v, t0, (frM_oi tf (by decide) (by decide)).trans g14, (frM_oi tf (by decide) (by decide)).trans g7, fun j hj => (congrFun (wl_f tf (by decide)) j).trans (gZ j hj)⟩), fun W3 y => (by rw [hR] at y; cases y), (frM_oi tf (by decide) (by decide)).trans g9, frM_tr FF (frM_le tf (by decide) (by decide)), tz.trans (z6.trans Az)⟩
end
section
/-! a law's draft of the class at x + 28: codes at x + 32, stops at x + 31, kinds at x + 29, amounts at x + 30; s codes, nl lines -/
def cod (e : Int32 × Int32) : Int32 := if e.1.toInt ≤ 10 then e.1 else if e.1 = 11 then 256 + e.2 else if e.1 = 12 then 43 else if e.1 = 13 then 60 else if e.1 = 14 then 62 else if e.1 = 15 then 11 else if e.1 = 16 then 12 else 13
def cw (O : jO) (x nl s : Nat) : Prop := lawS O (x + 28) ∧ oi O (x + 28) 6 = nI s ∧ oi O (x + 28) 8 = nI nl ∧ 1 ≤ nl ∧ nl ≤ 12
/-- the codes l were put behind the first s -/
def cwA (O O2 : jO) (x nl s : Nat) (l : List Int32) : Prop :=
  (∀ i, oi O2 (x + 32) i = if s ≤ i ∧ i < s + l.length then l.getD (i - s) 0 else oi O (x + 32) i) ∧ (∀ i, oi O2 (x + 31) i = if i + 1 = nl ∧ l ≠ [] then nI (s + l.length) else oi O (x + 31) i) ∧
  ∀ a k : Nat, ¬ (a = x + 1 ∧ k = 5) → ¬ (a = x + 28 ∧ k = 6) → a ≠ x + 31 → a ≠ x + 32 → O2 a k = O a k
theorem cwA_0 {O O2 : jO} {x nl s : Nat} (f : ∀ a k : Nat, ¬ (a = x + 1 ∧ k = 5) → O2 a k = O a k) : cwA O O2 x nl s [] :=
  ⟨fun i => by rw [if_neg (by simp)]; unfold oi; rw [f _ _ (by omega)], fun i => by rw [if_neg (by simp)]; unfold oi; rw [f _ _ (by omega)], fun a k h1 _ _ _ => f a k h1⟩
theorem cwA_tr {O O2 O3 : jO} {x nl s : Nat} {l t : List Int32} (a : cwA O O2 x nl s l) (c : cwA O2 O3 x nl (s + l.length) t) : cwA O O3 x nl s (l ++ t) := by
  obtain ⟨a1, a2, a3⟩ := a
  obtain ⟨c1, c2, c3⟩ := c
  refine ⟨fun i => ?_, fun i => ?_, fun b k h1 h2 h3 h4 => (c3 b k h1 h2 h3 h4).trans (a3 b k h1 h2 h3 h4)⟩
  · rw [c1 i, List.length_append]
    by_cases y : s + l.length ≤ i ∧ i < s + l.length + t.length
    · rw [if_pos y, if_pos (by omega), List.getD_eq_getElem?_getD, List.getD_eq_getElem?_getD, List.getElem?_append_right (by omega), show i - s - l.length = i - (s + l.length) by omega]
    · rw [if_neg y, a1 i]
      by_cases z : s ≤ i ∧ i < s + l.length
      · rw [if_pos z, if_pos (by omega), List.getD_eq_getElem?_getD, List.getD_eq_getElem?_getD, List.getElem?_append_left (by omega)]
      · rw [if_neg z, if_neg (by omega)]
  · rw [c2 i, a2 i, List.length_append]
    by_cases y : i + 1 = nl
    · by_cases z : t = []
      · subst z
        rw [if_neg (by simp), List.append_nil]
        simp
      · rw [if_pos ⟨y, z⟩, if_pos ⟨y, by simp [z]⟩, Nat.add_assoc]
    · rw [if_neg (fun z => y z.1), if_neg (fun z => y z.1), if_neg (fun z => y z.1)]
/-- what the reading of a condition leaves alone, the class -/
def frC (x : Nat) (O O2 : jO) : Prop := ∀ a k : Nat, ¬ (a = x + 1 ∧ k = 5) → ¬ (a = x + 28 ∧ k = 6) → a ≠ x + 31 → a ≠ x + 32 → O2 a k = O a k
theorem frC_tr {x : Nat} {O O2 O3 : jO} (a : frC x O O2) (c : frC x O2 O3) : frC x O O3 := fun b k h1 h2 h3 h4 => (c b k h1 h2 h3 h4).trans (a b k h1 h2 h3 h4)
theorem frC_5 {x : Nat} {O O2 : jO} (f : ∀ a j : Nat, ¬ (a = x + 1 ∧ j = 5) → O2 a j = O a j) : frC x O O2 := fun a j h _ _ _ => f a j h
theorem frC_0 {x : Nat} {O : jO} : frC x O O := fun _ _ _ _ _ _ => rfl
theorem lawS_C {x : Nat} {O O2 : jO} (S : lawS O (x + 28)) (f : frC x O O2) : lawS O2 (x + 28) := by
  obtain ⟨a, b, c, d, e⟩ := S
  exact ⟨(f _ _ (by omega) (by omega) (by omega) (by omega)).trans a, (f _ _ (by omega) (by omega) (by omega) (by omega)).trans b, (f _ _ (by omega) (by omega) (by omega) (by omega)).trans c, (f _ _ (by omega) (by omega) (by omega) (by omega)).trans d, (f _ _ (by omega) (by omega) (by omega) (by omega)).trans e⟩
/-- the class's reader of laws at x + 35 -/
def rlS (O : jO) (x : Nat) : Prop := O (x + 35) 0 = .ref (x + 1) ∧ O (x + 35) 1 = .int 12 ∧ O (x + 35) 2 = .ref (x + 28)
theorem rlS_C {x : Nat} {O O2 : jO} (S : rlS O x) (f : frC x O O2) : rlS O2 x := ⟨(f _ _ (by omega) (by omega) (by omega) (by omega)).trans S.1, (f _ _ (by omega) (by omega) (by omega) (by omega)).trans S.2.1, (f _ _ (by omega) (by omega) (by omega) (by omega)).trans S.2.2⟩
/-- the class stands before thing k with s codes -/
def cc (O : jO) (x : Nat) (b : Nat → Int32) (L m : Nat) (T : Nat → Int32 × Int32) (st : Nat → Nat) (k nl s : Nat) : Prop := ck O (x + 1) b L m T st k ∧ rlS O x ∧ cw O x nl s ∧ s ≤ k
def lwC (x : Nat) (b : Nat → Int32) (L m : Nat) (T : Nat → Int32 × Int32) (st : Nat → Nat) (h : jH) (v : Int32) (h2 : jH) (nl s : Nat) (r : jRd) : Prop :=
  (∀ d, r = .inl d → v = 1 ∧ cc (oc h2) x b L m T st d.1 nl (s + d.2.length) ∧ cwA (oc h) (oc h2) x nl s (d.2.map cod)) ∧ (∀ f, r = .inr f → v = 0 ∧ ck (oc h2) (x + 1) b L m T st f ∧ ∃ s2, cw (oc h2) x nl s2) ∧ frC x (oc h) (oc h2) ∧ h2.1 = h.1
theorem lwC_l {x L m k nl s : Nat} {b : Nat → Int32} {T : Nat → Int32 × Int32} {st : Nat → Nat} {h h2 : jH} {v : Int32} {r : jRd} {l : List (Int32 × Int32)} (e : r = .inl (k, l)) (hv : v = 1) (R : cc (oc h2) x b L m T st k nl (s + l.length)) (w : cwA (oc h) (oc h2) x nl s (l.map cod)) (f : frC x (oc h) (oc h2)) (z : h2.1 = h.1) : lwC x b L m T st h v h2 nl s r :=
  ⟨fun d y => (by rw [e] at y; cases y; exact ⟨hv, R, w⟩), fun d y => (by rw [e] at y; cases y), f, z⟩
theorem lwC_r {x L m k nl s : Nat} {b : Nat → Int32} {T : Nat → Int32 × Int32} {st : Nat → Nat} {h h2 : jH} {v : Int32} {r : jRd} (e : r = .inr k) (hv : v = 0) (g : ck (oc h2) (x + 1) b L m T st k) (c : ∃ s2, cw (oc h2) x nl s2) (f : frC x (oc h) (oc h2)) (z : h2.1 = h.1) : lwC x b L m T st h v h2 nl s r :=
  ⟨fun d y => (by rw [e] at y; cases y), fun d y => (by rw [e] at y; cases y; exact ⟨hv, g, c⟩), f, z⟩
theorem lwC_sq {x L m nl s : Nat} {b : Nat → Int32} {T : Nat → Int32 × Int32} {st : Nat → Nat} {h h2 h3 : jH} {v : Int32} {a : jRd} {f : Nat → jRd} {d : Nat × List (Int32 × Int32)} (ha : a = .inl d) (w : cwA (oc h) (oc h2) x nl s (d.2.map cod)) (f12 : frC x (oc h) (oc h2)) (z12 : h2.1 = h.1) (B : lwC x b L m T st h2 v h3 nl (s + d.2.length) (f d.1)) : lwC x b L m T st h v h3 nl s (sqP a f) := by
  obtain ⟨B1, B2, B3, B4⟩ := B
  refine ⟨fun r y => ?_, fun g y => ?_, frC_tr f12 B3, B4.trans z12⟩
  · obtain ⟨d2, e, a1, a2, a3⟩ := sq_inv y
    cases ha.symm.trans a1
    subst a3
    obtain ⟨q1, q2, q3⟩ := B1 e a2
    dsimp only
    rw [List.length_append, ← Nat.add_assoc, List.map_append]
    exact ⟨q1, q2, cwA_tr w (by rw [List.length_map]; exact q3)⟩
  · rcases hf : f d.1 with e | e
    · rw [sq_ll ha hf] at y
      cases y
    · rw [sq_lr ha hf] at y
      cases y
      exact B2 _ hf
theorem cc_5 {O O2 : jO} {x L m k k2 nl s : Nat} {b : Nat → Int32} {T : Nat → Int32 × Int32} {st : Nat → Nat} (R : cc O x b L m T st k nl s) (K : ck O2 (x + 1) b L m T st k2) (f : ∀ a j : Nat, ¬ (a = x + 1 ∧ j = 5) → O2 a j = O a j) (hk : k ≤ k2) : cc O2 x b L m T st k2 nl s := by
  obtain ⟨-, a, ⟨c1, c2, c3, c4, c5⟩, d⟩ := R
  have g : ∀ j, oi O2 (x + 28) j = oi O (x + 28) j := fun j => by unfold oi; rw [f _ _ (by omega)]
  exact ⟨K, rlS_C a (frC_5 f), ⟨lawS_C c1 (frC_5 f), (g 6).trans c2, (g 8).trans c3, c4, c5⟩, by omega⟩
theorem lwC_cw {x L m nl s : Nat} {b : Nat → Int32} {T : Nat → Int32 × Int32} {st : Nat → Nat} {h h2 : jH} {v : Int32} {r : jRd} (A : lwC x b L m T st h v h2 nl s r) : ∃ s2, cw (oc h2) x nl s2 := by
  rcases r with d | f
  · exact ⟨_, (A.1 d rfl).2.1.2.2.1⟩
  · exact (A.2.1 f rfl).2.2
theorem E_X2_addCode {x : Nat} {nl : Nat} {s : Nat} {n : Nat} {a0 : Nat} {x1 : Int32} {h : jH} {q : jH} (ha : a0 = x + 28) (C : cw (oc h) x nl s) (hf : F_X2_addCode n a0 x1 h = some q) : (s < 400 → cw (oc q) x nl (s + 1) ∧ cwA (oc h) (oc q) x nl s [x1]) ∧ (∀ a k : Nat, ¬ (a = x + 28 ∧ k = 6) → a ≠ x + 31 → a ≠ x + 32 → oc q a k = oc h a k) ∧ q.1 = h.1 ∧ ∃ s2, cw (oc q) x nl s2 := by
  unfold F_X2_addCode at hf
  subst ha
  obtain ⟨LS, g6, g8, n1, n12⟩ := C
  replace hf := jbind hf
  obtain ⟨v1, e1, hf⟩ := hf
  have r1 := oc_gI e1
  subst r1
  clear e1
  replace hf := jite hf
  rcases hf with ⟨c2, hf⟩ | ⟨c2, hf⟩
  · skip
    cases hf
    -- leaf 0: h
    rw [g6, Int32.le_iff_toInt_le] at c2
    refine ⟨fun z => ?_, fun _ _ _ _ _ => rfl, rfl, s, LS, g6, g8, n1, n12⟩
    rw [nI_toInt (by omega), show (400 : Int32).toInt = 400 from rfl] at c2
    omega
  · skip
    replace hf := jbind hf
    obtain ⟨v11, e3, hf⟩ := hf
    have r3 := oc_gI e3
    subst r3
    clear e3
    replace hf := jite hf
    rcases hf with ⟨c4, hf⟩ | ⟨c4, hf⟩
    · skip
      cases hf
      -- leaf 10: h
      rw [g8, Int32.le_iff_toInt_le, nI_toInt (by omega), show (0 : Int32).toInt = 0 from rfl] at c4
      omega
    · skip
      replace hf := jbind hf
      obtain ⟨p18, e5, hf⟩ := hf
      have r5 := oc_gR e5
      rw [LS.2.2.2.1] at r5
      cases r5
      clear e5
      replace hf := jbind hf
      obtain ⟨v22, e6, hf⟩ := hf
      have r6 := oc_gI e6
      subst r6
      clear e6
      replace hf := jbind hf
      obtain ⟨h26, e7, hf⟩ := hf
      obtain ⟨o7, z7, y7⟩ := oc_as e7
      rw [jnar0] at o7
      clear e7
      replace hf := jbind hf
      obtain ⟨v29, e8, hf⟩ := hf
      have r8 := oc_gI e8
      rw [o7] at r8
      rw [oi_ne (Or.inl (by omega))] at r8
      subst r8
      clear e8
      replace hf := jbind hf
      obtain ⟨h34, e9, hf⟩ := hf
      obtain ⟨o9, z9⟩ := oc_pf e9
      clear e9
      replace hf := jbind hf
      obtain ⟨p38, e10, hf⟩ := hf
      have r10 := oc_gR e10
      rw [o9] at r10
      rw [u2_ne (Or.inr (by decide))] at r10
      rw [o7] at r10
      rw [u2_ne (Or.inl (by omega))] at r10
      rw [LS.2.2.1] at r10
      cases r10
      clear e10
      replace hf := jbind hf
      obtain ⟨v42, e11, hf⟩ := hf
      have r11 := oc_gI e11
      rw [o9] at r11
      rw [oi_ne (Or.inr (by decide))] at r11
      rw [o7] at r11
      rw [oi_ne (Or.inl (by omega))] at r11
      subst r11
      clear e11
      replace hf := jbind hf
      obtain ⟨v48, e12, hf⟩ := hf
      have r12 := oc_gI e12
      rw [o9] at r12
      rw [oi_eq] at r12
      subst r12
      clear e12
      replace hf := jbind hf
      obtain ⟨h51, e13, hf⟩ := hf
      obtain ⟨o13, z13, y13⟩ := oc_as e13
      rw [jnar0] at o13
      clear e13
      cases hf
      -- leaf 11: h51
      have o7 : oc h26 = u2 (oc h) (x + 32) _ (.int x1) := o7
      have o13 : oc q = u2 (oc h34) (x + 31) _ (.int _) := o13
      have F0 : (∀ a k : Nat, ¬ (a = x + 28 ∧ k = 6) → a ≠ x + 31 → a ≠ x + 32 → oc q a k = oc h a k) := fun a k h2 h3 h4 => by rw [o13, u2_ne (by omega), o9, u2_ne (by omega), o7, u2_ne (by omega)]
      have F : frC x (oc h) (oc q) := fun a k _ h2 h3 h4 => F0 a k h2 h3 h4
      have g60 := g6
      rw [g6, nI_1] at o9
      refine ⟨fun hs => ?_, F0, z13.trans (z9.trans z7), s + 1, lawS_C LS F, by rw [o13, oi_ne (Or.inl (by omega)), o9, oi_eq], by rw [o13, oi_ne (Or.inl (by omega)), o9, oi_ne (Or.inr (by decide)), o7, oi_ne (Or.inl (by omega))]; exact g8, n1, n12⟩
      rw [g6, nI_cl (by omega)] at o7
      rw [g8, show (1 : Int32) = nI 1 from rfl, nI_sb n1 (by omega), nI_cl (by omega), g6] at o13
      rw [show nI s + nI 1 = nI (s + 1) from nI_add s 1] at o13
      refine ⟨⟨lawS_C LS F, ?_, ?_, n1, n12⟩, fun i => ?_, fun i => ?_, F⟩
      · rw [o13, oi_ne (Or.inl (by omega)), o9, oi_eq]
      · rw [o13, oi_ne (Or.inl (by omega)), o9, oi_ne (Or.inr (by decide)), o7, oi_ne (Or.inl (by omega))]; exact g8
      · rw [o13, oi_ne (Or.inl (by omega)), o9, oi_ne (Or.inl (by omega)), o7]
        by_cases y : i = s
        · subst y
          rw [oi_eq, if_pos (by simp)]
          simp
        · rw [oi_ne (Or.inr y), if_neg (by simp; omega)]
      · rw [o13]
        by_cases y : i + 1 = nl
        · rw [show nl - 1 = i by omega, oi_eq, if_pos ⟨y, by simp⟩]
          rfl
        · rw [oi_ne (Or.inr (by omega)), if_neg (fun z => y z.1), o9, oi_ne (Or.inl (by omega)), o7, oi_ne (Or.inl (by omega))]
theorem cc_em {x L m k nl s n : Nat} {b : Nat → Int32} {T : Nat → Int32 × Int32} {st : Nat → Nat} {c : Int32} {h q : jH} (R : cc (oc h) x b L m T st k nl s) (hs : s + 1 ≤ k) (e : F_X2_addCode n (x + 28) c h = some q) : cc (oc q) x b L m T st k nl (s + 1) ∧ cwA (oc h) (oc q) x nl s [c] ∧ frC x (oc h) (oc q) ∧ q.1 = h.1 := by
  obtain ⟨a, b2, c2, d⟩ := R
  obtain ⟨e1, e2, e3, -⟩ := E_X2_addCode rfl c2 e
  have hk := a.2.2.2.2.1
  have hm := a.2.2.1
  obtain ⟨e4, e5⟩ := e1 (by omega)
  have F : frC x (oc h) (oc q) := fun i j _ h2 h3 h4 => e2 i j h2 h3 h4
  exact ⟨⟨ck_fr a (fun i j h1 h2 => e2 i j (by omega) (by omega) (by omega)), rlS_C b2 F, e4, hs⟩, e5, F, e3⟩
theorem ck_em {x L m k nl s n : Nat} {b : Nat → Int32} {T : Nat → Int32 × Int32} {st : Nat → Nat} {v : Int32} {h q : jH} (R : ck (oc h) (x + 1) b L m T st k) (C : cw (oc h) x nl s) (e : F_X2_addCode n (x + 28) v h = some q) : ck (oc q) (x + 1) b L m T st k ∧ frC x (oc h) (oc q) ∧ q.1 = h.1 ∧ ∃ s2, cw (oc q) x nl s2 := by
  obtain ⟨-, e2, e3, e4⟩ := E_X2_addCode rfl C e
  exact ⟨ck_fr R (fun i j h1 h2 => e2 i j (by omega) (by omega) (by omega)), fun i j _ h2 h3 h4 => e2 i j h2 h3 h4, e3, e4⟩
end
section
/-! sums, the class -/
def lpS (T : Nat → Int32 × Int32) (fl : Int32) (F k : Nat) : jRd := if fl = 0 then sqP (rdPart T k) (fun j => rdSL T F j) else sqP (rdPart T k) (fun j => sqP (.inl (j, [(12, 0)])) (fun i => rdSL T F i))
def gS (x : Nat) (b : Nat → Int32) (L m : Nat) (T : Nat → Int32 × Int32) (st : Nat → Nat) (rcc : Nat → Int32 → Int32 → jH → Option (Int32 × jH)) : Prop :=
  ∀ (k nl s j F : Nat) (x1 : Int32) (h : jH) (q : Int32 × jH), cc (oc h) x b L m T st k nl s → (x1 = 0 ∨ x1 = 1) → (x1 = 1 → s + 1 ≤ k) → 2 * j ≤ k → m < k + 1 + F → rcc (x + 35) x1 (nI j) h = some q → lwC x b L m T st h q.1 q.2 nl s (lpS T x1 F k)
theorem lwC_nl {x L m k nl s : Nat} {b : Nat → Int32} {T : Nat → Int32 × Int32} {st : Nat → Nat} {h h2 : jH} {v : Int32} {r : jRd} (e : r = .inl (k, [])) (hv : v = 1) (R : cc (oc h2) x b L m T st k nl s) (f : ∀ a j : Nat, ¬ (a = x + 1 ∧ j = 5) → oc h2 a j = oc h a j) (z : h2.1 = h.1) : lwC x b L m T st h v h2 nl s r := lwC_l e hv R (cwA_0 f) (frC_5 f) z
theorem cod_p {T : Nat → Int32 × Int32} {k : Nat} (h : (T k).1.toInt ≤ 10) : cod ((T k).1, 0) = (T k).1 := if_pos h
theorem cod_n {v : Int32} : cod (11, v) = 256 + v := by
  unfold cod
  rw [if_neg (show ¬ (11 : Int32).toInt ≤ 10 by decide), if_pos rfl]
theorem cc_k {O : jO} {x L m k nl s : Nat} {b : Nat → Int32} {T : Nat → Int32 × Int32} {st : Nat → Nat} (R : cc O x b L m T st k nl s) : k ≤ m ∧ m ≤ 400 := ⟨R.1.2.2.2.2.1, R.1.2.2.1⟩
theorem E_X3_readSum_94 {b : Nat → Int32} {L : Nat} {m : Nat} {T : Nat → Int32 × Int32} {st : Nat → Nat} {en : Nat → Nat} {x : Nat} {nl : Nat} {k : Nat} {s : Nat} {j : Nat} {F : Nat} {n : Nat} {rc4 : Nat → Int32 → Int32 → jH → Option (Int32 × jH)} {a0 : Nat} {x2 : Int32} {h : jH} {q : Int32 × jH} (H : tkE b L m T st en) (G : gS x b L m T st rc4) (ha : a0 = x + 35) (R : cc (oc h) x b L m T st k nl s) (hx : x2 = nI j) (hj : 2 * j + 1 ≤ k) (hF : m < k + F) (hf : F_X3_readSum_94 n rc4 a0 x2 h = some q) : lwC x b L m T st h q.1 q.2 nl s (rdSL T F k) := by
  unfold F_X3_readSum_94 at hf
  subst ha
  have kk := cc_k R
  obtain ⟨F, rfl⟩ : ∃ F2, F = F2 + 1 := ⟨F - 1, by omega⟩
  replace hf := jbind hf
  obtain ⟨p95, e1, hf⟩ := hf
  have r1 := oc_gR e1
  rw [R.2.1.1] at r1
  cases r1
  clear e1
  replace hf := jbind hf
  obtain ⟨q100, e2, hf⟩ := hf
  replace e2 := (jcv_o e2).2
  obtain ⟨r2, f2, z2⟩ := E_X10_take (x1 := 43) R.1 (by decide) e2
  have SS2 : rlS (oc q100.2) x := rlS_C R.2.1 (frC_5 f2)
  replace hf := jite hf
  rcases hf with ⟨c3, hf⟩ | ⟨c3, hf⟩
  · skip
    cases hf
    -- leaf 0: ((1 : Int32), q100.2)
    rcases r2 with ⟨-, w, -⟩ | ⟨t2, w2⟩
    · exact absurd (c3.symm.trans w) (by decide)
    rw [w2]
    exact lwC_nl (if_neg t2) rfl R (fun _ _ _ => rfl) rfl
  · skip
    -- leaf 1: rc4 a0 q100.1 (x2 + (1 : Int32)) q100.2
    rcases r2 with ⟨t2, v2, K2⟩ | ⟨-, w⟩
    rotate_left
    · exact absurd (by rw [w]) c3
    have R2 := cc_5 R K2 f2 (Nat.le_succ _)
    have sk := R.2.2.2
    rw [hx, nI_1, v2] at hf
    have B := G (k + 1) nl s (j + 1) F 1 q100.2 q R2 (Or.inr rfl) (fun _ => by omega) (by omega) (by omega) hf
    have E : rdSL T (F + 1) k = lpS T 1 F (k + 1) := (if_pos t2).trans (if_neg (by decide)).symm
    rw [E]
    exact ⟨fun d y => by
      obtain ⟨b1, b2, b3⟩ := B.1 d y
      have b4 := cwA_tr (cwA_0 (nl := nl) (s := s) f2) (by simpa using b3)
      exact ⟨b1, b2, by simpa using b4⟩, B.2.1, frC_tr (frC_5 f2) B.2.2.1, B.2.2.2.trans z2⟩
theorem E_X3_readSum_81 {b : Nat → Int32} {L : Nat} {m : Nat} {T : Nat → Int32 × Int32} {st : Nat → Nat} {en : Nat → Nat} {x : Nat} {nl : Nat} {k : Nat} {s : Nat} {j : Nat} {F : Nat} {n : Nat} {rc4 : Nat → Int32 → Int32 → jH → Option (Int32 × jH)} {a0 : Nat} {x1 : Int32} {x2 : Int32} {h : jH} {q : Int32 × jH} (H : tkE b L m T st en) (G : gS x b L m T st rc4) (ha : a0 = x + 35) (R : cc (oc h) x b L m T st k nl s) (hx : x2 = nI j) (hj : 2 * j + 1 ≤ k) (hF : m < k + F) (hs : x1 ≠ 0 → s + 1 ≤ k) (hf : F_X3_readSum_81 n rc4 a0 x1 x2 h = some q) : lwC x b L m T st h q.1 q.2 nl s (if x1 = 0 then rdSL T F k else sqP (.inl (k, [(12, 0)])) (fun i => rdSL T F i)) := by
  unfold F_X3_readSum_81 at hf
  subst ha
  replace hf := jite hf
  rcases hf with ⟨c1, hf⟩ | ⟨c1, hf⟩
  · skip
    -- leaf 0: F_X3_readSum_94 n rc4 a0 x2 h
    rw [if_pos c1]
    exact E_X3_readSum_94 H G rfl R hx hj hF hf
  · skip
    replace hf := jbind hf
    obtain ⟨p86, e2, hf⟩ := hf
    have r2 := oc_gR e2
    rw [R.2.1.2.2] at r2
    cases r2
    clear e2
    replace hf := jbind hf
    obtain ⟨h91, e3, hf⟩ := hf
    replace e3 := (jcv_o e3).2
    have hs := hs c1
    obtain ⟨R3, w3, f3, z3⟩ := cc_em R (by omega) e3
    -- leaf 1: F_X3_readSum_94 n rc4 a0 x2 h91
    rw [if_neg c1]
    have B := E_X3_readSum_94 H G rfl R3 hx hj hF hf
    exact lwC_sq (f := fun i => rdSL T F i) (d := (k, [(12, 0)])) rfl w3 f3 z3 B
theorem E_X3_readSum_47 {b : Nat → Int32} {L : Nat} {m : Nat} {T : Nat → Int32 × Int32} {st : Nat → Nat} {en : Nat → Nat} {x : Nat} {nl : Nat} {k : Nat} {s : Nat} {j : Nat} {F : Nat} {n : Nat} {rc4 : Nat → Int32 → Int32 → jH → Option (Int32 × jH)} {a0 : Nat} {x1 : Int32} {x2 : Int32} {h : jH} {q : Int32 × jH} (H : tkE b L m T st en) (G : gS x b L m T st rc4) (ha : a0 = x + 35) (R : cc (oc h) x b L m T st k nl s) (hx : x2 = nI j) (h01 : x1 = 0 ∨ x1 = 1) (hs : x1 = 1 → s + 1 ≤ k) (hj : 2 * j ≤ k) (hF : m < k + 1 + F) (np : ¬ (0 ≤ (T k).1.toInt ∧ (T k).1.toInt ≤ 6)) (hf : F_X3_readSum_47 n rc4 a0 x1 x2 h = some q) : lwC x b L m T st h q.1 q.2 nl s (lpS T x1 F k) := by
  unfold F_X3_readSum_47 at hf
  subst ha
  have sk := R.2.2.2
  replace hf := jbind hf
  obtain ⟨p48, e1, hf⟩ := hf
  have r1 := oc_gR e1
  rw [R.2.1.1] at r1
  cases r1
  clear e1
  replace hf := jbind hf
  obtain ⟨q55, e2, hf⟩ := hf
  replace e2 := (jcv_o e2).2
  obtain ⟨r2, f2, z2⟩ := E_X10_takeNumber R.1 e2
  have SS2 : rlS (oc q55.2) x := rlS_C R.2.1 (frC_5 f2)
  replace hf := jite hf
  rcases hf with ⟨c3, hf⟩ | ⟨c3, hf⟩
  · skip
    cases hf
    -- leaf 0: ((0 : Int32), q55.2)
    rcases r2 with ⟨y2, w, -⟩ | ⟨y2, w⟩
    · exfalso
      have := y2.2.1
      rw [← w, c3] at this
      exact absurd this (by decide)
    rw [w]
    have e9 : rdPart T k = .inr k := by unfold rdPart; rw [if_neg np, if_neg y2]
    unfold lpS
    split
    · exact lwC_r (sq_r e9) rfl R.1 ⟨s, R.2.2.1⟩ frC_0 rfl
    · exact lwC_r (sq_r e9) rfl R.1 ⟨s, R.2.2.1⟩ frC_0 rfl
  · skip
    replace hf := jbind hf
    obtain ⟨p69, e4, hf⟩ := hf
    have r4 := oc_gR e4
    rw [SS2.2.2] at r4
    cases r4
    clear e4
    replace hf := jbind hf
    obtain ⟨h78, e5, hf⟩ := hf
    replace e5 := (jcv_o e5).2
    rcases r2 with ⟨y2, v2, K2⟩ | ⟨-, w⟩
    rotate_left
    · exact absurd (by rw [w]) c3
    have R2 := cc_5 R K2 f2 (Nat.le_succ _)
    obtain ⟨R5, w5, f5, z5⟩ := cc_em R2 (by omega) e5
    -- leaf 1: F_X3_readSum_81 n rc4 a0 x1 x2 h78
    rw [v2] at w5
    have w6 : cwA (oc h) (oc h78) x nl s ([(11, (T k).2)].map cod) := by
      have b4 := cwA_tr (cwA_0 (nl := nl) (s := s) f2) (by simpa using w5)
      show cwA _ _ _ _ _ [cod (11, (T k).2)]
      rw [cod_n]
      simpa using b4
    have B := E_X3_readSum_81 (F := F) H G rfl R5 hx (by omega) (by omega) (fun y => by have := hs (h01.resolve_left y); omega) hf
    unfold lpS
    have e9 : rdPart T k = .inl (k + 1, [(11, (T k).2)]) := by unfold rdPart; rw [if_neg np, if_pos y2]
    by_cases y : x1 = 0
    · rw [if_pos y]
      rw [if_pos y] at B
      exact lwC_sq e9 w6 (frC_tr (frC_5 f2) f5) (z5.trans z2) B
    · rw [if_neg y]
      rw [if_neg y] at B
      exact lwC_sq (f := fun j => sqP (.inl (j, [(12, 0)])) (fun i => rdSL T F i)) e9 w6 (frC_tr (frC_5 f2) f5) (z5.trans z2) B
theorem E_X3_readSum_4 {n : Nat} {b : Nat → Int32} {L : Nat} {m : Nat} {T : Nat → Int32 × Int32} {st : Nat → Nat} {en : Nat → Nat} {x : Nat} {nl : Nat} (H : tkE b L m T st en) : ∀ (k : Nat) {a0 : Nat} {x1 : Int32} {x2 : Int32} {h : jH} {q : Int32 × jH} (k0 : Nat) (s : Nat) (j : Nat) (F : Nat) (ha : a0 = x + 35) (R : cc (oc h) x b L m T st k0 nl s) (hx : x2 = nI j) (h01 : x1 = 0 ∨ x1 = 1) (hs : x1 = 1 → s + 1 ≤ k0) (hj : 2 * j ≤ k0) (hF : m < k0 + 1 + F), F_X3_readSum_4 n k a0 x1 x2 h = some q → lwC x b L m T st h q.1 q.2 nl s (lpS T x1 F k0)
  | 0, a0, x1, x2, h, q, k0, s, j, F, ha, R, hx, h01, hs, hj, hF, hf => by cases hf
  | k + 1, a0, x1, x2, h, q, k0, s, j, F, ha, R, hx, h01, hs, hj, hF, hf => by
    replace hf : F_X3_readSum_4_b n (F_X3_readSum_4 n k) a0 x1 x2 h = some q := hf
    unfold F_X3_readSum_4_b at hf
    subst ha
    have kk := cc_k R
    have sk := R.2.2.2
    replace hf := jite hf
    rcases hf with ⟨c1, hf⟩ | ⟨c1, hf⟩
    · skip
      cases hf
      -- leaf 0: ((0 : Int32), h)
      rw [hx, Int32.le_iff_toInt_le, nI_toInt (by omega), show (400 : Int32).toInt = 400 from rfl] at c1
      omega
    · skip
      replace hf := jbind hf
      obtain ⟨p12, e2, hf⟩ := hf
      have r2 := oc_gR e2
      rw [R.2.1.1] at r2
      cases r2
      clear e2
      replace hf := jbind hf
      obtain ⟨v15, e3, hf⟩ := hf
      replace e3 := (jcv_o e3).2
      have r3 := E_X10_kind R.1 e3
      have GG : gS x b L m T st (F_X3_readSum_4 n k) := fun k2 nl2 s2 j2 F2 y1 h2 q2 a1 a2 a3 a4 a5 a6 => E_X3_readSum_4 H k k2 s2 j2 F2 rfl a1 rfl a2 a3 a4 a5 a6
      replace hf := jite hf
      rcases hf with ⟨c4, hf⟩ | ⟨c4, hf⟩
      · skip
        -- leaf 10: F_X3_readSum_47 n rc4 a0 x1 x2 h
        exact E_X3_readSum_47 H GG rfl R hx h01 hs hj hF (fun z => by rw [r3, Int32.lt_iff_toInt_lt] at c4; have l0 : (0 : Int32).toInt = 0 := rfl; omega) hf
      · skip
        replace hf := jite hf
        rcases hf with ⟨c5, hf⟩ | ⟨c5, hf⟩
        · skip
          -- leaf 110: F_X3_readSum_47 n rc4 a0 x1 x2 h
          exact E_X3_readSum_47 H GG rfl R hx h01 hs hj hF (fun z => by rw [r3, Int32.lt_iff_toInt_lt] at c5; have l6 : (6 : Int32).toInt = 6 := rfl; omega) hf
        · skip
          replace hf := jbind hf
          obtain ⟨p30, e6, hf⟩ := hf
          have r6 := oc_gR e6
          rw [R.2.1.1] at r6
          cases r6
          clear e6
          replace hf := jbind hf
          obtain ⟨h33, e7, hf⟩ := hf
          replace e7 := (jcv_o e7).2
          have np : 0 ≤ (T k0).1.toInt ∧ (T k0).1.toInt ≤ 6 := by
            rw [r3, Int32.lt_iff_toInt_lt] at c4
            rw [r3, Int32.lt_iff_toInt_lt] at c5
            have l0 : (0 : Int32).toInt = 0 := rfl
            have l6 : (6 : Int32).toInt = 6 := rfl
            omega
          obtain ⟨K7, f7, z7⟩ := E_X10_skip R.1 (fun y => by rw [y] at np; exact absurd np.1 (by decide)) e7
          have R7 := cc_5 R K7 f7 (Nat.le_succ _)
          replace hf := jbind hf
          obtain ⟨p37, e8, hf⟩ := hf
          have r8 := oc_gR e8
          rw [R7.2.1.2.2] at r8
          cases r8
          clear e8
          replace hf := jbind hf
          obtain ⟨h41, e9, hf⟩ := hf
          replace e9 := (jcv_o e9).2
          obtain ⟨R9, w9, f9, z9⟩ := cc_em R7 (by omega) e9
          -- leaf 111: F_X3_readSum_81 n rc4 a0 x1 x2 h41
          rw [r3] at w9
          have w6 : cwA (oc h) (oc h41) x nl s ([((T k0).1, 0)].map cod) := by
            have b4 := cwA_tr (cwA_0 (nl := nl) (s := s) f7) (by simpa using w9)
            show cwA _ _ _ _ _ [cod ((T k0).1, 0)]
            rw [cod_p (by omega)]
            simpa using b4
          have B := E_X3_readSum_81 (F := F) H GG rfl R9 hx (by omega) (by omega) (fun y => by have := hs (h01.resolve_left y); omega) hf
          unfold lpS
          have e9 : rdPart T k0 = .inl (k0 + 1, [((T k0).1, 0)]) := by unfold rdPart; rw [if_pos np]
          by_cases y : x1 = 0
          · rw [if_pos y]
            rw [if_pos y] at B
            exact lwC_sq e9 w6 (frC_tr (frC_5 f7) f9) (z9.trans z7) B
          · rw [if_neg y]
            rw [if_neg y] at B
            exact lwC_sq (f := fun j => sqP (.inl (j, [(12, 0)])) (fun i => rdSL T F i)) e9 w6 (frC_tr (frC_5 f7) f9) (z9.trans z7) B
theorem E_X3_readSum {b : Nat → Int32} {L : Nat} {m : Nat} {T : Nat → Int32 × Int32} {st : Nat → Nat} {en : Nat → Nat} {x : Nat} {nl : Nat} {k : Nat} {s : Nat} {F : Nat} {n : Nat} {a0 : Nat} {h : jH} {q : Int32 × jH} (H : tkE b L m T st en) (ha : a0 = x + 35) (R : cc (oc h) x b L m T st k nl s) (hF : m < k + 1 + F) (hf : F_X3_readSum n a0 h = some q) : lwC x b L m T st h q.1 q.2 nl s (rdSum T F k) := by
  unfold F_X3_readSum at hf
  subst ha
  -- leaf : F_X3_readSum_4 n n a0 (0 : Int32) (0 : Int32) h
  exact E_X3_readSum_4 H n k s 0 F rfl R rfl (Or.inl rfl) (fun z => absurd z (by decide)) (by omega) hF hf
end
section
/-! it doesn't matter how far one may look, if it is far enough -/
theorem sq_c {a : jRd} {f g : Nat → jRd} (h : ∀ d, a = .inl d → f d.1 = g d.1) : sqP a f = sqP a g := by
  rcases a with d | e
  · have := h d rfl
    show (match f d.1 with | .inr e => .inr e | .inl e => .inl (e.1, d.2 ++ e.2) : jRd) = _
    rw [this]
    rfl
  · rfl
theorem sq_as {a : jRd} {f g : Nat → jRd} : sqP (sqP a f) g = sqP a (fun j => sqP (f j) g) := by
  rcases ha : a with d | e
  · rcases hf : f d.1 with e | e
    · rcases hg : g e.1 with r | r
      · rw [sq_ll (sq_ll rfl hf) hg, sq_ll (f := fun j => sqP (f j) g) rfl (sq_ll hf hg), List.append_assoc]
      · rw [sq_lr (sq_ll rfl hf) hg, sq_lr (f := fun j => sqP (f j) g) rfl (sq_lr hf hg)]
    · rw [sq_r (sq_lr rfl hf), sq_lr (f := fun j => sqP (f j) g) rfl (sq_r hf)]
  · rfl
theorem sq_0 {f : Nat → jRd} {k : Nat} : sqP (.inl (k, [])) f = f k := by
  rcases hf : f k with e | e
  · exact sq_ll rfl hf
  · exact sq_lr rfl hf
def cwN (w : Nat) : Nat := if w = 0 then 3 else if w = 2 then 2 else 1
section
variable {b : Nat → Int32} {L m : Nat} {T : Nat → Int32 × Int32} {st en : Nat → Nat}
theorem sl_f (H : tkE b L m T st en) : ∀ (F : Nat) {k : Nat}, k ≤ m → m < k + F → rdSL T F k = rdSL T (F + 1) k
  | 0, k, hk, hF => by omega
  | F + 1, k, hk, hF => by
    unfold rdSL
    split
    · refine sq_c fun d hd => sq_c fun e he => ?_
      cases he
      obtain ⟨c1, c2, c3⟩ := part_i H hd
      exact sl_f H F (by omega) (by omega)
    · rfl
theorem sum_f (H : tkE b L m T st en) {F k : Nat} (hF : m < k + 1 + F) : rdSum T F k = rdSum T (F + 1) k := by
  refine sq_c fun d hd => ?_
  obtain ⟨c1, c2, c3⟩ := part_i H hd
  exact sl_f H F (by omega) (by omega)
theorem g_f (H : tkE b L m T st en) : ∀ (F : Nat) {w dp k : Nat}, k ≤ m → w ≤ 4 → 4 * m + cwN w ≤ F + 4 * k → rdG T F w dp k = rdG T (F + 1) w dp k
  | 0, w, dp, k, hk, hw, hF => by
    have : 1 ≤ cwN w := by unfold cwN; split <;> (try split) <;> omega
    omega
  | F + 1, w, dp, k, hk, hw, hF => by
    have tok : ∀ {c : Int32} {j : Nat}, (T j).1 = c → c ≠ -1 → j < m := fun h1 h2 => tk_m H (by rw [h1]; exact h2)
    rcases (by omega : w = 0 ∨ w = 1 ∨ w = 2 ∨ w = 3 ∨ w = 4) with y | y | y | y | y <;> subst y
    · have c : cwN 0 = 3 := rfl
      rw [rdG_0, rdG_0, ← g_f H F hk (by decide) (by have : cwN 2 = 2 := rfl; omega)]
      refine sq_c fun d hd => ?_
      have gi := g_i H F hk hd
      have gi4 := gi.2.2.2 (by decide)
      exact g_f H F gi.2.1 (by decide) (by have : cwN 4 = 1 := rfl; omega)
    · have c : cwN 1 = 1 := rfl
      rw [rdG_1, rdG_1]
      by_cases t : (T k).1 = 40
      · have tm := tok t (by decide)
        rw [if_pos t, if_pos t]
        split
        · rfl
        · rw [← g_f H F (by omega) (by decide) (by have : cwN 0 = 3 := rfl; omega)]
      · rw [if_neg t, if_neg t]
        by_cases t : (T k).1 = 11
        · have tm := tok t (by decide)
          rw [if_pos t, if_pos t]
          split
          · rfl
          · rw [← g_f H F (by omega) (by decide) (by omega)]
        · rw [if_neg t, if_neg t]
          split
          · rfl
          · rw [← sum_f H (F := F) (k := k) (by omega)]
            refine sq_c fun d hd => ?_
            obtain ⟨c1, c2, c3, c4⟩ := sum_i H hd
            rw [← sum_f H (F := F) (k := d.1 + 1) (by omega)]
    · have c : cwN 2 = 2 := rfl
      rw [rdG_2, rdG_2, ← g_f H F hk (by decide) (by have : cwN 1 = 1 := rfl; omega)]
      refine sq_c fun d hd => ?_
      have gi := g_i H F hk hd
      have gi4 := gi.2.2.2 (by decide)
      exact g_f H F gi.2.1 (by decide) (by have : cwN 3 = 1 := rfl; omega)
    · have c : cwN 3 = 1 := rfl
      rw [rdG_3, rdG_3]
      by_cases t : (T k).1 = 12
      · have tm := tok t (by decide)
        rw [if_pos t, if_pos t, ← g_f H F (by omega) (by decide) (by have : cwN 1 = 1 := rfl; omega)]
        refine sq_c fun d hd => sq_c fun e he => ?_
        cases he
        have gi := g_i H F (by omega) hd
        exact g_f H F gi.2.1 (by decide) (by omega)
      · rw [if_neg t, if_neg t]
    · have c : cwN 4 = 1 := rfl
      rw [rdG_4, rdG_4]
      by_cases t : (T k).1 = 13
      · have tm := tok t (by decide)
        rw [if_pos t, if_pos t, ← g_f H F (by omega) (by decide) (by have : cwN 2 = 2 := rfl; omega)]
        refine sq_c fun d hd => sq_c fun e he => ?_
        cases he
        have gi := g_i H F (by omega) hd
        exact g_f H F gi.2.1 (by decide) (by omega)
      · rw [if_neg t, if_neg t]
theorem g_2 (H : tkE b L m T st en) (hm : m ≤ 400) {w dp k : Nat} (hk : k ≤ m) (hw : w ≤ 4) : rdG T 2000 w dp k = rdG T (2000 + 1) w dp k := g_f H 2000 hk hw (by
  have : cwN w ≤ 3 := by unfold cwN; split <;> (try split) <;> omega
  omega)
end
end
