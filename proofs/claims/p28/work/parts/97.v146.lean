/-! a line of a law's text, the reference -/
abbrev jLn : Type := (Int32 × Int32) × List (Int32 × Int32)
def lnW (W : jWd) (n s : Nat) (e : jLn) : jWd := upd (emW (upd (upd (upd W (1285 + 4 * n) e.1.1) (1286 + 4 * n) e.1.2) (1287 + 4 * n) (nI s)) s e.2) (1288 + 4 * n) (nI (s + e.2.length))
def lwS (W0 : jWd) (S : List jLn) : jWd × Nat × Nat := S.foldl (fun a e => (lnW a.1 a.2.1 a.2.2 e, a.2.1 + 1, a.2.2 + e.2.length)) (W0, 0, 0)
theorem lwS_app {W0 : jWd} {S : List jLn} {e : jLn} : lwS W0 (S ++ [e]) = (lnW (lwS W0 S).1 (lwS W0 S).2.1 (lwS W0 S).2.2 e, (lwS W0 S).2.1 + 1, (lwS W0 S).2.2 + e.2.length) := by
  unfold lwS
  rw [List.foldl_append]
  rfl
def kdL (w : Int32) : Int32 := if w = 3 then 0 else if w = 15 then 1 else 2
/-- what comes behind a line's first word -/
def rdLT (T : Nat → Int32 × Int32) (k : Nat) : jRd := if nOK T k 0 100 then (if (T (k + 1)).1 = 14 then rdG T 2000 0 0 (k + 2) else .inl (k + 1, [])) else .inr k
def rdLaw (T : Nat → Int32 × Int32) (S : List jLn) (k : Nat) : (Nat × List jLn) ⊕ Nat :=
  if (T k).1 = 3 ∨ (T k).1 = 15 ∨ (T k).1 = 16 then
    match rdLT T (k + 1) with
    | .inr f => .inr f
    | .inl d => .inl (d.1, S ++ [((kdL (T k).1, (T (k + 1)).2), d.2)])
  else .inr k
/-- the reference behind j lines -/
def lawP (x : Nat) (W0 : jWd) (O : jO) (S : List jLn) (j k : Nat) : Prop := wl O x = (lwS W0 S).1 ∧ oi O x 16 = nI (lwS W0 S).2.2 ∧ (lwS W0 S).2.1 = j ∧ (lwS W0 S).2.2 ≤ k
theorem nI_l1 {n : Nat} : (1285 : Int32) + (4 : Int32) * nI n = nI (1285 + 4 * n) := by
  show nI 1285 + nI 4 * nI n = _
  rw [nI_mul, nI_add]
theorem E_X12_readLawLine_53 {b : Nat → Int32} {L : Nat} {m : Nat} {T : Nat → Int32 × Int32} {st : Nat → Nat} {en : Nat → Nat} {k : Nat} {W : jWd} {s : Nat} {j : Nat} {kd : Nat} {n : Nat} {a0 : Nat} {x2 : Int32} {sa0 : Nat} {s1 : Int32} {s2 : Int32} {h : jH} {q : Int32 × jH} (H : tkE b L m T st en) (hs : a0 + 1 = sa0) (h2 : x2 = s1) (hx : s1 = nI (1285 + 4 * j)) (hj : j < 12) (hk : s2 = nI kd) (hkd : kd ≤ 2) (R : rc (oc h) a0 b L st k) (hW : wl (oc h) a0 = W) (g : oi (oc h) a0 16 = nI s) (sk : s ≤ k) (hm4 : m ≤ 400) (hf : F_X12_readLawLine_53 n a0 x2 sa0 s1 s2 h = some q) : (∀ d, rdLT T k = .inl d → q.1 = 1 ∧ rc (oc q.2) a0 b L st d.1 ∧ wl (oc q.2) a0 = lnW W j s ((nI kd, (T k).2), d.2) ∧ oi (oc q.2) a0 16 = nI (s + d.2.length) ∧ s + d.2.length ≤ d.1) ∧ (∀ f, rdLT T k = .inr f → q.1 = 0 ∧ oi (oc q.2) a0 12 = nI (st f)) ∧ frQ a0 (oc h) (oc q.2) ∧ q.2.1 = h.1 := by
  unfold F_X12_readLawLine_53 at hf
  subst h2 hs hk
  subst hx
  have M := rc_mS R
  have x_1 : nI (1285 + 4 * j) + (1 : Int32) = nI (1286 + 4 * j) := by rw [nI_1]; congr 1; omega
  have x_2 : nI (1285 + 4 * j) + (2 : Int32) = nI (1287 + 4 * j) := by have : nI (1285 + 4 * j) + nI 2 = nI (1285 + 4 * j + 2) := nI_add _ _; rw [show (2 : Int32) = nI 2 from rfl, this]; congr 1; omega
  have x_3 : nI (1285 + 4 * j) + (3 : Int32) = nI (1288 + 4 * j) := by have : nI (1285 + 4 * j) + nI 3 = nI (1285 + 4 * j + 3) := nI_add _ _; rw [show (3 : Int32) = nI 3 from rfl, this]; congr 1; omega
  replace hf := jbind hf
  obtain ⟨h53, e1, hf⟩ := hf
  obtain ⟨o1, z1, y1⟩ := oc_as e1
  rw [jnar0] at o1
  clear e1
  replace hf := jbind hf
  obtain ⟨p55, e2, hf⟩ := hf
  have r2 := oc_gR e2
  rw [o1] at r2
  rw [u2_ne (Or.inl (by omega))] at r2
  rw [M.1] at r2
  cases r2
  clear e2
  replace hf := jbind hf
  obtain ⟨v59, e3, hf⟩ := hf
  obtain ⟨r3, y3⟩ := oc_al e3
  rw [o1] at r3
  rw [oi_eq] at r3
  subst r3
  clear e3
  replace hf := jite hf
  rcases hf with ⟨c4, hf⟩ | ⟨c4, hf⟩
  · skip
    replace hf := jbind hf
    obtain ⟨p66, e5, hf⟩ := hf
    have r5 := oc_gR e5
    rw [o1] at r5
    rw [u2_ne (Or.inl (by omega))] at r5
    rw [M.1] at r5
    cases r5
    clear e5
    replace hf := jbind hf
    obtain ⟨q76, e6, hf⟩ := hf
    replace e6 := (jcv_o e6).2
    rw [nI_cl (by omega)] at o1
    have f1 : frM a0 [1] [] (oc h) (oc h53) := by rw [o1]; exact frM_c (by decide)
    have F1 : frQ a0 (oc h) (oc h53) := by rw [o1]; exact frQ_w (by omega)
    have w1 : wl (oc h53) a0 = upd W (1285 + 4 * j) (nI kd) := by rw [o1, wl_w, hW]
    have R53 : rc (oc h53) a0 b L st k := rc_fr R f1 (by decide) (by decide) (by decide) (by decide) (by decide)
    obtain ⟨d6, M6, g6, f6, z6⟩ := T_number H (by decide) R53 e6
    have g16 : oi (oc q76.2) a0 16 = nI s := (frM_oi f6 (by decide) (by decide)).trans ((frM_oi f1 (by decide) (by decide)).trans g)
    replace hf := jbind hf
    obtain ⟨h79, e7, hf⟩ := hf
    obtain ⟨o7, z7, y7⟩ := oc_as e7
    rw [jnar0] at o7
    clear e7
    replace hf := jbind hf
    obtain ⟨p81, e8, hf⟩ := hf
    have r8 := oc_gR e8
    rw [o7] at r8
    rw [u2_ne (Or.inl (by omega))] at r8
    rw [M6.1] at r8
    cases r8
    clear e8
    replace hf := jbind hf
    obtain ⟨v87, e9, hf⟩ := hf
    obtain ⟨r9, y9⟩ := oc_al e9
    rw [o7] at r9
    rw [oi_eq] at r9
    subst r9
    clear e9
    replace hf := jite hf
    rcases hf with ⟨c10, hf⟩ | ⟨c10, hf⟩
    · skip
      replace hf := jbind hf
      obtain ⟨p94, e11, hf⟩ := hf
      have r11 := oc_gR e11
      rw [o7] at r11
      rw [u2_ne (Or.inl (by omega))] at r11
      rw [M6.1] at r11
      cases r11
      clear e11
      replace hf := jbind hf
      obtain ⟨v101, e12, hf⟩ := hf
      have r12 := oc_gI e12
      rw [o7] at r12
      rw [oi_ne (Or.inl (by omega))] at r12
      subst r12
      clear e12
      replace hf := jbind hf
      obtain ⟨h104, e13, hf⟩ := hf
      obtain ⟨o13, z13, y13⟩ := oc_as e13
      rw [jnar0] at o13
      clear e13
      replace hf := jbind hf
      obtain ⟨h107, e14, hf⟩ := hf
      obtain ⟨o14, z14⟩ := oc_pf e14
      clear e14
      replace hf := jbind hf
      obtain ⟨q113, e15, hf⟩ := hf
      replace e15 := (jcv_o e15).2
      rw [x_1, nI_cl (by omega)] at o7
      rw [x_2, nI_cl (by omega), g16] at o13
      rcases d6 with ⟨v6, y6, R6⟩ | ⟨v6, y6⟩
      rotate_left
      · rw [v6] at c10; exact absurd c10 (by decide)
      have km := tk_n3 H y6.1
      rw [v6] at o7
      have f7 : frM a0 [1] [13] (oc q76.2) (oc h107) := by rw [o14, o13, o7]; exact frM_tr (frM_c (by decide)) (frM_tr (frM_c (by decide)) (frM_f (by decide)))
      have F7 : frQ a0 (oc q76.2) (oc h107) := by rw [o14, o13, o7]; exact frQ_tr (frQ_w (by omega)) (frQ_tr (frQ_w (by omega)) (frQ_f (by decide)))
      have w7 : wl (oc h107) a0 = upd (upd (upd W (1285 + 4 * j) (nI kd)) (1286 + 4 * j) (T k).2) (1287 + 4 * j) (nI s) := by rw [o14, wl_n (by omega), o13, wl_w, o7, wl_w, wl_f f6 (by decide), w1]
      have R7 : rc (oc h107) a0 b L st (k + 1) := rc_fr R6 f7 (by decide) (by decide) (by decide) (by decide) (by decide)
      have d13 : oi (oc h107) a0 13 = nI 0 := by rw [o14, oi_eq]; rfl
      have s16 : oi (oc h107) a0 16 = nI s := (frM_oi f7 (by decide) (by decide)).trans g16
      obtain ⟨d15, g15, f15, z15⟩ := T_passes (w := 14) H (by decide) R7 e15
      have w15 : wl (oc q113.2) a0 = upd (upd (upd W (1285 + 4 * j) (nI kd)) (1286 + 4 * j) (T k).2) (1287 + 4 * j) (nI s) := (wl_f f15 (by decide)).trans w7
      have s15 : oi (oc q113.2) a0 16 = nI s := (frM_oi f15 (by decide) (by decide)).trans s16
      have FF : frQ a0 (oc h) (oc q113.2) := frQ_tr F1 (frQ_tr (fr2 f6) (frQ_tr F7 (fr2 f15)))
      have ZZ : q113.2.1 = h.1 := z15.trans (z14.trans (z13.trans (z7.trans (z6.trans z1))))
      have M15 : mS (oc q113.2) a0 := mS_fr (rc_mS R7) f15 (by decide) (by decide)
      replace hf := jite hf
      rcases hf with ⟨c16, hf⟩ | ⟨c16, hf⟩
      · skip
        replace hf := jbind hf
        obtain ⟨p129, e17, hf⟩ := hf
        have r17 := oc_gR e17
        rw [M15.1] at r17
        cases r17
        clear e17
        replace hf := jbind hf
        obtain ⟨v136, e18, hf⟩ := hf
        have r18 := oc_gI e18
        subst r18
        clear e18
        replace hf := jbind hf
        obtain ⟨h139, e19, hf⟩ := hf
        obtain ⟨o19, z19, y19⟩ := oc_as e19
        rw [jnar0] at o19
        clear e19
        cases hf
        -- leaf 000: ((1 : Int32), h139)
        rcases d15 with ⟨w, -⟩ | ⟨-, t15, R15⟩
        · exact absurd (c16.symm.trans w) (by decide)
        rw [x_3, nI_cl (by omega), s15] at o19
        have E : rdLT T k = .inl (k + 1, []) := by unfold rdLT; rw [if_pos y6, if_neg (show ¬ (T (k + 1)).1 = 14 from t15)]
        have f19 : frM a0 [1] [] (oc q113.2) (oc h139) := by rw [o19]; exact frM_c (by decide)
        have w19 : wl (oc h139) a0 = lnW W j s ((nI kd, (T k).2), []) := by rw [o19, wl_w, w15]; rfl
        have s19 : oi (oc h139) a0 16 = nI s := (frM_oi f19 (by decide) (by decide)).trans s15
        refine ⟨fun d y => ?_, fun f y => (by rw [E] at y; cases y), frQ_tr FF (by rw [o19]; exact frQ_w (by omega)), z19.trans ZZ⟩
        rw [E] at y
        cases y
        exact ⟨rfl, rc_fr R15 f19 (by decide) (by decide) (by decide) (by decide) (by decide), w19, s19, by simp; omega⟩
      · skip
        replace hf := jbind hf
        obtain ⟨q120, e20, hf⟩ := hf
        replace e20 := (jcv_o e20).2
        rcases d15 with ⟨-, t15, R15⟩ | ⟨w, -⟩
        rotate_left
        · exact absurd w c16
        have km2 := tk_m H (k := k + 1) (by rw [t15]; decide)
        have hm := H.2.2.2.1
        have m4 : m ≤ 400 := hm4
        have A := (R_MC H (n := n) 30).1 a0 (k + 1 + 1) _ s 0 2000 q113.2 q120 ⟨R15, w15, s15, (frM_oi f15 (by decide) (by decide)).trans d13, by omega, by omega, m4⟩ (by omega) (by omega) e20
        have M20 : mS (oc q120.2) a0 := mS_fr M15 (frQ_M A.2.2.1) (by decide) (by decide)
        have E : rdLT T k = rdG T 2000 0 0 (k + 2) := by unfold rdLT; rw [if_pos y6, if_pos (show (T (k + 1)).1 = 14 from t15)]
        replace hf := jite hf
        rcases hf with ⟨c21, hf⟩ | ⟨c21, hf⟩
        · skip
          cases hf
          -- leaf 0010: ((0 : Int32), q120.2)
          refine ⟨fun d y => ?_, fun f y => ?_, frQ_tr FF A.2.2.1, A.2.2.2.trans ZZ⟩
          · rw [E] at y; exact absurd (c21.symm.trans (A.1 d y).1) (by decide)
          · rw [E] at y; exact ⟨rfl, (A.2.1 f y).2⟩
        · skip
          replace hf := jbind hf
          obtain ⟨p129, e22, hf⟩ := hf
          have r22 := oc_gR e22
          rw [M20.1] at r22
          cases r22
          clear e22
          replace hf := jbind hf
          obtain ⟨v136, e23, hf⟩ := hf
          have r23 := oc_gI e23
          subst r23
          clear e23
          replace hf := jbind hf
          obtain ⟨h139, e24, hf⟩ := hf
          obtain ⟨o24, z24, y24⟩ := oc_as e24
          rw [jnar0] at o24
          clear e24
          cases hf
          -- leaf 0011: ((1 : Int32), h139)
          rw [x_3, nI_cl (by omega)] at o24
          have F24 : frQ a0 (oc q120.2) (oc h139) := by rw [o24]; exact frQ_w (by omega)
          have f24 : frM a0 [1] [] (oc q120.2) (oc h139) := by rw [o24]; exact frM_c (by decide)
          refine ⟨fun d y => ?_, fun f y => ?_, frQ_tr FF (frQ_tr A.2.2.1 F24), z24.trans (A.2.2.2.trans ZZ)⟩
          · rw [E] at y
            obtain ⟨-, Rd⟩ := A.1 d y
            have s24 : oi (oc q120.2) a0 16 = nI (s + d.2.length) := Rd.2.2.1
            rw [s24] at o24
            exact ⟨rfl, rc_fr Rd.1 f24 (by decide) (by decide) (by decide) (by decide) (by decide), by rw [o24, wl_w, Rd.2.1]; rfl, (frM_oi f24 (by decide) (by decide)).trans s24, Rd.2.2.2.2.1⟩
          · rw [E] at y
            exact absurd (A.2.1 f y).1 c21
    · skip
      cases hf
      -- leaf 01: ((0 : Int32), h79)
      rw [x_1, nI_cl (by omega)] at o7
      have F7 : frQ a0 (oc q76.2) (oc h79) := by rw [o7]; exact frQ_w (by omega)
      have f7 : frM a0 [1] [] (oc q76.2) (oc h79) := by rw [o7]; exact frM_c (by decide)
      have ny : ¬ nOK T k 0 100 := by
        rcases d6 with ⟨v6, y6, -⟩ | ⟨-, y6⟩
        · exact absurd (by rw [v6]; exact y6.2.1) c10
        · exact y6
      have E : rdLT T k = .inr k := if_neg ny
      refine ⟨fun d y => (by rw [E] at y; cases y), fun f y => ?_, frQ_tr F1 (frQ_tr (fr2 f6) F7), z7.trans (z6.trans z1)⟩
      rw [E] at y
      cases y
      exact ⟨rfl, (frM_oi f7 (by decide) (by decide)).trans g6⟩
  · skip
    cases hf
    -- leaf 1: ((0 : Int32), h53)
    exact absurd (by rw [Int32.le_iff_toInt_le, nI_toInt (by omega)]; have l0 : (0 : Int32).toInt = 0 := rfl; omega) c4
theorem no_53 {n a0 : Nat} {x2 s1 : Int32} {h : jH} {q : Int32 × jH} (M : mS (oc h) a0) {j : Nat} (hj : j < 12) (h2 : x2 = s1) (hx : s1 = nI (1285 + 4 * j)) (hf : F_X12_readLawLine_53 n a0 x2 (a0 + 1) s1 (-1) h = some q) : q.1 = 0 ∧ frM a0 [1] [] (oc h) (oc q.2) ∧ frQ a0 (oc h) (oc q.2) ∧ q.2.1 = h.1 := by
  subst h2
  subst hx
  unfold F_X12_readLawLine_53 at hf
  obtain ⟨h53, e1, hf⟩ := jbind hf
  obtain ⟨o1, z1, -⟩ := oc_as e1
  rw [jnar0, nI_cl (by omega)] at o1
  obtain ⟨p55, e2, hf⟩ := jbind hf
  have r2 := oc_gR e2
  rw [o1, u2_ne (Or.inl (by omega)), M.1] at r2
  cases r2
  obtain ⟨v59, e3, hf⟩ := jbind hf
  obtain ⟨r3, -⟩ := oc_al e3
  rw [o1, nI_cl (by omega), oi_eq] at r3
  subst r3
  rw [if_neg (by decide)] at hf
  cases hf
  have f1 : frM a0 [1] [] (oc h) (oc h53) := by rw [o1]; exact frM_c (by decide)
  exact ⟨rfl, f1, by show frQ a0 (oc h) (oc h53); rw [o1]; exact frQ_w (by omega), z1⟩
