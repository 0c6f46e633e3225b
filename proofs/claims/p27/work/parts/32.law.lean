section
/-! the law's own loop -/
abbrev mlw (nm : String) (hh : List (Nat × Nat × Nat × Nat)) : jM := (⟨RL, nm, "([I)Z"⟩, cL_law_, 7, ret, hh)
abbrev L7 (b x m out i : Nat) : List (Option Value) := [some (.ref b), some (.ref x), some (.ref m), some (.ref out), some (.int (Int32.ofNat i)), none, none]
def jScr (G : jG) (b L : Nat) (xs : Nat → Int32) : jX → Prop
  | (_, _, _, _, s, _, _, _, _, _, _, _, _) => va_X b L xs s s.heap ∧ b < s.heap.size ∧ b < G.2.2.1
theorem jix_nat {k : Nat} (h : k < 2147483648) : (Int32.ofNat k).toNatClampNeg = k := by
  have h1 : (Int32.ofNat k).toInt = (k : Int) := Int32.toInt_ofNat_of_lt (by omega)
  show (Int32.ofNat k).toInt.toNat = k
  rw [h1]
  rfl
theorem jix_nn {k : Nat} (h : k < 2147483648) : ¬ Int32.ofNat k < 0 := by
  have h1 : (Int32.ofNat k).toInt = (k : Int) := Int32.toInt_ofNat_of_lt (by omega)
  intro q
  have := Int32.lt_iff_toInt_lt.mp q
  rw [h1] at this
  have h0 : (0 : Int32).toInt = 0 := rfl
  rw [h0] at this
  omega
theorem jix_in {k L : Nat} (h : k < L) (hL : L ≤ 3072) : vp_in (Int32.ofNat k) L := fun q => q.elim (jix_nn (by omega)) (fun q => by rw [jix_nat (by omega)] at q; omega)
theorem jix_add (i k : Nat) : Int32.ofNat i + Int32.ofNat k = Int32.ofNat (i + k) := (Int32.ofNat_add i k).symm
theorem jix_inc (i : Nat) : Int32.ofNat i + Int32.ofInt 6 = Int32.ofNat (i + 6) := jix_add i 6
theorem jix_sub {i L : Nat} (hL : L ≤ 3072) (hi : i ≤ 3100) : (Int32.ofNat L - 6 < Int32.ofNat i) ↔ L < i + 6 := by
  have h1 : (Int32.ofNat L).toInt = (L : Int) := Int32.toInt_ofNat_of_lt (by omega)
  have h2 : (Int32.ofNat i).toInt = (i : Int) := Int32.toInt_ofNat_of_lt (by omega)
  have h3 : (6 : Int32).toInt = 6 := rfl
  rw [Int32.lt_iff_toInt_lt, Int32.toInt_sub, h1, h2, h3]
  rw [Int.bmod_eq_of_le (by omega) (by omega)]
  constructor
  · intro q
    have q2 : (L : Int) - 6 < (i : Int) := q
    omega
  · intro q
    show (L : Int) - 6 < (i : Int)
    omega
theorem jix_lt {i L : Nat} (hL : L ≤ 3072) (hi : i ≤ 3100) (h : L < i + 6) : Int32.ofNat L - 6 < Int32.ofNat i := (jix_sub hL hi).mpr h
theorem jix_ge {i L : Nat} (hL : L ≤ 3072) (hi : i ≤ 3100) (h : ¬ Int32.ofNat L - 6 < Int32.ofNat i) : i + 6 ≤ L := by
  by_cases q : L < i + 6
  · exact absurd ((jix_sub hL hi).mpr q) h
  · omega
section JLAW
variable {G : jG} {l : Launch} {M : jM} {dep : Nat} {X : jX} {h : jH} {kc ks pc : Nat} {L9 : List (Option Value)} {st : List Value} {b L : Nat} {xs : Nat → Int32}
theorem jr_sld (K : jOK G l M dep X) (S : jScr G b L xs X) {i : Int32} (hd : decode M.2.1 pc = .ok (.iaload, 1)) (hin : vp_in i L) (kk : jJ G X h kc ks (pc + 1) L9 (.int (xs i.toNatClampNeg) :: st)) : jJ G X h kc ks pc L9 (.int i :: .ref b :: st) := by
  obtain ⟨p, l9, e, R, s, m, args, below, meth, c, mc, ms, Q⟩ := X
  obtain ⟨hx, hb, hml, hr, hown, hts, hlk, hnm, hE, hbs, hd1, hd2, hd3, hd4, rfl, hxt⟩ := K
  obtain ⟨s1, s2, s3⟩ := S
  intro H locs cells slots ls hR hS hc1 hc2 hc hl
  exact va_sld hx hb s1 s2 (by show ¬ G.2.2.1 ≤ b; omega) hS hin hd (kk H locs cells slots ls hR hS hc1 hc2 hc hl)
theorem jr_slen9 (K : jOK G l M dep X) (S : jScr G b L xs X) (hd : decode M.2.1 pc = .ok (.arraylength, 1)) (kk : jJ G X h kc ks (pc + 1) L9 (.int (Int32.ofNat L) :: st)) : jJ G X h kc ks pc L9 (.ref b :: st) := by
  obtain ⟨p, l9, e, R, s, m, args, below, meth, c, mc, ms, Q⟩ := X
  obtain ⟨hx, hb, hml, hr, hown, hts, hlk, hnm, hE, hbs, hd1, hd2, hd3, hd4, rfl, hxt⟩ := K
  obtain ⟨s1, s2, s3⟩ := S
  intro H locs cells slots ls hR hS hc1 hc2 hc hl
  exact va_slen hx hb s1 s2 (by show ¬ G.2.2.1 ≤ b; omega) hS hd (kk H locs cells slots ls hR hS hc1 hc2 hc hl)
theorem jr_scr0 (K : jOK G l M dep X) (S : jScr G b L xs X) {i : Nat} (hi : i + 0 < L) (hL : L ≤ 3072) (h0 : L9[0]? = some (some (.ref b))) (h4 : L9[4]? = some (some (.int (Int32.ofNat i)))) (d0 : decode M.2.1 pc = .ok (.aload_n 0, 1)) (d1 : decode M.2.1 (pc + 1) = .ok (.iload 4, 2)) (d3 : decode M.2.1 (pc + 1 + 2) = .ok (.iaload, 1))
    (kk : jJ G X h kc ks (pc + 1 + 2 + 1) L9 (.int (xs (i + 0)) :: st)) : jJ G X h kc ks pc L9 st := by
  refine jr_aload_n K d0 rfl h0 ?_
  refine jr_iload K d1 h4 ?_
  refine jr_sld K S d3 (jix_in hi hL) ?_
  rw [jix_nat (show i < 2147483648 by omega)]
  exact kk
theorem jr_scr (K : jOK G l M dep X) (S : jScr G b L xs X) {i k : Nat} {k9 : Int} (hi : i + k < L) (hL : L ≤ 3072) (h0 : L9[0]? = some (some (.ref b))) (h4 : L9[4]? = some (some (.int (Int32.ofNat i)))) (d0 : decode M.2.1 pc = .ok (.aload_n 0, 1)) (d1 : decode M.2.1 (pc + 1) = .ok (.iload 4, 2)) (d2 : decode M.2.1 (pc + 1 + 2) = .ok (.iconst k9, 1)) (d3 : decode M.2.1 (pc + 1 + 2 + 1) = .ok (.iadd, 1)) (d4 : decode M.2.1 (pc + 1 + 2 + 1 + 1) = .ok (.iaload, 1)) (hk : Int32.ofInt k9 = Int32.ofNat k)
    (kk : jJ G X h kc ks (pc + 1 + 2 + 1 + 1 + 1) L9 (.int (xs (i + k)) :: st)) : jJ G X h kc ks pc L9 st := by
  refine jr_aload_n K d0 rfl h0 ?_
  refine jr_iload K d1 h4 ?_
  refine jr_iconst K d2 hk ?_
  refine jr_iadd K d3 ?_
  rw [jix_add]
  refine jr_sld K S d4 (jix_in hi hL) ?_
  rw [jix_nat (show i + k < 2147483648 by omega)]
  exact kk
theorem jr_nz (K : jOK G l M dep X) {v : Int32} (d0 : decode M.2.1 pc = .ok (.ifCond .eq 7, 3)) (d1 : decode M.2.1 (pc + 3) = .ok (.iconst 1, 1)) (d2 : decode M.2.1 (pc + 3 + 1) = .ok (.goto 4, 3)) (d3 : decode M.2.1 (pc + 7) = .ok (.iconst 0, 1)) (kk : jJ G X h kc ks (pc + 7 + 1) L9 (.int (if v = 0 then 0 else 1) :: st)) : jJ G X h kc ks pc L9 (.int v :: st) := by
  refine jr_if_eq K d0 (tgt := pc + 7) (by omega) (fun c => ?_) (fun c => ?_)
  · rw [if_pos c] at kk
    exact jr_iconst K d3 (v := (0 : Int32)) (by decide) kk
  · rw [if_neg c] at kk
    refine jr_iconst K d1 (v := (1 : Int32)) (by decide) ?_
    exact jr_goto K d2 (tgt := pc + 7 + 1) (by omega) kk
end JLAW
def SL_0 (n x m out : Nat) (a : Nat → Int32) (h : jH) (P : jH → Prop) : Prop :=
  ∃ r0, jcv 9 h x (F_X11_feed n x (a 1) (a 2) (a 3) (a 4) (a 5) h) = some r0 ∧ ∃ r1, jcv 10 r0.2 m (F_X12_feed n m (a 1) (a 2) (a 3) (a 4) (a 5) r0.2) = some r1 ∧ P r1.2
set_option maxHeartbeats 400000 in
theorem JL_0 {G : jG} {l : Launch} (hst : l.stackTraces = false) {X : jX} {d b L : Nat} {xs : Nat → Int32} {nm : String} {hh : List (Nat × Nat × Nat × Nat)} (K : jOK G l (mlw nm hh) (d + 70) X) (S : jScr G b L xs X) (hL : L ≤ 3072) {i : Nat} (hi : i + 6 ≤ L) (n : Nat) {x m out : Nat} {h : jH} {kc ks : Nat} {P : jH → Prop} (hP : SL_0 n x m out (fun j => xs (i + j)) h P) (kk : ∀ h1, P h1 → jJ G X h1 kc ks 1948 (L7 b x m out i) []) : jJ G X h (kc + 0) (ks + 0) 272 (L7 b x m out i) [] := by
  unfold SL_0 at hP
  obtain ⟨r0, e0, t0⟩ := hP
  refine jr_aload_n K (D_at DL_law__q3 0 rfl) rfl rfl ?_
  refine jr_scr K S (k := 1) (by omega) hL rfl rfl (D_at DL_law__q3 1 rfl) (D_at DL_law__q3 2 rfl) (D_at DL_law__q3 3 rfl) (D_at DL_law__q3 4 rfl) (D_at DL_law__q3 5 rfl) (by decide) ?_
  refine jr_scr K S (k := 2) (by omega) hL rfl rfl (D_at DL_law__q3 6 rfl) (D_at DL_law__q3 7 rfl) (D_at DL_law__q3 8 rfl) (D_at DL_law__q3 9 rfl) (D_at DL_law__q3 10 rfl) (by decide) ?_
  refine jr_scr K S (k := 3) (by omega) hL rfl rfl (D_at DL_law__q3 11 rfl) (D_at DL_law__q4 0 rfl) (D_at DL_law__q4 1 rfl) (D_at DL_law__q4 2 rfl) (D_at DL_law__q4 3 rfl) (by decide) ?_
  refine jr_scr K S (k := 4) (by omega) hL rfl rfl (D_at DL_law__q4 4 rfl) (D_at DL_law__q4 5 rfl) (D_at DL_law__q4 6 rfl) (D_at DL_law__q4 7 rfl) (D_at DL_law__q4 8 rfl) (by decide) ?_
  refine jr_scr K S (k := 5) (by omega) hL rfl rfl (D_at DL_law__q4 9 rfl) (D_at DL_law__q4 10 rfl) (D_at DL_law__q4 11 rfl) (D_at DL_law__q5 0 rfl) (D_at DL_law__q5 1 rfl) (by decide) ?_
  obtain ⟨rc0, e0⟩ := jcv_o e0
  refine jr_callV K (C_X11_feed (d + 68) e0) (D_at DL_law__q5 2 rfl) cv_L_115_X11_feed (As := [.int (xs (i + 1)), .int (xs (i + 2)), .int (xs (i + 3)), .int (xs (i + 4)), .int (xs (i + 5))]) (ci := 9) rfl rc0 rfl rfl (by exact Nat.le_of_ble_eq_true rfl) (kc2 := kc + 0) (ks2 := ks + 0) (by omega) (by omega) (fun k9 h9 w9 => by cases w9.1) (fun r9 h9 w9 => ?_)
  obtain ⟨w1, w2⟩ := w9
  subst h9
  cases w1
  obtain ⟨r1, e1, t1⟩ := t0
  show jJ G X _ (kc + 0) (ks + 0) _ _ (.int r0.1 :: _)
  refine jr_pop K (D_at DL_law__q5 3 rfl) rfl ?_
  refine jr_aload_n K (D_at DL_law__q5 4 rfl) rfl rfl ?_
  refine jr_scr K S (k := 1) (by omega) hL rfl rfl (D_at DL_law__q5 5 rfl) (D_at DL_law__q5 6 rfl) (D_at DL_law__q5 7 rfl) (D_at DL_law__q5 8 rfl) (D_at DL_law__q5 9 rfl) (by decide) ?_
  refine jr_scr K S (k := 2) (by omega) hL rfl rfl (D_at DL_law__q5 10 rfl) (D_at DL_law__q5 11 rfl) (D_at DL_law__q6 0 rfl) (D_at DL_law__q6 1 rfl) (D_at DL_law__q6 2 rfl) (by decide) ?_
  refine jr_scr K S (k := 3) (by omega) hL rfl rfl (D_at DL_law__1_q0 0 rfl) (D_at DL_law__1_q0 1 rfl) (D_at DL_law__1_q0 2 rfl) (D_at DL_law__1_q0 3 rfl) (D_at DL_law__1_q0 4 rfl) (by decide) ?_
  refine jr_scr K S (k := 4) (by omega) hL rfl rfl (D_at DL_law__1_q0 5 rfl) (D_at DL_law__1_q0 6 rfl) (D_at DL_law__1_q0 7 rfl) (D_at DL_law__1_q0 8 rfl) (D_at DL_law__1_q0 9 rfl) (by decide) ?_
  refine jr_scr K S (k := 5) (by omega) hL rfl rfl (D_at DL_law__1_q0 10 rfl) (D_at DL_law__1_q0 11 rfl) (D_at DL_law__1_q1 0 rfl) (D_at DL_law__1_q1 1 rfl) (D_at DL_law__1_q1 2 rfl) (by decide) ?_
  obtain ⟨rc1, e1⟩ := jcv_o e1
  refine jr_callV K (C_X12_feed (d + 69) e1) (D_at DL_law__1_q1 3 rfl) cv_L_119_X12_feed (As := [.int (xs (i + 1)), .int (xs (i + 2)), .int (xs (i + 3)), .int (xs (i + 4)), .int (xs (i + 5))]) (ci := 10) rfl rc1 rfl rfl (by exact Nat.le_of_ble_eq_true rfl) (kc2 := kc + 0) (ks2 := ks + 0) (by omega) (by omega) (fun k9 h9 w9 => by cases w9.1) (fun r9 h9 w9 => ?_)
  obtain ⟨w1, w2⟩ := w9
  subst h9
  cases w1
  have hP := t1
  show jJ G X _ (kc + 0) (ks + 0) _ _ (.int r1.1 :: _)
  refine jr_pop K (D_at DL_law__1_q1 4 rfl) rfl ?_
  refine jr_goto K (D_at DL_law__1_q1 5 rfl) (tgt := 1948) (by decide) ?_
  refine jr_keep [true, true, true, true, true, false, false] ?_
  exact kk _ hP
def SL_1 (n x m out : Nat) (a : Nat → Int32) (h : jH) (P : jH → Prop) : Prop :=
  ∃ r0, jcv 9 h x (F_X11_end n x (a 1) h) = some r0 ∧ ∃ r1, jcv 10 r0.2 m (F_X12_end n m (a 1) r0.2) = some r1 ∧ P r1.2
set_option maxHeartbeats 400000 in
theorem JL_1 {G : jG} {l : Launch} (hst : l.stackTraces = false) {X : jX} {d b L : Nat} {xs : Nat → Int32} {nm : String} {hh : List (Nat × Nat × Nat × Nat)} (K : jOK G l (mlw nm hh) (d + 70) X) (S : jScr G b L xs X) (hL : L ≤ 3072) {i : Nat} (hi : i + 6 ≤ L) (n : Nat) {x m out : Nat} {h : jH} {kc ks : Nat} {P : jH → Prop} (hP : SL_1 n x m out (fun j => xs (i + j)) h P) (kk : ∀ h1, P h1 → jJ G X h1 kc ks 1948 (L7 b x m out i) []) : jJ G X h (kc + 0) (ks + 0) 345 (L7 b x m out i) [] := by
  unfold SL_1 at hP
  obtain ⟨r0, e0, t0⟩ := hP
  refine jr_aload_n K (D_at DL_law__1_q1 6 rfl) rfl rfl ?_
  refine jr_scr K S (k := 1) (by omega) hL rfl rfl (D_at DL_law__1_q1 7 rfl) (D_at DL_law__1_q1 8 rfl) (D_at DL_law__1_q1 9 rfl) (D_at DL_law__1_q1 10 rfl) (D_at DL_law__1_q1 11 rfl) (by decide) ?_
  obtain ⟨rc0, e0⟩ := jcv_o e0
  refine jr_callV K (C_X11_end (d + 69) e0) (D_at DL_law__1_q2 0 rfl) cv_L_120_X11_end (As := [.int (xs (i + 1))]) (ci := 9) rfl rc0 rfl rfl (by exact Nat.le_of_ble_eq_true rfl) (kc2 := kc + 0) (ks2 := ks + 0) (by omega) (by omega) (fun k9 h9 w9 => by cases w9.1) (fun r9 h9 w9 => ?_)
  obtain ⟨w1, w2⟩ := w9
  subst h9
  cases w1
  obtain ⟨r1, e1, t1⟩ := t0
  show jJ G X _ (kc + 0) (ks + 0) _ _ (.int r0.1 :: _)
  refine jr_pop K (D_at DL_law__1_q2 1 rfl) rfl ?_
  refine jr_aload_n K (D_at DL_law__1_q2 2 rfl) rfl rfl ?_
  refine jr_scr K S (k := 1) (by omega) hL rfl rfl (D_at DL_law__1_q2 3 rfl) (D_at DL_law__1_q2 4 rfl) (D_at DL_law__1_q2 5 rfl) (D_at DL_law__1_q2 6 rfl) (D_at DL_law__1_q2 7 rfl) (by decide) ?_
  obtain ⟨rc1, e1⟩ := jcv_o e1
  refine jr_callV K (C_X12_end (d + 69) e1) (D_at DL_law__1_q2 8 rfl) cv_L_124_X12_end (As := [.int (xs (i + 1))]) (ci := 10) rfl rc1 rfl rfl (by exact Nat.le_of_ble_eq_true rfl) (kc2 := kc + 0) (ks2 := ks + 0) (by omega) (by omega) (fun k9 h9 w9 => by cases w9.1) (fun r9 h9 w9 => ?_)
  obtain ⟨w1, w2⟩ := w9
  subst h9
  cases w1
  have hP := t1
  show jJ G X _ (kc + 0) (ks + 0) _ _ (.int r1.1 :: _)
  refine jr_pop K (D_at DL_law__1_q2 9 rfl) rfl ?_
  refine jr_goto K (D_at DL_law__1_q2 10 rfl) (tgt := 1948) (by decide) ?_
  refine jr_keep [true, true, true, true, true, false, false] ?_
  exact kk _ hP
def SL_2 (n x m out : Nat) (a : Nat → Int32) (h : jH) (P : jH → Prop) : Prop :=
  ∃ r0, FL_pole n x out h = some r0 ∧ ∀ z0, r0.2.1 ≤ z0 → ∃ r1, jcv 10 (z0, r0.2.2) m (F_X12_pole n m (z0, r0.2.2)) = some r1 ∧ P r1.2
set_option maxHeartbeats 400000 in
theorem JL_2 {G : jG} {l : Launch} (hst : l.stackTraces = false) {X : jX} {d b L : Nat} {xs : Nat → Int32} {nm : String} {hh : List (Nat × Nat × Nat × Nat)} (K : jOK G l (mlw nm hh) (d + 70) X) (S : jScr G b L xs X) (hL : L ≤ 3072) {i : Nat} (hi : i + 6 ≤ L) (n : Nat) {x m out : Nat} {h : jH} {kc ks : Nat} {P : jH → Prop} (hP : SL_2 n x m out (fun j => xs (i + j)) h P) (kk : ∀ h1, P h1 → jJ G X h1 kc ks 1948 (L7 b x m out i) []) : jJ G X h (kc + 1) (ks + 6) 370 (L7 b x m out i) [] := by
  unfold SL_2 at hP
  obtain ⟨r0, e0, t0⟩ := hP
  refine jr_aload_n K (D_at DL_law__1_q2 11 rfl) rfl rfl ?_
  refine jr_aload_n K (D_at DL_law__1_q3 0 rfl) rfl rfl ?_
  refine jr_callSW K (CL_pole hst (d + 57) e0) (D_at DL_law__1_q3 1 rfl) cs_L_125_L_pole (As := [.ref x, .ref out]) rfl rfl (by exact Nat.le_of_ble_eq_true rfl) (kc2 := kc + 0) (ks2 := ks + 0) (by omega) (by omega) (fun k9 h9 w9 => by cases w9.1) (fun r9 h9 w9 => ?_)
  obtain ⟨w1, z0, hz0, w2⟩ := w9
  subst h9
  cases w1
  obtain ⟨r1, e1, t1⟩ := t0 z0 hz0
  show jJ G X _ (kc + 0) (ks + 0) _ _ (.int r0.1 :: _)
  refine jr_istore K (D_at DL_law__1_q3 2 rfl) (i := 5) (by exact Nat.le_of_ble_eq_true rfl) (L2 := [_, _, _, _, _, _, _]) rfl ?_
  refine jr_aload_n K (D_at DL_law__1_q3 3 rfl) rfl rfl ?_
  obtain ⟨rc1, e1⟩ := jcv_o e1
  refine jr_callV K (C_X12_pole (d + 25) e1) (D_at DL_law__1_q3 4 rfl) cv_L_130_X12_pole (As := []) (ci := 10) rfl rc1 rfl rfl (by exact Nat.le_of_ble_eq_true rfl) (kc2 := kc + 0) (ks2 := ks + 0) (by omega) (by omega) (fun k9 h9 w9 => by cases w9.1) (fun r9 h9 w9 => ?_)
  obtain ⟨w1, w2⟩ := w9
  subst h9
  cases w1
  have hP := t1
  show jJ G X _ (kc + 0) (ks + 0) _ _ (.int r1.1 :: _)
  refine jr_istore K (D_at DL_law__1_q3 5 rfl) (i := 6) (by exact Nat.le_of_ble_eq_true rfl) (L2 := [_, _, _, _, _, _, _]) rfl ?_
  refine jr_goto K (D_at DL_law__1_q3 6 rfl) (tgt := 1948) (by decide) ?_
  refine jr_keep [true, true, true, true, true, false, false] ?_
  exact kk _ hP
def SL_3 (n x m out : Nat) (a : Nat → Int32) (h : jH) (P : jH → Prop) : Prop :=
  ∃ r0, FL_law n x out h = some r0 ∧ ∀ z0, r0.2.1 ≤ z0 → ∃ r1, jcv 10 (z0, r0.2.2) m (F_X12_law n m (z0, r0.2.2)) = some r1 ∧ P r1.2
set_option maxHeartbeats 400000 in
theorem JL_3 {G : jG} {l : Launch} (hst : l.stackTraces = false) {X : jX} {d b L : Nat} {xs : Nat → Int32} {nm : String} {hh : List (Nat × Nat × Nat × Nat)} (K : jOK G l (mlw nm hh) (d + 70) X) (S : jScr G b L xs X) (hL : L ≤ 3072) {i : Nat} (hi : i + 6 ≤ L) (n : Nat) {x m out : Nat} {h : jH} {kc ks : Nat} {P : jH → Prop} (hP : SL_3 n x m out (fun j => xs (i + j)) h P) (kk : ∀ h1, P h1 → jJ G X h1 kc ks 1948 (L7 b x m out i) []) : jJ G X h (kc + 1) (ks + 6) 386 (L7 b x m out i) [] := by
  unfold SL_3 at hP
  obtain ⟨r0, e0, t0⟩ := hP
  refine jr_aload_n K (D_at DL_law__1_q3 7 rfl) rfl rfl ?_
  refine jr_aload_n K (D_at DL_law__1_q3 8 rfl) rfl rfl ?_
  refine jr_callSW K (CL_law hst (d + 42) e0) (D_at DL_law__1_q3 9 rfl) cs_L_131_L_law (As := [.ref x, .ref out]) rfl rfl (by exact Nat.le_of_ble_eq_true rfl) (kc2 := kc + 0) (ks2 := ks + 0) (by omega) (by omega) (fun k9 h9 w9 => by cases w9.1) (fun r9 h9 w9 => ?_)
  obtain ⟨w1, z0, hz0, w2⟩ := w9
  subst h9
  cases w1
  obtain ⟨r1, e1, t1⟩ := t0 z0 hz0
  show jJ G X _ (kc + 0) (ks + 0) _ _ (.int r0.1 :: _)
  refine jr_istore K (D_at DL_law__1_q3 10 rfl) (i := 5) (by exact Nat.le_of_ble_eq_true rfl) (L2 := [_, _, _, _, _, _, _]) rfl ?_
  refine jr_aload_n K (D_at DL_law__1_q3 11 rfl) rfl rfl ?_
  obtain ⟨rc1, e1⟩ := jcv_o e1
  refine jr_callV K (C_X12_law (d + 25) e1) (D_at DL_law__1_q4 0 rfl) cv_L_133_X12_law (As := []) (ci := 10) rfl rc1 rfl rfl (by exact Nat.le_of_ble_eq_true rfl) (kc2 := kc + 0) (ks2 := ks + 0) (by omega) (by omega) (fun k9 h9 w9 => by cases w9.1) (fun r9 h9 w9 => ?_)
  obtain ⟨w1, w2⟩ := w9
  subst h9
  cases w1
  have hP := t1
  show jJ G X _ (kc + 0) (ks + 0) _ _ (.int r1.1 :: _)
  refine jr_istore K (D_at DL_law__1_q4 1 rfl) (i := 6) (by exact Nat.le_of_ble_eq_true rfl) (L2 := [_, _, _, _, _, _, _]) rfl ?_
  refine jr_goto K (D_at DL_law__1_q4 2 rfl) (tgt := 1948) (by decide) ?_
  refine jr_keep [true, true, true, true, true, false, false] ?_
  exact kk _ hP
def SL_4 (n x m out : Nat) (a : Nat → Int32) (h : jH) (P : jH → Prop) : Prop :=
  ∃ r0, jcv 9 h x (F_X11_fault n x h) = some r0 ∧ ∃ r1, jcv 10 h m (F_X12_fault n m h) = some r1 ∧ P r1.2
set_option maxHeartbeats 400000 in
theorem JL_4 {G : jG} {l : Launch} (hst : l.stackTraces = false) {X : jX} {d b L : Nat} {xs : Nat → Int32} {nm : String} {hh : List (Nat × Nat × Nat × Nat)} (K : jOK G l (mlw nm hh) (d + 70) X) (S : jScr G b L xs X) (hL : L ≤ 3072) {i : Nat} (hi : i + 6 ≤ L) (n : Nat) {x m out : Nat} {h : jH} {kc ks : Nat} {P : jH → Prop} (hP : SL_4 n x m out (fun j => xs (i + j)) h P) (kk : ∀ h1, P h1 → jJ G X h1 kc ks 1948 (L7 b x m out i) []) : jJ G X h (kc + 0) (ks + 0) 402 (L7 b x m out i) [] := by
  unfold SL_4 at hP
  obtain ⟨r0, e0, t0⟩ := hP
  refine jr_aload_n K (D_at DL_law__1_q4 3 rfl) rfl rfl ?_
  obtain ⟨rc0, e0⟩ := jcv_o e0
  refine jr_callV K (C_X11_fault (d + 69) e0) (D_at DL_law__1_q4 4 rfl) cv_L_134_X11_fault (As := []) (ci := 9) rfl rc0 rfl rfl (by exact Nat.le_of_ble_eq_true rfl) (kc2 := kc + 0) (ks2 := ks + 0) (by omega) (by omega) (fun k9 h9 w9 => by cases w9.1) (fun r9 h9 w9 => ?_)
  obtain ⟨w1, w2⟩ := w9
  subst h9
  cases w1
  obtain ⟨r1, e1, t1⟩ := t0
  show jJ G X _ (kc + 0) (ks + 0) _ _ (.int r0 :: _)
  refine jr_pop K (D_at DL_law__1_q4 5 rfl) rfl ?_
  refine jr_aload_n K (D_at DL_law__1_q4 6 rfl) rfl rfl ?_
  obtain ⟨rc1, e1⟩ := jcv_o e1
  refine jr_callV K (C_X12_fault (d + 69) e1) (D_at DL_law__1_q4 7 rfl) cv_L_137_X12_fault (As := []) (ci := 10) rfl rc1 rfl rfl (by exact Nat.le_of_ble_eq_true rfl) (kc2 := kc + 0) (ks2 := ks + 0) (by omega) (by omega) (fun k9 h9 w9 => by cases w9.1) (fun r9 h9 w9 => ?_)
  obtain ⟨w1, w2⟩ := w9
  subst h9
  cases w1
  have hP := t1
  show jJ G X _ (kc + 0) (ks + 0) _ _ (.int r1.1 :: _)
  refine jr_pop K (D_at DL_law__1_q4 8 rfl) rfl ?_
  refine jr_goto K (D_at DL_law__1_q4 9 rfl) (tgt := 1948) (by decide) ?_
  refine jr_keep [true, true, true, true, true, false, false] ?_
  exact kk _ hP
def SL_5 (n x m out : Nat) (a : Nat → Int32) (h : jH) (P : jH → Prop) : Prop :=
  ∃ r0, FL_ring n x (a 1) (a 2) out h = some r0 ∧ ∀ z0, r0.2.1 ≤ z0 → ∃ r1, jcv 10 (z0, r0.2.2) m (F_X12_ring n m (a 1) (a 2) (z0, r0.2.2)) = some r1 ∧ P r1.2
set_option maxHeartbeats 400000 in
theorem JL_5 {G : jG} {l : Launch} (hst : l.stackTraces = false) {X : jX} {d b L : Nat} {xs : Nat → Int32} {nm : String} {hh : List (Nat × Nat × Nat × Nat)} (K : jOK G l (mlw nm hh) (d + 70) X) (S : jScr G b L xs X) (hL : L ≤ 3072) {i : Nat} (hi : i + 6 ≤ L) (n : Nat) {x m out : Nat} {h : jH} {kc ks : Nat} {P : jH → Prop} (hP : SL_5 n x m out (fun j => xs (i + j)) h P) (kk : ∀ h1, P h1 → jJ G X h1 kc ks 1948 (L7 b x m out i) []) : jJ G X h (kc + 2) (ks + 12) 415 (L7 b x m out i) [] := by
  unfold SL_5 at hP
  obtain ⟨r0, e0, t0⟩ := hP
  refine jr_aload_n K (D_at DL_law__1_q4 10 rfl) rfl rfl ?_
  refine jr_scr K S (k := 1) (by omega) hL rfl rfl (D_at DL_law__1_q4 11 rfl) (D_at DL_law__1_q5 0 rfl) (D_at DL_law__1_q5 1 rfl) (D_at DL_law__1_q5 2 rfl) (D_at DL_law__1_q5 3 rfl) (by decide) ?_
  refine jr_scr K S (k := 2) (by omega) hL rfl rfl (D_at DL_law__2_q0 0 rfl) (D_at DL_law__2_q0 1 rfl) (D_at DL_law__2_q0 2 rfl) (D_at DL_law__2_q0 3 rfl) (D_at DL_law__2_q0 4 rfl) (by decide) ?_
  refine jr_aload_n K (D_at DL_law__2_q0 5 rfl) rfl rfl ?_
  refine jr_callSW K (CL_ring hst (d + 61) e0) (D_at DL_law__2_q0 6 rfl) cs_L_138_L_ring (As := [.ref x, .int (xs (i + 1)), .int (xs (i + 2)), .ref out]) rfl rfl (by exact Nat.le_of_ble_eq_true rfl) (kc2 := kc + 0) (ks2 := ks + 0) (by omega) (by omega) (fun k9 h9 w9 => by cases w9.1) (fun r9 h9 w9 => ?_)
  obtain ⟨w1, z0, hz0, w2⟩ := w9
  subst h9
  cases w1
  obtain ⟨r1, e1, t1⟩ := t0 z0 hz0
  show jJ G X _ (kc + 0) (ks + 0) _ _ (.int r0.1 :: _)
  refine jr_istore K (D_at DL_law__2_q0 7 rfl) (i := 5) (by exact Nat.le_of_ble_eq_true rfl) (L2 := [_, _, _, _, _, _, _]) rfl ?_
  refine jr_aload_n K (D_at DL_law__2_q0 8 rfl) rfl rfl ?_
  refine jr_scr K S (k := 1) (by omega) hL rfl rfl (D_at DL_law__2_q0 9 rfl) (D_at DL_law__2_q0 10 rfl) (D_at DL_law__2_q0 11 rfl) (D_at DL_law__2_q1 0 rfl) (D_at DL_law__2_q1 1 rfl) (by decide) ?_
  refine jr_scr K S (k := 2) (by omega) hL rfl rfl (D_at DL_law__2_q1 2 rfl) (D_at DL_law__2_q1 3 rfl) (D_at DL_law__2_q1 4 rfl) (D_at DL_law__2_q1 5 rfl) (D_at DL_law__2_q1 6 rfl) (by decide) ?_
  obtain ⟨rc1, e1⟩ := jcv_o e1
  refine jr_callV K (C_X12_ring (d + 62) e1) (D_at DL_law__2_q1 7 rfl) cv_L_141_X12_ring (As := [.int (xs (i + 1)), .int (xs (i + 2))]) (ci := 10) rfl rc1 rfl rfl (by exact Nat.le_of_ble_eq_true rfl) (kc2 := kc + 0) (ks2 := ks + 0) (by omega) (by omega) (fun k9 h9 w9 => by cases w9.1) (fun r9 h9 w9 => ?_)
  obtain ⟨w1, w2⟩ := w9
  subst h9
  cases w1
  have hP := t1
  show jJ G X _ (kc + 0) (ks + 0) _ _ (.int r1.1 :: _)
  refine jr_istore K (D_at DL_law__2_q1 8 rfl) (i := 6) (by exact Nat.le_of_ble_eq_true rfl) (L2 := [_, _, _, _, _, _, _]) rfl ?_
  refine jr_goto K (D_at DL_law__2_q1 9 rfl) (tgt := 1948) (by decide) ?_
  refine jr_keep [true, true, true, true, true, false, false] ?_
  exact kk _ hP
def SL_6 (n x m out : Nat) (a : Nat → Int32) (h : jH) (P : jH → Prop) : Prop :=
  ∃ r0, FL_pull n x (a 1) (if (a 2) = 0 then 0 else 1) (a 3) out h = some r0 ∧ ∀ z0, r0.2.1 ≤ z0 → ∃ r1, jcv 10 (z0, r0.2.2) m (F_X12_pull n m (a 1) (if (a 2) = 0 then 0 else 1) (a 3) (z0, r0.2.2)) = some r1 ∧ P r1.2
set_option maxHeartbeats 400000 in
theorem JL_6 {G : jG} {l : Launch} (hst : l.stackTraces = false) {X : jX} {d b L : Nat} {xs : Nat → Int32} {nm : String} {hh : List (Nat × Nat × Nat × Nat)} (K : jOK G l (mlw nm hh) (d + 70) X) (S : jScr G b L xs X) (hL : L ≤ 3072) {i : Nat} (hi : i + 6 ≤ L) (n : Nat) {x m out : Nat} {h : jH} {kc ks : Nat} {P : jH → Prop} (hP : SL_6 n x m out (fun j => xs (i + j)) h P) (kk : ∀ h1, P h1 → jJ G X h1 kc ks 1948 (L7 b x m out i) []) : jJ G X h (kc + 9) (ks + 125) 455 (L7 b x m out i) [] := by
  unfold SL_6 at hP
  obtain ⟨r0, e0, t0⟩ := hP
  refine jr_aload_n K (D_at DL_law__2_q1 10 rfl) rfl rfl ?_
  refine jr_scr K S (k := 1) (by omega) hL rfl rfl (D_at DL_law__2_q1 11 rfl) (D_at DL_law__2_q2 0 rfl) (D_at DL_law__2_q2 1 rfl) (D_at DL_law__2_q2 2 rfl) (D_at DL_law__2_q2 3 rfl) (by decide) ?_
  refine jr_scr K S (k := 2) (by omega) hL rfl rfl (D_at DL_law__2_q2 4 rfl) (D_at DL_law__2_q2 5 rfl) (D_at DL_law__2_q2 6 rfl) (D_at DL_law__2_q2 7 rfl) (D_at DL_law__2_q2 8 rfl) (by decide) ?_
  refine jr_nz K (D_at DL_law__2_q2 9 rfl) (D_at DL_law__2_q2 10 rfl) (D_at DL_law__2_q2 11 rfl) (D_at DL_law__2_q3 0 rfl) ?_
  refine jr_scr K S (k := 3) (by omega) hL rfl rfl (D_at DL_law__2_q3 1 rfl) (D_at DL_law__2_q3 2 rfl) (D_at DL_law__2_q3 3 rfl) (D_at DL_law__2_q3 4 rfl) (D_at DL_law__2_q3 5 rfl) (by decide) ?_
  refine jr_aload_n K (D_at DL_law__2_q3 6 rfl) rfl rfl ?_
  refine jr_callSW K (CL_pull hst (d + 61) e0) (D_at DL_law__2_q3 7 rfl) cs_L_142_L_pull (As := [.ref x, .int (xs (i + 1)), .int (if (xs (i + 2)) = 0 then 0 else 1), .int (xs (i + 3)), .ref out]) rfl rfl (by exact Nat.le_of_ble_eq_true rfl) (kc2 := kc + 0) (ks2 := ks + 0) (by omega) (by omega) (fun k9 h9 w9 => by cases w9.1) (fun r9 h9 w9 => ?_)
  obtain ⟨w1, z0, hz0, w2⟩ := w9
  subst h9
  cases w1
  obtain ⟨r1, e1, t1⟩ := t0 z0 hz0
  show jJ G X _ (kc + 0) (ks + 0) _ _ (.int r0.1 :: _)
  refine jr_istore K (D_at DL_law__2_q3 8 rfl) (i := 5) (by exact Nat.le_of_ble_eq_true rfl) (L2 := [_, _, _, _, _, _, _]) rfl ?_
  refine jr_aload_n K (D_at DL_law__2_q3 9 rfl) rfl rfl ?_
  refine jr_scr K S (k := 1) (by omega) hL rfl rfl (D_at DL_law__2_q3 10 rfl) (D_at DL_law__2_q3 11 rfl) (D_at DL_law__2_q4 0 rfl) (D_at DL_law__2_q4 1 rfl) (D_at DL_law__2_q4 2 rfl) (by decide) ?_
  refine jr_scr K S (k := 2) (by omega) hL rfl rfl (D_at DL_law__2_q4 3 rfl) (D_at DL_law__2_q4 4 rfl) (D_at DL_law__2_q4 5 rfl) (D_at DL_law__2_q4 6 rfl) (D_at DL_law__2_q4 7 rfl) (by decide) ?_
  refine jr_nz K (D_at DL_law__2_q4 8 rfl) (D_at DL_law__2_q4 9 rfl) (D_at DL_law__2_q4 10 rfl) (D_at DL_law__2_q4 11 rfl) ?_
  refine jr_scr K S (k := 3) (by omega) hL rfl rfl (D_at DL_law__2_q5 0 rfl) (D_at DL_law__2_q5 1 rfl) (D_at DL_law__2_q5 2 rfl) (D_at DL_law__2_q5 3 rfl) (D_at DL_law__3_q0 0 rfl) (by decide) ?_
  obtain ⟨rc1, e1⟩ := jcv_o e1
  refine jr_callV K (C_X12_pull (d + 61) e1) (D_at DL_law__3_q0 1 rfl) cv_L_145_X12_pull (As := [.int (xs (i + 1)), .int (if (xs (i + 2)) = 0 then 0 else 1), .int (xs (i + 3))]) (ci := 10) rfl rc1 rfl rfl (by exact Nat.le_of_ble_eq_true rfl) (kc2 := kc + 0) (ks2 := ks + 0) (by omega) (by omega) (fun k9 h9 w9 => by cases w9.1) (fun r9 h9 w9 => ?_)
  obtain ⟨w1, w2⟩ := w9
  subst h9
  cases w1
  have hP := t1
  show jJ G X _ (kc + 0) (ks + 0) _ _ (.int r1.1 :: _)
  refine jr_istore K (D_at DL_law__3_q0 2 rfl) (i := 6) (by exact Nat.le_of_ble_eq_true rfl) (L2 := [_, _, _, _, _, _, _]) rfl ?_
  refine jr_goto K (D_at DL_law__3_q0 3 rfl) (tgt := 1948) (by decide) ?_
  refine jr_keep [true, true, true, true, true, false, false] ?_
  exact kk _ hP
def SL_7 (n x m out : Nat) (a : Nat → Int32) (h : jH) (P : jH → Prop) : Prop :=
  ∃ r0, FL_free n x (a 1) out h = some r0 ∧ ∀ z0, r0.2.1 ≤ z0 → ∃ r1, jcv 10 (z0, r0.2.2) m (F_X12_free n m (a 1) (z0, r0.2.2)) = some r1 ∧ P r1.2
set_option maxHeartbeats 400000 in
theorem JL_7 {G : jG} {l : Launch} (hst : l.stackTraces = false) {X : jX} {d b L : Nat} {xs : Nat → Int32} {nm : String} {hh : List (Nat × Nat × Nat × Nat)} (K : jOK G l (mlw nm hh) (d + 70) X) (S : jScr G b L xs X) (hL : L ≤ 3072) {i : Nat} (hi : i + 6 ≤ L) (n : Nat) {x m out : Nat} {h : jH} {kc ks : Nat} {P : jH → Prop} (hP : SL_7 n x m out (fun j => xs (i + j)) h P) (kk : ∀ h1, P h1 → jJ G X h1 kc ks 1948 (L7 b x m out i) []) : jJ G X h (kc + 8) (ks + 119) 523 (L7 b x m out i) [] := by
  unfold SL_7 at hP
  obtain ⟨r0, e0, t0⟩ := hP
  refine jr_aload_n K (D_at DL_law__3_q0 4 rfl) rfl rfl ?_
  refine jr_scr K S (k := 1) (by omega) hL rfl rfl (D_at DL_law__3_q0 5 rfl) (D_at DL_law__3_q0 6 rfl) (D_at DL_law__3_q0 7 rfl) (D_at DL_law__3_q0 8 rfl) (D_at DL_law__3_q0 9 rfl) (by decide) ?_
  refine jr_aload_n K (D_at DL_law__3_q0 10 rfl) rfl rfl ?_
  refine jr_callSW K (CL_free hst (d + 61) e0) (D_at DL_law__3_q0 11 rfl) cs_L_146_L_free (As := [.ref x, .int (xs (i + 1)), .ref out]) rfl rfl (by exact Nat.le_of_ble_eq_true rfl) (kc2 := kc + 0) (ks2 := ks + 0) (by omega) (by omega) (fun k9 h9 w9 => by cases w9.1) (fun r9 h9 w9 => ?_)
  obtain ⟨w1, z0, hz0, w2⟩ := w9
  subst h9
  cases w1
  obtain ⟨r1, e1, t1⟩ := t0 z0 hz0
  show jJ G X _ (kc + 0) (ks + 0) _ _ (.int r0.1 :: _)
  refine jr_istore K (D_at DL_law__3_q1 0 rfl) (i := 5) (by exact Nat.le_of_ble_eq_true rfl) (L2 := [_, _, _, _, _, _, _]) rfl ?_
  refine jr_aload_n K (D_at DL_law__3_q1 1 rfl) rfl rfl ?_
  refine jr_scr K S (k := 1) (by omega) hL rfl rfl (D_at DL_law__3_q1 2 rfl) (D_at DL_law__3_q1 3 rfl) (D_at DL_law__3_q1 4 rfl) (D_at DL_law__3_q1 5 rfl) (D_at DL_law__3_q1 6 rfl) (by decide) ?_
  obtain ⟨rc1, e1⟩ := jcv_o e1
  refine jr_callV K (C_X12_free (d + 66) e1) (D_at DL_law__3_q1 7 rfl) cv_L_149_X12_free (As := [.int (xs (i + 1))]) (ci := 10) rfl rc1 rfl rfl (by exact Nat.le_of_ble_eq_true rfl) (kc2 := kc + 0) (ks2 := ks + 0) (by omega) (by omega) (fun k9 h9 w9 => by cases w9.1) (fun r9 h9 w9 => ?_)
  obtain ⟨w1, w2⟩ := w9
  subst h9
  cases w1
  have hP := t1
  show jJ G X _ (kc + 0) (ks + 0) _ _ (.int r1.1 :: _)
  refine jr_istore K (D_at DL_law__3_q1 8 rfl) (i := 6) (by exact Nat.le_of_ble_eq_true rfl) (L2 := [_, _, _, _, _, _, _]) rfl ?_
  refine jr_goto K (D_at DL_law__3_q1 9 rfl) (tgt := 1948) (by decide) ?_
  refine jr_keep [true, true, true, true, true, false, false] ?_
  exact kk _ hP
def SL_8 (n x m out : Nat) (a : Nat → Int32) (h : jH) (P : jH → Prop) : Prop :=
  ∃ r0, FL_snag n x (a 1) out h = some r0 ∧ ∀ z0, r0.2.1 ≤ z0 → ∃ r1, jcv 10 (z0, r0.2.2) m (F_X12_snag n m (a 1) (z0, r0.2.2)) = some r1 ∧ P r1.2
set_option maxHeartbeats 400000 in
theorem JL_8 {G : jG} {l : Launch} (hst : l.stackTraces = false) {X : jX} {d b L : Nat} {xs : Nat → Int32} {nm : String} {hh : List (Nat × Nat × Nat × Nat)} (K : jOK G l (mlw nm hh) (d + 70) X) (S : jScr G b L xs X) (hL : L ≤ 3072) {i : Nat} (hi : i + 6 ≤ L) (n : Nat) {x m out : Nat} {h : jH} {kc ks : Nat} {P : jH → Prop} (hP : SL_8 n x m out (fun j => xs (i + j)) h P) (kk : ∀ h1, P h1 → jJ G X h1 kc ks 1948 (L7 b x m out i) []) : jJ G X h (kc + 8) (ks + 119) 551 (L7 b x m out i) [] := by
  unfold SL_8 at hP
  obtain ⟨r0, e0, t0⟩ := hP
  refine jr_aload_n K (D_at DL_law__3_q1 10 rfl) rfl rfl ?_
  refine jr_scr K S (k := 1) (by omega) hL rfl rfl (D_at DL_law__3_q1 11 rfl) (D_at DL_law__3_q2 0 rfl) (D_at DL_law__3_q2 1 rfl) (D_at DL_law__3_q2 2 rfl) (D_at DL_law__3_q2 3 rfl) (by decide) ?_
  refine jr_aload_n K (D_at DL_law__3_q2 4 rfl) rfl rfl ?_
  refine jr_callSW K (CL_snag hst (d + 61) e0) (D_at DL_law__3_q2 5 rfl) cs_L_150_L_snag (As := [.ref x, .int (xs (i + 1)), .ref out]) rfl rfl (by exact Nat.le_of_ble_eq_true rfl) (kc2 := kc + 0) (ks2 := ks + 0) (by omega) (by omega) (fun k9 h9 w9 => by cases w9.1) (fun r9 h9 w9 => ?_)
  obtain ⟨w1, z0, hz0, w2⟩ := w9
  subst h9
  cases w1
  obtain ⟨r1, e1, t1⟩ := t0 z0 hz0
  show jJ G X _ (kc + 0) (ks + 0) _ _ (.int r0.1 :: _)
  refine jr_istore K (D_at DL_law__3_q2 6 rfl) (i := 5) (by exact Nat.le_of_ble_eq_true rfl) (L2 := [_, _, _, _, _, _, _]) rfl ?_
  refine jr_aload_n K (D_at DL_law__3_q2 7 rfl) rfl rfl ?_
  refine jr_scr K S (k := 1) (by omega) hL rfl rfl (D_at DL_law__3_q2 8 rfl) (D_at DL_law__3_q2 9 rfl) (D_at DL_law__3_q2 10 rfl) (D_at DL_law__3_q2 11 rfl) (D_at DL_law__3_q3 0 rfl) (by decide) ?_
  obtain ⟨rc1, e1⟩ := jcv_o e1
  refine jr_callV K (C_X12_snag (d + 66) e1) (D_at DL_law__3_q3 1 rfl) cv_L_152_X12_snag (As := [.int (xs (i + 1))]) (ci := 10) rfl rc1 rfl rfl (by exact Nat.le_of_ble_eq_true rfl) (kc2 := kc + 0) (ks2 := ks + 0) (by omega) (by omega) (fun k9 h9 w9 => by cases w9.1) (fun r9 h9 w9 => ?_)
  obtain ⟨w1, w2⟩ := w9
  subst h9
  cases w1
  have hP := t1
  show jJ G X _ (kc + 0) (ks + 0) _ _ (.int r1.1 :: _)
  refine jr_istore K (D_at DL_law__3_q3 2 rfl) (i := 6) (by exact Nat.le_of_ble_eq_true rfl) (L2 := [_, _, _, _, _, _, _]) rfl ?_
  refine jr_goto K (D_at DL_law__3_q3 3 rfl) (tgt := 1948) (by decide) ?_
  refine jr_keep [true, true, true, true, true, false, false] ?_
  exact kk _ hP
def SL_9 (n x m out : Nat) (a : Nat → Int32) (h : jH) (P : jH → Prop) : Prop :=
  ∃ r0, FL_hook n x (a 1) (if (a 2) = 0 then 0 else 1) out h = some r0 ∧ ∀ z0, r0.2.1 ≤ z0 → ∃ r1, jcv 10 (z0, r0.2.2) m (F_X12_hook n m (a 1) (if (a 2) = 0 then 0 else 1) (z0, r0.2.2)) = some r1 ∧ P r1.2
set_option maxHeartbeats 400000 in
theorem JL_9 {G : jG} {l : Launch} (hst : l.stackTraces = false) {X : jX} {d b L : Nat} {xs : Nat → Int32} {nm : String} {hh : List (Nat × Nat × Nat × Nat)} (K : jOK G l (mlw nm hh) (d + 70) X) (S : jScr G b L xs X) (hL : L ≤ 3072) {i : Nat} (hi : i + 6 ≤ L) (n : Nat) {x m out : Nat} {h : jH} {kc ks : Nat} {P : jH → Prop} (hP : SL_9 n x m out (fun j => xs (i + j)) h P) (kk : ∀ h1, P h1 → jJ G X h1 kc ks 1948 (L7 b x m out i) []) : jJ G X h (kc + 8) (ks + 119) 579 (L7 b x m out i) [] := by
  unfold SL_9 at hP
  obtain ⟨r0, e0, t0⟩ := hP
  refine jr_aload_n K (D_at DL_law__3_q3 4 rfl) rfl rfl ?_
  refine jr_scr K S (k := 1) (by omega) hL rfl rfl (D_at DL_law__3_q3 5 rfl) (D_at DL_law__3_q3 6 rfl) (D_at DL_law__3_q3 7 rfl) (D_at DL_law__3_q3 8 rfl) (D_at DL_law__3_q3 9 rfl) (by decide) ?_
  refine jr_scr K S (k := 2) (by omega) hL rfl rfl (D_at DL_law__3_q3 10 rfl) (D_at DL_law__3_q3 11 rfl) (D_at DL_law__3_q4 0 rfl) (D_at DL_law__3_q4 1 rfl) (D_at DL_law__3_q4 2 rfl) (by decide) ?_
  refine jr_nz K (D_at DL_law__3_q4 3 rfl) (D_at DL_law__3_q4 4 rfl) (D_at DL_law__3_q4 5 rfl) (D_at DL_law__3_q4 6 rfl) ?_
  refine jr_aload_n K (D_at DL_law__3_q4 7 rfl) rfl rfl ?_
  refine jr_callSW K (CL_hook hst (d + 61) e0) (D_at DL_law__3_q4 8 rfl) cs_L_153_L_hook (As := [.ref x, .int (xs (i + 1)), .int (if (xs (i + 2)) = 0 then 0 else 1), .ref out]) rfl rfl (by exact Nat.le_of_ble_eq_true rfl) (kc2 := kc + 0) (ks2 := ks + 0) (by omega) (by omega) (fun k9 h9 w9 => by cases w9.1) (fun r9 h9 w9 => ?_)
  obtain ⟨w1, z0, hz0, w2⟩ := w9
  subst h9
  cases w1
  obtain ⟨r1, e1, t1⟩ := t0 z0 hz0
  show jJ G X _ (kc + 0) (ks + 0) _ _ (.int r0.1 :: _)
  refine jr_istore K (D_at DL_law__3_q4 9 rfl) (i := 5) (by exact Nat.le_of_ble_eq_true rfl) (L2 := [_, _, _, _, _, _, _]) rfl ?_
  refine jr_aload_n K (D_at DL_law__3_q4 10 rfl) rfl rfl ?_
  refine jr_scr K S (k := 1) (by omega) hL rfl rfl (D_at DL_law__3_q4 11 rfl) (D_at DL_law__3_q5 0 rfl) (D_at DL_law__3_q5 1 rfl) (D_at DL_law__3_q5 2 rfl) (D_at DL_law__3_q5 3 rfl) (by decide) ?_
  refine jr_scr K S (k := 2) (by omega) hL rfl rfl (D_at DL_law__4_q0 0 rfl) (D_at DL_law__4_q0 1 rfl) (D_at DL_law__4_q0 2 rfl) (D_at DL_law__4_q0 3 rfl) (D_at DL_law__4_q0 4 rfl) (by decide) ?_
  refine jr_nz K (D_at DL_law__4_q0 5 rfl) (D_at DL_law__4_q0 6 rfl) (D_at DL_law__4_q0 7 rfl) (D_at DL_law__4_q0 8 rfl) ?_
  obtain ⟨rc1, e1⟩ := jcv_o e1
  refine jr_callV K (C_X12_hook (d + 66) e1) (D_at DL_law__4_q0 9 rfl) cv_L_156_X12_hook (As := [.int (xs (i + 1)), .int (if (xs (i + 2)) = 0 then 0 else 1)]) (ci := 10) rfl rc1 rfl rfl (by exact Nat.le_of_ble_eq_true rfl) (kc2 := kc + 0) (ks2 := ks + 0) (by omega) (by omega) (fun k9 h9 w9 => by cases w9.1) (fun r9 h9 w9 => ?_)
  obtain ⟨w1, w2⟩ := w9
  subst h9
  cases w1
  have hP := t1
  show jJ G X _ (kc + 0) (ks + 0) _ _ (.int r1.1 :: _)
  refine jr_istore K (D_at DL_law__4_q0 10 rfl) (i := 6) (by exact Nat.le_of_ble_eq_true rfl) (L2 := [_, _, _, _, _, _, _]) rfl ?_
  refine jr_goto K (D_at DL_law__4_q0 11 rfl) (tgt := 1948) (by decide) ?_
  refine jr_keep [true, true, true, true, true, false, false] ?_
  exact kk _ hP
def SL_10 (n x m out : Nat) (a : Nat → Int32) (h : jH) (P : jH → Prop) : Prop :=
  ∃ r0, FL_sew n x (a 1) (a 2) out h = some r0 ∧ ∀ z0, r0.2.1 ≤ z0 → ∃ r1, jcv 10 (z0, r0.2.2) m (F_X12_sew n m (a 1) (a 2) (z0, r0.2.2)) = some r1 ∧ P r1.2
set_option maxHeartbeats 400000 in
theorem JL_10 {G : jG} {l : Launch} (hst : l.stackTraces = false) {X : jX} {d b L : Nat} {xs : Nat → Int32} {nm : String} {hh : List (Nat × Nat × Nat × Nat)} (K : jOK G l (mlw nm hh) (d + 70) X) (S : jScr G b L xs X) (hL : L ≤ 3072) {i : Nat} (hi : i + 6 ≤ L) (n : Nat) {x m out : Nat} {h : jH} {kc ks : Nat} {P : jH → Prop} (hP : SL_10 n x m out (fun j => xs (i + j)) h P) (kk : ∀ h1, P h1 → jJ G X h1 kc ks 1948 (L7 b x m out i) []) : jJ G X h (kc + 9) (ks + 125) 635 (L7 b x m out i) [] := by
  unfold SL_10 at hP
  obtain ⟨r0, e0, t0⟩ := hP
  refine jr_aload_n K (D_at DL_law__4_q1 0 rfl) rfl rfl ?_
  refine jr_scr K S (k := 1) (by omega) hL rfl rfl (D_at DL_law__4_q1 1 rfl) (D_at DL_law__4_q1 2 rfl) (D_at DL_law__4_q1 3 rfl) (D_at DL_law__4_q1 4 rfl) (D_at DL_law__4_q1 5 rfl) (by decide) ?_
  refine jr_scr K S (k := 2) (by omega) hL rfl rfl (D_at DL_law__4_q1 6 rfl) (D_at DL_law__4_q1 7 rfl) (D_at DL_law__4_q1 8 rfl) (D_at DL_law__4_q1 9 rfl) (D_at DL_law__4_q1 10 rfl) (by decide) ?_
  refine jr_aload_n K (D_at DL_law__4_q1 11 rfl) rfl rfl ?_
  refine jr_callSW K (CL_sew hst (d + 61) e0) (D_at DL_law__4_q2 0 rfl) cs_L_157_L_sew (As := [.ref x, .int (xs (i + 1)), .int (xs (i + 2)), .ref out]) rfl rfl (by exact Nat.le_of_ble_eq_true rfl) (kc2 := kc + 0) (ks2 := ks + 0) (by omega) (by omega) (fun k9 h9 w9 => by cases w9.1) (fun r9 h9 w9 => ?_)
  obtain ⟨w1, z0, hz0, w2⟩ := w9
  subst h9
  cases w1
  obtain ⟨r1, e1, t1⟩ := t0 z0 hz0
  show jJ G X _ (kc + 0) (ks + 0) _ _ (.int r0.1 :: _)
  refine jr_istore K (D_at DL_law__4_q2 1 rfl) (i := 5) (by exact Nat.le_of_ble_eq_true rfl) (L2 := [_, _, _, _, _, _, _]) rfl ?_
  refine jr_aload_n K (D_at DL_law__4_q2 2 rfl) rfl rfl ?_
  refine jr_scr K S (k := 1) (by omega) hL rfl rfl (D_at DL_law__4_q2 3 rfl) (D_at DL_law__4_q2 4 rfl) (D_at DL_law__4_q2 5 rfl) (D_at DL_law__4_q2 6 rfl) (D_at DL_law__4_q2 7 rfl) (by decide) ?_
  refine jr_scr K S (k := 2) (by omega) hL rfl rfl (D_at DL_law__4_q2 8 rfl) (D_at DL_law__4_q2 9 rfl) (D_at DL_law__4_q2 10 rfl) (D_at DL_law__4_q2 11 rfl) (D_at DL_law__4_q3 0 rfl) (by decide) ?_
  obtain ⟨rc1, e1⟩ := jcv_o e1
  refine jr_callV K (C_X12_sew (d + 66) e1) (D_at DL_law__4_q3 1 rfl) cv_L_159_X12_sew (As := [.int (xs (i + 1)), .int (xs (i + 2))]) (ci := 10) rfl rc1 rfl rfl (by exact Nat.le_of_ble_eq_true rfl) (kc2 := kc + 0) (ks2 := ks + 0) (by omega) (by omega) (fun k9 h9 w9 => by cases w9.1) (fun r9 h9 w9 => ?_)
  obtain ⟨w1, w2⟩ := w9
  subst h9
  cases w1
  have hP := t1
  show jJ G X _ (kc + 0) (ks + 0) _ _ (.int r1.1 :: _)
  refine jr_istore K (D_at DL_law__4_q3 2 rfl) (i := 6) (by exact Nat.le_of_ble_eq_true rfl) (L2 := [_, _, _, _, _, _, _]) rfl ?_
  refine jr_goto K (D_at DL_law__4_q3 3 rfl) (tgt := 1948) (by decide) ?_
  refine jr_keep [true, true, true, true, true, false, false] ?_
  exact kk _ hP
def SL_11 (n x m out : Nat) (a : Nat → Int32) (h : jH) (P : jH → Prop) : Prop :=
  ∃ r0, FL_let n x (a 1) (a 2) out h = some r0 ∧ ∀ z0, r0.2.1 ≤ z0 → ∃ r1, jcv 10 (z0, r0.2.2) m (F_X12_let n m (a 1) (a 2) (z0, r0.2.2)) = some r1 ∧ P r1.2
set_option maxHeartbeats 400000 in
theorem JL_11 {G : jG} {l : Launch} (hst : l.stackTraces = false) {X : jX} {d b L : Nat} {xs : Nat → Int32} {nm : String} {hh : List (Nat × Nat × Nat × Nat)} (K : jOK G l (mlw nm hh) (d + 70) X) (S : jScr G b L xs X) (hL : L ≤ 3072) {i : Nat} (hi : i + 6 ≤ L) (n : Nat) {x m out : Nat} {h : jH} {kc ks : Nat} {P : jH → Prop} (hP : SL_11 n x m out (fun j => xs (i + j)) h P) (kk : ∀ h1, P h1 → jJ G X h1 kc ks 1948 (L7 b x m out i) []) : jJ G X h (kc + 9) (ks + 125) 675 (L7 b x m out i) [] := by
  unfold SL_11 at hP
  obtain ⟨r0, e0, t0⟩ := hP
  refine jr_aload_n K (D_at DL_law__4_q3 4 rfl) rfl rfl ?_
  refine jr_scr K S (k := 1) (by omega) hL rfl rfl (D_at DL_law__4_q3 5 rfl) (D_at DL_law__4_q3 6 rfl) (D_at DL_law__4_q3 7 rfl) (D_at DL_law__4_q3 8 rfl) (D_at DL_law__4_q3 9 rfl) (by decide) ?_
  refine jr_scr K S (k := 2) (by omega) hL rfl rfl (D_at DL_law__4_q3 10 rfl) (D_at DL_law__4_q3 11 rfl) (D_at DL_law__4_q4 0 rfl) (D_at DL_law__4_q4 1 rfl) (D_at DL_law__4_q4 2 rfl) (by decide) ?_
  refine jr_aload_n K (D_at DL_law__4_q4 3 rfl) rfl rfl ?_
  refine jr_callSW K (CL_let hst (d + 61) e0) (D_at DL_law__4_q4 4 rfl) cs_L_160_L_let (As := [.ref x, .int (xs (i + 1)), .int (xs (i + 2)), .ref out]) rfl rfl (by exact Nat.le_of_ble_eq_true rfl) (kc2 := kc + 0) (ks2 := ks + 0) (by omega) (by omega) (fun k9 h9 w9 => by cases w9.1) (fun r9 h9 w9 => ?_)
  obtain ⟨w1, z0, hz0, w2⟩ := w9
  subst h9
  cases w1
  obtain ⟨r1, e1, t1⟩ := t0 z0 hz0
  show jJ G X _ (kc + 0) (ks + 0) _ _ (.int r0.1 :: _)
  refine jr_istore K (D_at DL_law__4_q4 5 rfl) (i := 5) (by exact Nat.le_of_ble_eq_true rfl) (L2 := [_, _, _, _, _, _, _]) rfl ?_
  refine jr_aload_n K (D_at DL_law__4_q4 6 rfl) rfl rfl ?_
  refine jr_scr K S (k := 1) (by omega) hL rfl rfl (D_at DL_law__4_q4 7 rfl) (D_at DL_law__4_q4 8 rfl) (D_at DL_law__4_q4 9 rfl) (D_at DL_law__4_q4 10 rfl) (D_at DL_law__4_q4 11 rfl) (by decide) ?_
  refine jr_scr K S (k := 2) (by omega) hL rfl rfl (D_at DL_law__4_q5 0 rfl) (D_at DL_law__4_q5 1 rfl) (D_at DL_law__4_q5 2 rfl) (D_at DL_law__4_q5 3 rfl) (D_at DL_law__5_q0 0 rfl) (by decide) ?_
  obtain ⟨rc1, e1⟩ := jcv_o e1
  refine jr_callV K (C_X12_let (d + 66) e1) (D_at DL_law__5_q0 1 rfl) cv_L_162_X12_let (As := [.int (xs (i + 1)), .int (xs (i + 2))]) (ci := 10) rfl rc1 rfl rfl (by exact Nat.le_of_ble_eq_true rfl) (kc2 := kc + 0) (ks2 := ks + 0) (by omega) (by omega) (fun k9 h9 w9 => by cases w9.1) (fun r9 h9 w9 => ?_)
  obtain ⟨w1, w2⟩ := w9
  subst h9
  cases w1
  have hP := t1
  show jJ G X _ (kc + 0) (ks + 0) _ _ (.int r1.1 :: _)
  refine jr_istore K (D_at DL_law__5_q0 2 rfl) (i := 6) (by exact Nat.le_of_ble_eq_true rfl) (L2 := [_, _, _, _, _, _, _]) rfl ?_
  refine jr_goto K (D_at DL_law__5_q0 3 rfl) (tgt := 1948) (by decide) ?_
  refine jr_keep [true, true, true, true, true, false, false] ?_
  exact kk _ hP
def SL_12 (n x m out : Nat) (a : Nat → Int32) (h : jH) (P : jH → Prop) : Prop :=
  ∃ r0, FL_chair n x (a 1) (if (a 2) = 0 then 0 else 1) out h = some r0 ∧ ∀ z0, r0.2.1 ≤ z0 → ∃ r1, jcv 10 (z0, r0.2.2) m (F_X12_chair n m (a 1) (if (a 2) = 0 then 0 else 1) (z0, r0.2.2)) = some r1 ∧ P r1.2
set_option maxHeartbeats 400000 in
theorem JL_12 {G : jG} {l : Launch} (hst : l.stackTraces = false) {X : jX} {d b L : Nat} {xs : Nat → Int32} {nm : String} {hh : List (Nat × Nat × Nat × Nat)} (K : jOK G l (mlw nm hh) (d + 70) X) (S : jScr G b L xs X) (hL : L ≤ 3072) {i : Nat} (hi : i + 6 ≤ L) (n : Nat) {x m out : Nat} {h : jH} {kc ks : Nat} {P : jH → Prop} (hP : SL_12 n x m out (fun j => xs (i + j)) h P) (kk : ∀ h1, P h1 → jJ G X h1 kc ks 1948 (L7 b x m out i) []) : jJ G X h (kc + 8) (ks + 119) 715 (L7 b x m out i) [] := by
  unfold SL_12 at hP
  obtain ⟨r0, e0, t0⟩ := hP
  refine jr_aload_n K (D_at DL_law__5_q0 4 rfl) rfl rfl ?_
  refine jr_scr K S (k := 1) (by omega) hL rfl rfl (D_at DL_law__5_q0 5 rfl) (D_at DL_law__5_q0 6 rfl) (D_at DL_law__5_q0 7 rfl) (D_at DL_law__5_q0 8 rfl) (D_at DL_law__5_q0 9 rfl) (by decide) ?_
  refine jr_scr K S (k := 2) (by omega) hL rfl rfl (D_at DL_law__5_q0 10 rfl) (D_at DL_law__5_q0 11 rfl) (D_at DL_law__5_q1 0 rfl) (D_at DL_law__5_q1 1 rfl) (D_at DL_law__5_q1 2 rfl) (by decide) ?_
  refine jr_nz K (D_at DL_law__5_q1 3 rfl) (D_at DL_law__5_q1 4 rfl) (D_at DL_law__5_q1 5 rfl) (D_at DL_law__5_q1 6 rfl) ?_
  refine jr_aload_n K (D_at DL_law__5_q1 7 rfl) rfl rfl ?_
  refine jr_callSW K (CL_chair hst (d + 61) e0) (D_at DL_law__5_q1 8 rfl) cs_L_163_L_chair (As := [.ref x, .int (xs (i + 1)), .int (if (xs (i + 2)) = 0 then 0 else 1), .ref out]) rfl rfl (by exact Nat.le_of_ble_eq_true rfl) (kc2 := kc + 0) (ks2 := ks + 0) (by omega) (by omega) (fun k9 h9 w9 => by cases w9.1) (fun r9 h9 w9 => ?_)
  obtain ⟨w1, z0, hz0, w2⟩ := w9
  subst h9
  cases w1
  obtain ⟨r1, e1, t1⟩ := t0 z0 hz0
  show jJ G X _ (kc + 0) (ks + 0) _ _ (.int r0.1 :: _)
  refine jr_istore K (D_at DL_law__5_q1 9 rfl) (i := 5) (by exact Nat.le_of_ble_eq_true rfl) (L2 := [_, _, _, _, _, _, _]) rfl ?_
  refine jr_aload_n K (D_at DL_law__5_q1 10 rfl) rfl rfl ?_
  refine jr_scr K S (k := 1) (by omega) hL rfl rfl (D_at DL_law__5_q1 11 rfl) (D_at DL_law__5_q2 0 rfl) (D_at DL_law__5_q2 1 rfl) (D_at DL_law__5_q2 2 rfl) (D_at DL_law__5_q2 3 rfl) (by decide) ?_
  refine jr_scr K S (k := 2) (by omega) hL rfl rfl (D_at DL_law__5_q2 4 rfl) (D_at DL_law__5_q2 5 rfl) (D_at DL_law__5_q2 6 rfl) (D_at DL_law__5_q2 7 rfl) (D_at DL_law__5_q2 8 rfl) (by decide) ?_
  refine jr_nz K (D_at DL_law__5_q2 9 rfl) (D_at DL_law__5_q2 10 rfl) (D_at DL_law__5_q2 11 rfl) (D_at DL_law__5_q3 0 rfl) ?_
  obtain ⟨rc1, e1⟩ := jcv_o e1
  refine jr_callV K (C_X12_chair (d + 67) e1) (D_at DL_law__5_q3 1 rfl) cv_L_165_X12_chair (As := [.int (xs (i + 1)), .int (if (xs (i + 2)) = 0 then 0 else 1)]) (ci := 10) rfl rc1 rfl rfl (by exact Nat.le_of_ble_eq_true rfl) (kc2 := kc + 0) (ks2 := ks + 0) (by omega) (by omega) (fun k9 h9 w9 => by cases w9.1) (fun r9 h9 w9 => ?_)
  obtain ⟨w1, w2⟩ := w9
  subst h9
  cases w1
  have hP := t1
  show jJ G X _ (kc + 0) (ks + 0) _ _ (.int r1.1 :: _)
  refine jr_istore K (D_at DL_law__5_q3 2 rfl) (i := 6) (by exact Nat.le_of_ble_eq_true rfl) (L2 := [_, _, _, _, _, _, _]) rfl ?_
  refine jr_goto K (D_at DL_law__5_q3 3 rfl) (tgt := 1948) (by decide) ?_
  refine jr_keep [true, true, true, true, true, false, false] ?_
  exact kk _ hP
def SL_13 (n x m out : Nat) (a : Nat → Int32) (h : jH) (P : jH → Prop) : Prop :=
  ∃ r0, FL_hours n x (a 1) out h = some r0 ∧ ∀ z0, r0.2.1 ≤ z0 → ∃ r1, jcv 10 (z0, r0.2.2) m (F_X12_hours n m (a 1) (z0, r0.2.2)) = some r1 ∧ P r1.2
set_option maxHeartbeats 400000 in
theorem JL_13 {G : jG} {l : Launch} (hst : l.stackTraces = false) {X : jX} {d b L : Nat} {xs : Nat → Int32} {nm : String} {hh : List (Nat × Nat × Nat × Nat)} (K : jOK G l (mlw nm hh) (d + 70) X) (S : jScr G b L xs X) (hL : L ≤ 3072) {i : Nat} (hi : i + 6 ≤ L) (n : Nat) {x m out : Nat} {h : jH} {kc ks : Nat} {P : jH → Prop} (hP : SL_13 n x m out (fun j => xs (i + j)) h P) (kk : ∀ h1, P h1 → jJ G X h1 kc ks 1948 (L7 b x m out i) []) : jJ G X h (kc + 8) (ks + 119) 771 (L7 b x m out i) [] := by
  unfold SL_13 at hP
  obtain ⟨r0, e0, t0⟩ := hP
  refine jr_aload_n K (D_at DL_law__5_q3 4 rfl) rfl rfl ?_
  refine jr_scr K S (k := 1) (by omega) hL rfl rfl (D_at DL_law__5_q3 5 rfl) (D_at DL_law__5_q3 6 rfl) (D_at DL_law__5_q3 7 rfl) (D_at DL_law__5_q3 8 rfl) (D_at DL_law__5_q3 9 rfl) (by decide) ?_
  refine jr_aload_n K (D_at DL_law__5_q3 10 rfl) rfl rfl ?_
  refine jr_callSW K (CL_hours hst (d + 61) e0) (D_at DL_law__5_q3 11 rfl) cs_L_166_L_hours (As := [.ref x, .int (xs (i + 1)), .ref out]) rfl rfl (by exact Nat.le_of_ble_eq_true rfl) (kc2 := kc + 0) (ks2 := ks + 0) (by omega) (by omega) (fun k9 h9 w9 => by cases w9.1) (fun r9 h9 w9 => ?_)
  obtain ⟨w1, z0, hz0, w2⟩ := w9
  subst h9
  cases w1
  obtain ⟨r1, e1, t1⟩ := t0 z0 hz0
  show jJ G X _ (kc + 0) (ks + 0) _ _ (.int r0.1 :: _)
  refine jr_istore K (D_at DL_law__5_q4 0 rfl) (i := 5) (by exact Nat.le_of_ble_eq_true rfl) (L2 := [_, _, _, _, _, _, _]) rfl ?_
  refine jr_aload_n K (D_at DL_law__5_q4 1 rfl) rfl rfl ?_
  refine jr_scr K S (k := 1) (by omega) hL rfl rfl (D_at DL_law__5_q4 2 rfl) (D_at DL_law__5_q4 3 rfl) (D_at DL_law__5_q4 4 rfl) (D_at DL_law__5_q4 5 rfl) (D_at DL_law__5_q4 6 rfl) (by decide) ?_
  obtain ⟨rc1, e1⟩ := jcv_o e1
  refine jr_callV K (C_X12_hours (d + 59) e1) (D_at DL_law__5_q4 7 rfl) cv_L_168_X12_hours (As := [.int (xs (i + 1))]) (ci := 10) rfl rc1 rfl rfl (by exact Nat.le_of_ble_eq_true rfl) (kc2 := kc + 0) (ks2 := ks + 0) (by omega) (by omega) (fun k9 h9 w9 => by cases w9.1) (fun r9 h9 w9 => ?_)
  obtain ⟨w1, w2⟩ := w9
  subst h9
  cases w1
  have hP := t1
  show jJ G X _ (kc + 0) (ks + 0) _ _ (.int r1.1 :: _)
  refine jr_istore K (D_at DL_law__5_q4 8 rfl) (i := 6) (by exact Nat.le_of_ble_eq_true rfl) (L2 := [_, _, _, _, _, _, _]) rfl ?_
  refine jr_goto K (D_at DL_law__5_q4 9 rfl) (tgt := 1948) (by decide) ?_
  refine jr_keep [true, true, true, true, true, false, false] ?_
  exact kk _ hP
def SL_14 (n x m out : Nat) (a : Nat → Int32) (h : jH) (P : jH → Prop) : Prop :=
  ∃ r0, jcv 9 h x (F_X11_shade n x h) = some r0 ∧ ∃ r1, jcv 10 h m (F_X12_shade n m h) = some r1 ∧ P r1.2
set_option maxHeartbeats 400000 in
theorem JL_14 {G : jG} {l : Launch} (hst : l.stackTraces = false) {X : jX} {d b L : Nat} {xs : Nat → Int32} {nm : String} {hh : List (Nat × Nat × Nat × Nat)} (K : jOK G l (mlw nm hh) (d + 70) X) (S : jScr G b L xs X) (hL : L ≤ 3072) {i : Nat} (hi : i + 6 ≤ L) (n : Nat) {x m out : Nat} {h : jH} {kc ks : Nat} {P : jH → Prop} (hP : SL_14 n x m out (fun j => xs (i + j)) h P) (kk : ∀ h1, P h1 → jJ G X h1 kc ks 1948 (L7 b x m out i) []) : jJ G X h (kc + 0) (ks + 0) 799 (L7 b x m out i) [] := by
  unfold SL_14 at hP
  obtain ⟨r0, e0, t0⟩ := hP
  refine jr_aload_n K (D_at DL_law__5_q4 10 rfl) rfl rfl ?_
  obtain ⟨rc0, e0⟩ := jcv_o e0
  refine jr_callV K (C_X11_shade (d + 67) e0) (D_at DL_law__5_q4 11 rfl) cv_L_169_X11_shade (As := []) (ci := 9) rfl rc0 rfl rfl (by exact Nat.le_of_ble_eq_true rfl) (kc2 := kc + 0) (ks2 := ks + 0) (by omega) (by omega) (fun k9 h9 w9 => by cases w9.1) (fun r9 h9 w9 => ?_)
  obtain ⟨w1, w2⟩ := w9
  subst h9
  cases w1
  obtain ⟨r1, e1, t1⟩ := t0
  show jJ G X _ (kc + 0) (ks + 0) _ _ (.int r0 :: _)
  refine jr_pop K (D_at DL_law__5_q5 0 rfl) rfl ?_
  refine jr_aload_n K (D_at DL_law__5_q5 1 rfl) rfl rfl ?_
  obtain ⟨rc1, e1⟩ := jcv_o e1
  refine jr_callV K (C_X12_shade (d + 65) e1) (D_at DL_law__5_q5 2 rfl) cv_L_172_X12_shade (As := []) (ci := 10) rfl rc1 rfl rfl (by exact Nat.le_of_ble_eq_true rfl) (kc2 := kc + 0) (ks2 := ks + 0) (by omega) (by omega) (fun k9 h9 w9 => by cases w9.1) (fun r9 h9 w9 => ?_)
  obtain ⟨w1, w2⟩ := w9
  subst h9
  cases w1
  have hP := t1
  show jJ G X _ (kc + 0) (ks + 0) _ _ (.int r1.1 :: _)
  refine jr_pop K (D_at DL_law__5_q5 3 rfl) rfl ?_
  refine jr_goto K (D_at DL_law__6_q0 0 rfl) (tgt := 1948) (by decide) ?_
  refine jr_keep [true, true, true, true, true, false, false] ?_
  exact kk _ hP
def SL_15 (n x m out : Nat) (a : Nat → Int32) (h : jH) (P : jH → Prop) : Prop :=
  ∃ r0, jcv 9 h x (F_X11_dark n x h) = some r0 ∧ ∃ r1, jcv 10 h m (F_X12_dark n m h) = some r1 ∧ P r1.2
set_option maxHeartbeats 400000 in
theorem JL_15 {G : jG} {l : Launch} (hst : l.stackTraces = false) {X : jX} {d b L : Nat} {xs : Nat → Int32} {nm : String} {hh : List (Nat × Nat × Nat × Nat)} (K : jOK G l (mlw nm hh) (d + 70) X) (S : jScr G b L xs X) (hL : L ≤ 3072) {i : Nat} (hi : i + 6 ≤ L) (n : Nat) {x m out : Nat} {h : jH} {kc ks : Nat} {P : jH → Prop} (hP : SL_15 n x m out (fun j => xs (i + j)) h P) (kk : ∀ h1, P h1 → jJ G X h1 kc ks 1948 (L7 b x m out i) []) : jJ G X h (kc + 0) (ks + 0) 812 (L7 b x m out i) [] := by
  unfold SL_15 at hP
  obtain ⟨r0, e0, t0⟩ := hP
  refine jr_aload_n K (D_at DL_law__6_q0 1 rfl) rfl rfl ?_
  obtain ⟨rc0, e0⟩ := jcv_o e0
  refine jr_callV K (C_X11_dark (d + 66) e0) (D_at DL_law__6_q0 2 rfl) cv_L_173_X11_dark (As := []) (ci := 9) rfl rc0 rfl rfl (by exact Nat.le_of_ble_eq_true rfl) (kc2 := kc + 0) (ks2 := ks + 0) (by omega) (by omega) (fun k9 h9 w9 => by cases w9.1) (fun r9 h9 w9 => ?_)
  obtain ⟨w1, w2⟩ := w9
  subst h9
  cases w1
  obtain ⟨r1, e1, t1⟩ := t0
  show jJ G X _ (kc + 0) (ks + 0) _ _ (.int r0 :: _)
  refine jr_pop K (D_at DL_law__6_q0 3 rfl) rfl ?_
  refine jr_aload_n K (D_at DL_law__6_q0 4 rfl) rfl rfl ?_
  obtain ⟨rc1, e1⟩ := jcv_o e1
  refine jr_callV K (C_X12_dark (d + 64) e1) (D_at DL_law__6_q0 5 rfl) cv_L_176_X12_dark (As := []) (ci := 10) rfl rc1 rfl rfl (by exact Nat.le_of_ble_eq_true rfl) (kc2 := kc + 0) (ks2 := ks + 0) (by omega) (by omega) (fun k9 h9 w9 => by cases w9.1) (fun r9 h9 w9 => ?_)
  obtain ⟨w1, w2⟩ := w9
  subst h9
  cases w1
  have hP := t1
  show jJ G X _ (kc + 0) (ks + 0) _ _ (.int r1.1 :: _)
  refine jr_pop K (D_at DL_law__6_q0 6 rfl) rfl ?_
  refine jr_goto K (D_at DL_law__6_q0 7 rfl) (tgt := 1948) (by decide) ?_
  refine jr_keep [true, true, true, true, true, false, false] ?_
  exact kk _ hP
def SL_16 (n x m out : Nat) (a : Nat → Int32) (h : jH) (P : jH → Prop) : Prop :=
  ∃ r0, jcv 9 h x (F_X11_bare n x h) = some r0 ∧ ∃ r1, jcv 10 h m (F_X12_bare n m h) = some r1 ∧ P r1.2
set_option maxHeartbeats 400000 in
theorem JL_16 {G : jG} {l : Launch} (hst : l.stackTraces = false) {X : jX} {d b L : Nat} {xs : Nat → Int32} {nm : String} {hh : List (Nat × Nat × Nat × Nat)} (K : jOK G l (mlw nm hh) (d + 70) X) (S : jScr G b L xs X) (hL : L ≤ 3072) {i : Nat} (hi : i + 6 ≤ L) (n : Nat) {x m out : Nat} {h : jH} {kc ks : Nat} {P : jH → Prop} (hP : SL_16 n x m out (fun j => xs (i + j)) h P) (kk : ∀ h1, P h1 → jJ G X h1 kc ks 1948 (L7 b x m out i) []) : jJ G X h (kc + 0) (ks + 0) 825 (L7 b x m out i) [] := by
  unfold SL_16 at hP
  obtain ⟨r0, e0, t0⟩ := hP
  refine jr_aload_n K (D_at DL_law__6_q0 8 rfl) rfl rfl ?_
  obtain ⟨rc0, e0⟩ := jcv_o e0
  refine jr_callV K (C_X11_bare (d + 67) e0) (D_at DL_law__6_q0 9 rfl) cv_L_177_X11_bare (As := []) (ci := 9) rfl rc0 rfl rfl (by exact Nat.le_of_ble_eq_true rfl) (kc2 := kc + 0) (ks2 := ks + 0) (by omega) (by omega) (fun k9 h9 w9 => by cases w9.1) (fun r9 h9 w9 => ?_)
  obtain ⟨w1, w2⟩ := w9
  subst h9
  cases w1
  obtain ⟨r1, e1, t1⟩ := t0
  show jJ G X _ (kc + 0) (ks + 0) _ _ (.int r0 :: _)
  refine jr_pop K (D_at DL_law__6_q0 10 rfl) rfl ?_
  refine jr_aload_n K (D_at DL_law__6_q0 11 rfl) rfl rfl ?_
  obtain ⟨rc1, e1⟩ := jcv_o e1
  refine jr_callV K (C_X12_bare (d + 65) e1) (D_at DL_law__6_q1 0 rfl) cv_L_180_X12_bare (As := []) (ci := 10) rfl rc1 rfl rfl (by exact Nat.le_of_ble_eq_true rfl) (kc2 := kc + 0) (ks2 := ks + 0) (by omega) (by omega) (fun k9 h9 w9 => by cases w9.1) (fun r9 h9 w9 => ?_)
  obtain ⟨w1, w2⟩ := w9
  subst h9
  cases w1
  have hP := t1
  show jJ G X _ (kc + 0) (ks + 0) _ _ (.int r1.1 :: _)
  refine jr_pop K (D_at DL_law__6_q1 1 rfl) rfl ?_
  refine jr_goto K (D_at DL_law__6_q1 2 rfl) (tgt := 1948) (by decide) ?_
  refine jr_keep [true, true, true, true, true, false, false] ?_
  exact kk _ hP
def SL_17 (n x m out : Nat) (a : Nat → Int32) (h : jH) (P : jH → Prop) : Prop :=
  ∃ r0, FL_goes n x (a 1) (if (a 2) = 0 then 0 else 1) out h = some r0 ∧ ∀ z0, r0.2.1 ≤ z0 → ∃ r1, jcv 10 (z0, r0.2.2) m (F_X12_goes n m (a 1) (if (a 2) = 0 then 0 else 1) (z0, r0.2.2)) = some r1 ∧ P r1.2
set_option maxHeartbeats 400000 in
theorem JL_17 {G : jG} {l : Launch} (hst : l.stackTraces = false) {X : jX} {d b L : Nat} {xs : Nat → Int32} {nm : String} {hh : List (Nat × Nat × Nat × Nat)} (K : jOK G l (mlw nm hh) (d + 70) X) (S : jScr G b L xs X) (hL : L ≤ 3072) {i : Nat} (hi : i + 6 ≤ L) (n : Nat) {x m out : Nat} {h : jH} {kc ks : Nat} {P : jH → Prop} (hP : SL_17 n x m out (fun j => xs (i + j)) h P) (kk : ∀ h1, P h1 → jJ G X h1 kc ks 1948 (L7 b x m out i) []) : jJ G X h (kc + 1) (ks + 6) 838 (L7 b x m out i) [] := by
  unfold SL_17 at hP
  obtain ⟨r0, e0, t0⟩ := hP
  refine jr_aload_n K (D_at DL_law__6_q1 3 rfl) rfl rfl ?_
  refine jr_scr K S (k := 1) (by omega) hL rfl rfl (D_at DL_law__6_q1 4 rfl) (D_at DL_law__6_q1 5 rfl) (D_at DL_law__6_q1 6 rfl) (D_at DL_law__6_q1 7 rfl) (D_at DL_law__6_q1 8 rfl) (by decide) ?_
  refine jr_scr K S (k := 2) (by omega) hL rfl rfl (D_at DL_law__6_q1 9 rfl) (D_at DL_law__6_q1 10 rfl) (D_at DL_law__6_q1 11 rfl) (D_at DL_law__6_q2 0 rfl) (D_at DL_law__6_q2 1 rfl) (by decide) ?_
  refine jr_nz K (D_at DL_law__6_q2 2 rfl) (D_at DL_law__6_q2 3 rfl) (D_at DL_law__6_q2 4 rfl) (D_at DL_law__6_q2 5 rfl) ?_
  refine jr_aload_n K (D_at DL_law__6_q2 6 rfl) rfl rfl ?_
  refine jr_callSW K (CL_goes hst (d + 61) e0) (D_at DL_law__6_q2 7 rfl) cs_L_181_L_goes (As := [.ref x, .int (xs (i + 1)), .int (if (xs (i + 2)) = 0 then 0 else 1), .ref out]) rfl rfl (by exact Nat.le_of_ble_eq_true rfl) (kc2 := kc + 0) (ks2 := ks + 0) (by omega) (by omega) (fun k9 h9 w9 => by cases w9.1) (fun r9 h9 w9 => ?_)
  obtain ⟨w1, z0, hz0, w2⟩ := w9
  subst h9
  cases w1
  obtain ⟨r1, e1, t1⟩ := t0 z0 hz0
  show jJ G X _ (kc + 0) (ks + 0) _ _ (.int r0.1 :: _)
  refine jr_istore K (D_at DL_law__6_q2 8 rfl) (i := 5) (by exact Nat.le_of_ble_eq_true rfl) (L2 := [_, _, _, _, _, _, _]) rfl ?_
  refine jr_aload_n K (D_at DL_law__6_q2 9 rfl) rfl rfl ?_
  refine jr_scr K S (k := 1) (by omega) hL rfl rfl (D_at DL_law__6_q2 10 rfl) (D_at DL_law__6_q2 11 rfl) (D_at DL_law__6_q3 0 rfl) (D_at DL_law__6_q3 1 rfl) (D_at DL_law__6_q3 2 rfl) (by decide) ?_
  refine jr_scr K S (k := 2) (by omega) hL rfl rfl (D_at DL_law__6_q3 3 rfl) (D_at DL_law__6_q3 4 rfl) (D_at DL_law__6_q3 5 rfl) (D_at DL_law__6_q3 6 rfl) (D_at DL_law__6_q3 7 rfl) (by decide) ?_
  refine jr_nz K (D_at DL_law__6_q3 8 rfl) (D_at DL_law__6_q3 9 rfl) (D_at DL_law__6_q3 10 rfl) (D_at DL_law__6_q3 11 rfl) ?_
  obtain ⟨rc1, e1⟩ := jcv_o e1
  refine jr_callV K (C_X12_goes (d + 61) e1) (D_at DL_law__6_q4 0 rfl) cv_L_183_X12_goes (As := [.int (xs (i + 1)), .int (if (xs (i + 2)) = 0 then 0 else 1)]) (ci := 10) rfl rc1 rfl rfl (by exact Nat.le_of_ble_eq_true rfl) (kc2 := kc + 0) (ks2 := ks + 0) (by omega) (by omega) (fun k9 h9 w9 => by cases w9.1) (fun r9 h9 w9 => ?_)
  obtain ⟨w1, w2⟩ := w9
  subst h9
  cases w1
  have hP := t1
  show jJ G X _ (kc + 0) (ks + 0) _ _ (.int r1.1 :: _)
  refine jr_istore K (D_at DL_law__6_q4 1 rfl) (i := 6) (by exact Nat.le_of_ble_eq_true rfl) (L2 := [_, _, _, _, _, _, _]) rfl ?_
  refine jr_goto K (D_at DL_law__6_q4 2 rfl) (tgt := 1948) (by decide) ?_
  refine jr_keep [true, true, true, true, true, false, false] ?_
  exact kk _ hP
def SL_18 (n x m out : Nat) (a : Nat → Int32) (h : jH) (P : jH → Prop) : Prop :=
  ∃ r0, FL_with n x (a 1) (if (a 2) = 0 then 0 else 1) out h = some r0 ∧ ∀ z0, r0.2.1 ≤ z0 → ∃ r1, jcv 10 (z0, r0.2.2) m (F_X12_with n m (a 1) (if (a 2) = 0 then 0 else 1) (z0, r0.2.2)) = some r1 ∧ P r1.2
set_option maxHeartbeats 400000 in
theorem JL_18 {G : jG} {l : Launch} (hst : l.stackTraces = false) {X : jX} {d b L : Nat} {xs : Nat → Int32} {nm : String} {hh : List (Nat × Nat × Nat × Nat)} (K : jOK G l (mlw nm hh) (d + 70) X) (S : jScr G b L xs X) (hL : L ≤ 3072) {i : Nat} (hi : i + 6 ≤ L) (n : Nat) {x m out : Nat} {h : jH} {kc ks : Nat} {P : jH → Prop} (hP : SL_18 n x m out (fun j => xs (i + j)) h P) (kk : ∀ h1, P h1 → jJ G X h1 kc ks 1948 (L7 b x m out i) []) : jJ G X h (kc + 1) (ks + 6) 894 (L7 b x m out i) [] := by
  unfold SL_18 at hP
  obtain ⟨r0, e0, t0⟩ := hP
  refine jr_aload_n K (D_at DL_law__6_q4 3 rfl) rfl rfl ?_
  refine jr_scr K S (k := 1) (by omega) hL rfl rfl (D_at DL_law__6_q4 4 rfl) (D_at DL_law__6_q4 5 rfl) (D_at DL_law__6_q4 6 rfl) (D_at DL_law__6_q4 7 rfl) (D_at DL_law__6_q4 8 rfl) (by decide) ?_
  refine jr_scr K S (k := 2) (by omega) hL rfl rfl (D_at DL_law__6_q4 9 rfl) (D_at DL_law__6_q4 10 rfl) (D_at DL_law__6_q4 11 rfl) (D_at DL_law__6_q5 0 rfl) (D_at DL_law__6_q5 1 rfl) (by decide) ?_
  refine jr_nz K (D_at DL_law__6_q5 2 rfl) (D_at DL_law__6_q5 3 rfl) (D_at DL_law__7_q0 0 rfl) (D_at DL_law__7_q0 1 rfl) ?_
  refine jr_aload_n K (D_at DL_law__7_q0 2 rfl) rfl rfl ?_
  refine jr_callSW K (CL_with hst (d + 61) e0) (D_at DL_law__7_q0 3 rfl) cs_L_184_L_with (As := [.ref x, .int (xs (i + 1)), .int (if (xs (i + 2)) = 0 then 0 else 1), .ref out]) rfl rfl (by exact Nat.le_of_ble_eq_true rfl) (kc2 := kc + 0) (ks2 := ks + 0) (by omega) (by omega) (fun k9 h9 w9 => by cases w9.1) (fun r9 h9 w9 => ?_)
  obtain ⟨w1, z0, hz0, w2⟩ := w9
  subst h9
  cases w1
  obtain ⟨r1, e1, t1⟩ := t0 z0 hz0
  show jJ G X _ (kc + 0) (ks + 0) _ _ (.int r0.1 :: _)
  refine jr_istore K (D_at DL_law__7_q0 4 rfl) (i := 5) (by exact Nat.le_of_ble_eq_true rfl) (L2 := [_, _, _, _, _, _, _]) rfl ?_
  refine jr_aload_n K (D_at DL_law__7_q0 5 rfl) rfl rfl ?_
  refine jr_scr K S (k := 1) (by omega) hL rfl rfl (D_at DL_law__7_q0 6 rfl) (D_at DL_law__7_q0 7 rfl) (D_at DL_law__7_q0 8 rfl) (D_at DL_law__7_q0 9 rfl) (D_at DL_law__7_q0 10 rfl) (by decide) ?_
  refine jr_scr K S (k := 2) (by omega) hL rfl rfl (D_at DL_law__7_q0 11 rfl) (D_at DL_law__7_q1 0 rfl) (D_at DL_law__7_q1 1 rfl) (D_at DL_law__7_q1 2 rfl) (D_at DL_law__7_q1 3 rfl) (by decide) ?_
  refine jr_nz K (D_at DL_law__7_q1 4 rfl) (D_at DL_law__7_q1 5 rfl) (D_at DL_law__7_q1 6 rfl) (D_at DL_law__7_q1 7 rfl) ?_
  obtain ⟨rc1, e1⟩ := jcv_o e1
  refine jr_callV K (C_X12_with (d + 63) e1) (D_at DL_law__7_q1 8 rfl) cv_L_186_X12_with (As := [.int (xs (i + 1)), .int (if (xs (i + 2)) = 0 then 0 else 1)]) (ci := 10) rfl rc1 rfl rfl (by exact Nat.le_of_ble_eq_true rfl) (kc2 := kc + 0) (ks2 := ks + 0) (by omega) (by omega) (fun k9 h9 w9 => by cases w9.1) (fun r9 h9 w9 => ?_)
  obtain ⟨w1, w2⟩ := w9
  subst h9
  cases w1
  have hP := t1
  show jJ G X _ (kc + 0) (ks + 0) _ _ (.int r1.1 :: _)
  refine jr_istore K (D_at DL_law__7_q1 9 rfl) (i := 6) (by exact Nat.le_of_ble_eq_true rfl) (L2 := [_, _, _, _, _, _, _]) rfl ?_
  refine jr_goto K (D_at DL_law__7_q1 10 rfl) (tgt := 1948) (by decide) ?_
  refine jr_keep [true, true, true, true, true, false, false] ?_
  exact kk _ hP
def SL_19 (n x m out : Nat) (a : Nat → Int32) (h : jH) (P : jH → Prop) : Prop :=
  ∃ r0, FL_would n x (a 1) (if (a 2) = 0 then 0 else 1) (a 3) (if (a 4) = 0 then 0 else 1) out h = some r0 ∧ ∀ z0, r0.2.1 ≤ z0 → ∃ r1, jcv 10 (z0, r0.2.2) m (F_X12_would n m (a 1) (if (a 2) = 0 then 0 else 1) (a 3) (if (a 4) = 0 then 0 else 1) (z0, r0.2.2)) = some r1 ∧ P r1.2
set_option maxHeartbeats 400000 in
theorem JL_19 {G : jG} {l : Launch} (hst : l.stackTraces = false) {X : jX} {d b L : Nat} {xs : Nat → Int32} {nm : String} {hh : List (Nat × Nat × Nat × Nat)} (K : jOK G l (mlw nm hh) (d + 70) X) (S : jScr G b L xs X) (hL : L ≤ 3072) {i : Nat} (hi : i + 6 ≤ L) (n : Nat) {x m out : Nat} {h : jH} {kc ks : Nat} {P : jH → Prop} (hP : SL_19 n x m out (fun j => xs (i + j)) h P) (kk : ∀ h1, P h1 → jJ G X h1 kc ks 1948 (L7 b x m out i) []) : jJ G X h (kc + 2) (ks + 12) 950 (L7 b x m out i) [] := by
  unfold SL_19 at hP
  obtain ⟨r0, e0, t0⟩ := hP
  refine jr_aload_n K (D_at DL_law__7_q1 11 rfl) rfl rfl ?_
  refine jr_scr K S (k := 1) (by omega) hL rfl rfl (D_at DL_law__7_q2 0 rfl) (D_at DL_law__7_q2 1 rfl) (D_at DL_law__7_q2 2 rfl) (D_at DL_law__7_q2 3 rfl) (D_at DL_law__7_q2 4 rfl) (by decide) ?_
  refine jr_scr K S (k := 2) (by omega) hL rfl rfl (D_at DL_law__7_q2 5 rfl) (D_at DL_law__7_q2 6 rfl) (D_at DL_law__7_q2 7 rfl) (D_at DL_law__7_q2 8 rfl) (D_at DL_law__7_q2 9 rfl) (by decide) ?_
  refine jr_nz K (D_at DL_law__7_q2 10 rfl) (D_at DL_law__7_q2 11 rfl) (D_at DL_law__7_q3 0 rfl) (D_at DL_law__7_q3 1 rfl) ?_
  refine jr_scr K S (k := 3) (by omega) hL rfl rfl (D_at DL_law__7_q3 2 rfl) (D_at DL_law__7_q3 3 rfl) (D_at DL_law__7_q3 4 rfl) (D_at DL_law__7_q3 5 rfl) (D_at DL_law__7_q3 6 rfl) (by decide) ?_
  refine jr_scr K S (k := 4) (by omega) hL rfl rfl (D_at DL_law__7_q3 7 rfl) (D_at DL_law__7_q3 8 rfl) (D_at DL_law__7_q3 9 rfl) (D_at DL_law__7_q3 10 rfl) (D_at DL_law__7_q3 11 rfl) (by decide) ?_
  refine jr_nz K (D_at DL_law__7_q4 0 rfl) (D_at DL_law__7_q4 1 rfl) (D_at DL_law__7_q4 2 rfl) (D_at DL_law__7_q4 3 rfl) ?_
  refine jr_aload_n K (D_at DL_law__7_q4 4 rfl) rfl rfl ?_
  refine jr_callSW K (CL_would hst (d + 61) e0) (D_at DL_law__7_q4 5 rfl) cs_L_187_L_would (As := [.ref x, .int (xs (i + 1)), .int (if (xs (i + 2)) = 0 then 0 else 1), .int (xs (i + 3)), .int (if (xs (i + 4)) = 0 then 0 else 1), .ref out]) rfl rfl (by exact Nat.le_of_ble_eq_true rfl) (kc2 := kc + 0) (ks2 := ks + 0) (by omega) (by omega) (fun k9 h9 w9 => by cases w9.1) (fun r9 h9 w9 => ?_)
  obtain ⟨w1, z0, hz0, w2⟩ := w9
  subst h9
  cases w1
  obtain ⟨r1, e1, t1⟩ := t0 z0 hz0
  show jJ G X _ (kc + 0) (ks + 0) _ _ (.int r0.1 :: _)
  refine jr_istore K (D_at DL_law__7_q4 6 rfl) (i := 5) (by exact Nat.le_of_ble_eq_true rfl) (L2 := [_, _, _, _, _, _, _]) rfl ?_
  refine jr_aload_n K (D_at DL_law__7_q4 7 rfl) rfl rfl ?_
  refine jr_scr K S (k := 1) (by omega) hL rfl rfl (D_at DL_law__7_q4 8 rfl) (D_at DL_law__7_q4 9 rfl) (D_at DL_law__7_q4 10 rfl) (D_at DL_law__7_q4 11 rfl) (D_at DL_law__7_q5 0 rfl) (by decide) ?_
  refine jr_scr K S (k := 2) (by omega) hL rfl rfl (D_at DL_law__7_q5 1 rfl) (D_at DL_law__7_q5 2 rfl) (D_at DL_law__7_q5 3 rfl) (D_at DL_law__8_q0 0 rfl) (D_at DL_law__8_q0 1 rfl) (by decide) ?_
  refine jr_nz K (D_at DL_law__8_q0 2 rfl) (D_at DL_law__8_q0 3 rfl) (D_at DL_law__8_q0 4 rfl) (D_at DL_law__8_q0 5 rfl) ?_
  refine jr_scr K S (k := 3) (by omega) hL rfl rfl (D_at DL_law__8_q0 6 rfl) (D_at DL_law__8_q0 7 rfl) (D_at DL_law__8_q0 8 rfl) (D_at DL_law__8_q0 9 rfl) (D_at DL_law__8_q0 10 rfl) (by decide) ?_
  refine jr_scr K S (k := 4) (by omega) hL rfl rfl (D_at DL_law__8_q0 11 rfl) (D_at DL_law__8_q1 0 rfl) (D_at DL_law__8_q1 1 rfl) (D_at DL_law__8_q1 2 rfl) (D_at DL_law__8_q1 3 rfl) (by decide) ?_
  refine jr_nz K (D_at DL_law__8_q1 4 rfl) (D_at DL_law__8_q1 5 rfl) (D_at DL_law__8_q1 6 rfl) (D_at DL_law__8_q1 7 rfl) ?_
  obtain ⟨rc1, e1⟩ := jcv_o e1
  refine jr_callV K (C_X12_would (d + 61) e1) (D_at DL_law__8_q1 8 rfl) cv_L_190_X12_would (As := [.int (xs (i + 1)), .int (if (xs (i + 2)) = 0 then 0 else 1), .int (xs (i + 3)), .int (if (xs (i + 4)) = 0 then 0 else 1)]) (ci := 10) rfl rc1 rfl rfl (by exact Nat.le_of_ble_eq_true rfl) (kc2 := kc + 0) (ks2 := ks + 0) (by omega) (by omega) (fun k9 h9 w9 => by cases w9.1) (fun r9 h9 w9 => ?_)
  obtain ⟨w1, w2⟩ := w9
  subst h9
  cases w1
  have hP := t1
  show jJ G X _ (kc + 0) (ks + 0) _ _ (.int r1.1 :: _)
  refine jr_istore K (D_at DL_law__8_q1 9 rfl) (i := 6) (by exact Nat.le_of_ble_eq_true rfl) (L2 := [_, _, _, _, _, _, _]) rfl ?_
  refine jr_goto K (D_at DL_law__8_q1 10 rfl) (tgt := 1948) (by decide) ?_
  refine jr_keep [true, true, true, true, true, false, false] ?_
  exact kk _ hP
def SL_20 (n x m out : Nat) (a : Nat → Int32) (h : jH) (P : jH → Prop) : Prop :=
  ∃ r0, jcv 9 h x (F_X11_best n x h) = some r0 ∧ ∃ r1, jcv 10 r0.2 m (F_X12_best n m r0.2) = some r1 ∧ P r1.2
set_option maxHeartbeats 400000 in
theorem JL_20 {G : jG} {l : Launch} (hst : l.stackTraces = false) {X : jX} {d b L : Nat} {xs : Nat → Int32} {nm : String} {hh : List (Nat × Nat × Nat × Nat)} (K : jOK G l (mlw nm hh) (d + 70) X) (S : jScr G b L xs X) (hL : L ≤ 3072) {i : Nat} (hi : i + 6 ≤ L) (n : Nat) {x m out : Nat} {h : jH} {kc ks : Nat} {P : jH → Prop} (hP : SL_20 n x m out (fun j => xs (i + j)) h P) (kk : ∀ h1, P h1 → jJ G X h1 kc ks 1948 (L7 b x m out i) []) : jJ G X h (kc + 0) (ks + 0) 1046 (L7 b x m out i) [] := by
  unfold SL_20 at hP
  obtain ⟨r0, e0, t0⟩ := hP
  refine jr_aload_n K (D_at DL_law__8_q1 11 rfl) rfl rfl ?_
  obtain ⟨rc0, e0⟩ := jcv_o e0
  refine jr_callV K (C_X11_best (d + 65) e0) (D_at DL_law__8_q2 0 rfl) cv_L_191_X11_best (As := []) (ci := 9) rfl rc0 rfl rfl (by exact Nat.le_of_ble_eq_true rfl) (kc2 := kc + 0) (ks2 := ks + 0) (by omega) (by omega) (fun k9 h9 w9 => by cases w9.1) (fun r9 h9 w9 => ?_)
  obtain ⟨w1, w2⟩ := w9
  subst h9
  cases w1
  obtain ⟨r1, e1, t1⟩ := t0
  show jJ G X _ (kc + 0) (ks + 0) _ _ (.int r0.1 :: _)
  refine jr_pop K (D_at DL_law__8_q2 1 rfl) rfl ?_
  refine jr_aload_n K (D_at DL_law__8_q2 2 rfl) rfl rfl ?_
  obtain ⟨rc1, e1⟩ := jcv_o e1
  refine jr_callV K (C_X12_best (d + 62) e1) (D_at DL_law__8_q2 3 rfl) cv_L_194_X12_best (As := []) (ci := 10) rfl rc1 rfl rfl (by exact Nat.le_of_ble_eq_true rfl) (kc2 := kc + 0) (ks2 := ks + 0) (by omega) (by omega) (fun k9 h9 w9 => by cases w9.1) (fun r9 h9 w9 => ?_)
  obtain ⟨w1, w2⟩ := w9
  subst h9
  cases w1
  have hP := t1
  show jJ G X _ (kc + 0) (ks + 0) _ _ (.int r1.1 :: _)
  refine jr_pop K (D_at DL_law__8_q2 4 rfl) rfl ?_
  refine jr_goto K (D_at DL_law__8_q2 5 rfl) (tgt := 1948) (by decide) ?_
  refine jr_keep [true, true, true, true, true, false, false] ?_
  exact kk _ hP
def SL_21 (n x m out : Nat) (a : Nat → Int32) (h : jH) (P : jH → Prop) : Prop :=
  ∃ r0, jcv 9 h x (F_X11_fewest n x (a 1) h) = some r0 ∧ ∃ r1, jcv 10 r0.2 m (F_X12_fewest n m (a 1) r0.2) = some r1 ∧ P r1.2
set_option maxHeartbeats 400000 in
theorem JL_21 {G : jG} {l : Launch} (hst : l.stackTraces = false) {X : jX} {d b L : Nat} {xs : Nat → Int32} {nm : String} {hh : List (Nat × Nat × Nat × Nat)} (K : jOK G l (mlw nm hh) (d + 70) X) (S : jScr G b L xs X) (hL : L ≤ 3072) {i : Nat} (hi : i + 6 ≤ L) (n : Nat) {x m out : Nat} {h : jH} {kc ks : Nat} {P : jH → Prop} (hP : SL_21 n x m out (fun j => xs (i + j)) h P) (kk : ∀ h1, P h1 → jJ G X h1 kc ks 1948 (L7 b x m out i) []) : jJ G X h (kc + 0) (ks + 0) 1059 (L7 b x m out i) [] := by
  unfold SL_21 at hP
  obtain ⟨r0, e0, t0⟩ := hP
  refine jr_aload_n K (D_at DL_law__8_q2 6 rfl) rfl rfl ?_
  refine jr_scr K S (k := 1) (by omega) hL rfl rfl (D_at DL_law__8_q2 7 rfl) (D_at DL_law__8_q2 8 rfl) (D_at DL_law__8_q2 9 rfl) (D_at DL_law__8_q2 10 rfl) (D_at DL_law__8_q2 11 rfl) (by decide) ?_
  obtain ⟨rc0, e0⟩ := jcv_o e0
  refine jr_callV K (C_X11_fewest (d + 64) e0) (D_at DL_law__8_q3 0 rfl) cv_L_195_X11_fewest (As := [.int (xs (i + 1))]) (ci := 9) rfl rc0 rfl rfl (by exact Nat.le_of_ble_eq_true rfl) (kc2 := kc + 0) (ks2 := ks + 0) (by omega) (by omega) (fun k9 h9 w9 => by cases w9.1) (fun r9 h9 w9 => ?_)
  obtain ⟨w1, w2⟩ := w9
  subst h9
  cases w1
  obtain ⟨r1, e1, t1⟩ := t0
  show jJ G X _ (kc + 0) (ks + 0) _ _ (.int r0.1 :: _)
  refine jr_pop K (D_at DL_law__8_q3 1 rfl) rfl ?_
  refine jr_aload_n K (D_at DL_law__8_q3 2 rfl) rfl rfl ?_
  refine jr_scr K S (k := 1) (by omega) hL rfl rfl (D_at DL_law__8_q3 3 rfl) (D_at DL_law__8_q3 4 rfl) (D_at DL_law__8_q3 5 rfl) (D_at DL_law__8_q3 6 rfl) (D_at DL_law__8_q3 7 rfl) (by decide) ?_
  obtain ⟨rc1, e1⟩ := jcv_o e1
  refine jr_callV K (C_X12_fewest (d + 60) e1) (D_at DL_law__8_q3 8 rfl) cv_L_198_X12_fewest (As := [.int (xs (i + 1))]) (ci := 10) rfl rc1 rfl rfl (by exact Nat.le_of_ble_eq_true rfl) (kc2 := kc + 0) (ks2 := ks + 0) (by omega) (by omega) (fun k9 h9 w9 => by cases w9.1) (fun r9 h9 w9 => ?_)
  obtain ⟨w1, w2⟩ := w9
  subst h9
  cases w1
  have hP := t1
  show jJ G X _ (kc + 0) (ks + 0) _ _ (.int r1.1 :: _)
  refine jr_pop K (D_at DL_law__8_q3 9 rfl) rfl ?_
  refine jr_goto K (D_at DL_law__8_q3 10 rfl) (tgt := 1948) (by decide) ?_
  refine jr_keep [true, true, true, true, true, false, false] ?_
  exact kk _ hP
def SL_22 (n x m out : Nat) (a : Nat → Int32) (h : jH) (P : jH → Prop) : Prop :=
  ∃ r0, jcv 9 h x (F_X11_first n x (a 1) h) = some r0 ∧ ∃ r1, jcv 10 r0.2 m (F_X12_first n m (a 1) r0.2) = some r1 ∧ P r1.2
set_option maxHeartbeats 400000 in
theorem JL_22 {G : jG} {l : Launch} (hst : l.stackTraces = false) {X : jX} {d b L : Nat} {xs : Nat → Int32} {nm : String} {hh : List (Nat × Nat × Nat × Nat)} (K : jOK G l (mlw nm hh) (d + 70) X) (S : jScr G b L xs X) (hL : L ≤ 3072) {i : Nat} (hi : i + 6 ≤ L) (n : Nat) {x m out : Nat} {h : jH} {kc ks : Nat} {P : jH → Prop} (hP : SL_22 n x m out (fun j => xs (i + j)) h P) (kk : ∀ h1, P h1 → jJ G X h1 kc ks 1948 (L7 b x m out i) []) : jJ G X h (kc + 0) (ks + 0) 1084 (L7 b x m out i) [] := by
  unfold SL_22 at hP
  obtain ⟨r0, e0, t0⟩ := hP
  refine jr_aload_n K (D_at DL_law__8_q3 11 rfl) rfl rfl ?_
  refine jr_scr K S (k := 1) (by omega) hL rfl rfl (D_at DL_law__8_q4 0 rfl) (D_at DL_law__8_q4 1 rfl) (D_at DL_law__8_q4 2 rfl) (D_at DL_law__8_q4 3 rfl) (D_at DL_law__8_q4 4 rfl) (by decide) ?_
  obtain ⟨rc0, e0⟩ := jcv_o e0
  refine jr_callV K (C_X11_first (d + 64) e0) (D_at DL_law__8_q4 5 rfl) cv_L_199_X11_first (As := [.int (xs (i + 1))]) (ci := 9) rfl rc0 rfl rfl (by exact Nat.le_of_ble_eq_true rfl) (kc2 := kc + 0) (ks2 := ks + 0) (by omega) (by omega) (fun k9 h9 w9 => by cases w9.1) (fun r9 h9 w9 => ?_)
  obtain ⟨w1, w2⟩ := w9
  subst h9
  cases w1
  obtain ⟨r1, e1, t1⟩ := t0
  show jJ G X _ (kc + 0) (ks + 0) _ _ (.int r0.1 :: _)
  refine jr_pop K (D_at DL_law__8_q4 6 rfl) rfl ?_
  refine jr_aload_n K (D_at DL_law__8_q4 7 rfl) rfl rfl ?_
  refine jr_scr K S (k := 1) (by omega) hL rfl rfl (D_at DL_law__8_q4 8 rfl) (D_at DL_law__8_q4 9 rfl) (D_at DL_law__8_q4 10 rfl) (D_at DL_law__8_q4 11 rfl) (D_at DL_law__8_q5 0 rfl) (by decide) ?_
  obtain ⟨rc1, e1⟩ := jcv_o e1
  refine jr_callV K (C_X12_first (d + 60) e1) (D_at DL_law__8_q5 1 rfl) cv_L_202_X12_first (As := [.int (xs (i + 1))]) (ci := 10) rfl rc1 rfl rfl (by exact Nat.le_of_ble_eq_true rfl) (kc2 := kc + 0) (ks2 := ks + 0) (by omega) (by omega) (fun k9 h9 w9 => by cases w9.1) (fun r9 h9 w9 => ?_)
  obtain ⟨w1, w2⟩ := w9
  subst h9
  cases w1
  have hP := t1
  show jJ G X _ (kc + 0) (ks + 0) _ _ (.int r1.1 :: _)
  refine jr_pop K (D_at DL_law__8_q5 2 rfl) rfl ?_
  refine jr_goto K (D_at DL_law__8_q5 3 rfl) (tgt := 1948) (by decide) ?_
  refine jr_keep [true, true, true, true, true, false, false] ?_
  exact kk _ hP
def SL_23 (n x m out : Nat) (a : Nat → Int32) (h : jH) (P : jH → Prop) : Prop :=
  ∃ r0, FL_snags n x (if (a 1) = 0 then 0 else 1) out h = some r0 ∧ ∀ z0, r0.2.1 ≤ z0 → ∃ r1, jcv 10 (z0, r0.2.2) m (F_X12_snags n m (if (a 1) = 0 then 0 else 1) (z0, r0.2.2)) = some r1 ∧ P r1.2
set_option maxHeartbeats 400000 in
theorem JL_23 {G : jG} {l : Launch} (hst : l.stackTraces = false) {X : jX} {d b L : Nat} {xs : Nat → Int32} {nm : String} {hh : List (Nat × Nat × Nat × Nat)} (K : jOK G l (mlw nm hh) (d + 70) X) (S : jScr G b L xs X) (hL : L ≤ 3072) {i : Nat} (hi : i + 6 ≤ L) (n : Nat) {x m out : Nat} {h : jH} {kc ks : Nat} {P : jH → Prop} (hP : SL_23 n x m out (fun j => xs (i + j)) h P) (kk : ∀ h1, P h1 → jJ G X h1 kc ks 1948 (L7 b x m out i) []) : jJ G X h (kc + 1) (ks + 6) 1109 (L7 b x m out i) [] := by
  unfold SL_23 at hP
  obtain ⟨r0, e0, t0⟩ := hP
  refine jr_aload_n K (D_at DL_law__9_q0 0 rfl) rfl rfl ?_
  refine jr_scr K S (k := 1) (by omega) hL rfl rfl (D_at DL_law__9_q0 1 rfl) (D_at DL_law__9_q0 2 rfl) (D_at DL_law__9_q0 3 rfl) (D_at DL_law__9_q0 4 rfl) (D_at DL_law__9_q0 5 rfl) (by decide) ?_
  refine jr_nz K (D_at DL_law__9_q0 6 rfl) (D_at DL_law__9_q0 7 rfl) (D_at DL_law__9_q0 8 rfl) (D_at DL_law__9_q0 9 rfl) ?_
  refine jr_aload_n K (D_at DL_law__9_q0 10 rfl) rfl rfl ?_
  refine jr_callSW K (CL_snags hst (d + 61) e0) (D_at DL_law__9_q0 11 rfl) cs_L_203_L_snags (As := [.ref x, .int (if (xs (i + 1)) = 0 then 0 else 1), .ref out]) rfl rfl (by exact Nat.le_of_ble_eq_true rfl) (kc2 := kc + 0) (ks2 := ks + 0) (by omega) (by omega) (fun k9 h9 w9 => by cases w9.1) (fun r9 h9 w9 => ?_)
  obtain ⟨w1, z0, hz0, w2⟩ := w9
  subst h9
  cases w1
  obtain ⟨r1, e1, t1⟩ := t0 z0 hz0
  show jJ G X _ (kc + 0) (ks + 0) _ _ (.int r0.1 :: _)
  refine jr_istore K (D_at DL_law__9_q1 0 rfl) (i := 5) (by exact Nat.le_of_ble_eq_true rfl) (L2 := [_, _, _, _, _, _, _]) rfl ?_
  refine jr_aload_n K (D_at DL_law__9_q1 1 rfl) rfl rfl ?_
  refine jr_scr K S (k := 1) (by omega) hL rfl rfl (D_at DL_law__9_q1 2 rfl) (D_at DL_law__9_q1 3 rfl) (D_at DL_law__9_q1 4 rfl) (D_at DL_law__9_q1 5 rfl) (D_at DL_law__9_q1 6 rfl) (by decide) ?_
  refine jr_nz K (D_at DL_law__9_q1 7 rfl) (D_at DL_law__9_q1 8 rfl) (D_at DL_law__9_q1 9 rfl) (D_at DL_law__9_q1 10 rfl) ?_
  obtain ⟨rc1, e1⟩ := jcv_o e1
  refine jr_callV K (C_X12_snags (d + 59) e1) (D_at DL_law__9_q1 11 rfl) cv_L_206_X12_snags (As := [.int (if (xs (i + 1)) = 0 then 0 else 1)]) (ci := 10) rfl rc1 rfl rfl (by exact Nat.le_of_ble_eq_true rfl) (kc2 := kc + 0) (ks2 := ks + 0) (by omega) (by omega) (fun k9 h9 w9 => by cases w9.1) (fun r9 h9 w9 => ?_)
  obtain ⟨w1, w2⟩ := w9
  subst h9
  cases w1
  have hP := t1
  show jJ G X _ (kc + 0) (ks + 0) _ _ (.int r1.1 :: _)
  refine jr_istore K (D_at DL_law__9_q2 0 rfl) (i := 6) (by exact Nat.le_of_ble_eq_true rfl) (L2 := [_, _, _, _, _, _, _]) rfl ?_
  refine jr_goto K (D_at DL_law__9_q2 1 rfl) (tgt := 1948) (by decide) ?_
  refine jr_keep [true, true, true, true, true, false, false] ?_
  exact kk _ hP
def SL_24 (n x m out : Nat) (a : Nat → Int32) (h : jH) (P : jH → Prop) : Prop :=
  ∃ r0, FL_tries n x out h = some r0 ∧ ∀ z0, r0.2.1 ≤ z0 → ∃ r1, jcv 10 (z0, r0.2.2) m (F_X12_tries n m (z0, r0.2.2)) = some r1 ∧ P r1.2
set_option maxHeartbeats 400000 in
theorem JL_24 {G : jG} {l : Launch} (hst : l.stackTraces = false) {X : jX} {d b L : Nat} {xs : Nat → Int32} {nm : String} {hh : List (Nat × Nat × Nat × Nat)} (K : jOK G l (mlw nm hh) (d + 70) X) (S : jScr G b L xs X) (hL : L ≤ 3072) {i : Nat} (hi : i + 6 ≤ L) (n : Nat) {x m out : Nat} {h : jH} {kc ks : Nat} {P : jH → Prop} (hP : SL_24 n x m out (fun j => xs (i + j)) h P) (kk : ∀ h1, P h1 → jJ G X h1 kc ks 1948 (L7 b x m out i) []) : jJ G X h (kc + 1) (ks + 6) 1153 (L7 b x m out i) [] := by
  unfold SL_24 at hP
  obtain ⟨r0, e0, t0⟩ := hP
  refine jr_aload_n K (D_at DL_law__9_q2 2 rfl) rfl rfl ?_
  refine jr_aload_n K (D_at DL_law__9_q2 3 rfl) rfl rfl ?_
  refine jr_callSW K (CL_tries hst (d + 61) e0) (D_at DL_law__9_q2 4 rfl) cs_L_207_L_tries (As := [.ref x, .ref out]) rfl rfl (by exact Nat.le_of_ble_eq_true rfl) (kc2 := kc + 0) (ks2 := ks + 0) (by omega) (by omega) (fun k9 h9 w9 => by cases w9.1) (fun r9 h9 w9 => ?_)
  obtain ⟨w1, z0, hz0, w2⟩ := w9
  subst h9
  cases w1
  obtain ⟨r1, e1, t1⟩ := t0 z0 hz0
  show jJ G X _ (kc + 0) (ks + 0) _ _ (.int r0.1 :: _)
  refine jr_istore K (D_at DL_law__9_q2 5 rfl) (i := 5) (by exact Nat.le_of_ble_eq_true rfl) (L2 := [_, _, _, _, _, _, _]) rfl ?_
  refine jr_aload_n K (D_at DL_law__9_q2 6 rfl) rfl rfl ?_
  obtain ⟨rc1, e1⟩ := jcv_o e1
  refine jr_callV K (C_X12_tries (d + 59) e1) (D_at DL_law__9_q2 7 rfl) cv_L_209_X12_tries (As := []) (ci := 10) rfl rc1 rfl rfl (by exact Nat.le_of_ble_eq_true rfl) (kc2 := kc + 0) (ks2 := ks + 0) (by omega) (by omega) (fun k9 h9 w9 => by cases w9.1) (fun r9 h9 w9 => ?_)
  obtain ⟨w1, w2⟩ := w9
  subst h9
  cases w1
  have hP := t1
  show jJ G X _ (kc + 0) (ks + 0) _ _ (.int r1.1 :: _)
  refine jr_istore K (D_at DL_law__9_q2 8 rfl) (i := 6) (by exact Nat.le_of_ble_eq_true rfl) (L2 := [_, _, _, _, _, _, _]) rfl ?_
  refine jr_goto K (D_at DL_law__9_q2 9 rfl) (tgt := 1948) (by decide) ?_
  refine jr_keep [true, true, true, true, true, false, false] ?_
  exact kk _ hP
def SL_25 (n x m out : Nat) (a : Nat → Int32) (h : jH) (P : jH → Prop) : Prop :=
  ∃ r0, FL_loosen n x (a 1) (if (a 2) = 0 then 0 else 1) (a 3) out h = some r0 ∧ ∀ z0, r0.2.1 ≤ z0 → ∃ r1, jcv 10 (z0, r0.2.2) m (F_X12_loosen n m (a 1) (if (a 2) = 0 then 0 else 1) (a 3) (z0, r0.2.2)) = some r1 ∧ ∃ r2, jcv 10 r1.2 m (F_X12_thrown n m r1.2) = some r2 ∧ r2 = r0.1 ∧ (r0.1 = 0 → jall_ r1.2 out 0 = some r1.1.toInt64) ∧ P r1.2
set_option maxHeartbeats 400000 in
theorem JL_25 {G : jG} {l : Launch} (hst : l.stackTraces = false) {X : jX} {d b L : Nat} {xs : Nat → Int32} {nm : String} {hh : List (Nat × Nat × Nat × Nat)} (K : jOK G l (mlw nm hh) (d + 70) X) (S : jScr G b L xs X) (hL : L ≤ 3072) {i : Nat} (hi : i + 6 ≤ L) (n : Nat) {x m out : Nat} {h : jH} {kc ks : Nat} {P : jH → Prop} (hP : SL_25 n x m out (fun j => xs (i + j)) h P) (kk : ∀ h1, P h1 → jJ G X h1 kc ks 1948 (L7 b x m out i) []) : jJ G X h (kc + 2) (ks + 12) 1169 (L7 b x m out i) [] := by
  unfold SL_25 at hP
  obtain ⟨r0, e0, t0⟩ := hP
  refine jr_aload_n K (D_at DL_law__9_q2 10 rfl) rfl rfl ?_
  refine jr_scr K S (k := 1) (by omega) hL rfl rfl (D_at DL_law__9_q2 11 rfl) (D_at DL_law__9_q3 0 rfl) (D_at DL_law__9_q3 1 rfl) (D_at DL_law__9_q3 2 rfl) (D_at DL_law__9_q3 3 rfl) (by decide) ?_
  refine jr_scr K S (k := 2) (by omega) hL rfl rfl (D_at DL_law__9_q3 4 rfl) (D_at DL_law__9_q3 5 rfl) (D_at DL_law__9_q3 6 rfl) (D_at DL_law__9_q3 7 rfl) (D_at DL_law__9_q3 8 rfl) (by decide) ?_
  refine jr_nz K (D_at DL_law__9_q3 9 rfl) (D_at DL_law__9_q3 10 rfl) (D_at DL_law__9_q3 11 rfl) (D_at DL_law__9_q4 0 rfl) ?_
  refine jr_scr K S (k := 3) (by omega) hL rfl rfl (D_at DL_law__9_q4 1 rfl) (D_at DL_law__9_q4 2 rfl) (D_at DL_law__9_q4 3 rfl) (D_at DL_law__9_q4 4 rfl) (D_at DL_law__9_q4 5 rfl) (by decide) ?_
  refine jr_aload_n K (D_at DL_law__9_q4 6 rfl) rfl rfl ?_
  refine jr_callSW K (CL_loosen hst (d + 61) e0) (D_at DL_law__9_q4 7 rfl) cs_L_210_L_loosen (As := [.ref x, .int (xs (i + 1)), .int (if (xs (i + 2)) = 0 then 0 else 1), .int (xs (i + 3)), .ref out]) rfl rfl (by exact Nat.le_of_ble_eq_true rfl) (kc2 := kc + 0) (ks2 := ks + 0) (by omega) (by omega) (fun k9 h9 w9 => by cases w9.1) (fun r9 h9 w9 => ?_)
  obtain ⟨w1, z0, hz0, w2⟩ := w9
  subst h9
  cases w1
  obtain ⟨r1, e1, t1⟩ := t0 z0 hz0
  show jJ G X _ (kc + 0) (ks + 0) _ _ (.int r0.1 :: _)
  refine jr_istore K (D_at DL_law__9_q4 8 rfl) (i := 5) (by exact Nat.le_of_ble_eq_true rfl) (L2 := [_, _, _, _, _, _, _]) rfl ?_
  refine jr_aload_n K (D_at DL_law__9_q4 9 rfl) rfl rfl ?_
  refine jr_scr K S (k := 1) (by omega) hL rfl rfl (D_at DL_law__9_q4 10 rfl) (D_at DL_law__9_q4 11 rfl) (D_at DL_law__9_q5 0 rfl) (D_at DL_law__9_q5 1 rfl) (D_at DL_law__9_q5 2 rfl) (by decide) ?_
  refine jr_scr K S (k := 2) (by omega) hL rfl rfl (D_at DL_law__9_q5 3 rfl) (D_at DL_law__10_q0 0 rfl) (D_at DL_law__10_q0 1 rfl) (D_at DL_law__10_q0 2 rfl) (D_at DL_law__10_q0 3 rfl) (by decide) ?_
  refine jr_nz K (D_at DL_law__10_q0 4 rfl) (D_at DL_law__10_q0 5 rfl) (D_at DL_law__10_q0 6 rfl) (D_at DL_law__10_q0 7 rfl) ?_
  refine jr_scr K S (k := 3) (by omega) hL rfl rfl (D_at DL_law__10_q0 8 rfl) (D_at DL_law__10_q0 9 rfl) (D_at DL_law__10_q0 10 rfl) (D_at DL_law__10_q0 11 rfl) (D_at DL_law__10_q1 0 rfl) (by decide) ?_
  obtain ⟨rc1, e1⟩ := jcv_o e1
  refine jr_callV K (C_X12_loosen (d + 60) e1) (D_at DL_law__10_q1 1 rfl) cv_L_212_X12_loosen (As := [.int (xs (i + 1)), .int (if (xs (i + 2)) = 0 then 0 else 1), .int (xs (i + 3))]) (ci := 10) rfl rc1 rfl rfl (by exact Nat.le_of_ble_eq_true rfl) (kc2 := kc + 0) (ks2 := ks + 0) (by omega) (by omega) (fun k9 h9 w9 => by cases w9.1) (fun r9 h9 w9 => ?_)
  obtain ⟨w1, w2⟩ := w9
  subst h9
  cases w1
  obtain ⟨r2, e2, t2⟩ := t1
  show jJ G X _ (kc + 0) (ks + 0) _ _ (.int r1.1 :: _)
  refine jr_istore K (D_at DL_law__10_q1 2 rfl) (i := 6) (by exact Nat.le_of_ble_eq_true rfl) (L2 := [_, _, _, _, _, _, _]) rfl ?_
  refine jr_aload_n K (D_at DL_law__10_q1 3 rfl) rfl rfl ?_
  obtain ⟨rc2, e2⟩ := jcv_o e2
  refine jr_callV K (C_X12_thrown (d + 69) e2) (D_at DL_law__10_q1 4 rfl) cv_L_213_X12_thrown (As := []) (ci := 10) rfl rc2 rfl rfl (by exact Nat.le_of_ble_eq_true rfl) (kc2 := kc + 0) (ks2 := ks + 0) (by omega) (by omega) (fun k9 h9 w9 => by cases w9.1) (fun r9 h9 w9 => ?_)
  obtain ⟨w1, w2⟩ := w9
  subst h9
  cases w1
  obtain ⟨EQ0, IM0, hP⟩ := t2
  show jJ G X _ (kc + 0) (ks + 0) _ _ (.int r2 :: _)
  refine jr_iload K (D_at DL_law__10_q1 5 rfl) rfl ?_
  refine jr_icmp_eq K (D_at DL_law__10_q1 6 rfl) (tgt := 1245) (by decide) (fun _ => ?_) (fun q => absurd EQ0 q)
  refine jr_iload K (D_at DL_law__10_q1 9 rfl) rfl ?_
  refine jr_if_ne K (D_at DL_law__10_q1 10 rfl) (tgt := 1262) (by decide) (fun _ => ?_) (fun q9 => ?_)
  · refine jr_goto K (D_at DL_law__10_q2 8 rfl) (tgt := 1948) (by decide) ?_
    refine jr_keep [true, true, true, true, true, false, false] ?_
    exact kk _ hP
  refine jr_aload_n K (D_at DL_law__10_q1 11 rfl) rfl rfl ?_
  refine jr_iconst K (D_at DL_law__10_q2 0 rfl) (v := (0 : Int32)) (by decide) ?_
  refine jr_lald K (D_at DL_law__10_q2 1 rfl) (IM0 q9) ?_
  refine jr_iload K (D_at DL_law__10_q2 2 rfl) rfl ?_
  refine jr_i2l K (D_at DL_law__10_q2 3 rfl) (v := r1.1.toInt64) rfl ?_
  refine jr_lcmp0 K (D_at DL_law__10_q2 4 rfl) rfl ?_
  refine jr_if_eq K (D_at DL_law__10_q2 5 rfl) (tgt := 1262) (by decide) (fun _ => ?_) (fun z => absurd rfl z)
  refine jr_goto K (D_at DL_law__10_q2 8 rfl) (tgt := 1948) (by decide) ?_
  refine jr_keep [true, true, true, true, true, false, false] ?_
  exact kk _ hP
def SL_26 (n x m out : Nat) (a : Nat → Int32) (h : jH) (P : jH → Prop) : Prop :=
  ∃ r0, jcv 9 h x (F_X11_order n x h) = some r0 ∧ ∃ r1, jcv 10 h m (F_X12_order n m h) = some r1 ∧ P r1.2
set_option maxHeartbeats 400000 in
theorem JL_26 {G : jG} {l : Launch} (hst : l.stackTraces = false) {X : jX} {d b L : Nat} {xs : Nat → Int32} {nm : String} {hh : List (Nat × Nat × Nat × Nat)} (K : jOK G l (mlw nm hh) (d + 70) X) (S : jScr G b L xs X) (hL : L ≤ 3072) {i : Nat} (hi : i + 6 ≤ L) (n : Nat) {x m out : Nat} {h : jH} {kc ks : Nat} {P : jH → Prop} (hP : SL_26 n x m out (fun j => xs (i + j)) h P) (kk : ∀ h1, P h1 → jJ G X h1 kc ks 1948 (L7 b x m out i) []) : jJ G X h (kc + 0) (ks + 0) 1265 (L7 b x m out i) [] := by
  unfold SL_26 at hP
  obtain ⟨r0, e0, t0⟩ := hP
  refine jr_aload_n K (D_at DL_law__10_q2 9 rfl) rfl rfl ?_
  obtain ⟨rc0, e0⟩ := jcv_o e0
  refine jr_callV K (C_X11_order (d + 66) e0) (D_at DL_law__10_q2 10 rfl) cv_L_216_X11_order (As := []) (ci := 9) rfl rc0 rfl rfl (by exact Nat.le_of_ble_eq_true rfl) (kc2 := kc + 0) (ks2 := ks + 0) (by omega) (by omega) (fun k9 h9 w9 => by cases w9.1) (fun r9 h9 w9 => ?_)
  obtain ⟨w1, w2⟩ := w9
  subst h9
  cases w1
  obtain ⟨r1, e1, t1⟩ := t0
  show jJ G X _ (kc + 0) (ks + 0) _ _ (.int r0 :: _)
  refine jr_pop K (D_at DL_law__10_q2 11 rfl) rfl ?_
  refine jr_aload_n K (D_at DL_law__10_q3 0 rfl) rfl rfl ?_
  obtain ⟨rc1, e1⟩ := jcv_o e1
  refine jr_callV K (C_X12_order (d + 67) e1) (D_at DL_law__10_q3 1 rfl) cv_L_219_X12_order (As := []) (ci := 10) rfl rc1 rfl rfl (by exact Nat.le_of_ble_eq_true rfl) (kc2 := kc + 0) (ks2 := ks + 0) (by omega) (by omega) (fun k9 h9 w9 => by cases w9.1) (fun r9 h9 w9 => ?_)
  obtain ⟨w1, w2⟩ := w9
  subst h9
  cases w1
  have hP := t1
  show jJ G X _ (kc + 0) (ks + 0) _ _ (.int r1.1 :: _)
  refine jr_pop K (D_at DL_law__10_q3 2 rfl) rfl ?_
  refine jr_goto K (D_at DL_law__10_q3 3 rfl) (tgt := 1948) (by decide) ?_
  refine jr_keep [true, true, true, true, true, false, false] ?_
  exact kk _ hP
def SL_27 (n x m out : Nat) (a : Nat → Int32) (h : jH) (P : jH → Prop) : Prop :=
  ∃ r0, FL_tight n x (a 1) out h = some r0 ∧ ∀ z0, r0.2.1 ≤ z0 → ∃ r1, jcv 10 (z0, r0.2.2) m (F_X12_tight n m (a 1) (z0, r0.2.2)) = some r1 ∧ P r1.2
set_option maxHeartbeats 400000 in
theorem JL_27 {G : jG} {l : Launch} (hst : l.stackTraces = false) {X : jX} {d b L : Nat} {xs : Nat → Int32} {nm : String} {hh : List (Nat × Nat × Nat × Nat)} (K : jOK G l (mlw nm hh) (d + 70) X) (S : jScr G b L xs X) (hL : L ≤ 3072) {i : Nat} (hi : i + 6 ≤ L) (n : Nat) {x m out : Nat} {h : jH} {kc ks : Nat} {P : jH → Prop} (hP : SL_27 n x m out (fun j => xs (i + j)) h P) (kk : ∀ h1, P h1 → jJ G X h1 kc ks 1948 (L7 b x m out i) []) : jJ G X h (kc + 1) (ks + 6) 1278 (L7 b x m out i) [] := by
  unfold SL_27 at hP
  obtain ⟨r0, e0, t0⟩ := hP
  refine jr_aload_n K (D_at DL_law__10_q3 4 rfl) rfl rfl ?_
  refine jr_scr K S (k := 1) (by omega) hL rfl rfl (D_at DL_law__10_q3 5 rfl) (D_at DL_law__10_q3 6 rfl) (D_at DL_law__10_q3 7 rfl) (D_at DL_law__10_q3 8 rfl) (D_at DL_law__10_q3 9 rfl) (by decide) ?_
  refine jr_aload_n K (D_at DL_law__10_q3 10 rfl) rfl rfl ?_
  refine jr_callSW K (CL_tight hst (d + 61) e0) (D_at DL_law__10_q3 11 rfl) cs_L_220_L_tight (As := [.ref x, .int (xs (i + 1)), .ref out]) rfl rfl (by exact Nat.le_of_ble_eq_true rfl) (kc2 := kc + 0) (ks2 := ks + 0) (by omega) (by omega) (fun k9 h9 w9 => by cases w9.1) (fun r9 h9 w9 => ?_)
  obtain ⟨w1, z0, hz0, w2⟩ := w9
  subst h9
  cases w1
  obtain ⟨r1, e1, t1⟩ := t0 z0 hz0
  show jJ G X _ (kc + 0) (ks + 0) _ _ (.int r0.1 :: _)
  refine jr_istore K (D_at DL_law__10_q4 0 rfl) (i := 5) (by exact Nat.le_of_ble_eq_true rfl) (L2 := [_, _, _, _, _, _, _]) rfl ?_
  refine jr_aload_n K (D_at DL_law__10_q4 1 rfl) rfl rfl ?_
  refine jr_scr K S (k := 1) (by omega) hL rfl rfl (D_at DL_law__10_q4 2 rfl) (D_at DL_law__10_q4 3 rfl) (D_at DL_law__10_q4 4 rfl) (D_at DL_law__10_q4 5 rfl) (D_at DL_law__10_q4 6 rfl) (by decide) ?_
  obtain ⟨rc1, e1⟩ := jcv_o e1
  refine jr_callV K (C_X12_tight (d + 67) e1) (D_at DL_law__10_q4 7 rfl) cv_L_222_X12_tight (As := [.int (xs (i + 1))]) (ci := 10) rfl rc1 rfl rfl (by exact Nat.le_of_ble_eq_true rfl) (kc2 := kc + 0) (ks2 := ks + 0) (by omega) (by omega) (fun k9 h9 w9 => by cases w9.1) (fun r9 h9 w9 => ?_)
  obtain ⟨w1, w2⟩ := w9
  subst h9
  cases w1
  have hP := t1
  show jJ G X _ (kc + 0) (ks + 0) _ _ (.int r1.1 :: _)
  refine jr_istore K (D_at DL_law__10_q4 8 rfl) (i := 6) (by exact Nat.le_of_ble_eq_true rfl) (L2 := [_, _, _, _, _, _, _]) rfl ?_
  refine jr_goto K (D_at DL_law__10_q4 9 rfl) (tgt := 1948) (by decide) ?_
  refine jr_keep [true, true, true, true, true, false, false] ?_
  exact kk _ hP
def SL_28 (n x m out : Nat) (a : Nat → Int32) (h : jH) (P : jH → Prop) : Prop :=
  ∃ r0, jcv 9 h x (F_X11_slack n x h) = some r0 ∧ ∃ r1, jcv 10 h m (F_X12_slack n m h) = some r1 ∧ P r1.2
set_option maxHeartbeats 400000 in
theorem JL_28 {G : jG} {l : Launch} (hst : l.stackTraces = false) {X : jX} {d b L : Nat} {xs : Nat → Int32} {nm : String} {hh : List (Nat × Nat × Nat × Nat)} (K : jOK G l (mlw nm hh) (d + 70) X) (S : jScr G b L xs X) (hL : L ≤ 3072) {i : Nat} (hi : i + 6 ≤ L) (n : Nat) {x m out : Nat} {h : jH} {kc ks : Nat} {P : jH → Prop} (hP : SL_28 n x m out (fun j => xs (i + j)) h P) (kk : ∀ h1, P h1 → jJ G X h1 kc ks 1948 (L7 b x m out i) []) : jJ G X h (kc + 0) (ks + 0) 1306 (L7 b x m out i) [] := by
  unfold SL_28 at hP
  obtain ⟨r0, e0, t0⟩ := hP
  refine jr_aload_n K (D_at DL_law__10_q4 10 rfl) rfl rfl ?_
  obtain ⟨rc0, e0⟩ := jcv_o e0
  refine jr_callV K (C_X11_slack (d + 67) e0) (D_at DL_law__10_q4 11 rfl) cv_L_223_X11_slack (As := []) (ci := 9) rfl rc0 rfl rfl (by exact Nat.le_of_ble_eq_true rfl) (kc2 := kc + 0) (ks2 := ks + 0) (by omega) (by omega) (fun k9 h9 w9 => by cases w9.1) (fun r9 h9 w9 => ?_)
  obtain ⟨w1, w2⟩ := w9
  subst h9
  cases w1
  obtain ⟨r1, e1, t1⟩ := t0
  show jJ G X _ (kc + 0) (ks + 0) _ _ (.int r0 :: _)
  refine jr_pop K (D_at DL_law__10_q5 0 rfl) rfl ?_
  refine jr_aload_n K (D_at DL_law__10_q5 1 rfl) rfl rfl ?_
  obtain ⟨rc1, e1⟩ := jcv_o e1
  refine jr_callV K (C_X12_slack (d + 66) e1) (D_at DL_law__10_q5 2 rfl) cv_L_226_X12_slack (As := []) (ci := 10) rfl rc1 rfl rfl (by exact Nat.le_of_ble_eq_true rfl) (kc2 := kc + 0) (ks2 := ks + 0) (by omega) (by omega) (fun k9 h9 w9 => by cases w9.1) (fun r9 h9 w9 => ?_)
  obtain ⟨w1, w2⟩ := w9
  subst h9
  cases w1
  have hP := t1
  show jJ G X _ (kc + 0) (ks + 0) _ _ (.int r1.1 :: _)
  refine jr_pop K (D_at DL_law__10_q5 3 rfl) rfl ?_
  refine jr_goto K (D_at DL_law__11_q0 0 rfl) (tgt := 1948) (by decide) ?_
  refine jr_keep [true, true, true, true, true, false, false] ?_
  exact kk _ hP
def SL_29 (n x m out : Nat) (a : Nat → Int32) (h : jH) (P : jH → Prop) : Prop :=
  ∃ r0, jcv 9 h x (F_X11_taut n x h) = some r0 ∧ ∃ r1, jcv 10 h m (F_X12_taut n m h) = some r1 ∧ P r1.2
set_option maxHeartbeats 400000 in
theorem JL_29 {G : jG} {l : Launch} (hst : l.stackTraces = false) {X : jX} {d b L : Nat} {xs : Nat → Int32} {nm : String} {hh : List (Nat × Nat × Nat × Nat)} (K : jOK G l (mlw nm hh) (d + 70) X) (S : jScr G b L xs X) (hL : L ≤ 3072) {i : Nat} (hi : i + 6 ≤ L) (n : Nat) {x m out : Nat} {h : jH} {kc ks : Nat} {P : jH → Prop} (hP : SL_29 n x m out (fun j => xs (i + j)) h P) (kk : ∀ h1, P h1 → jJ G X h1 kc ks 1948 (L7 b x m out i) []) : jJ G X h (kc + 0) (ks + 0) 1319 (L7 b x m out i) [] := by
  unfold SL_29 at hP
  obtain ⟨r0, e0, t0⟩ := hP
  refine jr_aload_n K (D_at DL_law__11_q0 1 rfl) rfl rfl ?_
  obtain ⟨rc0, e0⟩ := jcv_o e0
  refine jr_callV K (C_X11_taut (d + 67) e0) (D_at DL_law__11_q0 2 rfl) cv_L_227_X11_taut (As := []) (ci := 9) rfl rc0 rfl rfl (by exact Nat.le_of_ble_eq_true rfl) (kc2 := kc + 0) (ks2 := ks + 0) (by omega) (by omega) (fun k9 h9 w9 => by cases w9.1) (fun r9 h9 w9 => ?_)
  obtain ⟨w1, w2⟩ := w9
  subst h9
  cases w1
  obtain ⟨r1, e1, t1⟩ := t0
  show jJ G X _ (kc + 0) (ks + 0) _ _ (.int r0 :: _)
  refine jr_pop K (D_at DL_law__11_q0 3 rfl) rfl ?_
  refine jr_aload_n K (D_at DL_law__11_q0 4 rfl) rfl rfl ?_
  obtain ⟨rc1, e1⟩ := jcv_o e1
  refine jr_callV K (C_X12_taut (d + 66) e1) (D_at DL_law__11_q0 5 rfl) cv_L_230_X12_taut (As := []) (ci := 10) rfl rc1 rfl rfl (by exact Nat.le_of_ble_eq_true rfl) (kc2 := kc + 0) (ks2 := ks + 0) (by omega) (by omega) (fun k9 h9 w9 => by cases w9.1) (fun r9 h9 w9 => ?_)
  obtain ⟨w1, w2⟩ := w9
  subst h9
  cases w1
  have hP := t1
  show jJ G X _ (kc + 0) (ks + 0) _ _ (.int r1.1 :: _)
  refine jr_pop K (D_at DL_law__11_q0 6 rfl) rfl ?_
  refine jr_goto K (D_at DL_law__11_q0 7 rfl) (tgt := 1948) (by decide) ?_
  refine jr_keep [true, true, true, true, true, false, false] ?_
  exact kk _ hP
def SL_30 (n x m out : Nat) (a : Nat → Int32) (h : jH) (P : jH → Prop) : Prop :=
  ∃ r0, FL_lit n x (a 1) out h = some r0 ∧ ∀ z0, r0.2.1 ≤ z0 → ∃ r1, jcv 10 (z0, r0.2.2) m (F_X12_lit n m (a 1) (z0, r0.2.2)) = some r1 ∧ P r1.2
set_option maxHeartbeats 400000 in
theorem JL_30 {G : jG} {l : Launch} (hst : l.stackTraces = false) {X : jX} {d b L : Nat} {xs : Nat → Int32} {nm : String} {hh : List (Nat × Nat × Nat × Nat)} (K : jOK G l (mlw nm hh) (d + 70) X) (S : jScr G b L xs X) (hL : L ≤ 3072) {i : Nat} (hi : i + 6 ≤ L) (n : Nat) {x m out : Nat} {h : jH} {kc ks : Nat} {P : jH → Prop} (hP : SL_30 n x m out (fun j => xs (i + j)) h P) (kk : ∀ h1, P h1 → jJ G X h1 kc ks 1948 (L7 b x m out i) []) : jJ G X h (kc + 1) (ks + 6) 1332 (L7 b x m out i) [] := by
  unfold SL_30 at hP
  obtain ⟨r0, e0, t0⟩ := hP
  refine jr_aload_n K (D_at DL_law__11_q0 8 rfl) rfl rfl ?_
  refine jr_scr K S (k := 1) (by omega) hL rfl rfl (D_at DL_law__11_q0 9 rfl) (D_at DL_law__11_q0 10 rfl) (D_at DL_law__11_q0 11 rfl) (D_at DL_law__11_q1 0 rfl) (D_at DL_law__11_q1 1 rfl) (by decide) ?_
  refine jr_aload_n K (D_at DL_law__11_q1 2 rfl) rfl rfl ?_
  refine jr_callSW K (CL_lit hst (d + 62) e0) (D_at DL_law__11_q1 3 rfl) cs_L_231_L_lit (As := [.ref x, .int (xs (i + 1)), .ref out]) rfl rfl (by exact Nat.le_of_ble_eq_true rfl) (kc2 := kc + 0) (ks2 := ks + 0) (by omega) (by omega) (fun k9 h9 w9 => by cases w9.1) (fun r9 h9 w9 => ?_)
  obtain ⟨w1, z0, hz0, w2⟩ := w9
  subst h9
  cases w1
  obtain ⟨r1, e1, t1⟩ := t0 z0 hz0
  show jJ G X _ (kc + 0) (ks + 0) _ _ (.int r0.1 :: _)
  refine jr_istore K (D_at DL_law__11_q1 4 rfl) (i := 5) (by exact Nat.le_of_ble_eq_true rfl) (L2 := [_, _, _, _, _, _, _]) rfl ?_
  refine jr_aload_n K (D_at DL_law__11_q1 5 rfl) rfl rfl ?_
  refine jr_scr K S (k := 1) (by omega) hL rfl rfl (D_at DL_law__11_q1 6 rfl) (D_at DL_law__11_q1 7 rfl) (D_at DL_law__11_q1 8 rfl) (D_at DL_law__11_q1 9 rfl) (D_at DL_law__11_q1 10 rfl) (by decide) ?_
  obtain ⟨rc1, e1⟩ := jcv_o e1
  refine jr_callV K (C_X12_lit (d + 65) e1) (D_at DL_law__11_q1 11 rfl) cv_L_233_X12_lit (As := [.int (xs (i + 1))]) (ci := 10) rfl rc1 rfl rfl (by exact Nat.le_of_ble_eq_true rfl) (kc2 := kc + 0) (ks2 := ks + 0) (by omega) (by omega) (fun k9 h9 w9 => by cases w9.1) (fun r9 h9 w9 => ?_)
  obtain ⟨w1, w2⟩ := w9
  subst h9
  cases w1
  have hP := t1
  show jJ G X _ (kc + 0) (ks + 0) _ _ (.int r1.1 :: _)
  refine jr_istore K (D_at DL_law__11_q2 0 rfl) (i := 6) (by exact Nat.le_of_ble_eq_true rfl) (L2 := [_, _, _, _, _, _, _]) rfl ?_
  refine jr_goto K (D_at DL_law__11_q2 1 rfl) (tgt := 1948) (by decide) ?_
  refine jr_keep [true, true, true, true, true, false, false] ?_
  exact kk _ hP
def SL_31 (n x m out : Nat) (a : Nat → Int32) (h : jH) (P : jH → Prop) : Prop :=
  ∃ r0, jcv 9 h x (F_X11_sunny n x h) = some r0 ∧ ∃ r1, jcv 10 h m (F_X12_sunny n m h) = some r1 ∧ P r1.2
set_option maxHeartbeats 400000 in
theorem JL_31 {G : jG} {l : Launch} (hst : l.stackTraces = false) {X : jX} {d b L : Nat} {xs : Nat → Int32} {nm : String} {hh : List (Nat × Nat × Nat × Nat)} (K : jOK G l (mlw nm hh) (d + 70) X) (S : jScr G b L xs X) (hL : L ≤ 3072) {i : Nat} (hi : i + 6 ≤ L) (n : Nat) {x m out : Nat} {h : jH} {kc ks : Nat} {P : jH → Prop} (hP : SL_31 n x m out (fun j => xs (i + j)) h P) (kk : ∀ h1, P h1 → jJ G X h1 kc ks 1948 (L7 b x m out i) []) : jJ G X h (kc + 0) (ks + 0) 1360 (L7 b x m out i) [] := by
  unfold SL_31 at hP
  obtain ⟨r0, e0, t0⟩ := hP
  refine jr_aload_n K (D_at DL_law__11_q2 2 rfl) rfl rfl ?_
  obtain ⟨rc0, e0⟩ := jcv_o e0
  refine jr_callV K (C_X11_sunny (d + 66) e0) (D_at DL_law__11_q2 3 rfl) cv_L_234_X11_sunny (As := []) (ci := 9) rfl rc0 rfl rfl (by exact Nat.le_of_ble_eq_true rfl) (kc2 := kc + 0) (ks2 := ks + 0) (by omega) (by omega) (fun k9 h9 w9 => by cases w9.1) (fun r9 h9 w9 => ?_)
  obtain ⟨w1, w2⟩ := w9
  subst h9
  cases w1
  obtain ⟨r1, e1, t1⟩ := t0
  show jJ G X _ (kc + 0) (ks + 0) _ _ (.int r0 :: _)
  refine jr_pop K (D_at DL_law__11_q2 4 rfl) rfl ?_
  refine jr_aload_n K (D_at DL_law__11_q2 5 rfl) rfl rfl ?_
  obtain ⟨rc1, e1⟩ := jcv_o e1
  refine jr_callV K (C_X12_sunny (d + 66) e1) (D_at DL_law__11_q2 6 rfl) cv_L_237_X12_sunny (As := []) (ci := 10) rfl rc1 rfl rfl (by exact Nat.le_of_ble_eq_true rfl) (kc2 := kc + 0) (ks2 := ks + 0) (by omega) (by omega) (fun k9 h9 w9 => by cases w9.1) (fun r9 h9 w9 => ?_)
  obtain ⟨w1, w2⟩ := w9
  subst h9
  cases w1
  have hP := t1
  show jJ G X _ (kc + 0) (ks + 0) _ _ (.int r1.1 :: _)
  refine jr_pop K (D_at DL_law__11_q2 7 rfl) rfl ?_
  refine jr_goto K (D_at DL_law__11_q2 8 rfl) (tgt := 1948) (by decide) ?_
  refine jr_keep [true, true, true, true, true, false, false] ?_
  exact kk _ hP
def SL_32 (n x m out : Nat) (a : Nat → Int32) (h : jH) (P : jH → Prop) : Prop :=
  ∃ r0, FL_faded n x (a 1) out h = some r0 ∧ ∀ z0, r0.2.1 ≤ z0 → ∃ r1, jcv 10 (z0, r0.2.2) m (F_X12_faded n m (a 1) (z0, r0.2.2)) = some r1 ∧ P r1.2
set_option maxHeartbeats 400000 in
theorem JL_32 {G : jG} {l : Launch} (hst : l.stackTraces = false) {X : jX} {d b L : Nat} {xs : Nat → Int32} {nm : String} {hh : List (Nat × Nat × Nat × Nat)} (K : jOK G l (mlw nm hh) (d + 70) X) (S : jScr G b L xs X) (hL : L ≤ 3072) {i : Nat} (hi : i + 6 ≤ L) (n : Nat) {x m out : Nat} {h : jH} {kc ks : Nat} {P : jH → Prop} (hP : SL_32 n x m out (fun j => xs (i + j)) h P) (kk : ∀ h1, P h1 → jJ G X h1 kc ks 1948 (L7 b x m out i) []) : jJ G X h (kc + 1) (ks + 6) 1373 (L7 b x m out i) [] := by
  unfold SL_32 at hP
  obtain ⟨r0, e0, t0⟩ := hP
  refine jr_aload_n K (D_at DL_law__11_q2 9 rfl) rfl rfl ?_
  refine jr_scr K S (k := 1) (by omega) hL rfl rfl (D_at DL_law__11_q2 10 rfl) (D_at DL_law__11_q2 11 rfl) (D_at DL_law__11_q3 0 rfl) (D_at DL_law__11_q3 1 rfl) (D_at DL_law__11_q3 2 rfl) (by decide) ?_
  refine jr_aload_n K (D_at DL_law__11_q3 3 rfl) rfl rfl ?_
  refine jr_callSW K (CL_faded hst (d + 61) e0) (D_at DL_law__11_q3 4 rfl) cs_L_238_L_faded (As := [.ref x, .int (xs (i + 1)), .ref out]) rfl rfl (by exact Nat.le_of_ble_eq_true rfl) (kc2 := kc + 0) (ks2 := ks + 0) (by omega) (by omega) (fun k9 h9 w9 => by cases w9.1) (fun r9 h9 w9 => ?_)
  obtain ⟨w1, z0, hz0, w2⟩ := w9
  subst h9
  cases w1
  obtain ⟨r1, e1, t1⟩ := t0 z0 hz0
  show jJ G X _ (kc + 0) (ks + 0) _ _ (.int r0.1 :: _)
  refine jr_istore K (D_at DL_law__11_q3 5 rfl) (i := 5) (by exact Nat.le_of_ble_eq_true rfl) (L2 := [_, _, _, _, _, _, _]) rfl ?_
  refine jr_aload_n K (D_at DL_law__11_q3 6 rfl) rfl rfl ?_
  refine jr_scr K S (k := 1) (by omega) hL rfl rfl (D_at DL_law__11_q3 7 rfl) (D_at DL_law__11_q3 8 rfl) (D_at DL_law__11_q3 9 rfl) (D_at DL_law__11_q3 10 rfl) (D_at DL_law__11_q3 11 rfl) (by decide) ?_
  obtain ⟨rc1, e1⟩ := jcv_o e1
  refine jr_callV K (C_X12_faded (d + 59) e1) (D_at DL_law__11_q4 0 rfl) cv_L_240_X12_faded (As := [.int (xs (i + 1))]) (ci := 10) rfl rc1 rfl rfl (by exact Nat.le_of_ble_eq_true rfl) (kc2 := kc + 0) (ks2 := ks + 0) (by omega) (by omega) (fun k9 h9 w9 => by cases w9.1) (fun r9 h9 w9 => ?_)
  obtain ⟨w1, w2⟩ := w9
  subst h9
  cases w1
  have hP := t1
  show jJ G X _ (kc + 0) (ks + 0) _ _ (.int r1.1 :: _)
  refine jr_istore K (D_at DL_law__11_q4 1 rfl) (i := 6) (by exact Nat.le_of_ble_eq_true rfl) (L2 := [_, _, _, _, _, _, _]) rfl ?_
  refine jr_goto K (D_at DL_law__11_q4 2 rfl) (tgt := 1948) (by decide) ?_
  refine jr_keep [true, true, true, true, true, false, false] ?_
  exact kk _ hP
def SL_33 (n x m out : Nat) (a : Nat → Int32) (h : jH) (P : jH → Prop) : Prop :=
  ∃ r0, jcv 9 h x (F_X11_pale n x h) = some r0 ∧ ∃ r1, jcv 10 r0.2 m (F_X12_pale n m r0.2) = some r1 ∧ P r1.2
set_option maxHeartbeats 400000 in
theorem JL_33 {G : jG} {l : Launch} (hst : l.stackTraces = false) {X : jX} {d b L : Nat} {xs : Nat → Int32} {nm : String} {hh : List (Nat × Nat × Nat × Nat)} (K : jOK G l (mlw nm hh) (d + 70) X) (S : jScr G b L xs X) (hL : L ≤ 3072) {i : Nat} (hi : i + 6 ≤ L) (n : Nat) {x m out : Nat} {h : jH} {kc ks : Nat} {P : jH → Prop} (hP : SL_33 n x m out (fun j => xs (i + j)) h P) (kk : ∀ h1, P h1 → jJ G X h1 kc ks 1948 (L7 b x m out i) []) : jJ G X h (kc + 0) (ks + 0) 1401 (L7 b x m out i) [] := by
  unfold SL_33 at hP
  obtain ⟨r0, e0, t0⟩ := hP
  refine jr_aload_n K (D_at DL_law__11_q4 3 rfl) rfl rfl ?_
  obtain ⟨rc0, e0⟩ := jcv_o e0
  refine jr_callV K (C_X11_pale (d + 63) e0) (D_at DL_law__11_q4 4 rfl) cv_L_241_X11_pale (As := []) (ci := 9) rfl rc0 rfl rfl (by exact Nat.le_of_ble_eq_true rfl) (kc2 := kc + 0) (ks2 := ks + 0) (by omega) (by omega) (fun k9 h9 w9 => by cases w9.1) (fun r9 h9 w9 => ?_)
  obtain ⟨w1, w2⟩ := w9
  subst h9
  cases w1
  obtain ⟨r1, e1, t1⟩ := t0
  show jJ G X _ (kc + 0) (ks + 0) _ _ (.int r0.1 :: _)
  refine jr_pop K (D_at DL_law__11_q4 5 rfl) rfl ?_
  refine jr_aload_n K (D_at DL_law__11_q4 6 rfl) rfl rfl ?_
  obtain ⟨rc1, e1⟩ := jcv_o e1
  refine jr_callV K (C_X12_pale (d + 60) e1) (D_at DL_law__11_q4 7 rfl) cv_L_244_X12_pale (As := []) (ci := 10) rfl rc1 rfl rfl (by exact Nat.le_of_ble_eq_true rfl) (kc2 := kc + 0) (ks2 := ks + 0) (by omega) (by omega) (fun k9 h9 w9 => by cases w9.1) (fun r9 h9 w9 => ?_)
  obtain ⟨w1, w2⟩ := w9
  subst h9
  cases w1
  have hP := t1
  show jJ G X _ (kc + 0) (ks + 0) _ _ (.int r1.1 :: _)
  refine jr_pop K (D_at DL_law__11_q4 8 rfl) rfl ?_
  refine jr_goto K (D_at DL_law__11_q4 9 rfl) (tgt := 1948) (by decide) ?_
  refine jr_keep [true, true, true, true, true, false, false] ?_
  exact kk _ hP
def SL_34 (n x m out : Nat) (a : Nat → Int32) (h : jH) (P : jH → Prop) : Prop :=
  ∃ r0, FL_lets n x (a 1) (a 2) out h = some r0 ∧ ∀ z0, r0.2.1 ≤ z0 → ∃ r1, jcv 10 (z0, r0.2.2) m (F_X12_lets n m (a 1) (a 2) (z0, r0.2.2)) = some r1 ∧ P r1.2
set_option maxHeartbeats 400000 in
theorem JL_34 {G : jG} {l : Launch} (hst : l.stackTraces = false) {X : jX} {d b L : Nat} {xs : Nat → Int32} {nm : String} {hh : List (Nat × Nat × Nat × Nat)} (K : jOK G l (mlw nm hh) (d + 70) X) (S : jScr G b L xs X) (hL : L ≤ 3072) {i : Nat} (hi : i + 6 ≤ L) (n : Nat) {x m out : Nat} {h : jH} {kc ks : Nat} {P : jH → Prop} (hP : SL_34 n x m out (fun j => xs (i + j)) h P) (kk : ∀ h1, P h1 → jJ G X h1 kc ks 1948 (L7 b x m out i) []) : jJ G X h (kc + 2) (ks + 12) 1414 (L7 b x m out i) [] := by
  unfold SL_34 at hP
  obtain ⟨r0, e0, t0⟩ := hP
  refine jr_aload_n K (D_at DL_law__11_q4 10 rfl) rfl rfl ?_
  refine jr_scr K S (k := 1) (by omega) hL rfl rfl (D_at DL_law__11_q4 11 rfl) (D_at DL_law__11_q5 0 rfl) (D_at DL_law__11_q5 1 rfl) (D_at DL_law__11_q5 2 rfl) (D_at DL_law__11_q5 3 rfl) (by decide) ?_
  refine jr_scr K S (k := 2) (by omega) hL rfl rfl (D_at DL_law__12_q0 0 rfl) (D_at DL_law__12_q0 1 rfl) (D_at DL_law__12_q0 2 rfl) (D_at DL_law__12_q0 3 rfl) (D_at DL_law__12_q0 4 rfl) (by decide) ?_
  refine jr_aload_n K (D_at DL_law__12_q0 5 rfl) rfl rfl ?_
  refine jr_callSW K (CL_lets hst (d + 61) e0) (D_at DL_law__12_q0 6 rfl) cs_L_245_L_lets (As := [.ref x, .int (xs (i + 1)), .int (xs (i + 2)), .ref out]) rfl rfl (by exact Nat.le_of_ble_eq_true rfl) (kc2 := kc + 0) (ks2 := ks + 0) (by omega) (by omega) (fun k9 h9 w9 => by cases w9.1) (fun r9 h9 w9 => ?_)
  obtain ⟨w1, z0, hz0, w2⟩ := w9
  subst h9
  cases w1
  obtain ⟨r1, e1, t1⟩ := t0 z0 hz0
  show jJ G X _ (kc + 0) (ks + 0) _ _ (.int r0.1 :: _)
  refine jr_istore K (D_at DL_law__12_q0 7 rfl) (i := 5) (by exact Nat.le_of_ble_eq_true rfl) (L2 := [_, _, _, _, _, _, _]) rfl ?_
  refine jr_aload_n K (D_at DL_law__12_q0 8 rfl) rfl rfl ?_
  refine jr_scr K S (k := 1) (by omega) hL rfl rfl (D_at DL_law__12_q0 9 rfl) (D_at DL_law__12_q0 10 rfl) (D_at DL_law__12_q0 11 rfl) (D_at DL_law__12_q1 0 rfl) (D_at DL_law__12_q1 1 rfl) (by decide) ?_
  refine jr_scr K S (k := 2) (by omega) hL rfl rfl (D_at DL_law__12_q1 2 rfl) (D_at DL_law__12_q1 3 rfl) (D_at DL_law__12_q1 4 rfl) (D_at DL_law__12_q1 5 rfl) (D_at DL_law__12_q1 6 rfl) (by decide) ?_
  obtain ⟨rc1, e1⟩ := jcv_o e1
  refine jr_callV K (C_X12_lets (d + 66) e1) (D_at DL_law__12_q1 7 rfl) cv_L_247_X12_lets (As := [.int (xs (i + 1)), .int (xs (i + 2))]) (ci := 10) rfl rc1 rfl rfl (by exact Nat.le_of_ble_eq_true rfl) (kc2 := kc + 0) (ks2 := ks + 0) (by omega) (by omega) (fun k9 h9 w9 => by cases w9.1) (fun r9 h9 w9 => ?_)
  obtain ⟨w1, w2⟩ := w9
  subst h9
  cases w1
  have hP := t1
  show jJ G X _ (kc + 0) (ks + 0) _ _ (.int r1.1 :: _)
  refine jr_istore K (D_at DL_law__12_q1 8 rfl) (i := 6) (by exact Nat.le_of_ble_eq_true rfl) (L2 := [_, _, _, _, _, _, _]) rfl ?_
  refine jr_goto K (D_at DL_law__12_q1 9 rfl) (tgt := 1948) (by decide) ?_
  refine jr_keep [true, true, true, true, true, false, false] ?_
  exact kk _ hP
def SL_35 (n x m out : Nat) (a : Nat → Int32) (h : jH) (P : jH → Prop) : Prop :=
  ∃ r0, jcv 9 h x (F_X11_envy n x h) = some r0 ∧ ∃ r1, jcv 10 h m (F_X12_envy n m h) = some r1 ∧ P r1.2
set_option maxHeartbeats 400000 in
theorem JL_35 {G : jG} {l : Launch} (hst : l.stackTraces = false) {X : jX} {d b L : Nat} {xs : Nat → Int32} {nm : String} {hh : List (Nat × Nat × Nat × Nat)} (K : jOK G l (mlw nm hh) (d + 70) X) (S : jScr G b L xs X) (hL : L ≤ 3072) {i : Nat} (hi : i + 6 ≤ L) (n : Nat) {x m out : Nat} {h : jH} {kc ks : Nat} {P : jH → Prop} (hP : SL_35 n x m out (fun j => xs (i + j)) h P) (kk : ∀ h1, P h1 → jJ G X h1 kc ks 1948 (L7 b x m out i) []) : jJ G X h (kc + 0) (ks + 0) 1454 (L7 b x m out i) [] := by
  unfold SL_35 at hP
  obtain ⟨r0, e0, t0⟩ := hP
  refine jr_aload_n K (D_at DL_law__12_q1 10 rfl) rfl rfl ?_
  obtain ⟨rc0, e0⟩ := jcv_o e0
  refine jr_callV K (C_X11_envy (d + 67) e0) (D_at DL_law__12_q1 11 rfl) cv_L_248_X11_envy (As := []) (ci := 9) rfl rc0 rfl rfl (by exact Nat.le_of_ble_eq_true rfl) (kc2 := kc + 0) (ks2 := ks + 0) (by omega) (by omega) (fun k9 h9 w9 => by cases w9.1) (fun r9 h9 w9 => ?_)
  obtain ⟨w1, w2⟩ := w9
  subst h9
  cases w1
  obtain ⟨r1, e1, t1⟩ := t0
  show jJ G X _ (kc + 0) (ks + 0) _ _ (.int r0 :: _)
  refine jr_pop K (D_at DL_law__12_q2 0 rfl) rfl ?_
  refine jr_aload_n K (D_at DL_law__12_q2 1 rfl) rfl rfl ?_
  obtain ⟨rc1, e1⟩ := jcv_o e1
  refine jr_callV K (C_X12_envy (d + 67) e1) (D_at DL_law__12_q2 2 rfl) cv_L_251_X12_envy (As := []) (ci := 10) rfl rc1 rfl rfl (by exact Nat.le_of_ble_eq_true rfl) (kc2 := kc + 0) (ks2 := ks + 0) (by omega) (by omega) (fun k9 h9 w9 => by cases w9.1) (fun r9 h9 w9 => ?_)
  obtain ⟨w1, w2⟩ := w9
  subst h9
  cases w1
  have hP := t1
  show jJ G X _ (kc + 0) (ks + 0) _ _ (.int r1.1 :: _)
  refine jr_pop K (D_at DL_law__12_q2 3 rfl) rfl ?_
  refine jr_goto K (D_at DL_law__12_q2 4 rfl) (tgt := 1948) (by decide) ?_
  refine jr_keep [true, true, true, true, true, false, false] ?_
  exact kk _ hP
def SL_36 (n x m out : Nat) (a : Nat → Int32) (h : jH) (P : jH → Prop) : Prop :=
  ∃ r0, FL_rests n x (a 1) out h = some r0 ∧ ∀ z0, r0.2.1 ≤ z0 → ∃ r1, jcv 10 (z0, r0.2.2) m (F_X12_rests n m (a 1) (z0, r0.2.2)) = some r1 ∧ P r1.2
set_option maxHeartbeats 400000 in
theorem JL_36 {G : jG} {l : Launch} (hst : l.stackTraces = false) {X : jX} {d b L : Nat} {xs : Nat → Int32} {nm : String} {hh : List (Nat × Nat × Nat × Nat)} (K : jOK G l (mlw nm hh) (d + 70) X) (S : jScr G b L xs X) (hL : L ≤ 3072) {i : Nat} (hi : i + 6 ≤ L) (n : Nat) {x m out : Nat} {h : jH} {kc ks : Nat} {P : jH → Prop} (hP : SL_36 n x m out (fun j => xs (i + j)) h P) (kk : ∀ h1, P h1 → jJ G X h1 kc ks 1948 (L7 b x m out i) []) : jJ G X h (kc + 1) (ks + 6) 1467 (L7 b x m out i) [] := by
  unfold SL_36 at hP
  obtain ⟨r0, e0, t0⟩ := hP
  refine jr_aload_n K (D_at DL_law__12_q2 5 rfl) rfl rfl ?_
  refine jr_scr K S (k := 1) (by omega) hL rfl rfl (D_at DL_law__12_q2 6 rfl) (D_at DL_law__12_q2 7 rfl) (D_at DL_law__12_q2 8 rfl) (D_at DL_law__12_q2 9 rfl) (D_at DL_law__12_q2 10 rfl) (by decide) ?_
  refine jr_aload_n K (D_at DL_law__12_q2 11 rfl) rfl rfl ?_
  refine jr_callSW K (CL_rests hst (d + 61) e0) (D_at DL_law__12_q3 0 rfl) cs_L_252_L_rests (As := [.ref x, .int (xs (i + 1)), .ref out]) rfl rfl (by exact Nat.le_of_ble_eq_true rfl) (kc2 := kc + 0) (ks2 := ks + 0) (by omega) (by omega) (fun k9 h9 w9 => by cases w9.1) (fun r9 h9 w9 => ?_)
  obtain ⟨w1, z0, hz0, w2⟩ := w9
  subst h9
  cases w1
  obtain ⟨r1, e1, t1⟩ := t0 z0 hz0
  show jJ G X _ (kc + 0) (ks + 0) _ _ (.int r0.1 :: _)
  refine jr_istore K (D_at DL_law__12_q3 1 rfl) (i := 5) (by exact Nat.le_of_ble_eq_true rfl) (L2 := [_, _, _, _, _, _, _]) rfl ?_
  refine jr_aload_n K (D_at DL_law__12_q3 2 rfl) rfl rfl ?_
  refine jr_scr K S (k := 1) (by omega) hL rfl rfl (D_at DL_law__12_q3 3 rfl) (D_at DL_law__12_q3 4 rfl) (D_at DL_law__12_q3 5 rfl) (D_at DL_law__12_q3 6 rfl) (D_at DL_law__12_q3 7 rfl) (by decide) ?_
  obtain ⟨rc1, e1⟩ := jcv_o e1
  refine jr_callV K (C_X12_rests (d + 65) e1) (D_at DL_law__12_q3 8 rfl) cv_L_254_X12_rests (As := [.int (xs (i + 1))]) (ci := 10) rfl rc1 rfl rfl (by exact Nat.le_of_ble_eq_true rfl) (kc2 := kc + 0) (ks2 := ks + 0) (by omega) (by omega) (fun k9 h9 w9 => by cases w9.1) (fun r9 h9 w9 => ?_)
  obtain ⟨w1, w2⟩ := w9
  subst h9
  cases w1
  have hP := t1
  show jJ G X _ (kc + 0) (ks + 0) _ _ (.int r1.1 :: _)
  refine jr_istore K (D_at DL_law__12_q3 9 rfl) (i := 6) (by exact Nat.le_of_ble_eq_true rfl) (L2 := [_, _, _, _, _, _, _]) rfl ?_
  refine jr_goto K (D_at DL_law__12_q3 10 rfl) (tgt := 1948) (by decide) ?_
  refine jr_keep [true, true, true, true, true, false, false] ?_
  exact kk _ hP
def SL_37 (n x m out : Nat) (a : Nat → Int32) (h : jH) (P : jH → Prop) : Prop :=
  ∃ r0, jcv 9 h x (F_X11_bunch n x h) = some r0 ∧ ∃ r1, jcv 10 h m (F_X12_bunch n m h) = some r1 ∧ P r1.2
set_option maxHeartbeats 400000 in
theorem JL_37 {G : jG} {l : Launch} (hst : l.stackTraces = false) {X : jX} {d b L : Nat} {xs : Nat → Int32} {nm : String} {hh : List (Nat × Nat × Nat × Nat)} (K : jOK G l (mlw nm hh) (d + 70) X) (S : jScr G b L xs X) (hL : L ≤ 3072) {i : Nat} (hi : i + 6 ≤ L) (n : Nat) {x m out : Nat} {h : jH} {kc ks : Nat} {P : jH → Prop} (hP : SL_37 n x m out (fun j => xs (i + j)) h P) (kk : ∀ h1, P h1 → jJ G X h1 kc ks 1948 (L7 b x m out i) []) : jJ G X h (kc + 0) (ks + 0) 1495 (L7 b x m out i) [] := by
  unfold SL_37 at hP
  obtain ⟨r0, e0, t0⟩ := hP
  refine jr_aload_n K (D_at DL_law__12_q3 11 rfl) rfl rfl ?_
  obtain ⟨rc0, e0⟩ := jcv_o e0
  refine jr_callV K (C_X11_bunch (d + 67) e0) (D_at DL_law__12_q4 0 rfl) cv_L_255_X11_bunch (As := []) (ci := 9) rfl rc0 rfl rfl (by exact Nat.le_of_ble_eq_true rfl) (kc2 := kc + 0) (ks2 := ks + 0) (by omega) (by omega) (fun k9 h9 w9 => by cases w9.1) (fun r9 h9 w9 => ?_)
  obtain ⟨w1, w2⟩ := w9
  subst h9
  cases w1
  obtain ⟨r1, e1, t1⟩ := t0
  show jJ G X _ (kc + 0) (ks + 0) _ _ (.int r0 :: _)
  refine jr_pop K (D_at DL_law__12_q4 1 rfl) rfl ?_
  refine jr_aload_n K (D_at DL_law__12_q4 2 rfl) rfl rfl ?_
  obtain ⟨rc1, e1⟩ := jcv_o e1
  refine jr_callV K (C_X12_bunch (d + 66) e1) (D_at DL_law__12_q4 3 rfl) cv_L_258_X12_bunch (As := []) (ci := 10) rfl rc1 rfl rfl (by exact Nat.le_of_ble_eq_true rfl) (kc2 := kc + 0) (ks2 := ks + 0) (by omega) (by omega) (fun k9 h9 w9 => by cases w9.1) (fun r9 h9 w9 => ?_)
  obtain ⟨w1, w2⟩ := w9
  subst h9
  cases w1
  have hP := t1
  show jJ G X _ (kc + 0) (ks + 0) _ _ (.int r1.1 :: _)
  refine jr_pop K (D_at DL_law__12_q4 4 rfl) rfl ?_
  refine jr_goto K (D_at DL_law__12_q4 5 rfl) (tgt := 1948) (by decide) ?_
  refine jr_keep [true, true, true, true, true, false, false] ?_
  exact kk _ hP
def SL_38 (n x m out : Nat) (a : Nat → Int32) (h : jH) (P : jH → Prop) : Prop :=
  ∃ r0, jcv 9 h x (F_X11_wooden n x h) = some r0 ∧ ∃ r1, jcv 10 h m (F_X12_wooden n m h) = some r1 ∧ P r1.2
set_option maxHeartbeats 400000 in
theorem JL_38 {G : jG} {l : Launch} (hst : l.stackTraces = false) {X : jX} {d b L : Nat} {xs : Nat → Int32} {nm : String} {hh : List (Nat × Nat × Nat × Nat)} (K : jOK G l (mlw nm hh) (d + 70) X) (S : jScr G b L xs X) (hL : L ≤ 3072) {i : Nat} (hi : i + 6 ≤ L) (n : Nat) {x m out : Nat} {h : jH} {kc ks : Nat} {P : jH → Prop} (hP : SL_38 n x m out (fun j => xs (i + j)) h P) (kk : ∀ h1, P h1 → jJ G X h1 kc ks 1948 (L7 b x m out i) []) : jJ G X h (kc + 0) (ks + 0) 1508 (L7 b x m out i) [] := by
  unfold SL_38 at hP
  obtain ⟨r0, e0, t0⟩ := hP
  refine jr_aload_n K (D_at DL_law__12_q4 6 rfl) rfl rfl ?_
  obtain ⟨rc0, e0⟩ := jcv_o e0
  refine jr_callV K (C_X11_wooden (d + 69) e0) (D_at DL_law__12_q4 7 rfl) cv_L_259_X11_wooden (As := []) (ci := 9) rfl rc0 rfl rfl (by exact Nat.le_of_ble_eq_true rfl) (kc2 := kc + 0) (ks2 := ks + 0) (by omega) (by omega) (fun k9 h9 w9 => by cases w9.1) (fun r9 h9 w9 => ?_)
  obtain ⟨w1, w2⟩ := w9
  subst h9
  cases w1
  obtain ⟨r1, e1, t1⟩ := t0
  show jJ G X _ (kc + 0) (ks + 0) _ _ (.int r0 :: _)
  refine jr_pop K (D_at DL_law__12_q4 8 rfl) rfl ?_
  refine jr_aload_n K (D_at DL_law__12_q4 9 rfl) rfl rfl ?_
  obtain ⟨rc1, e1⟩ := jcv_o e1
  refine jr_callV K (C_X12_wooden (d + 65) e1) (D_at DL_law__12_q4 10 rfl) cv_L_262_X12_wooden (As := []) (ci := 10) rfl rc1 rfl rfl (by exact Nat.le_of_ble_eq_true rfl) (kc2 := kc + 0) (ks2 := ks + 0) (by omega) (by omega) (fun k9 h9 w9 => by cases w9.1) (fun r9 h9 w9 => ?_)
  obtain ⟨w1, w2⟩ := w9
  subst h9
  cases w1
  have hP := t1
  show jJ G X _ (kc + 0) (ks + 0) _ _ (.int r1.1 :: _)
  refine jr_pop K (D_at DL_law__12_q4 11 rfl) rfl ?_
  refine jr_goto K (D_at DL_law__12_q5 0 rfl) (tgt := 1948) (by decide) ?_
  refine jr_keep [true, true, true, true, true, false, false] ?_
  exact kk _ hP
def SL_39 (n x m out : Nat) (a : Nat → Int32) (h : jH) (P : jH → Prop) : Prop :=
  ∃ r0, jcv 9 h x (F_X11_caught n x h) = some r0 ∧ ∃ r1, jcv 10 h m (F_X12_caught n m h) = some r1 ∧ P r1.2
set_option maxHeartbeats 400000 in
theorem JL_39 {G : jG} {l : Launch} (hst : l.stackTraces = false) {X : jX} {d b L : Nat} {xs : Nat → Int32} {nm : String} {hh : List (Nat × Nat × Nat × Nat)} (K : jOK G l (mlw nm hh) (d + 70) X) (S : jScr G b L xs X) (hL : L ≤ 3072) {i : Nat} (hi : i + 6 ≤ L) (n : Nat) {x m out : Nat} {h : jH} {kc ks : Nat} {P : jH → Prop} (hP : SL_39 n x m out (fun j => xs (i + j)) h P) (kk : ∀ h1, P h1 → jJ G X h1 kc ks 1948 (L7 b x m out i) []) : jJ G X h (kc + 0) (ks + 0) 1521 (L7 b x m out i) [] := by
  unfold SL_39 at hP
  obtain ⟨r0, e0, t0⟩ := hP
  refine jr_aload_n K (D_at DL_law__12_q5 1 rfl) rfl rfl ?_
  obtain ⟨rc0, e0⟩ := jcv_o e0
  refine jr_callV K (C_X11_caught (d + 69) e0) (D_at DL_law__12_q5 2 rfl) cv_L_263_X11_caught (As := []) (ci := 9) rfl rc0 rfl rfl (by exact Nat.le_of_ble_eq_true rfl) (kc2 := kc + 0) (ks2 := ks + 0) (by omega) (by omega) (fun k9 h9 w9 => by cases w9.1) (fun r9 h9 w9 => ?_)
  obtain ⟨w1, w2⟩ := w9
  subst h9
  cases w1
  obtain ⟨r1, e1, t1⟩ := t0
  show jJ G X _ (kc + 0) (ks + 0) _ _ (.int r0 :: _)
  refine jr_pop K (D_at DL_law__12_q5 3 rfl) rfl ?_
  refine jr_aload_n K (D_at DL_law__13_q0 0 rfl) rfl rfl ?_
  obtain ⟨rc1, e1⟩ := jcv_o e1
  refine jr_callV K (C_X12_caught (d + 65) e1) (D_at DL_law__13_q0 1 rfl) cv_L_266_X12_caught (As := []) (ci := 10) rfl rc1 rfl rfl (by exact Nat.le_of_ble_eq_true rfl) (kc2 := kc + 0) (ks2 := ks + 0) (by omega) (by omega) (fun k9 h9 w9 => by cases w9.1) (fun r9 h9 w9 => ?_)
  obtain ⟨w1, w2⟩ := w9
  subst h9
  cases w1
  have hP := t1
  show jJ G X _ (kc + 0) (ks + 0) _ _ (.int r1.1 :: _)
  refine jr_pop K (D_at DL_law__13_q0 2 rfl) rfl ?_
  refine jr_goto K (D_at DL_law__13_q0 3 rfl) (tgt := 1948) (by decide) ?_
  refine jr_keep [true, true, true, true, true, false, false] ?_
  exact kk _ hP
def SL_40 (n x m out : Nat) (a : Nat → Int32) (h : jH) (P : jH → Prop) : Prop :=
  ∃ r0, jcv 9 h x (F_X11_loose n x h) = some r0 ∧ ∃ r1, jcv 10 h m (F_X12_loose n m h) = some r1 ∧ P r1.2
set_option maxHeartbeats 400000 in
theorem JL_40 {G : jG} {l : Launch} (hst : l.stackTraces = false) {X : jX} {d b L : Nat} {xs : Nat → Int32} {nm : String} {hh : List (Nat × Nat × Nat × Nat)} (K : jOK G l (mlw nm hh) (d + 70) X) (S : jScr G b L xs X) (hL : L ≤ 3072) {i : Nat} (hi : i + 6 ≤ L) (n : Nat) {x m out : Nat} {h : jH} {kc ks : Nat} {P : jH → Prop} (hP : SL_40 n x m out (fun j => xs (i + j)) h P) (kk : ∀ h1, P h1 → jJ G X h1 kc ks 1948 (L7 b x m out i) []) : jJ G X h (kc + 0) (ks + 0) 1534 (L7 b x m out i) [] := by
  unfold SL_40 at hP
  obtain ⟨r0, e0, t0⟩ := hP
  refine jr_aload_n K (D_at DL_law__13_q0 4 rfl) rfl rfl ?_
  obtain ⟨rc0, e0⟩ := jcv_o e0
  refine jr_callV K (C_X11_loose (d + 68) e0) (D_at DL_law__13_q0 5 rfl) cv_L_267_X11_loose (As := []) (ci := 9) rfl rc0 rfl rfl (by exact Nat.le_of_ble_eq_true rfl) (kc2 := kc + 0) (ks2 := ks + 0) (by omega) (by omega) (fun k9 h9 w9 => by cases w9.1) (fun r9 h9 w9 => ?_)
  obtain ⟨w1, w2⟩ := w9
  subst h9
  cases w1
  obtain ⟨r1, e1, t1⟩ := t0
  show jJ G X _ (kc + 0) (ks + 0) _ _ (.int r0 :: _)
  refine jr_pop K (D_at DL_law__13_q0 6 rfl) rfl ?_
  refine jr_aload_n K (D_at DL_law__13_q0 7 rfl) rfl rfl ?_
  obtain ⟨rc1, e1⟩ := jcv_o e1
  refine jr_callV K (C_X12_loose (d + 64) e1) (D_at DL_law__13_q0 8 rfl) cv_L_270_X12_loose (As := []) (ci := 10) rfl rc1 rfl rfl (by exact Nat.le_of_ble_eq_true rfl) (kc2 := kc + 0) (ks2 := ks + 0) (by omega) (by omega) (fun k9 h9 w9 => by cases w9.1) (fun r9 h9 w9 => ?_)
  obtain ⟨w1, w2⟩ := w9
  subst h9
  cases w1
  have hP := t1
  show jJ G X _ (kc + 0) (ks + 0) _ _ (.int r1.1 :: _)
  refine jr_pop K (D_at DL_law__13_q0 9 rfl) rfl ?_
  refine jr_goto K (D_at DL_law__13_q0 10 rfl) (tgt := 1948) (by decide) ?_
  refine jr_keep [true, true, true, true, true, false, false] ?_
  exact kk _ hP
def SL_41 (n x m out : Nat) (a : Nat → Int32) (h : jH) (P : jH → Prop) : Prop :=
  ∃ r0, jcv 9 h x (F_X11_beyond n x h) = some r0 ∧ ∃ r1, jcv 10 h m (F_X12_beyond n m h) = some r1 ∧ P r1.2
set_option maxHeartbeats 400000 in
theorem JL_41 {G : jG} {l : Launch} (hst : l.stackTraces = false) {X : jX} {d b L : Nat} {xs : Nat → Int32} {nm : String} {hh : List (Nat × Nat × Nat × Nat)} (K : jOK G l (mlw nm hh) (d + 70) X) (S : jScr G b L xs X) (hL : L ≤ 3072) {i : Nat} (hi : i + 6 ≤ L) (n : Nat) {x m out : Nat} {h : jH} {kc ks : Nat} {P : jH → Prop} (hP : SL_41 n x m out (fun j => xs (i + j)) h P) (kk : ∀ h1, P h1 → jJ G X h1 kc ks 1948 (L7 b x m out i) []) : jJ G X h (kc + 0) (ks + 0) 1547 (L7 b x m out i) [] := by
  unfold SL_41 at hP
  obtain ⟨r0, e0, t0⟩ := hP
  refine jr_aload_n K (D_at DL_law__13_q0 11 rfl) rfl rfl ?_
  obtain ⟨rc0, e0⟩ := jcv_o e0
  refine jr_callV K (C_X11_beyond (d + 67) e0) (D_at DL_law__13_q1 0 rfl) cv_L_271_X11_beyond (As := []) (ci := 9) rfl rc0 rfl rfl (by exact Nat.le_of_ble_eq_true rfl) (kc2 := kc + 0) (ks2 := ks + 0) (by omega) (by omega) (fun k9 h9 w9 => by cases w9.1) (fun r9 h9 w9 => ?_)
  obtain ⟨w1, w2⟩ := w9
  subst h9
  cases w1
  obtain ⟨r1, e1, t1⟩ := t0
  show jJ G X _ (kc + 0) (ks + 0) _ _ (.int r0 :: _)
  refine jr_pop K (D_at DL_law__13_q1 1 rfl) rfl ?_
  refine jr_aload_n K (D_at DL_law__13_q1 2 rfl) rfl rfl ?_
  obtain ⟨rc1, e1⟩ := jcv_o e1
  refine jr_callV K (C_X12_beyond (d + 66) e1) (D_at DL_law__13_q1 3 rfl) cv_L_274_X12_beyond (As := []) (ci := 10) rfl rc1 rfl rfl (by exact Nat.le_of_ble_eq_true rfl) (kc2 := kc + 0) (ks2 := ks + 0) (by omega) (by omega) (fun k9 h9 w9 => by cases w9.1) (fun r9 h9 w9 => ?_)
  obtain ⟨w1, w2⟩ := w9
  subst h9
  cases w1
  have hP := t1
  show jJ G X _ (kc + 0) (ks + 0) _ _ (.int r1.1 :: _)
  refine jr_pop K (D_at DL_law__13_q1 4 rfl) rfl ?_
  refine jr_goto K (D_at DL_law__13_q1 5 rfl) (tgt := 1948) (by decide) ?_
  refine jr_keep [true, true, true, true, true, false, false] ?_
  exact kk _ hP
def SL_42 (n x m out : Nat) (a : Nat → Int32) (h : jH) (P : jH → Prop) : Prop :=
  ∃ r0, FL_odds n x (a 1) (a 2) out h = some r0 ∧ ∀ z0, r0.2.1 ≤ z0 → ∃ r1, jcv 10 (z0, r0.2.2) m (F_X12_odds n m (a 1) (a 2) (z0, r0.2.2)) = some r1 ∧ P r1.2
set_option maxHeartbeats 400000 in
theorem JL_42 {G : jG} {l : Launch} (hst : l.stackTraces = false) {X : jX} {d b L : Nat} {xs : Nat → Int32} {nm : String} {hh : List (Nat × Nat × Nat × Nat)} (K : jOK G l (mlw nm hh) (d + 70) X) (S : jScr G b L xs X) (hL : L ≤ 3072) {i : Nat} (hi : i + 6 ≤ L) (n : Nat) {x m out : Nat} {h : jH} {kc ks : Nat} {P : jH → Prop} (hP : SL_42 n x m out (fun j => xs (i + j)) h P) (kk : ∀ h1, P h1 → jJ G X h1 kc ks 1948 (L7 b x m out i) []) : jJ G X h (kc + 2) (ks + 12) 1560 (L7 b x m out i) [] := by
  unfold SL_42 at hP
  obtain ⟨r0, e0, t0⟩ := hP
  refine jr_aload_n K (D_at DL_law__13_q1 6 rfl) rfl rfl ?_
  refine jr_scr K S (k := 1) (by omega) hL rfl rfl (D_at DL_law__13_q1 7 rfl) (D_at DL_law__13_q1 8 rfl) (D_at DL_law__13_q1 9 rfl) (D_at DL_law__13_q1 10 rfl) (D_at DL_law__13_q1 11 rfl) (by decide) ?_
  refine jr_scr K S (k := 2) (by omega) hL rfl rfl (D_at DL_law__13_q2 0 rfl) (D_at DL_law__13_q2 1 rfl) (D_at DL_law__13_q2 2 rfl) (D_at DL_law__13_q2 3 rfl) (D_at DL_law__13_q2 4 rfl) (by decide) ?_
  refine jr_aload_n K (D_at DL_law__13_q2 5 rfl) rfl rfl ?_
  refine jr_callSW K (CL_odds hst (d + 61) e0) (D_at DL_law__13_q2 6 rfl) cs_L_275_L_odds (As := [.ref x, .int (xs (i + 1)), .int (xs (i + 2)), .ref out]) rfl rfl (by exact Nat.le_of_ble_eq_true rfl) (kc2 := kc + 0) (ks2 := ks + 0) (by omega) (by omega) (fun k9 h9 w9 => by cases w9.1) (fun r9 h9 w9 => ?_)
  obtain ⟨w1, z0, hz0, w2⟩ := w9
  subst h9
  cases w1
  obtain ⟨r1, e1, t1⟩ := t0 z0 hz0
  show jJ G X _ (kc + 0) (ks + 0) _ _ (.int r0.1 :: _)
  refine jr_istore K (D_at DL_law__13_q2 7 rfl) (i := 5) (by exact Nat.le_of_ble_eq_true rfl) (L2 := [_, _, _, _, _, _, _]) rfl ?_
  refine jr_aload_n K (D_at DL_law__13_q2 8 rfl) rfl rfl ?_
  refine jr_scr K S (k := 1) (by omega) hL rfl rfl (D_at DL_law__13_q2 9 rfl) (D_at DL_law__13_q2 10 rfl) (D_at DL_law__13_q2 11 rfl) (D_at DL_law__13_q3 0 rfl) (D_at DL_law__13_q3 1 rfl) (by decide) ?_
  refine jr_scr K S (k := 2) (by omega) hL rfl rfl (D_at DL_law__13_q3 2 rfl) (D_at DL_law__13_q3 3 rfl) (D_at DL_law__13_q3 4 rfl) (D_at DL_law__13_q3 5 rfl) (D_at DL_law__13_q3 6 rfl) (by decide) ?_
  obtain ⟨rc1, e1⟩ := jcv_o e1
  refine jr_callV K (C_X12_odds (d + 62) e1) (D_at DL_law__13_q3 7 rfl) cv_L_277_X12_odds (As := [.int (xs (i + 1)), .int (xs (i + 2))]) (ci := 10) rfl rc1 rfl rfl (by exact Nat.le_of_ble_eq_true rfl) (kc2 := kc + 0) (ks2 := ks + 0) (by omega) (by omega) (fun k9 h9 w9 => by cases w9.1) (fun r9 h9 w9 => ?_)
  obtain ⟨w1, w2⟩ := w9
  subst h9
  cases w1
  have hP := t1
  show jJ G X _ (kc + 0) (ks + 0) _ _ (.int r1.1 :: _)
  refine jr_istore K (D_at DL_law__13_q3 8 rfl) (i := 6) (by exact Nat.le_of_ble_eq_true rfl) (L2 := [_, _, _, _, _, _, _]) rfl ?_
  refine jr_goto K (D_at DL_law__13_q3 9 rfl) (tgt := 1948) (by decide) ?_
  refine jr_keep [true, true, true, true, true, false, false] ?_
  exact kk _ hP
def SL_43 (n x m out : Nat) (a : Nat → Int32) (h : jH) (P : jH → Prop) : Prop :=
  ∃ r0, jcv 9 h x (F_X11_twins n x h) = some r0 ∧ ∃ r1, jcv 10 h m (F_X12_twins n m h) = some r1 ∧ P r1.2
set_option maxHeartbeats 400000 in
theorem JL_43 {G : jG} {l : Launch} (hst : l.stackTraces = false) {X : jX} {d b L : Nat} {xs : Nat → Int32} {nm : String} {hh : List (Nat × Nat × Nat × Nat)} (K : jOK G l (mlw nm hh) (d + 70) X) (S : jScr G b L xs X) (hL : L ≤ 3072) {i : Nat} (hi : i + 6 ≤ L) (n : Nat) {x m out : Nat} {h : jH} {kc ks : Nat} {P : jH → Prop} (hP : SL_43 n x m out (fun j => xs (i + j)) h P) (kk : ∀ h1, P h1 → jJ G X h1 kc ks 1948 (L7 b x m out i) []) : jJ G X h (kc + 0) (ks + 0) 1600 (L7 b x m out i) [] := by
  unfold SL_43 at hP
  obtain ⟨r0, e0, t0⟩ := hP
  refine jr_aload_n K (D_at DL_law__13_q3 10 rfl) rfl rfl ?_
  obtain ⟨rc0, e0⟩ := jcv_o e0
  refine jr_callV K (C_X11_twins (d + 68) e0) (D_at DL_law__13_q3 11 rfl) cv_L_278_X11_twins (As := []) (ci := 9) rfl rc0 rfl rfl (by exact Nat.le_of_ble_eq_true rfl) (kc2 := kc + 0) (ks2 := ks + 0) (by omega) (by omega) (fun k9 h9 w9 => by cases w9.1) (fun r9 h9 w9 => ?_)
  obtain ⟨w1, w2⟩ := w9
  subst h9
  cases w1
  obtain ⟨r1, e1, t1⟩ := t0
  show jJ G X _ (kc + 0) (ks + 0) _ _ (.int r0 :: _)
  refine jr_pop K (D_at DL_law__13_q4 0 rfl) rfl ?_
  refine jr_aload_n K (D_at DL_law__13_q4 1 rfl) rfl rfl ?_
  obtain ⟨rc1, e1⟩ := jcv_o e1
  refine jr_callV K (C_X12_twins (d + 66) e1) (D_at DL_law__13_q4 2 rfl) cv_L_281_X12_twins (As := []) (ci := 10) rfl rc1 rfl rfl (by exact Nat.le_of_ble_eq_true rfl) (kc2 := kc + 0) (ks2 := ks + 0) (by omega) (by omega) (fun k9 h9 w9 => by cases w9.1) (fun r9 h9 w9 => ?_)
  obtain ⟨w1, w2⟩ := w9
  subst h9
  cases w1
  have hP := t1
  show jJ G X _ (kc + 0) (ks + 0) _ _ (.int r1.1 :: _)
  refine jr_pop K (D_at DL_law__13_q4 3 rfl) rfl ?_
  refine jr_goto K (D_at DL_law__13_q4 4 rfl) (tgt := 1948) (by decide) ?_
  refine jr_keep [true, true, true, true, true, false, false] ?_
  exact kk _ hP
def SL_44 (n x m out : Nat) (a : Nat → Int32) (h : jH) (P : jH → Prop) : Prop :=
  ∃ r0, FL_ahead n x (a 1) (a 2) out h = some r0 ∧ ∀ z0, r0.2.1 ≤ z0 → ∃ r1, jcv 10 (z0, r0.2.2) m (F_X12_ahead n m (a 1) (a 2) (z0, r0.2.2)) = some r1 ∧ P r1.2
set_option maxHeartbeats 400000 in
theorem JL_44 {G : jG} {l : Launch} (hst : l.stackTraces = false) {X : jX} {d b L : Nat} {xs : Nat → Int32} {nm : String} {hh : List (Nat × Nat × Nat × Nat)} (K : jOK G l (mlw nm hh) (d + 70) X) (S : jScr G b L xs X) (hL : L ≤ 3072) {i : Nat} (hi : i + 6 ≤ L) (n : Nat) {x m out : Nat} {h : jH} {kc ks : Nat} {P : jH → Prop} (hP : SL_44 n x m out (fun j => xs (i + j)) h P) (kk : ∀ h1, P h1 → jJ G X h1 kc ks 1948 (L7 b x m out i) []) : jJ G X h (kc + 2) (ks + 12) 1613 (L7 b x m out i) [] := by
  unfold SL_44 at hP
  obtain ⟨r0, e0, t0⟩ := hP
  refine jr_aload_n K (D_at DL_law__13_q4 5 rfl) rfl rfl ?_
  refine jr_scr K S (k := 1) (by omega) hL rfl rfl (D_at DL_law__13_q4 6 rfl) (D_at DL_law__13_q4 7 rfl) (D_at DL_law__13_q4 8 rfl) (D_at DL_law__13_q4 9 rfl) (D_at DL_law__13_q4 10 rfl) (by decide) ?_
  refine jr_scr K S (k := 2) (by omega) hL rfl rfl (D_at DL_law__13_q4 11 rfl) (D_at DL_law__13_q5 0 rfl) (D_at DL_law__13_q5 1 rfl) (D_at DL_law__13_q5 2 rfl) (D_at DL_law__13_q5 3 rfl) (by decide) ?_
  refine jr_aload_n K (D_at DL_law__14_q0 0 rfl) rfl rfl ?_
  refine jr_callSW K (CL_ahead hst (d + 61) e0) (D_at DL_law__14_q0 1 rfl) cs_L_282_L_ahead (As := [.ref x, .int (xs (i + 1)), .int (xs (i + 2)), .ref out]) rfl rfl (by exact Nat.le_of_ble_eq_true rfl) (kc2 := kc + 0) (ks2 := ks + 0) (by omega) (by omega) (fun k9 h9 w9 => by cases w9.1) (fun r9 h9 w9 => ?_)
  obtain ⟨w1, z0, hz0, w2⟩ := w9
  subst h9
  cases w1
  obtain ⟨r1, e1, t1⟩ := t0 z0 hz0
  show jJ G X _ (kc + 0) (ks + 0) _ _ (.int r0.1 :: _)
  refine jr_istore K (D_at DL_law__14_q0 2 rfl) (i := 5) (by exact Nat.le_of_ble_eq_true rfl) (L2 := [_, _, _, _, _, _, _]) rfl ?_
  refine jr_aload_n K (D_at DL_law__14_q0 3 rfl) rfl rfl ?_
  refine jr_scr K S (k := 1) (by omega) hL rfl rfl (D_at DL_law__14_q0 4 rfl) (D_at DL_law__14_q0 5 rfl) (D_at DL_law__14_q0 6 rfl) (D_at DL_law__14_q0 7 rfl) (D_at DL_law__14_q0 8 rfl) (by decide) ?_
  refine jr_scr K S (k := 2) (by omega) hL rfl rfl (D_at DL_law__14_q0 9 rfl) (D_at DL_law__14_q0 10 rfl) (D_at DL_law__14_q0 11 rfl) (D_at DL_law__14_q1 0 rfl) (D_at DL_law__14_q1 1 rfl) (by decide) ?_
  obtain ⟨rc1, e1⟩ := jcv_o e1
  refine jr_callV K (C_X12_ahead (d + 59) e1) (D_at DL_law__14_q1 2 rfl) cv_L_284_X12_ahead (As := [.int (xs (i + 1)), .int (xs (i + 2))]) (ci := 10) rfl rc1 rfl rfl (by exact Nat.le_of_ble_eq_true rfl) (kc2 := kc + 0) (ks2 := ks + 0) (by omega) (by omega) (fun k9 h9 w9 => by cases w9.1) (fun r9 h9 w9 => ?_)
  obtain ⟨w1, w2⟩ := w9
  subst h9
  cases w1
  have hP := t1
  show jJ G X _ (kc + 0) (ks + 0) _ _ (.int r1.1 :: _)
  refine jr_istore K (D_at DL_law__14_q1 3 rfl) (i := 6) (by exact Nat.le_of_ble_eq_true rfl) (L2 := [_, _, _, _, _, _, _]) rfl ?_
  refine jr_goto K (D_at DL_law__14_q1 4 rfl) (tgt := 1948) (by decide) ?_
  refine jr_keep [true, true, true, true, true, false, false] ?_
  exact kk _ hP
def SL_45 (n x m out : Nat) (a : Nat → Int32) (h : jH) (P : jH → Prop) : Prop :=
  ∃ r0, FL_trial n x (a 1) (if (a 2) = 0 then 0 else 1) out h = some r0 ∧ ∀ z0, r0.2.1 ≤ z0 → ∃ r1, jcv 10 (z0, r0.2.2) m (F_X12_trial n m (a 1) (if (a 2) = 0 then 0 else 1) (z0, r0.2.2)) = some r1 ∧ P r1.2
set_option maxHeartbeats 400000 in
theorem JL_45 {G : jG} {l : Launch} (hst : l.stackTraces = false) {X : jX} {d b L : Nat} {xs : Nat → Int32} {nm : String} {hh : List (Nat × Nat × Nat × Nat)} (K : jOK G l (mlw nm hh) (d + 70) X) (S : jScr G b L xs X) (hL : L ≤ 3072) {i : Nat} (hi : i + 6 ≤ L) (n : Nat) {x m out : Nat} {h : jH} {kc ks : Nat} {P : jH → Prop} (hP : SL_45 n x m out (fun j => xs (i + j)) h P) (kk : ∀ h1, P h1 → jJ G X h1 kc ks 1948 (L7 b x m out i) []) : jJ G X h (kc + 1) (ks + 6) 1653 (L7 b x m out i) [] := by
  unfold SL_45 at hP
  obtain ⟨r0, e0, t0⟩ := hP
  refine jr_aload_n K (D_at DL_law__14_q1 5 rfl) rfl rfl ?_
  refine jr_scr K S (k := 1) (by omega) hL rfl rfl (D_at DL_law__14_q1 6 rfl) (D_at DL_law__14_q1 7 rfl) (D_at DL_law__14_q1 8 rfl) (D_at DL_law__14_q1 9 rfl) (D_at DL_law__14_q1 10 rfl) (by decide) ?_
  refine jr_scr K S (k := 2) (by omega) hL rfl rfl (D_at DL_law__14_q1 11 rfl) (D_at DL_law__14_q2 0 rfl) (D_at DL_law__14_q2 1 rfl) (D_at DL_law__14_q2 2 rfl) (D_at DL_law__14_q2 3 rfl) (by decide) ?_
  refine jr_nz K (D_at DL_law__14_q2 4 rfl) (D_at DL_law__14_q2 5 rfl) (D_at DL_law__14_q2 6 rfl) (D_at DL_law__14_q2 7 rfl) ?_
  refine jr_aload_n K (D_at DL_law__14_q2 8 rfl) rfl rfl ?_
  refine jr_callSW K (CL_trial hst (d + 61) e0) (D_at DL_law__14_q2 9 rfl) cs_L_285_L_trial (As := [.ref x, .int (xs (i + 1)), .int (if (xs (i + 2)) = 0 then 0 else 1), .ref out]) rfl rfl (by exact Nat.le_of_ble_eq_true rfl) (kc2 := kc + 0) (ks2 := ks + 0) (by omega) (by omega) (fun k9 h9 w9 => by cases w9.1) (fun r9 h9 w9 => ?_)
  obtain ⟨w1, z0, hz0, w2⟩ := w9
  subst h9
  cases w1
  obtain ⟨r1, e1, t1⟩ := t0 z0 hz0
  show jJ G X _ (kc + 0) (ks + 0) _ _ (.int r0.1 :: _)
  refine jr_istore K (D_at DL_law__14_q2 10 rfl) (i := 5) (by exact Nat.le_of_ble_eq_true rfl) (L2 := [_, _, _, _, _, _, _]) rfl ?_
  refine jr_aload_n K (D_at DL_law__14_q2 11 rfl) rfl rfl ?_
  refine jr_scr K S (k := 1) (by omega) hL rfl rfl (D_at DL_law__14_q3 0 rfl) (D_at DL_law__14_q3 1 rfl) (D_at DL_law__14_q3 2 rfl) (D_at DL_law__14_q3 3 rfl) (D_at DL_law__14_q3 4 rfl) (by decide) ?_
  refine jr_scr K S (k := 2) (by omega) hL rfl rfl (D_at DL_law__14_q3 5 rfl) (D_at DL_law__14_q3 6 rfl) (D_at DL_law__14_q3 7 rfl) (D_at DL_law__14_q3 8 rfl) (D_at DL_law__14_q3 9 rfl) (by decide) ?_
  refine jr_nz K (D_at DL_law__14_q3 10 rfl) (D_at DL_law__14_q3 11 rfl) (D_at DL_law__14_q4 0 rfl) (D_at DL_law__14_q4 1 rfl) ?_
  obtain ⟨rc1, e1⟩ := jcv_o e1
  refine jr_callV K (C_X12_trial (d + 59) e1) (D_at DL_law__14_q4 2 rfl) cv_L_287_X12_trial (As := [.int (xs (i + 1)), .int (if (xs (i + 2)) = 0 then 0 else 1)]) (ci := 10) rfl rc1 rfl rfl (by exact Nat.le_of_ble_eq_true rfl) (kc2 := kc + 0) (ks2 := ks + 0) (by omega) (by omega) (fun k9 h9 w9 => by cases w9.1) (fun r9 h9 w9 => ?_)
  obtain ⟨w1, w2⟩ := w9
  subst h9
  cases w1
  have hP := t1
  show jJ G X _ (kc + 0) (ks + 0) _ _ (.int r1.1 :: _)
  refine jr_istore K (D_at DL_law__14_q4 3 rfl) (i := 6) (by exact Nat.le_of_ble_eq_true rfl) (L2 := [_, _, _, _, _, _, _]) rfl ?_
  refine jr_goto K (D_at DL_law__14_q4 4 rfl) (tgt := 1948) (by decide) ?_
  refine jr_keep [true, true, true, true, true, false, false] ?_
  exact kk _ hP
def SL_46 (n x m out : Nat) (a : Nat → Int32) (h : jH) (P : jH → Prop) : Prop :=
  ∃ r0, FL_span n x (a 1) (if (a 2) = 0 then 0 else 1) out h = some r0 ∧ ∀ z0, r0.2.1 ≤ z0 → ∃ r1, jcv 10 (z0, r0.2.2) m (F_X12_span n m (a 1) (if (a 2) = 0 then 0 else 1) (z0, r0.2.2)) = some r1 ∧ P r1.2
set_option maxHeartbeats 400000 in
theorem JL_46 {G : jG} {l : Launch} (hst : l.stackTraces = false) {X : jX} {d b L : Nat} {xs : Nat → Int32} {nm : String} {hh : List (Nat × Nat × Nat × Nat)} (K : jOK G l (mlw nm hh) (d + 70) X) (S : jScr G b L xs X) (hL : L ≤ 3072) {i : Nat} (hi : i + 6 ≤ L) (n : Nat) {x m out : Nat} {h : jH} {kc ks : Nat} {P : jH → Prop} (hP : SL_46 n x m out (fun j => xs (i + j)) h P) (kk : ∀ h1, P h1 → jJ G X h1 kc ks 1948 (L7 b x m out i) []) : jJ G X h (kc + 1) (ks + 6) 1709 (L7 b x m out i) [] := by
  unfold SL_46 at hP
  obtain ⟨r0, e0, t0⟩ := hP
  refine jr_aload_n K (D_at DL_law__14_q4 5 rfl) rfl rfl ?_
  refine jr_scr K S (k := 1) (by omega) hL rfl rfl (D_at DL_law__14_q4 6 rfl) (D_at DL_law__14_q4 7 rfl) (D_at DL_law__14_q4 8 rfl) (D_at DL_law__14_q4 9 rfl) (D_at DL_law__14_q4 10 rfl) (by decide) ?_
  refine jr_scr K S (k := 2) (by omega) hL rfl rfl (D_at DL_law__14_q4 11 rfl) (D_at DL_law__14_q5 0 rfl) (D_at DL_law__14_q5 1 rfl) (D_at DL_law__14_q5 2 rfl) (D_at DL_law__14_q5 3 rfl) (by decide) ?_
  refine jr_nz K (D_at DL_law__15_q0 0 rfl) (D_at DL_law__15_q0 1 rfl) (D_at DL_law__15_q0 2 rfl) (D_at DL_law__15_q0 3 rfl) ?_
  refine jr_aload_n K (D_at DL_law__15_q0 4 rfl) rfl rfl ?_
  refine jr_callSW K (CL_span hst (d + 61) e0) (D_at DL_law__15_q0 5 rfl) cs_L_288_L_span (As := [.ref x, .int (xs (i + 1)), .int (if (xs (i + 2)) = 0 then 0 else 1), .ref out]) rfl rfl (by exact Nat.le_of_ble_eq_true rfl) (kc2 := kc + 0) (ks2 := ks + 0) (by omega) (by omega) (fun k9 h9 w9 => by cases w9.1) (fun r9 h9 w9 => ?_)
  obtain ⟨w1, z0, hz0, w2⟩ := w9
  subst h9
  cases w1
  obtain ⟨r1, e1, t1⟩ := t0 z0 hz0
  show jJ G X _ (kc + 0) (ks + 0) _ _ (.int r0.1 :: _)
  refine jr_istore K (D_at DL_law__15_q0 6 rfl) (i := 5) (by exact Nat.le_of_ble_eq_true rfl) (L2 := [_, _, _, _, _, _, _]) rfl ?_
  refine jr_aload_n K (D_at DL_law__15_q0 7 rfl) rfl rfl ?_
  refine jr_scr K S (k := 1) (by omega) hL rfl rfl (D_at DL_law__15_q0 8 rfl) (D_at DL_law__15_q0 9 rfl) (D_at DL_law__15_q0 10 rfl) (D_at DL_law__15_q0 11 rfl) (D_at DL_law__15_q1 0 rfl) (by decide) ?_
  refine jr_scr K S (k := 2) (by omega) hL rfl rfl (D_at DL_law__15_q1 1 rfl) (D_at DL_law__15_q1 2 rfl) (D_at DL_law__15_q1 3 rfl) (D_at DL_law__15_q1 4 rfl) (D_at DL_law__15_q1 5 rfl) (by decide) ?_
  refine jr_nz K (D_at DL_law__15_q1 6 rfl) (D_at DL_law__15_q1 7 rfl) (D_at DL_law__15_q1 8 rfl) (D_at DL_law__15_q1 9 rfl) ?_
  obtain ⟨rc1, e1⟩ := jcv_o e1
  refine jr_callV K (C_X12_span (d + 59) e1) (D_at DL_law__15_q1 10 rfl) cv_L_290_X12_span (As := [.int (xs (i + 1)), .int (if (xs (i + 2)) = 0 then 0 else 1)]) (ci := 10) rfl rc1 rfl rfl (by exact Nat.le_of_ble_eq_true rfl) (kc2 := kc + 0) (ks2 := ks + 0) (by omega) (by omega) (fun k9 h9 w9 => by cases w9.1) (fun r9 h9 w9 => ?_)
  obtain ⟨w1, w2⟩ := w9
  subst h9
  cases w1
  have hP := t1
  show jJ G X _ (kc + 0) (ks + 0) _ _ (.int r1.1 :: _)
  refine jr_istore K (D_at DL_law__15_q1 11 rfl) (i := 6) (by exact Nat.le_of_ble_eq_true rfl) (L2 := [_, _, _, _, _, _, _]) rfl ?_
  refine jr_goto K (D_at DL_law__15_q2 0 rfl) (tgt := 1948) (by decide) ?_
  refine jr_keep [true, true, true, true, true, false, false] ?_
  exact kk _ hP
def SL_47 (n x m out : Nat) (a : Nat → Int32) (h : jH) (P : jH → Prop) : Prop :=
  ∃ r0, FL_led n x (a 1) (if (a 2) = 0 then 0 else 1) out h = some r0 ∧ ∀ z0, r0.2.1 ≤ z0 → ∃ r1, jcv 10 (z0, r0.2.2) m (F_X12_led n m (a 1) (if (a 2) = 0 then 0 else 1) (z0, r0.2.2)) = some r1 ∧ P r1.2
set_option maxHeartbeats 400000 in
theorem JL_47 {G : jG} {l : Launch} (hst : l.stackTraces = false) {X : jX} {d b L : Nat} {xs : Nat → Int32} {nm : String} {hh : List (Nat × Nat × Nat × Nat)} (K : jOK G l (mlw nm hh) (d + 70) X) (S : jScr G b L xs X) (hL : L ≤ 3072) {i : Nat} (hi : i + 6 ≤ L) (n : Nat) {x m out : Nat} {h : jH} {kc ks : Nat} {P : jH → Prop} (hP : SL_47 n x m out (fun j => xs (i + j)) h P) (kk : ∀ h1, P h1 → jJ G X h1 kc ks 1948 (L7 b x m out i) []) : jJ G X h (kc + 1) (ks + 6) 1765 (L7 b x m out i) [] := by
  unfold SL_47 at hP
  obtain ⟨r0, e0, t0⟩ := hP
  refine jr_aload_n K (D_at DL_law__15_q2 1 rfl) rfl rfl ?_
  refine jr_scr K S (k := 1) (by omega) hL rfl rfl (D_at DL_law__15_q2 2 rfl) (D_at DL_law__15_q2 3 rfl) (D_at DL_law__15_q2 4 rfl) (D_at DL_law__15_q2 5 rfl) (D_at DL_law__15_q2 6 rfl) (by decide) ?_
  refine jr_scr K S (k := 2) (by omega) hL rfl rfl (D_at DL_law__15_q2 7 rfl) (D_at DL_law__15_q2 8 rfl) (D_at DL_law__15_q2 9 rfl) (D_at DL_law__15_q2 10 rfl) (D_at DL_law__15_q2 11 rfl) (by decide) ?_
  refine jr_nz K (D_at DL_law__15_q3 0 rfl) (D_at DL_law__15_q3 1 rfl) (D_at DL_law__15_q3 2 rfl) (D_at DL_law__15_q3 3 rfl) ?_
  refine jr_aload_n K (D_at DL_law__15_q3 4 rfl) rfl rfl ?_
  refine jr_callSW K (CL_led hst (d + 61) e0) (D_at DL_law__15_q3 5 rfl) cs_L_291_L_led (As := [.ref x, .int (xs (i + 1)), .int (if (xs (i + 2)) = 0 then 0 else 1), .ref out]) rfl rfl (by exact Nat.le_of_ble_eq_true rfl) (kc2 := kc + 0) (ks2 := ks + 0) (by omega) (by omega) (fun k9 h9 w9 => by cases w9.1) (fun r9 h9 w9 => ?_)
  obtain ⟨w1, z0, hz0, w2⟩ := w9
  subst h9
  cases w1
  obtain ⟨r1, e1, t1⟩ := t0 z0 hz0
  show jJ G X _ (kc + 0) (ks + 0) _ _ (.int r0.1 :: _)
  refine jr_istore K (D_at DL_law__15_q3 6 rfl) (i := 5) (by exact Nat.le_of_ble_eq_true rfl) (L2 := [_, _, _, _, _, _, _]) rfl ?_
  refine jr_aload_n K (D_at DL_law__15_q3 7 rfl) rfl rfl ?_
  refine jr_scr K S (k := 1) (by omega) hL rfl rfl (D_at DL_law__15_q3 8 rfl) (D_at DL_law__15_q3 9 rfl) (D_at DL_law__15_q3 10 rfl) (D_at DL_law__15_q3 11 rfl) (D_at DL_law__15_q4 0 rfl) (by decide) ?_
  refine jr_scr K S (k := 2) (by omega) hL rfl rfl (D_at DL_law__15_q4 1 rfl) (D_at DL_law__15_q4 2 rfl) (D_at DL_law__15_q4 3 rfl) (D_at DL_law__15_q4 4 rfl) (D_at DL_law__15_q4 5 rfl) (by decide) ?_
  refine jr_nz K (D_at DL_law__15_q4 6 rfl) (D_at DL_law__15_q4 7 rfl) (D_at DL_law__15_q4 8 rfl) (D_at DL_law__15_q4 9 rfl) ?_
  obtain ⟨rc1, e1⟩ := jcv_o e1
  refine jr_callV K (C_X12_led (d + 66) e1) (D_at DL_law__15_q4 10 rfl) cv_L_293_X12_led (As := [.int (xs (i + 1)), .int (if (xs (i + 2)) = 0 then 0 else 1)]) (ci := 10) rfl rc1 rfl rfl (by exact Nat.le_of_ble_eq_true rfl) (kc2 := kc + 0) (ks2 := ks + 0) (by omega) (by omega) (fun k9 h9 w9 => by cases w9.1) (fun r9 h9 w9 => ?_)
  obtain ⟨w1, w2⟩ := w9
  subst h9
  cases w1
  have hP := t1
  show jJ G X _ (kc + 0) (ks + 0) _ _ (.int r1.1 :: _)
  refine jr_istore K (D_at DL_law__15_q4 11 rfl) (i := 6) (by exact Nat.le_of_ble_eq_true rfl) (L2 := [_, _, _, _, _, _, _]) rfl ?_
  refine jr_goto K (D_at DL_law__15_q5 0 rfl) (tgt := 1948) (by decide) ?_
  refine jr_keep [true, true, true, true, true, false, false] ?_
  exact kk _ hP
def SL_48 (n x m out : Nat) (a : Nat → Int32) (h : jH) (P : jH → Prop) : Prop :=
  ∃ r0, FL_log n x (a 1) (a 2) out h = some r0 ∧ ∀ z0, r0.2.1 ≤ z0 → ∃ r1, jcv 10 (z0, r0.2.2) m (F_X12_log n m (a 1) (a 2) (z0, r0.2.2)) = some r1 ∧ P r1.2
set_option maxHeartbeats 400000 in
theorem JL_48 {G : jG} {l : Launch} (hst : l.stackTraces = false) {X : jX} {d b L : Nat} {xs : Nat → Int32} {nm : String} {hh : List (Nat × Nat × Nat × Nat)} (K : jOK G l (mlw nm hh) (d + 70) X) (S : jScr G b L xs X) (hL : L ≤ 3072) {i : Nat} (hi : i + 6 ≤ L) (n : Nat) {x m out : Nat} {h : jH} {kc ks : Nat} {P : jH → Prop} (hP : SL_48 n x m out (fun j => xs (i + j)) h P) (kk : ∀ h1, P h1 → jJ G X h1 kc ks 1948 (L7 b x m out i) []) : jJ G X h (kc + 1) (ks + 6) 1821 (L7 b x m out i) [] := by
  unfold SL_48 at hP
  obtain ⟨r0, e0, t0⟩ := hP
  refine jr_aload_n K (D_at DL_law__15_q5 1 rfl) rfl rfl ?_
  refine jr_scr K S (k := 1) (by omega) hL rfl rfl (D_at DL_law__15_q5 2 rfl) (D_at DL_law__15_q5 3 rfl) (D_at DL_law__16_q0 0 rfl) (D_at DL_law__16_q0 1 rfl) (D_at DL_law__16_q0 2 rfl) (by decide) ?_
  refine jr_scr K S (k := 2) (by omega) hL rfl rfl (D_at DL_law__16_q0 3 rfl) (D_at DL_law__16_q0 4 rfl) (D_at DL_law__16_q0 5 rfl) (D_at DL_law__16_q0 6 rfl) (D_at DL_law__16_q0 7 rfl) (by decide) ?_
  refine jr_aload_n K (D_at DL_law__16_q0 8 rfl) rfl rfl ?_
  refine jr_callSW K (CL_log hst (d + 62) e0) (D_at DL_law__16_q0 9 rfl) cs_L_294_L_log (As := [.ref x, .int (xs (i + 1)), .int (xs (i + 2)), .ref out]) rfl rfl (by exact Nat.le_of_ble_eq_true rfl) (kc2 := kc + 0) (ks2 := ks + 0) (by omega) (by omega) (fun k9 h9 w9 => by cases w9.1) (fun r9 h9 w9 => ?_)
  obtain ⟨w1, z0, hz0, w2⟩ := w9
  subst h9
  cases w1
  obtain ⟨r1, e1, t1⟩ := t0 z0 hz0
  show jJ G X _ (kc + 0) (ks + 0) _ _ (.int r0.1 :: _)
  refine jr_istore K (D_at DL_law__16_q0 10 rfl) (i := 5) (by exact Nat.le_of_ble_eq_true rfl) (L2 := [_, _, _, _, _, _, _]) rfl ?_
  refine jr_aload_n K (D_at DL_law__16_q0 11 rfl) rfl rfl ?_
  refine jr_scr K S (k := 1) (by omega) hL rfl rfl (D_at DL_law__16_q1 0 rfl) (D_at DL_law__16_q1 1 rfl) (D_at DL_law__16_q1 2 rfl) (D_at DL_law__16_q1 3 rfl) (D_at DL_law__16_q1 4 rfl) (by decide) ?_
  refine jr_scr K S (k := 2) (by omega) hL rfl rfl (D_at DL_law__16_q1 5 rfl) (D_at DL_law__16_q1 6 rfl) (D_at DL_law__16_q1 7 rfl) (D_at DL_law__16_q1 8 rfl) (D_at DL_law__16_q1 9 rfl) (by decide) ?_
  obtain ⟨rc1, e1⟩ := jcv_o e1
  refine jr_callV K (C_X12_log (d + 68) e1) (D_at DL_law__16_q1 10 rfl) cv_L_296_X12_log (As := [.int (xs (i + 1)), .int (xs (i + 2))]) (ci := 10) rfl rc1 rfl rfl (by exact Nat.le_of_ble_eq_true rfl) (kc2 := kc + 0) (ks2 := ks + 0) (by omega) (by omega) (fun k9 h9 w9 => by cases w9.1) (fun r9 h9 w9 => ?_)
  obtain ⟨w1, w2⟩ := w9
  subst h9
  cases w1
  have hP := t1
  show jJ G X _ (kc + 0) (ks + 0) _ _ (.int r1.1 :: _)
  refine jr_istore K (D_at DL_law__16_q1 11 rfl) (i := 6) (by exact Nat.le_of_ble_eq_true rfl) (L2 := [_, _, _, _, _, _, _]) rfl ?_
  refine jr_goto K (D_at DL_law__16_q2 0 rfl) (tgt := 1948) (by decide) ?_
  refine jr_keep [true, true, true, true, true, false, false] ?_
  exact kk _ hP
def SL_49 (n x m out : Nat) (a : Nat → Int32) (h : jH) (P : jH → Prop) : Prop :=
  ∃ r0, jcv 9 h x (F_X11_seed n x (a 1) h) = some r0 ∧ ∃ r1, jcv 10 r0.2 m (F_X12_seed n m (a 1) r0.2) = some r1 ∧ P r1.2
set_option maxHeartbeats 400000 in
theorem JL_49 {G : jG} {l : Launch} (hst : l.stackTraces = false) {X : jX} {d b L : Nat} {xs : Nat → Int32} {nm : String} {hh : List (Nat × Nat × Nat × Nat)} (K : jOK G l (mlw nm hh) (d + 70) X) (S : jScr G b L xs X) (hL : L ≤ 3072) {i : Nat} (hi : i + 6 ≤ L) (n : Nat) {x m out : Nat} {h : jH} {kc ks : Nat} {P : jH → Prop} (hP : SL_49 n x m out (fun j => xs (i + j)) h P) (kk : ∀ h1, P h1 → jJ G X h1 kc ks 1948 (L7 b x m out i) []) : jJ G X h (kc + 0) (ks + 0) 1861 (L7 b x m out i) [] := by
  unfold SL_49 at hP
  obtain ⟨r0, e0, t0⟩ := hP
  refine jr_aload_n K (D_at DL_law__16_q2 1 rfl) rfl rfl ?_
  refine jr_scr K S (k := 1) (by omega) hL rfl rfl (D_at DL_law__16_q2 2 rfl) (D_at DL_law__16_q2 3 rfl) (D_at DL_law__16_q2 4 rfl) (D_at DL_law__16_q2 5 rfl) (D_at DL_law__16_q2 6 rfl) (by decide) ?_
  obtain ⟨rc0, e0⟩ := jcv_o e0
  refine jr_callV K (C_X11_seed (d + 69) e0) (D_at DL_law__16_q2 7 rfl) cv_L_297_X11_seed (As := [.int (xs (i + 1))]) (ci := 9) rfl rc0 rfl rfl (by exact Nat.le_of_ble_eq_true rfl) (kc2 := kc + 0) (ks2 := ks + 0) (by omega) (by omega) (fun k9 h9 w9 => by cases w9.1) (fun r9 h9 w9 => ?_)
  obtain ⟨w1, w2⟩ := w9
  subst h9
  cases w1
  obtain ⟨r1, e1, t1⟩ := t0
  show jJ G X _ (kc + 0) (ks + 0) _ _ (.int r0.1 :: _)
  refine jr_pop K (D_at DL_law__16_q2 8 rfl) rfl ?_
  refine jr_aload_n K (D_at DL_law__16_q2 9 rfl) rfl rfl ?_
  refine jr_scr K S (k := 1) (by omega) hL rfl rfl (D_at DL_law__16_q2 10 rfl) (D_at DL_law__16_q2 11 rfl) (D_at DL_law__16_q3 0 rfl) (D_at DL_law__16_q3 1 rfl) (D_at DL_law__16_q3 2 rfl) (by decide) ?_
  obtain ⟨rc1, e1⟩ := jcv_o e1
  refine jr_callV K (C_X12_seed (d + 69) e1) (D_at DL_law__16_q3 3 rfl) cv_L_300_X12_seed (As := [.int (xs (i + 1))]) (ci := 10) rfl rc1 rfl rfl (by exact Nat.le_of_ble_eq_true rfl) (kc2 := kc + 0) (ks2 := ks + 0) (by omega) (by omega) (fun k9 h9 w9 => by cases w9.1) (fun r9 h9 w9 => ?_)
  obtain ⟨w1, w2⟩ := w9
  subst h9
  cases w1
  have hP := t1
  show jJ G X _ (kc + 0) (ks + 0) _ _ (.int r1.1 :: _)
  refine jr_pop K (D_at DL_law__16_q3 4 rfl) rfl ?_
  refine jr_goto K (D_at DL_law__16_q3 5 rfl) (tgt := 1948) (by decide) ?_
  refine jr_keep [true, true, true, true, true, false, false] ?_
  exact kk _ hP
def SL_50 (n x m out : Nat) (a : Nat → Int32) (h : jH) (P : jH → Prop) : Prop :=
  ∃ r0, jcv 9 h x (F_X11_undo n x h) = some r0 ∧ ∃ r1, jcv 10 r0.2 m (F_X12_undo n m r0.2) = some r1 ∧ P r1.2
set_option maxHeartbeats 400000 in
theorem JL_50 {G : jG} {l : Launch} (hst : l.stackTraces = false) {X : jX} {d b L : Nat} {xs : Nat → Int32} {nm : String} {hh : List (Nat × Nat × Nat × Nat)} (K : jOK G l (mlw nm hh) (d + 70) X) (S : jScr G b L xs X) (hL : L ≤ 3072) {i : Nat} (hi : i + 6 ≤ L) (n : Nat) {x m out : Nat} {h : jH} {kc ks : Nat} {P : jH → Prop} (hP : SL_50 n x m out (fun j => xs (i + j)) h P) (kk : ∀ h1, P h1 → jJ G X h1 kc ks 1948 (L7 b x m out i) []) : jJ G X h (kc + 0) (ks + 0) 1886 (L7 b x m out i) [] := by
  unfold SL_50 at hP
  obtain ⟨r0, e0, t0⟩ := hP
  refine jr_aload_n K (D_at DL_law__16_q3 6 rfl) rfl rfl ?_
  obtain ⟨rc0, e0⟩ := jcv_o e0
  refine jr_callV K (C_X11_undo (d + 65) e0) (D_at DL_law__16_q3 7 rfl) cv_L_301_X11_undo (As := []) (ci := 9) rfl rc0 rfl rfl (by exact Nat.le_of_ble_eq_true rfl) (kc2 := kc + 0) (ks2 := ks + 0) (by omega) (by omega) (fun k9 h9 w9 => by cases w9.1) (fun r9 h9 w9 => ?_)
  obtain ⟨w1, w2⟩ := w9
  subst h9
  cases w1
  obtain ⟨r1, e1, t1⟩ := t0
  show jJ G X _ (kc + 0) (ks + 0) _ _ (.int r0.1 :: _)
  refine jr_pop K (D_at DL_law__16_q3 8 rfl) rfl ?_
  refine jr_aload_n K (D_at DL_law__16_q3 9 rfl) rfl rfl ?_
  obtain ⟨rc1, e1⟩ := jcv_o e1
  refine jr_callV K (C_X12_undo (d + 69) e1) (D_at DL_law__16_q3 10 rfl) cv_L_305_X12_undo (As := []) (ci := 10) rfl rc1 rfl rfl (by exact Nat.le_of_ble_eq_true rfl) (kc2 := kc + 0) (ks2 := ks + 0) (by omega) (by omega) (fun k9 h9 w9 => by cases w9.1) (fun r9 h9 w9 => ?_)
  obtain ⟨w1, w2⟩ := w9
  subst h9
  cases w1
  have hP := t1
  show jJ G X _ (kc + 0) (ks + 0) _ _ (.int r1.1 :: _)
  refine jr_pop K (D_at DL_law__16_q3 11 rfl) rfl ?_
  refine jr_goto K (D_at DL_law__16_q4 0 rfl) (tgt := 1948) (by decide) ?_
  refine jr_keep [true, true, true, true, true, false, false] ?_
  exact kk _ hP
def SL_51 (n x m out : Nat) (a : Nat → Int32) (h : jH) (P : jH → Prop) : Prop :=
  ∃ r0, jcv 9 h x (F_X11_image n x h) = some r0 ∧ ∃ r1, jcv 10 r0 m (F_X12_image n m r0) = some r1 ∧ P r1
set_option maxHeartbeats 400000 in
theorem JL_51 {G : jG} {l : Launch} (hst : l.stackTraces = false) {X : jX} {d b L : Nat} {xs : Nat → Int32} {nm : String} {hh : List (Nat × Nat × Nat × Nat)} (K : jOK G l (mlw nm hh) (d + 70) X) (S : jScr G b L xs X) (hL : L ≤ 3072) {i : Nat} (hi : i + 6 ≤ L) (n : Nat) {x m out : Nat} {h : jH} {kc ks : Nat} {P : jH → Prop} (hP : SL_51 n x m out (fun j => xs (i + j)) h P) (kk : ∀ h1, P h1 → jJ G X h1 kc ks 1948 (L7 b x m out i) []) : jJ G X h (kc + 13) (ks + 582) 1899 (L7 b x m out i) [] := by
  unfold SL_51 at hP
  obtain ⟨r0, e0, t0⟩ := hP
  refine jr_aload_n K (D_at DL_law__16_q4 1 rfl) rfl rfl ?_
  obtain ⟨rc0, e0⟩ := jcv_o e0
  refine jr_callV K (C_X11_image (d + 66) e0) (D_at DL_law__16_q4 2 rfl) cv_L_306_X11_image (As := []) (ci := 9) rfl rc0 rfl rfl (by exact Nat.le_of_ble_eq_true rfl) (kc2 := kc + 0) (ks2 := ks + 0) (by omega) (by omega) (fun k9 h9 w9 => by cases w9.1) (fun r9 h9 w9 => ?_)
  obtain ⟨w1, w2⟩ := w9
  subst h9
  cases w1
  obtain ⟨r1, e1, t1⟩ := t0
  show jJ G X _ (kc + 0) (ks + 0) _ _ []
  refine jr_aload_n K (D_at DL_law__16_q4 3 rfl) rfl rfl ?_
  obtain ⟨rc1, e1⟩ := jcv_o e1
  refine jr_callV K (C_X12_image (d + 69) e1) (D_at DL_law__16_q4 4 rfl) cv_L_309_X12_image (As := []) (ci := 10) rfl rc1 rfl rfl (by exact Nat.le_of_ble_eq_true rfl) (kc2 := kc + 0) (ks2 := ks + 0) (by omega) (by omega) (fun k9 h9 w9 => by cases w9.1) (fun r9 h9 w9 => ?_)
  obtain ⟨w1, w2⟩ := w9
  subst h9
  cases w1
  have hP := t1
  show jJ G X _ (kc + 0) (ks + 0) _ _ []
  refine jr_goto K (D_at DL_law__16_q4 5 rfl) (tgt := 1948) (by decide) ?_
  refine jr_keep [true, true, true, true, true, false, false] ?_
  exact kk _ hP
def SL_52 (n x m out : Nat) (a : Nat → Int32) (h : jH) (P : jH → Prop) : Prop :=
  ∃ r0, jcv 9 h x (F_X11_back n x h) = some r0 ∧ ∃ r1, jcv 10 r0.2 m (F_X12_back n m r0.2) = some r1 ∧ P r1.2
set_option maxHeartbeats 400000 in
theorem JL_52 {G : jG} {l : Launch} (hst : l.stackTraces = false) {X : jX} {d b L : Nat} {xs : Nat → Int32} {nm : String} {hh : List (Nat × Nat × Nat × Nat)} (K : jOK G l (mlw nm hh) (d + 70) X) (S : jScr G b L xs X) (hL : L ≤ 3072) {i : Nat} (hi : i + 6 ≤ L) (n : Nat) {x m out : Nat} {h : jH} {kc ks : Nat} {P : jH → Prop} (hP : SL_52 n x m out (fun j => xs (i + j)) h P) (kk : ∀ h1, P h1 → jJ G X h1 kc ks 1948 (L7 b x m out i) []) : jJ G X h (kc + 0) (ks + 0) 1910 (L7 b x m out i) [] := by
  unfold SL_52 at hP
  obtain ⟨r0, e0, t0⟩ := hP
  refine jr_aload_n K (D_at DL_law__16_q4 6 rfl) rfl rfl ?_
  obtain ⟨rc0, e0⟩ := jcv_o e0
  refine jr_callV K (C_X11_back (d + 66) e0) (D_at DL_law__16_q4 7 rfl) cv_L_310_X11_back (As := []) (ci := 9) rfl rc0 rfl rfl (by exact Nat.le_of_ble_eq_true rfl) (kc2 := kc + 0) (ks2 := ks + 0) (by omega) (by omega) (fun k9 h9 w9 => by cases w9.1) (fun r9 h9 w9 => ?_)
  obtain ⟨w1, w2⟩ := w9
  subst h9
  cases w1
  obtain ⟨r1, e1, t1⟩ := t0
  show jJ G X _ (kc + 0) (ks + 0) _ _ (.int r0.1 :: _)
  refine jr_pop K (D_at DL_law__16_q4 8 rfl) rfl ?_
  refine jr_aload_n K (D_at DL_law__16_q4 9 rfl) rfl rfl ?_
  obtain ⟨rc1, e1⟩ := jcv_o e1
  refine jr_callV K (C_X12_back (d + 69) e1) (D_at DL_law__16_q4 10 rfl) cv_L_313_X12_back (As := []) (ci := 10) rfl rc1 rfl rfl (by exact Nat.le_of_ble_eq_true rfl) (kc2 := kc + 0) (ks2 := ks + 0) (by omega) (by omega) (fun k9 h9 w9 => by cases w9.1) (fun r9 h9 w9 => ?_)
  obtain ⟨w1, w2⟩ := w9
  subst h9
  cases w1
  have hP := t1
  show jJ G X _ (kc + 0) (ks + 0) _ _ (.int r1.1 :: _)
  refine jr_pop K (D_at DL_law__16_q4 11 rfl) rfl ?_
  refine jr_goto K (D_at DL_law__16_q5 0 rfl) (tgt := 1948) (by decide) ?_
  refine jr_keep [true, true, true, true, true, false, false] ?_
  exact kk _ hP
def SL_53 (n x m out : Nat) (a : Nat → Int32) (h : jH) (P : jH → Prop) : Prop :=
  ∃ r0, jcv 9 h x (F_X11_count n x (a 1) h) = some r0 ∧ ∃ r1, jcv 10 h m (F_X12_count n m (a 1) h) = some r1 ∧ P r1.2
set_option maxHeartbeats 400000 in
theorem JL_53 {G : jG} {l : Launch} (hst : l.stackTraces = false) {X : jX} {d b L : Nat} {xs : Nat → Int32} {nm : String} {hh : List (Nat × Nat × Nat × Nat)} (K : jOK G l (mlw nm hh) (d + 70) X) (S : jScr G b L xs X) (hL : L ≤ 3072) {i : Nat} (hi : i + 6 ≤ L) (n : Nat) {x m out : Nat} {h : jH} {kc ks : Nat} {P : jH → Prop} (hP : SL_53 n x m out (fun j => xs (i + j)) h P) (kk : ∀ h1, P h1 → jJ G X h1 kc ks 1948 (L7 b x m out i) []) : jJ G X h (kc + 0) (ks + 0) 1923 (L7 b x m out i) [] := by
  unfold SL_53 at hP
  obtain ⟨r0, e0, t0⟩ := hP
  refine jr_aload_n K (D_at DL_law__16_q5 1 rfl) rfl rfl ?_
  refine jr_scr K S (k := 1) (by omega) hL rfl rfl (D_at DL_law__16_q5 2 rfl) (D_at DL_law__16_q5 3 rfl) (D_at DL_law__17_q0 0 rfl) (D_at DL_law__17_q0 1 rfl) (D_at DL_law__17_q0 2 rfl) (by decide) ?_
  obtain ⟨rc0, e0⟩ := jcv_o e0
  refine jr_callV K (C_X11_count (d + 69) e0) (D_at DL_law__17_q0 3 rfl) cv_L_314_X11_count (As := [.int (xs (i + 1))]) (ci := 9) rfl rc0 rfl rfl (by exact Nat.le_of_ble_eq_true rfl) (kc2 := kc + 0) (ks2 := ks + 0) (by omega) (by omega) (fun k9 h9 w9 => by cases w9.1) (fun r9 h9 w9 => ?_)
  obtain ⟨w1, w2⟩ := w9
  subst h9
  cases w1
  obtain ⟨r1, e1, t1⟩ := t0
  show jJ G X _ (kc + 0) (ks + 0) _ _ (.int r0 :: _)
  refine jr_pop K (D_at DL_law__17_q0 4 rfl) rfl ?_
  refine jr_aload_n K (D_at DL_law__17_q0 5 rfl) rfl rfl ?_
  refine jr_scr K S (k := 1) (by omega) hL rfl rfl (D_at DL_law__17_q0 6 rfl) (D_at DL_law__17_q0 7 rfl) (D_at DL_law__17_q0 8 rfl) (D_at DL_law__17_q0 9 rfl) (D_at DL_law__17_q0 10 rfl) (by decide) ?_
  obtain ⟨rc1, e1⟩ := jcv_o e1
  refine jr_callV K (C_X12_count (d + 68) e1) (D_at DL_law__17_q0 11 rfl) cv_L_317_X12_count (As := [.int (xs (i + 1))]) (ci := 10) rfl rc1 rfl rfl (by exact Nat.le_of_ble_eq_true rfl) (kc2 := kc + 0) (ks2 := ks + 0) (by omega) (by omega) (fun k9 h9 w9 => by cases w9.1) (fun r9 h9 w9 => ?_)
  obtain ⟨w1, w2⟩ := w9
  subst h9
  cases w1
  have hP := t1
  show jJ G X _ (kc + 0) (ks + 0) _ _ (.int r1.1 :: _)
  refine jr_pop K (D_at DL_law__17_q1 0 rfl) rfl ?_
  refine jr_goto K (D_at DL_law__17_q1 1 rfl) (tgt := 1948) (by decide) ?_
  refine jr_keep [true, true, true, true, true, false, false] ?_
  exact kk _ hP
def jStep (n x m out : Nat) (a : Nat → Int32) (h : jH) (P : jH → Prop) : Prop :=
  (a 0 &&& 63 = 0 → SL_0 n x m out a h P) ∧
  (a 0 &&& 63 = 1 → SL_1 n x m out a h P) ∧
  (a 0 &&& 63 = 2 → SL_2 n x m out a h P) ∧
  (a 0 &&& 63 = 3 → SL_3 n x m out a h P) ∧
  (a 0 &&& 63 = 4 → SL_4 n x m out a h P) ∧
  (a 0 &&& 63 = 5 → SL_5 n x m out a h P) ∧
  (a 0 &&& 63 = 6 → SL_6 n x m out a h P) ∧
  (a 0 &&& 63 = 7 → SL_7 n x m out a h P) ∧
  (a 0 &&& 63 = 8 → SL_8 n x m out a h P) ∧
  (a 0 &&& 63 = 9 → SL_9 n x m out a h P) ∧
  (a 0 &&& 63 = 10 → SL_10 n x m out a h P) ∧
  (a 0 &&& 63 = 11 → SL_11 n x m out a h P) ∧
  (a 0 &&& 63 = 12 → SL_12 n x m out a h P) ∧
  (a 0 &&& 63 = 13 → SL_13 n x m out a h P) ∧
  (a 0 &&& 63 = 14 → SL_14 n x m out a h P) ∧
  (a 0 &&& 63 = 15 → SL_15 n x m out a h P) ∧
  (a 0 &&& 63 = 16 → SL_16 n x m out a h P) ∧
  (a 0 &&& 63 = 17 → SL_17 n x m out a h P) ∧
  (a 0 &&& 63 = 18 → SL_18 n x m out a h P) ∧
  (a 0 &&& 63 = 19 → SL_19 n x m out a h P) ∧
  (a 0 &&& 63 = 20 → SL_20 n x m out a h P) ∧
  (a 0 &&& 63 = 21 → SL_21 n x m out a h P) ∧
  (a 0 &&& 63 = 22 → SL_22 n x m out a h P) ∧
  (a 0 &&& 63 = 23 → SL_23 n x m out a h P) ∧
  (a 0 &&& 63 = 24 → SL_24 n x m out a h P) ∧
  (a 0 &&& 63 = 25 → SL_25 n x m out a h P) ∧
  (a 0 &&& 63 = 26 → SL_26 n x m out a h P) ∧
  (a 0 &&& 63 = 27 → SL_27 n x m out a h P) ∧
  (a 0 &&& 63 = 28 → SL_28 n x m out a h P) ∧
  (a 0 &&& 63 = 29 → SL_29 n x m out a h P) ∧
  (a 0 &&& 63 = 30 → SL_30 n x m out a h P) ∧
  (a 0 &&& 63 = 31 → SL_31 n x m out a h P) ∧
  (a 0 &&& 63 = 32 → SL_32 n x m out a h P) ∧
  (a 0 &&& 63 = 33 → SL_33 n x m out a h P) ∧
  (a 0 &&& 63 = 34 → SL_34 n x m out a h P) ∧
  (a 0 &&& 63 = 35 → SL_35 n x m out a h P) ∧
  (a 0 &&& 63 = 36 → SL_36 n x m out a h P) ∧
  (a 0 &&& 63 = 37 → SL_37 n x m out a h P) ∧
  (a 0 &&& 63 = 38 → SL_38 n x m out a h P) ∧
  (a 0 &&& 63 = 39 → SL_39 n x m out a h P) ∧
  (a 0 &&& 63 = 40 → SL_40 n x m out a h P) ∧
  (a 0 &&& 63 = 41 → SL_41 n x m out a h P) ∧
  (a 0 &&& 63 = 42 → SL_42 n x m out a h P) ∧
  (a 0 &&& 63 = 43 → SL_43 n x m out a h P) ∧
  (a 0 &&& 63 = 44 → SL_44 n x m out a h P) ∧
  (a 0 &&& 63 = 45 → SL_45 n x m out a h P) ∧
  (a 0 &&& 63 = 46 → SL_46 n x m out a h P) ∧
  (a 0 &&& 63 = 47 → SL_47 n x m out a h P) ∧
  (a 0 &&& 63 = 48 → SL_48 n x m out a h P) ∧
  (a 0 &&& 63 = 49 → SL_49 n x m out a h P) ∧
  (a 0 &&& 63 = 50 → SL_50 n x m out a h P) ∧
  (a 0 &&& 63 = 51 → SL_51 n x m out a h P) ∧
  (a 0 &&& 63 = 52 → SL_52 n x m out a h P) ∧
  (a 0 &&& 63 = 53 → SL_53 n x m out a h P) ∧
  ((∀ k : Nat, k < 54 → ¬ a 0 &&& 63 = Int32.ofNat k) → P h)
set_option maxHeartbeats 1000000 in
theorem JL_body {G : jG} {l : Launch} (hst : l.stackTraces = false) {X : jX} {d b L : Nat} {xs : Nat → Int32} {nm : String} {hh : List (Nat × Nat × Nat × Nat)} (K : jOK G l (mlw nm hh) (d + 70) X) (S : jScr G b L xs X) (hL : L ≤ 3072) {i : Nat} (hi : i + 6 ≤ L) (n : Nat) {x m out : Nat} {h : jH} {kc ks : Nat} {P : jH → Prop} (hP : jStep n x m out (fun j => xs (i + j)) h P) (kk : ∀ h1, P h1 → jJ G X h1 kc ks 1948 (L7 b x m out i) []) : jJ G X h (kc + 13) (ks + 582) 33 (L7 b x m out i) [] := by
  unfold jStep at hP
  refine jr_scr0 K S (by omega) hL rfl rfl (D_at DL_law__q1 7 rfl) (D_at DL_law__q1 8 rfl) (D_at DL_law__q1 9 rfl) ?_
  refine jr_bipush K (D_at DL_law__q1 10 rfl) (v := (63 : Int32)) (by decide) ?_
  refine jr_iand K (D_at DL_law__q1 11 rfl) ?_
  by_cases c0 : xs (i + 0) &&& 63 = 0
  · refine jr_tableIn K (D_at DL_law__q2 0 rfl) (off := 232) (tgt := 272) (by rw [c0]; decide) (by rw [c0]; decide) (by rw [c0]; decide) (by decide) ?_
    exact jr_credit (kc' := kc + 0) (ks' := ks + 0) (by omega) (by omega) (JL_0 hst K S hL hi n (hP.1 c0) kk)
  by_cases c1 : xs (i + 0) &&& 63 = 1
  · refine jr_tableIn K (D_at DL_law__q2 0 rfl) (off := 305) (tgt := 345) (by rw [c1]; decide) (by rw [c1]; decide) (by rw [c1]; decide) (by decide) ?_
    exact jr_credit (kc' := kc + 0) (ks' := ks + 0) (by omega) (by omega) (JL_1 hst K S hL hi n (hP.2.1 c1) kk)
  by_cases c2 : xs (i + 0) &&& 63 = 2
  · refine jr_tableIn K (D_at DL_law__q2 0 rfl) (off := 330) (tgt := 370) (by rw [c2]; decide) (by rw [c2]; decide) (by rw [c2]; decide) (by decide) ?_
    exact jr_credit (kc' := kc + 1) (ks' := ks + 6) (by omega) (by omega) (JL_2 hst K S hL hi n (hP.2.2.1 c2) kk)
  by_cases c3 : xs (i + 0) &&& 63 = 3
  · refine jr_tableIn K (D_at DL_law__q2 0 rfl) (off := 346) (tgt := 386) (by rw [c3]; decide) (by rw [c3]; decide) (by rw [c3]; decide) (by decide) ?_
    exact jr_credit (kc' := kc + 1) (ks' := ks + 6) (by omega) (by omega) (JL_3 hst K S hL hi n (hP.2.2.2.1 c3) kk)
  by_cases c4 : xs (i + 0) &&& 63 = 4
  · refine jr_tableIn K (D_at DL_law__q2 0 rfl) (off := 362) (tgt := 402) (by rw [c4]; decide) (by rw [c4]; decide) (by rw [c4]; decide) (by decide) ?_
    exact jr_credit (kc' := kc + 0) (ks' := ks + 0) (by omega) (by omega) (JL_4 hst K S hL hi n (hP.2.2.2.2.1 c4) kk)
  by_cases c5 : xs (i + 0) &&& 63 = 5
  · refine jr_tableIn K (D_at DL_law__q2 0 rfl) (off := 375) (tgt := 415) (by rw [c5]; decide) (by rw [c5]; decide) (by rw [c5]; decide) (by decide) ?_
    exact jr_credit (kc' := kc + 2) (ks' := ks + 12) (by omega) (by omega) (JL_5 hst K S hL hi n (hP.2.2.2.2.2.1 c5) kk)
  by_cases c6 : xs (i + 0) &&& 63 = 6
  · refine jr_tableIn K (D_at DL_law__q2 0 rfl) (off := 415) (tgt := 455) (by rw [c6]; decide) (by rw [c6]; decide) (by rw [c6]; decide) (by decide) ?_
    exact jr_credit (kc' := kc + 9) (ks' := ks + 125) (by omega) (by omega) (JL_6 hst K S hL hi n (hP.2.2.2.2.2.2.1 c6) kk)
  by_cases c7 : xs (i + 0) &&& 63 = 7
  · refine jr_tableIn K (D_at DL_law__q2 0 rfl) (off := 483) (tgt := 523) (by rw [c7]; decide) (by rw [c7]; decide) (by rw [c7]; decide) (by decide) ?_
    exact jr_credit (kc' := kc + 8) (ks' := ks + 119) (by omega) (by omega) (JL_7 hst K S hL hi n (hP.2.2.2.2.2.2.2.1 c7) kk)
  by_cases c8 : xs (i + 0) &&& 63 = 8
  · refine jr_tableIn K (D_at DL_law__q2 0 rfl) (off := 511) (tgt := 551) (by rw [c8]; decide) (by rw [c8]; decide) (by rw [c8]; decide) (by decide) ?_
    exact jr_credit (kc' := kc + 8) (ks' := ks + 119) (by omega) (by omega) (JL_8 hst K S hL hi n (hP.2.2.2.2.2.2.2.2.1 c8) kk)
  by_cases c9 : xs (i + 0) &&& 63 = 9
  · refine jr_tableIn K (D_at DL_law__q2 0 rfl) (off := 539) (tgt := 579) (by rw [c9]; decide) (by rw [c9]; decide) (by rw [c9]; decide) (by decide) ?_
    exact jr_credit (kc' := kc + 8) (ks' := ks + 119) (by omega) (by omega) (JL_9 hst K S hL hi n (hP.2.2.2.2.2.2.2.2.2.1 c9) kk)
  by_cases c10 : xs (i + 0) &&& 63 = 10
  · refine jr_tableIn K (D_at DL_law__q2 0 rfl) (off := 595) (tgt := 635) (by rw [c10]; decide) (by rw [c10]; decide) (by rw [c10]; decide) (by decide) ?_
    exact jr_credit (kc' := kc + 9) (ks' := ks + 125) (by omega) (by omega) (JL_10 hst K S hL hi n (hP.2.2.2.2.2.2.2.2.2.2.1 c10) kk)
  by_cases c11 : xs (i + 0) &&& 63 = 11
  · refine jr_tableIn K (D_at DL_law__q2 0 rfl) (off := 635) (tgt := 675) (by rw [c11]; decide) (by rw [c11]; decide) (by rw [c11]; decide) (by decide) ?_
    exact jr_credit (kc' := kc + 9) (ks' := ks + 125) (by omega) (by omega) (JL_11 hst K S hL hi n (hP.2.2.2.2.2.2.2.2.2.2.2.1 c11) kk)
  by_cases c12 : xs (i + 0) &&& 63 = 12
  · refine jr_tableIn K (D_at DL_law__q2 0 rfl) (off := 675) (tgt := 715) (by rw [c12]; decide) (by rw [c12]; decide) (by rw [c12]; decide) (by decide) ?_
    exact jr_credit (kc' := kc + 8) (ks' := ks + 119) (by omega) (by omega) (JL_12 hst K S hL hi n (hP.2.2.2.2.2.2.2.2.2.2.2.2.1 c12) kk)
  by_cases c13 : xs (i + 0) &&& 63 = 13
  · refine jr_tableIn K (D_at DL_law__q2 0 rfl) (off := 731) (tgt := 771) (by rw [c13]; decide) (by rw [c13]; decide) (by rw [c13]; decide) (by decide) ?_
    exact jr_credit (kc' := kc + 8) (ks' := ks + 119) (by omega) (by omega) (JL_13 hst K S hL hi n (hP.2.2.2.2.2.2.2.2.2.2.2.2.2.1 c13) kk)
  by_cases c14 : xs (i + 0) &&& 63 = 14
  · refine jr_tableIn K (D_at DL_law__q2 0 rfl) (off := 759) (tgt := 799) (by rw [c14]; decide) (by rw [c14]; decide) (by rw [c14]; decide) (by decide) ?_
    exact jr_credit (kc' := kc + 0) (ks' := ks + 0) (by omega) (by omega) (JL_14 hst K S hL hi n (hP.2.2.2.2.2.2.2.2.2.2.2.2.2.2.1 c14) kk)
  by_cases c15 : xs (i + 0) &&& 63 = 15
  · refine jr_tableIn K (D_at DL_law__q2 0 rfl) (off := 772) (tgt := 812) (by rw [c15]; decide) (by rw [c15]; decide) (by rw [c15]; decide) (by decide) ?_
    exact jr_credit (kc' := kc + 0) (ks' := ks + 0) (by omega) (by omega) (JL_15 hst K S hL hi n (hP.2.2.2.2.2.2.2.2.2.2.2.2.2.2.2.1 c15) kk)
  by_cases c16 : xs (i + 0) &&& 63 = 16
  · refine jr_tableIn K (D_at DL_law__q2 0 rfl) (off := 785) (tgt := 825) (by rw [c16]; decide) (by rw [c16]; decide) (by rw [c16]; decide) (by decide) ?_
    exact jr_credit (kc' := kc + 0) (ks' := ks + 0) (by omega) (by omega) (JL_16 hst K S hL hi n (hP.2.2.2.2.2.2.2.2.2.2.2.2.2.2.2.2.1 c16) kk)
  by_cases c17 : xs (i + 0) &&& 63 = 17
  · refine jr_tableIn K (D_at DL_law__q2 0 rfl) (off := 798) (tgt := 838) (by rw [c17]; decide) (by rw [c17]; decide) (by rw [c17]; decide) (by decide) ?_
    exact jr_credit (kc' := kc + 1) (ks' := ks + 6) (by omega) (by omega) (JL_17 hst K S hL hi n (hP.2.2.2.2.2.2.2.2.2.2.2.2.2.2.2.2.2.1 c17) kk)
  by_cases c18 : xs (i + 0) &&& 63 = 18
  · refine jr_tableIn K (D_at DL_law__q2 0 rfl) (off := 854) (tgt := 894) (by rw [c18]; decide) (by rw [c18]; decide) (by rw [c18]; decide) (by decide) ?_
    exact jr_credit (kc' := kc + 1) (ks' := ks + 6) (by omega) (by omega) (JL_18 hst K S hL hi n (hP.2.2.2.2.2.2.2.2.2.2.2.2.2.2.2.2.2.2.1 c18) kk)
  by_cases c19 : xs (i + 0) &&& 63 = 19
  · refine jr_tableIn K (D_at DL_law__q2 0 rfl) (off := 910) (tgt := 950) (by rw [c19]; decide) (by rw [c19]; decide) (by rw [c19]; decide) (by decide) ?_
    exact jr_credit (kc' := kc + 2) (ks' := ks + 12) (by omega) (by omega) (JL_19 hst K S hL hi n (hP.2.2.2.2.2.2.2.2.2.2.2.2.2.2.2.2.2.2.2.1 c19) kk)
  by_cases c20 : xs (i + 0) &&& 63 = 20
  · refine jr_tableIn K (D_at DL_law__q2 0 rfl) (off := 1006) (tgt := 1046) (by rw [c20]; decide) (by rw [c20]; decide) (by rw [c20]; decide) (by decide) ?_
    exact jr_credit (kc' := kc + 0) (ks' := ks + 0) (by omega) (by omega) (JL_20 hst K S hL hi n (hP.2.2.2.2.2.2.2.2.2.2.2.2.2.2.2.2.2.2.2.2.1 c20) kk)
  by_cases c21 : xs (i + 0) &&& 63 = 21
  · refine jr_tableIn K (D_at DL_law__q2 0 rfl) (off := 1019) (tgt := 1059) (by rw [c21]; decide) (by rw [c21]; decide) (by rw [c21]; decide) (by decide) ?_
    exact jr_credit (kc' := kc + 0) (ks' := ks + 0) (by omega) (by omega) (JL_21 hst K S hL hi n (hP.2.2.2.2.2.2.2.2.2.2.2.2.2.2.2.2.2.2.2.2.2.1 c21) kk)
  by_cases c22 : xs (i + 0) &&& 63 = 22
  · refine jr_tableIn K (D_at DL_law__q2 0 rfl) (off := 1044) (tgt := 1084) (by rw [c22]; decide) (by rw [c22]; decide) (by rw [c22]; decide) (by decide) ?_
    exact jr_credit (kc' := kc + 0) (ks' := ks + 0) (by omega) (by omega) (JL_22 hst K S hL hi n (hP.2.2.2.2.2.2.2.2.2.2.2.2.2.2.2.2.2.2.2.2.2.2.1 c22) kk)
  by_cases c23 : xs (i + 0) &&& 63 = 23
  · refine jr_tableIn K (D_at DL_law__q2 0 rfl) (off := 1069) (tgt := 1109) (by rw [c23]; decide) (by rw [c23]; decide) (by rw [c23]; decide) (by decide) ?_
    exact jr_credit (kc' := kc + 1) (ks' := ks + 6) (by omega) (by omega) (JL_23 hst K S hL hi n (hP.2.2.2.2.2.2.2.2.2.2.2.2.2.2.2.2.2.2.2.2.2.2.2.1 c23) kk)
  by_cases c24 : xs (i + 0) &&& 63 = 24
  · refine jr_tableIn K (D_at DL_law__q2 0 rfl) (off := 1113) (tgt := 1153) (by rw [c24]; decide) (by rw [c24]; decide) (by rw [c24]; decide) (by decide) ?_
    exact jr_credit (kc' := kc + 1) (ks' := ks + 6) (by omega) (by omega) (JL_24 hst K S hL hi n (hP.2.2.2.2.2.2.2.2.2.2.2.2.2.2.2.2.2.2.2.2.2.2.2.2.1 c24) kk)
  by_cases c25 : xs (i + 0) &&& 63 = 25
  · refine jr_tableIn K (D_at DL_law__q2 0 rfl) (off := 1129) (tgt := 1169) (by rw [c25]; decide) (by rw [c25]; decide) (by rw [c25]; decide) (by decide) ?_
    exact jr_credit (kc' := kc + 2) (ks' := ks + 12) (by omega) (by omega) (JL_25 hst K S hL hi n (hP.2.2.2.2.2.2.2.2.2.2.2.2.2.2.2.2.2.2.2.2.2.2.2.2.2.1 c25) kk)
  by_cases c26 : xs (i + 0) &&& 63 = 26
  · refine jr_tableIn K (D_at DL_law__q2 0 rfl) (off := 1225) (tgt := 1265) (by rw [c26]; decide) (by rw [c26]; decide) (by rw [c26]; decide) (by decide) ?_
    exact jr_credit (kc' := kc + 0) (ks' := ks + 0) (by omega) (by omega) (JL_26 hst K S hL hi n (hP.2.2.2.2.2.2.2.2.2.2.2.2.2.2.2.2.2.2.2.2.2.2.2.2.2.2.1 c26) kk)
  by_cases c27 : xs (i + 0) &&& 63 = 27
  · refine jr_tableIn K (D_at DL_law__q2 0 rfl) (off := 1238) (tgt := 1278) (by rw [c27]; decide) (by rw [c27]; decide) (by rw [c27]; decide) (by decide) ?_
    exact jr_credit (kc' := kc + 1) (ks' := ks + 6) (by omega) (by omega) (JL_27 hst K S hL hi n (hP.2.2.2.2.2.2.2.2.2.2.2.2.2.2.2.2.2.2.2.2.2.2.2.2.2.2.2.1 c27) kk)
  by_cases c28 : xs (i + 0) &&& 63 = 28
  · refine jr_tableIn K (D_at DL_law__q2 0 rfl) (off := 1266) (tgt := 1306) (by rw [c28]; decide) (by rw [c28]; decide) (by rw [c28]; decide) (by decide) ?_
    exact jr_credit (kc' := kc + 0) (ks' := ks + 0) (by omega) (by omega) (JL_28 hst K S hL hi n (hP.2.2.2.2.2.2.2.2.2.2.2.2.2.2.2.2.2.2.2.2.2.2.2.2.2.2.2.2.1 c28) kk)
  by_cases c29 : xs (i + 0) &&& 63 = 29
  · refine jr_tableIn K (D_at DL_law__q2 0 rfl) (off := 1279) (tgt := 1319) (by rw [c29]; decide) (by rw [c29]; decide) (by rw [c29]; decide) (by decide) ?_
    exact jr_credit (kc' := kc + 0) (ks' := ks + 0) (by omega) (by omega) (JL_29 hst K S hL hi n (hP.2.2.2.2.2.2.2.2.2.2.2.2.2.2.2.2.2.2.2.2.2.2.2.2.2.2.2.2.2.1 c29) kk)
  by_cases c30 : xs (i + 0) &&& 63 = 30
  · refine jr_tableIn K (D_at DL_law__q2 0 rfl) (off := 1292) (tgt := 1332) (by rw [c30]; decide) (by rw [c30]; decide) (by rw [c30]; decide) (by decide) ?_
    exact jr_credit (kc' := kc + 1) (ks' := ks + 6) (by omega) (by omega) (JL_30 hst K S hL hi n (hP.2.2.2.2.2.2.2.2.2.2.2.2.2.2.2.2.2.2.2.2.2.2.2.2.2.2.2.2.2.2.1 c30) kk)
  by_cases c31 : xs (i + 0) &&& 63 = 31
  · refine jr_tableIn K (D_at DL_law__q2 0 rfl) (off := 1320) (tgt := 1360) (by rw [c31]; decide) (by rw [c31]; decide) (by rw [c31]; decide) (by decide) ?_
    exact jr_credit (kc' := kc + 0) (ks' := ks + 0) (by omega) (by omega) (JL_31 hst K S hL hi n (hP.2.2.2.2.2.2.2.2.2.2.2.2.2.2.2.2.2.2.2.2.2.2.2.2.2.2.2.2.2.2.2.1 c31) kk)
  by_cases c32 : xs (i + 0) &&& 63 = 32
  · refine jr_tableIn K (D_at DL_law__q2 0 rfl) (off := 1333) (tgt := 1373) (by rw [c32]; decide) (by rw [c32]; decide) (by rw [c32]; decide) (by decide) ?_
    exact jr_credit (kc' := kc + 1) (ks' := ks + 6) (by omega) (by omega) (JL_32 hst K S hL hi n (hP.2.2.2.2.2.2.2.2.2.2.2.2.2.2.2.2.2.2.2.2.2.2.2.2.2.2.2.2.2.2.2.2.1 c32) kk)
  by_cases c33 : xs (i + 0) &&& 63 = 33
  · refine jr_tableIn K (D_at DL_law__q2 0 rfl) (off := 1361) (tgt := 1401) (by rw [c33]; decide) (by rw [c33]; decide) (by rw [c33]; decide) (by decide) ?_
    exact jr_credit (kc' := kc + 0) (ks' := ks + 0) (by omega) (by omega) (JL_33 hst K S hL hi n (hP.2.2.2.2.2.2.2.2.2.2.2.2.2.2.2.2.2.2.2.2.2.2.2.2.2.2.2.2.2.2.2.2.2.1 c33) kk)
  by_cases c34 : xs (i + 0) &&& 63 = 34
  · refine jr_tableIn K (D_at DL_law__q2 0 rfl) (off := 1374) (tgt := 1414) (by rw [c34]; decide) (by rw [c34]; decide) (by rw [c34]; decide) (by decide) ?_
    exact jr_credit (kc' := kc + 2) (ks' := ks + 12) (by omega) (by omega) (JL_34 hst K S hL hi n (hP.2.2.2.2.2.2.2.2.2.2.2.2.2.2.2.2.2.2.2.2.2.2.2.2.2.2.2.2.2.2.2.2.2.2.1 c34) kk)
  by_cases c35 : xs (i + 0) &&& 63 = 35
  · refine jr_tableIn K (D_at DL_law__q2 0 rfl) (off := 1414) (tgt := 1454) (by rw [c35]; decide) (by rw [c35]; decide) (by rw [c35]; decide) (by decide) ?_
    exact jr_credit (kc' := kc + 0) (ks' := ks + 0) (by omega) (by omega) (JL_35 hst K S hL hi n (hP.2.2.2.2.2.2.2.2.2.2.2.2.2.2.2.2.2.2.2.2.2.2.2.2.2.2.2.2.2.2.2.2.2.2.2.1 c35) kk)
  by_cases c36 : xs (i + 0) &&& 63 = 36
  · refine jr_tableIn K (D_at DL_law__q2 0 rfl) (off := 1427) (tgt := 1467) (by rw [c36]; decide) (by rw [c36]; decide) (by rw [c36]; decide) (by decide) ?_
    exact jr_credit (kc' := kc + 1) (ks' := ks + 6) (by omega) (by omega) (JL_36 hst K S hL hi n (hP.2.2.2.2.2.2.2.2.2.2.2.2.2.2.2.2.2.2.2.2.2.2.2.2.2.2.2.2.2.2.2.2.2.2.2.2.1 c36) kk)
  by_cases c37 : xs (i + 0) &&& 63 = 37
  · refine jr_tableIn K (D_at DL_law__q2 0 rfl) (off := 1455) (tgt := 1495) (by rw [c37]; decide) (by rw [c37]; decide) (by rw [c37]; decide) (by decide) ?_
    exact jr_credit (kc' := kc + 0) (ks' := ks + 0) (by omega) (by omega) (JL_37 hst K S hL hi n (hP.2.2.2.2.2.2.2.2.2.2.2.2.2.2.2.2.2.2.2.2.2.2.2.2.2.2.2.2.2.2.2.2.2.2.2.2.2.1 c37) kk)
  by_cases c38 : xs (i + 0) &&& 63 = 38
  · refine jr_tableIn K (D_at DL_law__q2 0 rfl) (off := 1468) (tgt := 1508) (by rw [c38]; decide) (by rw [c38]; decide) (by rw [c38]; decide) (by decide) ?_
    exact jr_credit (kc' := kc + 0) (ks' := ks + 0) (by omega) (by omega) (JL_38 hst K S hL hi n (hP.2.2.2.2.2.2.2.2.2.2.2.2.2.2.2.2.2.2.2.2.2.2.2.2.2.2.2.2.2.2.2.2.2.2.2.2.2.2.1 c38) kk)
  by_cases c39 : xs (i + 0) &&& 63 = 39
  · refine jr_tableIn K (D_at DL_law__q2 0 rfl) (off := 1481) (tgt := 1521) (by rw [c39]; decide) (by rw [c39]; decide) (by rw [c39]; decide) (by decide) ?_
    exact jr_credit (kc' := kc + 0) (ks' := ks + 0) (by omega) (by omega) (JL_39 hst K S hL hi n (hP.2.2.2.2.2.2.2.2.2.2.2.2.2.2.2.2.2.2.2.2.2.2.2.2.2.2.2.2.2.2.2.2.2.2.2.2.2.2.2.1 c39) kk)
  by_cases c40 : xs (i + 0) &&& 63 = 40
  · refine jr_tableIn K (D_at DL_law__q2 0 rfl) (off := 1494) (tgt := 1534) (by rw [c40]; decide) (by rw [c40]; decide) (by rw [c40]; decide) (by decide) ?_
    exact jr_credit (kc' := kc + 0) (ks' := ks + 0) (by omega) (by omega) (JL_40 hst K S hL hi n (hP.2.2.2.2.2.2.2.2.2.2.2.2.2.2.2.2.2.2.2.2.2.2.2.2.2.2.2.2.2.2.2.2.2.2.2.2.2.2.2.2.1 c40) kk)
  by_cases c41 : xs (i + 0) &&& 63 = 41
  · refine jr_tableIn K (D_at DL_law__q2 0 rfl) (off := 1507) (tgt := 1547) (by rw [c41]; decide) (by rw [c41]; decide) (by rw [c41]; decide) (by decide) ?_
    exact jr_credit (kc' := kc + 0) (ks' := ks + 0) (by omega) (by omega) (JL_41 hst K S hL hi n (hP.2.2.2.2.2.2.2.2.2.2.2.2.2.2.2.2.2.2.2.2.2.2.2.2.2.2.2.2.2.2.2.2.2.2.2.2.2.2.2.2.2.1 c41) kk)
  by_cases c42 : xs (i + 0) &&& 63 = 42
  · refine jr_tableIn K (D_at DL_law__q2 0 rfl) (off := 1520) (tgt := 1560) (by rw [c42]; decide) (by rw [c42]; decide) (by rw [c42]; decide) (by decide) ?_
    exact jr_credit (kc' := kc + 2) (ks' := ks + 12) (by omega) (by omega) (JL_42 hst K S hL hi n (hP.2.2.2.2.2.2.2.2.2.2.2.2.2.2.2.2.2.2.2.2.2.2.2.2.2.2.2.2.2.2.2.2.2.2.2.2.2.2.2.2.2.2.1 c42) kk)
  by_cases c43 : xs (i + 0) &&& 63 = 43
  · refine jr_tableIn K (D_at DL_law__q2 0 rfl) (off := 1560) (tgt := 1600) (by rw [c43]; decide) (by rw [c43]; decide) (by rw [c43]; decide) (by decide) ?_
    exact jr_credit (kc' := kc + 0) (ks' := ks + 0) (by omega) (by omega) (JL_43 hst K S hL hi n (hP.2.2.2.2.2.2.2.2.2.2.2.2.2.2.2.2.2.2.2.2.2.2.2.2.2.2.2.2.2.2.2.2.2.2.2.2.2.2.2.2.2.2.2.1 c43) kk)
  by_cases c44 : xs (i + 0) &&& 63 = 44
  · refine jr_tableIn K (D_at DL_law__q2 0 rfl) (off := 1573) (tgt := 1613) (by rw [c44]; decide) (by rw [c44]; decide) (by rw [c44]; decide) (by decide) ?_
    exact jr_credit (kc' := kc + 2) (ks' := ks + 12) (by omega) (by omega) (JL_44 hst K S hL hi n (hP.2.2.2.2.2.2.2.2.2.2.2.2.2.2.2.2.2.2.2.2.2.2.2.2.2.2.2.2.2.2.2.2.2.2.2.2.2.2.2.2.2.2.2.2.1 c44) kk)
  by_cases c45 : xs (i + 0) &&& 63 = 45
  · refine jr_tableIn K (D_at DL_law__q2 0 rfl) (off := 1613) (tgt := 1653) (by rw [c45]; decide) (by rw [c45]; decide) (by rw [c45]; decide) (by decide) ?_
    exact jr_credit (kc' := kc + 1) (ks' := ks + 6) (by omega) (by omega) (JL_45 hst K S hL hi n (hP.2.2.2.2.2.2.2.2.2.2.2.2.2.2.2.2.2.2.2.2.2.2.2.2.2.2.2.2.2.2.2.2.2.2.2.2.2.2.2.2.2.2.2.2.2.1 c45) kk)
  by_cases c46 : xs (i + 0) &&& 63 = 46
  · refine jr_tableIn K (D_at DL_law__q2 0 rfl) (off := 1669) (tgt := 1709) (by rw [c46]; decide) (by rw [c46]; decide) (by rw [c46]; decide) (by decide) ?_
    exact jr_credit (kc' := kc + 1) (ks' := ks + 6) (by omega) (by omega) (JL_46 hst K S hL hi n (hP.2.2.2.2.2.2.2.2.2.2.2.2.2.2.2.2.2.2.2.2.2.2.2.2.2.2.2.2.2.2.2.2.2.2.2.2.2.2.2.2.2.2.2.2.2.2.1 c46) kk)
  by_cases c47 : xs (i + 0) &&& 63 = 47
  · refine jr_tableIn K (D_at DL_law__q2 0 rfl) (off := 1725) (tgt := 1765) (by rw [c47]; decide) (by rw [c47]; decide) (by rw [c47]; decide) (by decide) ?_
    exact jr_credit (kc' := kc + 1) (ks' := ks + 6) (by omega) (by omega) (JL_47 hst K S hL hi n (hP.2.2.2.2.2.2.2.2.2.2.2.2.2.2.2.2.2.2.2.2.2.2.2.2.2.2.2.2.2.2.2.2.2.2.2.2.2.2.2.2.2.2.2.2.2.2.2.1 c47) kk)
  by_cases c48 : xs (i + 0) &&& 63 = 48
  · refine jr_tableIn K (D_at DL_law__q2 0 rfl) (off := 1781) (tgt := 1821) (by rw [c48]; decide) (by rw [c48]; decide) (by rw [c48]; decide) (by decide) ?_
    exact jr_credit (kc' := kc + 1) (ks' := ks + 6) (by omega) (by omega) (JL_48 hst K S hL hi n (hP.2.2.2.2.2.2.2.2.2.2.2.2.2.2.2.2.2.2.2.2.2.2.2.2.2.2.2.2.2.2.2.2.2.2.2.2.2.2.2.2.2.2.2.2.2.2.2.2.1 c48) kk)
  by_cases c49 : xs (i + 0) &&& 63 = 49
  · refine jr_tableIn K (D_at DL_law__q2 0 rfl) (off := 1821) (tgt := 1861) (by rw [c49]; decide) (by rw [c49]; decide) (by rw [c49]; decide) (by decide) ?_
    exact jr_credit (kc' := kc + 0) (ks' := ks + 0) (by omega) (by omega) (JL_49 hst K S hL hi n (hP.2.2.2.2.2.2.2.2.2.2.2.2.2.2.2.2.2.2.2.2.2.2.2.2.2.2.2.2.2.2.2.2.2.2.2.2.2.2.2.2.2.2.2.2.2.2.2.2.2.1 c49) kk)
  by_cases c50 : xs (i + 0) &&& 63 = 50
  · refine jr_tableIn K (D_at DL_law__q2 0 rfl) (off := 1846) (tgt := 1886) (by rw [c50]; decide) (by rw [c50]; decide) (by rw [c50]; decide) (by decide) ?_
    exact jr_credit (kc' := kc + 0) (ks' := ks + 0) (by omega) (by omega) (JL_50 hst K S hL hi n (hP.2.2.2.2.2.2.2.2.2.2.2.2.2.2.2.2.2.2.2.2.2.2.2.2.2.2.2.2.2.2.2.2.2.2.2.2.2.2.2.2.2.2.2.2.2.2.2.2.2.2.1 c50) kk)
  by_cases c51 : xs (i + 0) &&& 63 = 51
  · refine jr_tableIn K (D_at DL_law__q2 0 rfl) (off := 1859) (tgt := 1899) (by rw [c51]; decide) (by rw [c51]; decide) (by rw [c51]; decide) (by decide) ?_
    exact jr_credit (kc' := kc + 13) (ks' := ks + 582) (by omega) (by omega) (JL_51 hst K S hL hi n (hP.2.2.2.2.2.2.2.2.2.2.2.2.2.2.2.2.2.2.2.2.2.2.2.2.2.2.2.2.2.2.2.2.2.2.2.2.2.2.2.2.2.2.2.2.2.2.2.2.2.2.2.1 c51) kk)
  by_cases c52 : xs (i + 0) &&& 63 = 52
  · refine jr_tableIn K (D_at DL_law__q2 0 rfl) (off := 1870) (tgt := 1910) (by rw [c52]; decide) (by rw [c52]; decide) (by rw [c52]; decide) (by decide) ?_
    exact jr_credit (kc' := kc + 0) (ks' := ks + 0) (by omega) (by omega) (JL_52 hst K S hL hi n (hP.2.2.2.2.2.2.2.2.2.2.2.2.2.2.2.2.2.2.2.2.2.2.2.2.2.2.2.2.2.2.2.2.2.2.2.2.2.2.2.2.2.2.2.2.2.2.2.2.2.2.2.2.1 c52) kk)
  by_cases c53 : xs (i + 0) &&& 63 = 53
  · refine jr_tableIn K (D_at DL_law__q2 0 rfl) (off := 1883) (tgt := 1923) (by rw [c53]; decide) (by rw [c53]; decide) (by rw [c53]; decide) (by decide) ?_
    exact jr_credit (kc' := kc + 0) (ks' := ks + 0) (by omega) (by omega) (JL_53 hst K S hL hi n (hP.2.2.2.2.2.2.2.2.2.2.2.2.2.2.2.2.2.2.2.2.2.2.2.2.2.2.2.2.2.2.2.2.2.2.2.2.2.2.2.2.2.2.2.2.2.2.2.2.2.2.2.2.2.1 c53) kk)
  have w0 := lv_neT c0 (a := 0) (by decide)
  have w1 := lv_neT c1 (a := 1) (by decide)
  have w2 := lv_neT c2 (a := 2) (by decide)
  have w3 := lv_neT c3 (a := 3) (by decide)
  have w4 := lv_neT c4 (a := 4) (by decide)
  have w5 := lv_neT c5 (a := 5) (by decide)
  have w6 := lv_neT c6 (a := 6) (by decide)
  have w7 := lv_neT c7 (a := 7) (by decide)
  have w8 := lv_neT c8 (a := 8) (by decide)
  have w9 := lv_neT c9 (a := 9) (by decide)
  have w10 := lv_neT c10 (a := 10) (by decide)
  have w11 := lv_neT c11 (a := 11) (by decide)
  have w12 := lv_neT c12 (a := 12) (by decide)
  have w13 := lv_neT c13 (a := 13) (by decide)
  have w14 := lv_neT c14 (a := 14) (by decide)
  have w15 := lv_neT c15 (a := 15) (by decide)
  have w16 := lv_neT c16 (a := 16) (by decide)
  have w17 := lv_neT c17 (a := 17) (by decide)
  have w18 := lv_neT c18 (a := 18) (by decide)
  have w19 := lv_neT c19 (a := 19) (by decide)
  have w20 := lv_neT c20 (a := 20) (by decide)
  have w21 := lv_neT c21 (a := 21) (by decide)
  have w22 := lv_neT c22 (a := 22) (by decide)
  have w23 := lv_neT c23 (a := 23) (by decide)
  have w24 := lv_neT c24 (a := 24) (by decide)
  have w25 := lv_neT c25 (a := 25) (by decide)
  have w26 := lv_neT c26 (a := 26) (by decide)
  have w27 := lv_neT c27 (a := 27) (by decide)
  have w28 := lv_neT c28 (a := 28) (by decide)
  have w29 := lv_neT c29 (a := 29) (by decide)
  have w30 := lv_neT c30 (a := 30) (by decide)
  have w31 := lv_neT c31 (a := 31) (by decide)
  have w32 := lv_neT c32 (a := 32) (by decide)
  have w33 := lv_neT c33 (a := 33) (by decide)
  have w34 := lv_neT c34 (a := 34) (by decide)
  have w35 := lv_neT c35 (a := 35) (by decide)
  have w36 := lv_neT c36 (a := 36) (by decide)
  have w37 := lv_neT c37 (a := 37) (by decide)
  have w38 := lv_neT c38 (a := 38) (by decide)
  have w39 := lv_neT c39 (a := 39) (by decide)
  have w40 := lv_neT c40 (a := 40) (by decide)
  have w41 := lv_neT c41 (a := 41) (by decide)
  have w42 := lv_neT c42 (a := 42) (by decide)
  have w43 := lv_neT c43 (a := 43) (by decide)
  have w44 := lv_neT c44 (a := 44) (by decide)
  have w45 := lv_neT c45 (a := 45) (by decide)
  have w46 := lv_neT c46 (a := 46) (by decide)
  have w47 := lv_neT c47 (a := 47) (by decide)
  have w48 := lv_neT c48 (a := 48) (by decide)
  have w49 := lv_neT c49 (a := 49) (by decide)
  have w50 := lv_neT c50 (a := 50) (by decide)
  have w51 := lv_neT c51 (a := 51) (by decide)
  have w52 := lv_neT c52 (a := 52) (by decide)
  have w53 := lv_neT c53 (a := 53) (by decide)
  refine jr_tableOut K (D_at DL_law__q2 0 rfl) (tgt := 1948) (by omega) (by decide) ?_
  refine jr_credit (kc' := kc) (ks' := ks) (by omega) (by omega) (kk _ (hP.2.2.2.2.2.2.2.2.2.2.2.2.2.2.2.2.2.2.2.2.2.2.2.2.2.2.2.2.2.2.2.2.2.2.2.2.2.2.2.2.2.2.2.2.2.2.2.2.2.2.2.2.2.2 (fun k hk => ?_)))
  match k, hk with
  | 0, _ => exact c0
  | 1, _ => exact c1
  | 2, _ => exact c2
  | 3, _ => exact c3
  | 4, _ => exact c4
  | 5, _ => exact c5
  | 6, _ => exact c6
  | 7, _ => exact c7
  | 8, _ => exact c8
  | 9, _ => exact c9
  | 10, _ => exact c10
  | 11, _ => exact c11
  | 12, _ => exact c12
  | 13, _ => exact c13
  | 14, _ => exact c14
  | 15, _ => exact c15
  | 16, _ => exact c16
  | 17, _ => exact c17
  | 18, _ => exact c18
  | 19, _ => exact c19
  | 20, _ => exact c20
  | 21, _ => exact c21
  | 22, _ => exact c22
  | 23, _ => exact c23
  | 24, _ => exact c24
  | 25, _ => exact c25
  | 26, _ => exact c26
  | 27, _ => exact c27
  | 28, _ => exact c28
  | 29, _ => exact c29
  | 30, _ => exact c30
  | 31, _ => exact c31
  | 32, _ => exact c32
  | 33, _ => exact c33
  | 34, _ => exact c34
  | 35, _ => exact c35
  | 36, _ => exact c36
  | 37, _ => exact c37
  | 38, _ => exact c38
  | 39, _ => exact c39
  | 40, _ => exact c40
  | 41, _ => exact c41
  | 42, _ => exact c42
  | 43, _ => exact c43
  | 44, _ => exact c44
  | 45, _ => exact c45
  | 46, _ => exact c46
  | 47, _ => exact c47
  | 48, _ => exact c48
  | 49, _ => exact c49
  | 50, _ => exact c50
  | 51, _ => exact c51
  | 52, _ => exact c52
  | 53, _ => exact c53
  | k + 54, hk => exact absurd hk (by omega)
set_option maxHeartbeats 1000000 in
theorem JL_loop {G : jG} {l : Launch} (hst : l.stackTraces = false) {X : jX} {d b L : Nat} {xs : Nat → Int32} {nm : String} {hh : List (Nat × Nat × Nat × Nat)} (K : jOK G l (mlw nm hh) (d + 70) X) (S : jScr G b L xs X) (hL : L ≤ 3072) (n : Nat) {x m out : Nat} {I : jH → Prop} (hI : ∀ h a, I h → jStep n x m out a h I) (fin : ∀ h i, jJ G X h 0 0 1954 (L7 b x m out i) []) (j : Nat) : ∀ (i : Nat) (h : jH), i ≤ L + 5 → L ≤ i + 6 * j + 5 → I h → jJ G X h (13 * j) (582 * j) 23 (L7 b x m out i) [] := by
  induction j with
  | zero =>
    intro i h hi1 hi2 hh9
    refine jr_iload K (D_at DL_law__q1 1 rfl) rfl ?_
    refine jr_aload_n K (D_at DL_law__q1 2 rfl) rfl rfl ?_
    refine jr_slen9 K S (D_at DL_law__q1 3 rfl) ?_
    refine jr_bipush K (D_at DL_law__q1 4 rfl) (v := (6 : Int32)) (by decide) ?_
    refine jr_isub K (D_at DL_law__q1 5 rfl) ?_
    refine jr_icmp_gt K (D_at DL_law__q1 6 rfl) (tgt := 1954) (by decide) (fun _ => jr_credit (Nat.zero_le _) (Nat.zero_le _) (fin h i)) (fun c => absurd (jix_lt (by omega) (by omega) (by omega)) c)
  | succ j ih =>
    intro i h hi1 hi2 hh9
    refine jr_iload K (D_at DL_law__q1 1 rfl) rfl ?_
    refine jr_aload_n K (D_at DL_law__q1 2 rfl) rfl rfl ?_
    refine jr_slen9 K S (D_at DL_law__q1 3 rfl) ?_
    refine jr_bipush K (D_at DL_law__q1 4 rfl) (v := (6 : Int32)) (by decide) ?_
    refine jr_isub K (D_at DL_law__q1 5 rfl) ?_
    refine jr_icmp_gt K (D_at DL_law__q1 6 rfl) (tgt := 1954) (by decide) (fun _ => jr_credit (Nat.zero_le _) (Nat.zero_le _) (fin h i)) (fun c => ?_)
    have hi := jix_ge (by omega) (by omega) c
    refine jr_credit (kc' := 13 * j + 13) (ks' := 582 * j + 582) (by omega) (by omega) (JL_body hst K S hL hi n (hI h _ hh9) (fun h1 hh1 => ?_))
    refine jr_iinc K (D_at DL_law__17_q1 2 rfl) (i := 4) rfl (v := Int32.ofNat (i + 6)) (jix_inc i) (by exact Nat.le_of_ble_eq_true rfl) (L2 := [_, _, _, _, _, _, _]) rfl ?_
    refine jr_goto K (D_at DL_law__17_q1 3 rfl) (tgt := 23) (by decide) ?_
    exact ih (i + 6) h1 (by omega) (by omega) hh1
def jBegin (n : Nat) (h : jH) (P : Nat → Nat → Nat → jH → Prop) : Prop :=
  ∃ h1, F_X11_init n h.1 (jnew h (.inl (9, [.null, .null, .null, .null, .null, .null, .null, .null, .null, .null, .null, .null, .int 0]))) = some h1 ∧ ∃ h2, F_X12_init n h1.1 (jnew h1 (.inl (10, [.int 0, .null, .null, .null, .null, .null, .int 0, .int 0, .null, .int 0, .int 0, .int 0, .int 0, .int 0, .int 0, .null, .int 0, .null, .int 0, .null, .null, .null]))) = some h2 ∧ P h.1 h1.1 h2.1 (jnew h2 (.inr (.inr (.inr (1, fun _ => 0)))))
set_option maxHeartbeats 1000000 in
theorem JL_begin {G : jG} {l : Launch} {X : jX} {d b : Nat} {nm : String} {hh : List (Nat × Nat × Nat × Nat)} (K : jOK G l (mlw nm hh) (d + 70) X) (n : Nat) {h : jH} {kc ks : Nat} {P : Nat → Nat → Nat → jH → Prop} (hP : jBegin n h P) (kk : ∀ x m out h1, P x m out h1 → jJ G X h1 kc ks 23 (L7 b x m out 0) []) : jJ G X h (kc + 53) (ks + 14454) 0 [some (.ref b), none, none, none, none, none, none] [] := by
  obtain ⟨h1, e1, h2, e2, hP⟩ := hP
  refine jr_new (N := 13) K (D_at DL_law__q0 0 rfl) fn_L_8 (kc := kc + 52) (ks := ks + 14441) ?_
  refine jr_dup K (D_at DL_law__q0 1 rfl) rfl ?_
  refine jr_callI K (C_X11_init (d + 66) e1) (D_at DL_law__q0 2 rfl) ci_L_111_X11_init (As := []) rfl rfl (by exact Nat.le_of_ble_eq_true rfl) (kc2 := kc + 13) (ks2 := ks + 11480) (by omega) (by omega) (fun k9 h9 w9 => by cases w9.1) (fun r9 h9 w9 => ?_)
  obtain ⟨w1, w2⟩ := w9
  subst h9
  cases w1
  refine jr_astore_n K (D_at DL_law__q0 3 rfl) (i := 1) rfl (by exact Nat.le_of_ble_eq_true rfl) (L2 := [_, _, _, _, _, _, _]) rfl ?_
  refine jr_new (N := 22) K (D_at DL_law__q0 4 rfl) fn_L_112 (kc := kc + 12) (ks := ks + 11458) ?_
  refine jr_dup K (D_at DL_law__q0 5 rfl) rfl ?_
  refine jr_callI K (C_X12_init (d + 68) e2) (D_at DL_law__q0 6 rfl) ci_L_114_X12_init (As := []) rfl rfl (by exact Nat.le_of_ble_eq_true rfl) (kc2 := kc + 1) (ks2 := ks + 1) (by omega) (by omega) (fun k9 h9 w9 => by cases w9.1) (fun r9 h9 w9 => ?_)
  obtain ⟨w1, w2⟩ := w9
  subst h9
  cases w1
  refine jr_astore_n K (D_at DL_law__q0 7 rfl) (i := 2) rfl (by exact Nat.le_of_ble_eq_true rfl) (L2 := [_, _, _, _, _, _, _]) rfl ?_
  refine jr_iconst K (D_at DL_law__q0 8 rfl) (v := (1 : Int32)) (by decide) ?_
  refine jr_newL (N := 1) K (D_at DL_law__q0 9 rfl) ac_long (by decide) (by decide) (by decide) (kc := kc + 0) (ks := ks + 0) ?_
  refine jr_astore_n K (D_at DL_law__q0 10 rfl) (i := 3) rfl (by exact Nat.le_of_ble_eq_true rfl) (L2 := [_, _, _, _, _, _, _]) rfl ?_
  refine jr_iconst K (D_at DL_law__q0 11 rfl) (v := (0 : Int32)) (by decide) ?_
  refine jr_istore K (D_at DL_law__q1 0 rfl) (i := 4) (by exact Nat.le_of_ble_eq_true rfl) (L2 := [_, _, _, _, _, _, _]) rfl ?_
  exact kk _ _ _ _ hP
/-- cells and slots: begin 53 14454, each call 13 582 -/
theorem jroom_ok : 13 * 512 + 53 ≤ 601024 ∧ 582 * 512 + 14454 ≤ 7293034 := ⟨Nat.le_of_ble_eq_true rfl, Nat.le_of_ble_eq_true rfl⟩
end
section
def R_law : String := "RodRingsLaw"
def lw_P (b : Addr) (xs : List Int32) (args : Array Value) (s : State) : Prop := args = #[.ref b] ∧ s.IntsAt b xs ∧ xs.length ≤ 3072 ∧ (Jvm.Cond.and given_1 narrow_1).before args s = true
def lw_Q (_ : Array Value) (s : State) (o : Outcome) (t : State) : Prop := o = .returned (some (.int 1)) ∧ Framed s o t [] 601024 7293034
def lw_Z (below : List Frame) (a : Array Value) (s : State) : State → Prop := fun t => ∃ o, t.status = .running ∧ Ended t below o ∧ lw_Q a s o t
/-- the law's own end, with 1 on the stack, nothing written that was there before, its room as the claim has it -/
theorem lw_ret {p : Program} {l : Launch} {e : Env} {s : State} {m : MethodId} {below : List Frame} {meth : Method} {c : Code} {b : Nat} (hx : p.tables.exec = Jvm.exec) (hb : c.code = code) (hr : meth.sig.returnType = ret) (hlocks : meth.locks = false) {pc : Nat} {H : Heap} {ls : Array Slot} (hdg : decode code pc = .ok (.ireturn, 1)) : W p l e room_1 s m #[Value.ref b] below meth c H [] 601024 7293034 (lw_Z below #[Value.ref b] s) (F0 m pc ls [.int 1]) := by
  intro T hT X
  obtain ⟨fs, hret, hrun, hended, hW, hframe⟩ := X.leave (v := some (.int 1)) (hlocks := hlocks) (fun h => by rw [hr] at h; cases h)
  have hmeth' : T.vm.method? m = some meth := X.method'
  refine ⟨T.setFrames fs, ?_, .returned (some (.int 1)), hrun, hended, rfl, ⟨_, rfl⟩, hW, hframe⟩
  jvm_step X.here [X.here.top, hx, hb, hdg, hmeth', hr, ret, narrow_b1]
  (try refine ⟨rfl, ?_⟩); (try refine ⟨rfl, ?_⟩)
  first | (intro acts; rw [hret _ acts rfl rfl rfl]) | rw [hret _ _ rfl rfl rfl]
  exact Steps.refl _
/-- what holds at the law's entry: the machine, the code, the tables' words (any of lw_tbl by 'hts w (by decide +kernel)'), the script of L ints xs at the cell b, what the Statement gives of the start (any of its parts by flat_of_before) -/
def lw_At (p : Program) (s : State) (m : MethodId) (meth : Method) (c : Code) (b L : Nat) (xs : Nat → Int32) : Prop :=
  p.tables.exec = Jvm.exec ∧ c.code = code ∧ meth.sig.returnType = ret ∧ c.maxLocals = 7 ∧ s.vm.findClass R_law = some m.cls ∧ (∀ w ∈ lw_tbl, w.before #[Value.ref b] s = true) ∧ va_X b L xs s s.heap ∧ b < s.heap.size ∧ meth.locks = false ∧ (Jvm.Cond.and given_1 narrow_1).before #[Value.ref b] s = true
def jfl : List Cond := flatC (Jvm.Cond.and given_1 narrow_1)
def jtw9 (x : String × Nat × String × List Int32) : List Cond :=
  .exactly (.string x.1 x.2.1) "java/lang/String" :: .eq (.field (.string x.1 x.2.1) "java/lang/String" "coder" "B") (.int 0) :: .arrayOf (.field (.string x.1 x.2.1) "java/lang/String" "value" "[B") .byte ::
  .eq (.length (.field (.string x.1 x.2.1) "java/lang/String" "value" "[B")) (.int (Int32.ofNat x.2.2.2.length)) ::
  (List.range x.2.2.2.length).map (fun j => .eq (.elem (.field (.string x.1 x.2.1) "java/lang/String" "value" "[B") (.int (Int32.ofNat j))) (.int (x.2.2.2.getD j 0)))
def jst9 (tm : Term) (vs : List Int32) : List Cond :=
  .arrayOf tm .int :: .eq (.length tm) (.int (Int32.ofNat vs.length)) :: (List.range vs.length).map (fun j => .eq (.elem tm (.int (Int32.ofNat j))) (.int (vs.getD j 0)))
set_option maxRecDepth 100000 in
theorem jfl_tx : (jfl.drop 104).take (jtxt.flatMap jtw9).length = jtxt.flatMap jtw9 := by decide +kernel
set_option maxRecDepth 100000 in
theorem jfl_sh : (jfl.drop 12).take 8 = jst9 (.static "RodRings$Log" "SHIFTS" "[I") jshf := by decide +kernel
set_option maxRecDepth 100000 in
theorem jfl_ms : (jfl.drop 21).take 8 = jst9 (.static "RodRings$Log" "MASKS" "[I") jmsk := by decide +kernel
set_option maxRecDepth 100000 in
theorem jfl_nc : jncs.map (fun x => some (Cond.not (.castable x.1 x.2))) = [100, 70, 55, 85, 43, 73, 58, 88, 41, 102, 56, 87, 40, 101, 71, 86, 42, 103, 72, 57].map (fun i => jfl[i]?) := by decide +kernel
theorem jfl_nc_in {x : String × String} (h : x ∈ jncs) : Cond.not (.castable x.1 x.2) ∈ jfl := by
  have h1 : some (Cond.not (.castable x.1 x.2)) ∈ jncs.map (fun x => some (Cond.not (.castable x.1 x.2))) := List.mem_map.mpr ⟨x, h, rfl⟩
  rw [jfl_nc] at h1
  obtain ⟨i, -, hi⟩ := List.mem_map.mp h1
  exact List.mem_of_getElem? hi
theorem jfl_txin {x : String × Nat × String × List Int32} (h : x ∈ jtxt) {w : Cond} (hw : w ∈ jtw9 x) : w ∈ jfl := by
  have : w ∈ (jfl.drop 104).take (jtxt.flatMap jtw9).length := by rw [jfl_tx]; exact List.mem_flatMap.mpr ⟨x, h, hw⟩
  exact List.mem_of_mem_drop (List.mem_of_mem_take this)
set_option maxRecDepth 100000 in
theorem jtr_tx : jtxt.map (fun x => some (Cond.stringRef x.1 x.2.1 x.2.2.1)) = [(3, 230), (4, 182), (4, 217), (5, 20), (5, 49), (5, 67), (5, 99), (5, 114), (5, 133), (5, 136), (5, 229), (6, 39), (6, 147), (7, 43), (7, 58), (7, 87), (7, 88), (7, 93), (7, 94), (7, 95), (7, 100), (7, 105), (7, 110), (7, 115), (7, 116), (7, 117), (7, 122), (7, 123), (7, 124), (7, 141), (7, 150), (7, 151), (7, 164), (7, 165), (7, 166), (7, 167)].map jtw := by decide +kernel
theorem jtr_in {x : String × Nat × String × List Int32} (h : x ∈ jtxt) : Cond.stringRef x.1 x.2.1 x.2.2.1 ∈ lw_tbl := by
  have h1 : some (Cond.stringRef x.1 x.2.1 x.2.2.1) ∈ jtxt.map (fun x => some (Cond.stringRef x.1 x.2.1 x.2.2.1)) := List.mem_map.mpr ⟨x, h, rfl⟩
  rw [jtr_tx] at h1
  obtain ⟨q, hq, hi⟩ := List.mem_map.mp h1
  exact jtw_in _ (List.mem_filterMap.mpr ⟨q, hq, hi⟩)
theorem jtx_len : ∀ x ∈ jtxt, x.2.2.2.length < 1000 := by decide +kernel
theorem jtxt_of {args : Array Value} {s : State} {A : Nat → Prop} (hs : ∀ w ∈ jfl, w.before args s = true) (hts : ∀ w ∈ lw_tbl, w.before args s = true) (hA : ∀ a : Nat, a < s.heap.size → ¬ A a) {x : String × Nat × String × List Int32} (h : x ∈ jtxt) :
    ∃ q : Nat × Nat, vk_R x.1 x.2.1 x.2.2.1 q.1 s ∧ vk_S 1 [x.2.2.2.length] [x.2.2.2] (fun _ => q.1) (fun _ => q.2) A s s.heap := by
  have hw := fun (w : Cond) (hw : w ∈ jtw9 x) => hs w (jfl_txin h hw)
  obtain ⟨adK, adV, h1, h2⟩ := vk_Sof (args := args) (s := s) (N := 1) (tm := fun _ => .string x.1 x.2.1) (len := [x.2.2.2.length]) (byt := [x.2.2.2]) (A := A)
    (fun i hi => by have e : i = 0 := by omega
                    subst e
                    have := jtx_len x h
                    show x.2.2.2.length < 2 ^ 31
                    omega)
    (fun i hi => hw _ List.mem_cons_self)
    (fun i hi => hw _ (List.mem_cons_of_mem _ List.mem_cons_self))
    (fun i hi => hw _ (List.mem_cons_of_mem _ (List.mem_cons_of_mem _ List.mem_cons_self)))
    (fun i hi => by have e : i = 0 := by omega
                    subst e
                    exact hw _ (List.mem_cons_of_mem _ (List.mem_cons_of_mem _ (List.mem_cons_of_mem _ List.mem_cons_self))))
    (fun i hi j hj => by have e : i = 0 := by omega
                         subst e
                         exact hw _ (List.mem_cons_of_mem _ (List.mem_cons_of_mem _ (List.mem_cons_of_mem _ (List.mem_cons_of_mem _ (List.mem_map.mpr ⟨j, List.mem_range.mpr hj, rfl⟩))))))
    (fun i j hi hj hij => absurd (show i = j by omega) hij) hA
  refine ⟨(adK 0, adV 0), vk_R.of (hts _ (jtr_in h)) (h2 0 (by omega)), fun i hi => ?_, fun i j hi hj _ => by omega⟩
  have e : i = 0 := by omega
  subst e
  exact h1.1 0 hi
theorem jst_of {args : Array Value} {s : State} {A : Nat → Prop} {C n : String} {vs : List Int32} (hl : (Cond.laysStatic C n "[I").before args s = true) (hini : (Cond.initialized C).before args s = true) (hw : ∀ w ∈ jst9 (.static C n "[I") vs, w.before args s = true) (hA : ∀ a : Nat, a < s.heap.size → ¬ A a) (hn : vs.length < 1000) :
    ∃ t : Nat, va_Z C n "[I" (.ref t) A s s.heap ∧ va_T .int t vs.length (fun j => .int (vs.getD j 0)) A s s.heap := by
  obtain ⟨t, h1, h2⟩ := va_Tof (args := args) (s := s) (tm := .static C n "[I") (ty := .int) (N := vs.length) (f := fun j => .int (vs.getD j 0)) (A := A) (by omega) (hw _ List.mem_cons_self)
    (va_eqt (hw _ (List.mem_cons_of_mem _ List.mem_cons_self)))
    (fun j hj => va_eqt (hw _ (List.mem_cons_of_mem _ (List.mem_cons_of_mem _ (List.mem_map.mpr ⟨j, List.mem_range.mpr hj, rfl⟩))))) hA
  exact ⟨t, va_Zof hl hini h1 hA, h2⟩
theorem jar_of {args : Array Value} {s : State} {ty : FieldType} (h : (Cond.arrayClass ty).before args s = true) : ∃ cA : ClassId, s.vm.findClass ("[" ++ ty.toString) = some cA ∧ ArrOfT s cA ty := by
  obtain ⟨cA, kA, comp, f1, f2, f3⟩ := Cond.arrayClass_spec h
  exact ⟨cA, f1, fun n z => ⟨fun k h => (by cases h), kA, f2, comp, f3⟩⟩
/-- what the law's walk asks of the pure side -/
def jPO : Prop := ∃ n : Nat, ∀ z : Nat, ∃ I : Nat → Nat → Nat → jH → Prop, jBegin n (z, fun _ => none) I ∧ ∀ (x m out : Nat) (h : jH) (a : Nat → Int32), I x m out h → jStep n x m out a h (I x m out)
set_option maxHeartbeats 4000000 in
set_option maxRecDepth 100000 in
theorem law_start (po : jPO) {p : Program} {e : Env} {s : State} {m : MethodId} {below : List Frame} {meth : Method} {c : Code} (l : Launch) (hflags : l.flags = flags0) {b L : Nat} {xs : Nat → Int32} (hL : L ≤ 3072) (C0 : lw_At p s m meth c b L xs) : W p l e room_1 s m #[Value.ref b] below meth c s.heap [] 0 0 (lw_Z below #[Value.ref b] s) (entryFrame m ([Value.ref b] : List Value).toArray 7) := by
  obtain ⟨hx, hb, hr, hml, hown, hts, hX, hbl, hlocks, hgv⟩ := id C0
  obtain ⟨n, po⟩ := po
  have hst : l.stackTraces = false := by unfold Launch.stackTraces; rw [hflags]; decide
  have hs : ∀ w ∈ jfl, w.before #[Value.ref b] s = true := flat_of_before _ hgv
  have hA : ∀ a : Nat, a < s.heap.size → ¬ (fun q : Nat => s.heap.size ≤ q) a := fun a h1 h2 => Nat.not_lt.mpr h2 h1
  obtain ⟨c0, iS0, hKn0⟩ := u_known (C := RX0) (T := TX0) (N := 3) (n := 3) hts wsX00_tb (hts _ (jin_2 (List.mem_of_getElem? (i := 3) rfl)))
  obtain ⟨c1, iS1, hKn1⟩ := u_known (C := RX1) (T := TX1) (N := 2) (n := 2) hts wsX10_tb (hts _ (jin_2 (List.mem_of_getElem? (i := 57) rfl)))
  obtain ⟨c2, iS2, hKn2⟩ := u_known (C := RX2) (T := TX2) (N := 9) (n := 9) hts wsX20_tb (hts _ (jin_1 (List.mem_of_getElem? (i := 207) rfl)))
  obtain ⟨c3, iS3, hKn3⟩ := u_known (C := RX3) (T := TX3) (N := 3) (n := 3) hts wsX30_tb (hts _ (jin_2 (List.mem_of_getElem? (i := 45) rfl)))
  obtain ⟨c4, iS4, hKn4⟩ := u_known (C := RX5) (T := TX5) (N := 3) (n := 3) hts wsX50_tb (hts _ (jin_1 (List.mem_of_getElem? (i := 76) rfl)))
  obtain ⟨c5, iS5, hKn5⟩ := u_known (C := RX7) (T := TX7) (N := 7) (n := 7) hts wsX70_tb (hts _ (jin_2 (List.mem_of_getElem? (i := 70) rfl)))
  obtain ⟨c6, iS6, hKn6⟩ := u_known (C := RX8) (T := TX8) (N := 18) (n := 18) hts wsX80_tb (hts _ (jin_1 (List.mem_of_getElem? (i := 70) rfl)))
  obtain ⟨c7, iS7, hKn7⟩ := u_known (C := RX9) (T := TX9) (N := 3) (n := 3) hts wsX90_tb (hts _ (jin_2 (List.mem_of_getElem? (i := 22) rfl)))
  obtain ⟨c8, iS8, hKn8⟩ := u_known (C := RX10) (T := TX10) (N := 7) (n := 7) hts wsX100_tb (hts _ (jin_1 (List.mem_of_getElem? (i := 38) rfl)))
  obtain ⟨c9, iS9, hKn9⟩ := u_known (C := RX11) (T := TX11) (N := 13) (n := 13) hts wsX110_tb (hts _ (jin_1 (List.mem_of_getElem? (i := 30) rfl)))
  obtain ⟨c10, iS10, hKn10⟩ := u_known (C := RX12) (T := TX12) (N := 22) (n := 22) hts wsX120_tb (hts _ (jin_6 (List.mem_of_getElem? (i := 154) rfl)))
  obtain ⟨k0, a0, b0⟩ := jar_of (ty := .int) (hts _ (jin_1 (List.mem_of_getElem? (i := 68) rfl)))
  obtain ⟨k1, a1, b1⟩ := jar_of (ty := .byte) (hts _ (jin_1 (List.mem_of_getElem? (i := 67) rfl)))
  obtain ⟨k2, a2, b2⟩ := jar_of (ty := .boolean) (hts _ (jin_6 (List.mem_of_getElem? (i := 226) rfl)))
  obtain ⟨k3, a3, b3⟩ := jar_of (ty := .long) (hts _ (jin_9 (List.mem_of_getElem? (i := 76) rfl)))
  have hao : (Cond.arrayOver (.object "RodRings$Rod")).before #[Value.ref b] s = true := (hts _ (jin_2 (List.mem_of_getElem? (i := 9) rfl)))
  obtain ⟨comp, k4, kA, f1, f2, f3, f4, f5⟩ := Cond.arrayOver_spec hao
  obtain ⟨tS, zS, vS⟩ := jst_of (A := fun q : Nat => s.heap.size ≤ q) (vs := jshf) (hts _ (jin_5 (List.mem_of_getElem? (i := 80) rfl))) (hts _ (jin_1 (List.mem_of_getElem? (i := 4) rfl))) (fun w hw => hs w (by rw [← jfl_sh] at hw; exact List.mem_of_mem_drop (List.mem_of_mem_take hw))) hA (by decide)
  obtain ⟨tM, zM, vM⟩ := jst_of (A := fun q : Nat => s.heap.size ≤ q) (vs := jmsk) (hts _ (jin_6 (List.mem_of_getElem? (i := 135) rfl))) (hts _ (jin_1 (List.mem_of_getElem? (i := 4) rfl))) (fun w hw => hs w (by rw [← jfl_ms] at hw; exact List.mem_of_mem_drop (List.mem_of_mem_take hw))) hA (by decide)
  have htx : ∀ i : Nat, ∃ q : Nat × Nat, ∀ x, jtxt[i]? = some x → vk_R x.1 x.2.1 x.2.2.1 q.1 s ∧ vk_S 1 [x.2.2.2.length] [x.2.2.2] (fun _ => q.1) (fun _ => q.2) (fun q : Nat => s.heap.size ≤ q) s s.heap := by
    intro i
    cases hi : jtxt[i]? with
    | none => exact ⟨(0, 0), fun x h => by cases h⟩
    | some x =>
      obtain ⟨q, h1, h2⟩ := jtxt_of (A := fun q : Nat => s.heap.size ≤ q) hs hts hA (List.mem_of_getElem? hi)
      exact ⟨q, fun y hy => by cases hy; exact ⟨h1, h2⟩⟩
  obtain ⟨ad, had⟩ := Classical.axiomOfChoice htx
  generalize hG : (((fun k => if k = 0 then c0 else if k = 1 then c1 else if k = 2 then c2 else if k = 3 then c3 else if k = 4 then c4 else if k = 5 then c5 else if k = 6 then c6 else if k = 7 then c7 else if k = 8 then c8 else if k = 9 then c9 else c10, fun k => if k = 0 then iS0 else if k = 1 then iS1 else if k = 2 then iS2 else if k = 3 then iS3 else if k = 4 then iS4 else if k = 5 then iS5 else if k = 6 then iS6 else if k = 7 then iS7 else if k = 8 then iS8 else if k = 9 then iS9 else iS10), fun k => if k = 0 then k0 else if k = 1 then k1 else if k = 2 then k2 else if k = 3 then k3 else k4, s.heap.size, fun k => if k = 0 then tS else if k = 1 then tM else if k % 2 = 0 then (ad ((k - 10) / 2)).1 else (ad ((k - 11) / 2)).2) : jG) = G
  have hEF : jEF G s s.heap := by
    subst hG
    refine ⟨⟨fun k q hq => ?_, fun k q hq => ?_⟩, ?_⟩
    · match k, hq with
      | 0, hq => cases hq; exact hKn0
      | 1, hq => cases hq; exact hKn1
      | 2, hq => cases hq; exact hKn2
      | 3, hq => cases hq; exact hKn3
      | 4, hq => cases hq; exact hKn4
      | 5, hq => cases hq; exact hKn5
      | 6, hq => cases hq; exact hKn6
      | 7, hq => cases hq; exact hKn7
      | 8, hq => cases hq; exact hKn8
      | 9, hq => cases hq; exact hKn9
      | 10, hq => cases hq; exact hKn10
      | k + 11, hq => simp [vwCl] at hq
    · match k, hq with
      | 0, hq => cases hq; exact ⟨b0, a0⟩
      | 1, hq => cases hq; exact ⟨b1, a1⟩
      | 2, hq => cases hq; exact ⟨b2, a2⟩
      | 3, hq => cases hq; exact ⟨b3, a3⟩
      | 4, hq => cases hq; exact ⟨fun N z => ⟨fun k h => (by cases h), kA, f3, comp, f4⟩, kA, comp, f3, f4, f1, f5⟩
      | k + 5, hq => simp [jtys] at hq
    · refine ⟨vx_Zqof (hts _ (jin_4 (List.mem_of_getElem? (i := 166) rfl))) (hts _ (jin_1 (List.mem_of_getElem? (i := 19) rfl))) (hs _ (List.mem_of_getElem? (i := 9) (by decide +kernel))) hA, vx_Zqof (hts _ (jin_4 (List.mem_of_getElem? (i := 168) rfl))) (hts _ (jin_1 (List.mem_of_getElem? (i := 19) rfl))) (hs _ (List.mem_of_getElem? (i := 10) (by decide +kernel))) hA, zS, vS, zM, vM, va_Zof (hts _ (jin_4 (List.mem_of_getElem? (i := 0) rfl))) (hts _ (jin_1 (List.mem_of_getElem? (i := 14) rfl))) (va_eqt (hs _ (List.mem_of_getElem? (i := 4) (by decide +kernel)))) hA, va_Zqof (hts _ (jin_4 (List.mem_of_getElem? (i := 16) rfl))) (hts _ (jin_1 (List.mem_of_getElem? (i := 16) rfl))) (hs _ (List.mem_of_getElem? (i := 5) (by decide +kernel))) hA, ⟨va_AO.of hao, fun w hw => va_Nw.of (jnest_on hw) (hts w (List.mem_filter.mp hw).1), fun x hx => va_Nc.of (hs _ (jfl_nc_in hx))⟩, fun i x hx => ?_⟩
      have e1 : (if 10 + 2 * i = 0 then tS else if 10 + 2 * i = 1 then tM else if (10 + 2 * i) % 2 = 0 then (ad ((10 + 2 * i - 10) / 2)).1 else (ad ((10 + 2 * i - 11) / 2)).2) = (ad i).1 := by
        rw [if_neg (by omega), if_neg (by omega), if_pos (by omega), show (10 + 2 * i - 10) / 2 = i by omega]
      have e2 : (if 11 + 2 * i = 0 then tS else if 11 + 2 * i = 1 then tM else if (11 + 2 * i) % 2 = 0 then (ad ((11 + 2 * i - 10) / 2)).1 else (ad ((11 + 2 * i - 11) / 2)).2) = (ad i).2 := by
        rw [if_neg (by omega), if_neg (by omega), if_neg (by omega), show (11 + 2 * i - 11) / 2 = i by omega]
      dsimp only
      rw [e1, e2]
      exact had i x hx
  have hG1 : G.2.2.1 = s.heap.size := by rw [← hG]
  clear hG
  obtain ⟨I, hB, hI⟩ := po s.heap.size
  have hl := lv_entry ([.ref b]) (n := 7) (Nat.le_of_ble_eq_true rfl)
  rw [lg_entry_eq]
  generalize (lg_sl ([.ref b]) ++ List.replicate (7 - (lg_sl ([.ref b])).length) Slot.unset).toArray = ls at hl ⊢
  have hl : lv_has ls 7 [(0, .ref b)] := hl
  let X : jX := (p, l, e, room_1, s, m, #[Value.ref b], below, meth, c, 601024, 7293034, lw_Z below #[Value.ref b] s)
  have K : jOK G l (mlw meth.name (c.exceptionTable.toList.map fun h => (h.startPc, h.endPc, h.handlerPc, h.catchType))) (0 + 70) X :=
    ⟨hx, hb, hml, hr, hown, fun w hw => hts w (List.mem_filter.mp hw).1, hlocks, rfl, hEF, Nat.le_of_eq hG1, Nat.le_of_ble_eq_true rfl, Nat.le_of_ble_eq_true rfl, Nat.le_of_ble_eq_true rfl, Nat.le_of_ble_eq_true rfl, rfl, (table_eq _).symm⟩
  have S : jScr G b L xs X := ⟨hX, hbl, by rw [hG1]; exact hbl⟩
  have key : jJ G X (s.heap.size, fun _ => none) (13 * 512 + 53) (582 * 512 + 14454) 0 [some (.ref b), none, none, none, none, none, none] [] := by
    refine JL_begin K n hB (fun x mm out h1 hh1 => ?_)
    refine JL_loop hst K S hL n (hI := fun h a hh => hI x mm out h a hh) (fun h i => ?_) 512 0 h1 (by omega) (by omega) hh1
    refine jr_iconst K (D_at DL_law__17_q1 4 rfl) (v := (1 : Int32)) (by decide) ?_
    intro H locs cells slots ls hR hS hc1 hc2 hc hl
    refine va_forget (fun q hq => ?_) ?_
    · have := hS.2.2 q hq
      rw [← hG1]
      exact this
    · refine W.widen (k := 601024) (n := 7293034) hc1 hc2 ?_
      exact lw_ret hx hb hr hlocks (D_at DL_law__17_q1 5 rfl)
  exact key s.heap [] 0 0 ls ⟨rfl, fun a e h => by cases h⟩ va_S.rf (by exact Nat.le_of_ble_eq_true rfl) (by exact Nat.le_of_ble_eq_true rfl) (by intro i v h; match i, h with
    | 0, h => cases h; rfl
    | 1, h => cases h
    | 2, h => cases h
    | 3, h => cases h
    | 4, h => cases h
    | 5, h => cases h
    | 6, h => cases h
    | k + 7, h => simp at h) (by rw [hml]; exact hl)
end
