/-! what a pole's text does keeps the world in its bounds -/
def okW (W W2 : jWd) : Prop := wOK W2 ∧ (∀ k : Nat, k = 1 ∨ k = 2 ∨ 435 ≤ k → W2 k = W k)
theorem rdMore_b {T : Nat → Int32 × Int32} {w hi : Int32} {k : Nat} {c : Nat × Int32} (e : rdMore T w hi k = .inl c) (h0 : 0 ≤ hi.toInt) : 0 ≤ c.2.toInt ∧ c.2.toInt ≤ hi.toInt := by
  unfold rdMore at e
  split at e
  · split at e
    · rename_i z
      cases e
      obtain ⟨-, a, b⟩ := z
      rw [Int32.le_iff_toInt_le] at a b
      exact ⟨a, b⟩
    · cases e
  · cases e
    exact ⟨Int.le_refl 0, h0⟩
theorem rdRing_ok {T : Nat → Int32 × Int32} {W : jWd} {k : Nat} {p : Nat × jWd} (K : wOK W) (n8 : ¬ W 0 = 8) (e : rdRing T W k = .inl p) : okW W p.2 := by
  have n := cN_lt K n8
  unfold rdRing at e
  split at e
  · split at e
    · rename_i z1
      split at e
      · split at e
        · rename_i z2
          split at e
          · cases e
          · rename_i c ec
            split at e
            · cases e
            · rename_i d ed
              cases e
              obtain ⟨-, a1, a2⟩ := z1
              obtain ⟨-, b1, b2⟩ := z2
              rw [Int32.le_iff_toInt_le] at a1 a2 b1 b2
              obtain ⟨l0, l31⟩ := leW_0 K
              have c1 := rdMore_b ec (by decide)
              have d1 := rdMore_b ed (by decide)
              refine ⟨rgW_ok K ⟨by omega, by omega⟩ ⟨b1, b2⟩ ⟨n8, a1, a2⟩ tkF_01 tkF_01 c1 d1, fun j hj => ?_⟩
              show upd _ _ _ j = _
              rw [upd_ne (by omega), upd_ne (by omega), upd_ne (by omega), upd_ne (by omega)]
              exact hg_lo (by omega) (by omega)
        · cases e
      · cases e
    · cases e
  · cases e
theorem kpW_ok {T : Nat → Int32 × Int32} {W : jWd} {k : Nat} {w : Int32} (K : wOK W) (hb : bgn w) (h : nOK T k (bndP w W).1 (bndP w W).2) : okW W (kpW w W (T k).2) := by
  obtain ⟨b1, b2, b3, b4, b5, b6⟩ := b_n K h
  have k0 := K.1
  have law : ∀ (i : Nat) (v : Int32), (i ≠ 1 ∧ i ≠ 2 ∧ i < 435) → ∀ k : Nat, k = 1 ∨ k = 2 ∨ 435 ≤ k → upd W i v k = W k := fun i v hi k hk => upd_ne (by omega)
  rcases hb with z | z | z | z | z | z <;> subst z
  · exact ⟨wOK_ct K (Or.inr ⟨rfl, by have := b4 rfl; omega⟩), law _ _ (by have := b3 (by decide) (by decide); omega)⟩
  · exact ⟨wOK_7 K, law _ _ (by omega)⟩
  · exact ⟨wOK_5 K ⟨b6 rfl, b3 (by decide) (by decide)⟩, law _ _ (by omega)⟩
  · exact ⟨wOK_6 K ⟨b1, b3 (by decide) (by decide)⟩, law _ _ (by omega)⟩
  · exact ⟨wOK_3 K ⟨b1, b5 rfl⟩, law _ _ (by omega)⟩
  · exact ⟨wOK_4 K ⟨b1, by omega⟩, law _ _ (by omega)⟩
theorem rdPole_ok {T : Nat → Int32 × Int32} {W : jWd} {k : Nat} {p : Nat × jWd} (K : wOK W) (e : rdPole T W k = .inl p) : okW W p.2 := by
  by_cases e0 : (T k).1 = 0
  · by_cases n8 : W 0 = 8
    · rw [rdPole_8 e0 n8] at e; cases e
    · rw [rdPole_0 e0 n8] at e; exact rdRing_ok K n8 e
  · by_cases hb : bgn (T k).1
    · rw [rdPole_n rfl hb] at e
      unfold rdNum at e
      split at e
      · rename_i z
        cases e
        exact kpW_ok K hb z
      · cases e
    · rw [rdPole_x e0 hb] at e; cases e
theorem okW_tr {W W2 W3 : jWd} (a : okW W W2) (b : okW W2 W3) : okW W W3 := ⟨b.1, fun k hk => (b.2 k hk).trans (a.2 k hk)⟩
theorem rdLines_ok {T : Nat → Int32 × Int32} : ∀ (n : Nat) {W W2 : jWd} {k : Nat}, wOK W → rdLines (rdPole T) T n W k = .inl W2 → okW W W2
  | 0, W, W2, k, K, e => by cases e
  | n + 1, W, W2, k, K, e => by
    unfold rdLines at e
    split at e
    · cases e
    · rename_i d ed
      have a := rdPole_ok K ed
      split at e
      · cases e; exact a
      · split at e
        · exact okW_tr a (rdLines_ok n a.1 e)
        · cases e
/-- what the class answers to a whole text -/
def lrC (O : jO) (v : Int32) (x : Nat) (st : Nat → Nat) (r : jWd ⊕ Nat) : Prop := (∀ W, r = .inl W → v = -1 ∧ rodE O (x + 21) W) ∧ (∀ f, r = .inr f → v = nI (st f) ∧ rodS O (x + 21))
theorem lrC_l {O : jO} {v : Int32} {x : Nat} {st : Nat → Nat} {r : jWd ⊕ Nat} {W : jWd} (e : r = .inl W) (h : v = -1 ∧ rodE O (x + 21) W) : lrC O v x st r := ⟨fun p z => (by rw [e] at z; cases z; exact h), fun f z => (by rw [e] at z; cases z)⟩
theorem lrC_r {O : jO} {v : Int32} {x k : Nat} {st : Nat → Nat} {r : jWd ⊕ Nat} (e : r = .inr k) (h : v = nI (st k) ∧ rodS O (x + 21)) : lrC O v x st r := ⟨fun p z => (by rw [e] at z; cases z), fun f z => (by rw [e] at z; cases z; exact h)⟩
theorem rl_r {S : Type} {ln : S → Nat → (Nat × S) ⊕ Nat} {T : Nat → Int32 × Int32} {n k f : Nat} {W : S} (e : ln W k = .inr f) : rdLines ln T (n + 1) W k = .inr f := by
  unfold rdLines
  rw [e]
theorem rl_e {S : Type} {ln : S → Nat → (Nat × S) ⊕ Nat} {T : Nat → Int32 × Int32} {n k : Nat} {W : S} {d : Nat × S} (e : ln W k = .inl d) (z : (T d.1).1 = -1) : rdLines ln T (n + 1) W k = .inl d.2 := by
  unfold rdLines
  rw [e]
  dsimp only
  rw [if_pos z]
theorem rl_s {S : Type} {ln : S → Nat → (Nat × S) ⊕ Nat} {T : Nat → Int32 × Int32} {n k : Nat} {W : S} {d : Nat × S} (e : ln W k = .inl d) (z : (T d.1).1 = 59) : rdLines ln T (n + 1) W k = rdLines ln T n d.2 (d.1 + 1) := by
  conv => lhs; unfold rdLines
  rw [e]
  dsimp only
  rw [if_neg (by rw [z]; decide), if_pos z]
theorem rl_x {S : Type} {ln : S → Nat → (Nat × S) ⊕ Nat} {T : Nat → Int32 × Int32} {n k : Nat} {W : S} {d : Nat × S} (e : ln W k = .inl d) (z : (T d.1).1 ≠ -1) (z2 : (T d.1).1 ≠ 59) : rdLines ln T (n + 1) W k = .inr d.1 := by
  unfold rdLines
  rw [e]
  dsimp only
  rw [if_neg z, if_neg z2]
theorem E_X4_read_R_22 {n : Nat} {b : Nat → Int32} {L : Nat} {m : Nat} {T : Nat → Int32 × Int32} {st : Nat → Nat} {x : Nat} : ∀ (k : Nat) {a0 : Nat} {x1 : Int32} {h : jH} {q : Int32 × jH} (kk : Nat) (j : Nat) (W : jWd) (K : ck (oc h) (x + 1) b L m T st kk) (S : rrS (oc h) x) (ha : a0 = x + 34) (R : rodE (oc h) (x + 21) W) (KW : wOK W) (J : jlen h (x + 24) = some 8 ∧ jlen h (x + 25) = some 8) (hx : x1 = nI j) (hj : j ≤ 14), F_X4_read_R_22 n k a0 x1 h = some q → lrC (oc q.2) q.1 x st (rdLines (rdPole T) T (14 - j) W kk) ∧ frD x (oc h) (oc q.2) ∧ q.2.1 = h.1
  | 0, a0, x1, h, q, kk, j, W, K, S, ha, R, KW, J, hx, hj, hf => by cases hf
  | k + 1, a0, x1, h, q, kk, j, W, K, S, ha, R, KW, J, hx, hj, hf => by
    replace hf : F_X4_read_R_22_b n (F_X4_read_R_22 n k) a0 x1 h = some q := hf
    unfold F_X4_read_R_22_b at hf
    subst ha
    replace hf := jbind hf
    obtain ⟨v24, e1, hf⟩ := hf
    have r1 := oc_gI e1
    subst r1
    clear e1
    replace hf := jite hf
    rcases hf with ⟨c2, hf⟩ | ⟨c2, hf⟩
    · skip
      replace hf := jbind hf
      obtain ⟨p85, e3, hf⟩ := hf
      have r3 := oc_gR e3
      rw [S.1] at r3
      cases r3
      clear e3
      replace hf := jbind hf
      obtain ⟨v88, e4, hf⟩ := hf
      replace e4 := (jcv_o e4).2
      have r4 := E_X10_start K e4
      cases hf
      -- leaf 0: (v88, h)
      have e14 : oi (oc h) (x + 34) 1 = 14 := by unfold oi; rw [S.2.1]; rfl
      rw [e14, hx, Int32.le_iff_toInt_le, nI_toInt (by omega), show (14 : Int32).toInt = 14 from rfl] at c2
      rw [show 14 - j = 0 by omega]
      exact ⟨lrC_r rfl ⟨r4, R.1⟩, frD_0, rfl⟩
    · skip
      replace hf := jbind hf
      obtain ⟨q31, e5, hf⟩ := hf
      replace e5 := (jcv_o e5).2
      have e14 : oi (oc h) (x + 34) 1 = 14 := by unfold oi; rw [S.2.1]; rfl
      rw [e14, hx, Int32.le_iff_toInt_le, nI_toInt (by omega), show (14 : Int32).toInt = 14 from rfl] at c2
      have ej : 14 - j = 14 - (j + 1) + 1 := by omega
      obtain ⟨r5, f5, z5⟩ := E_X9_readLine K S rfl R KW J e5
      have S5 : rrS (oc q31.2) x := rrS_D S f5
      replace hf := jite hf
      rcases hf with ⟨c6, hf⟩ | ⟨c6, hf⟩
      · skip
        replace hf := jbind hf
        obtain ⟨p38, e7, hf⟩ := hf
        have r7 := oc_gR e7
        rw [S5.1] at r7
        cases r7
        clear e7
        replace hf := jbind hf
        obtain ⟨v41, e8, hf⟩ := hf
        replace e8 := (jcv_o e8).2
        rcases hR : rdPole T W kk with d | f
        · exact absurd (c6.symm.trans (r5.1 d hR).1) (by decide)
        obtain ⟨-, K5, R5⟩ := r5.2 f hR
        have r8 := E_X10_start K5 e8
        cases hf
        -- leaf 10: (v41, q31.2)
        rw [ej]
        exact ⟨lrC_r (rl_r hR) ⟨r8, R5⟩, f5, z5⟩
      · skip
        replace hf := jbind hf
        obtain ⟨p46, e9, hf⟩ := hf
        have r9 := oc_gR e9
        rw [S5.1] at r9
        cases r9
        clear e9
        replace hf := jbind hf
        obtain ⟨v49, e10, hf⟩ := hf
        replace e10 := (jcv_o e10).2
        rcases hR : rdPole T W kk with d | f
        rotate_left
        · exact absurd (r5.2 f hR).1 c6
        obtain ⟨-, K5, R5⟩ := r5.1 d hR
        have ok5 := rdPole_ok KW hR
        have J5 : jlen q31.2 (x + 24) = some 8 ∧ jlen q31.2 (x + 25) = some 8 := ⟨Ln_X9_readLine e5 _ _ J.1, Ln_X9_readLine e5 _ _ J.2⟩
        have r10 := E_X10_kind K5 e10
        replace hf := jite hf
        rcases hf with ⟨c11, hf⟩ | ⟨c11, hf⟩
        · skip
          cases hf
          -- leaf 110: ((- 1 : Int32), q31.2)
          rw [ej]
          rw [r10] at c11
          exact ⟨lrC_l (rl_e hR c11) ⟨rfl, R5⟩, f5, z5⟩
        · skip
          replace hf := jbind hf
          obtain ⟨p59, e12, hf⟩ := hf
          have r12 := oc_gR e12
          rw [S5.1] at r12
          cases r12
          clear e12
          replace hf := jbind hf
          obtain ⟨q64, e13, hf⟩ := hf
          replace e13 := (jcv_o e13).2
          obtain ⟨r13, f13, z13⟩ := E_X10_take K5 (by decide) e13
          have S13 : rrS (oc q64.2) x := rrS_D S5 (frD_5 f13)
          replace hf := jite hf
          rcases hf with ⟨c14, hf⟩ | ⟨c14, hf⟩
          · skip
            replace hf := jbind hf
            obtain ⟨p71, e15, hf⟩ := hf
            have r15 := oc_gR e15
            rw [S13.1] at r15
            cases r15
            clear e15
            replace hf := jbind hf
            obtain ⟨v74, e16, hf⟩ := hf
            replace e16 := (jcv_o e16).2
            rcases r13 with ⟨-, w, -⟩ | ⟨y, w⟩
            · exact absurd (c14.symm.trans w) (by decide)
            have r16 := E_X10_start (by rw [w]; exact K5) e16
            cases hf
            -- leaf 1110: (v74, q64.2)
            rw [r10] at c11
            rw [ej]
            exact ⟨lrC_r (rl_x hR c11 y) ⟨r16, by rw [w]; exact R5.1⟩, frD_tr f5 (frD_5 f13), z13.trans z5⟩
          · skip
            -- leaf 1111: rc22 a0 (x1 + (1 : Int32)) q64.2
            rcases r13 with ⟨y, -, K13⟩ | ⟨-, w⟩
            rotate_left
            · exact absurd (by rw [w]) c14
            rw [hx] at hf
            obtain ⟨a1, a2, a3⟩ := E_X4_read_R_22 k (d.1 + 1) (j + 1) d.2 K13 S13 rfl (rodE_5 R5 f13) ok5.1 ⟨Ln_X10_take e13 _ _ J5.1, Ln_X10_take e13 _ _ J5.2⟩ (nI_1 j) (by omega) hf
            rw [ej, rl_s hR y]
            exact ⟨a1, frD_tr f5 (frD_tr (frD_5 f13) a2), a3.trans (z13.trans z5)⟩
theorem E_X4_read_R {b : Nat → Int32} {L : Nat} {x : Nat} {W : jWd} {n : Nat} {a0 : Nat} {h : jH} {q : Int32 × jH} (C : ctb (oc h) (x + 1) b L) (S : rrS (oc h) x) (ha : a0 = x + 34) (R : rodE (oc h) (x + 21) W) (KW : wOK W) (J : jlen h (x + 24) = some 8 ∧ jlen h (x + 25) = some 8) (hf : F_X4_read_R n a0 h = some q) : ∃ (m : Nat) (T : Nat → Int32 × Int32) (st en : Nat → Nat), tkE b L m T st en ∧ lrC (oc q.2) q.1 x st (if (T 0).1 = -1 then .inl W else rdLines (rdPole T) T 14 W 0) ∧ (∀ a j : Nat, ¬ (a = x + 1 ∧ (j = 4 ∨ j = 5)) → ¬ (x + 3 ≤ a ∧ a ≤ x + 5) → ¬ (x + 21 ≤ a ∧ a ≤ x + 27) → oc q.2 a j = oc h a j) ∧ q.2.1 = h.1 := by
  unfold F_X4_read_R at hf
  subst ha
  replace hf := jbind hf
  obtain ⟨p1, e1, hf⟩ := hf
  have r1 := oc_gR e1
  rw [S.1] at r1
  cases r1
  clear e1
  replace hf := jbind hf
  obtain ⟨h4, e2, hf⟩ := hf
  replace e2 := (jcv_o e2).2
  obtain ⟨m, T, st, en, H, K2, f2, z2⟩ := E_X10_scan C e2
  have S2 : rrS (oc h4) x := ⟨(f2 _ _ (by omega) (by omega)).trans S.1, (f2 _ _ (by omega) (by omega)).trans S.2.1, (f2 _ _ (by omega) (by omega)).trans S.2.2⟩
  have R2 : rodE (oc h4) (x + 21) W := rodE_fr R (fun a k h1 h2 => f2 a k (by omega) (by omega))
  have J2 : jlen h4 (x + 24) = some 8 ∧ jlen h4 (x + 25) = some 8 := ⟨Ln_X10_scan e2 _ _ J.1, Ln_X10_scan e2 _ _ J.2⟩
  replace hf := jbind hf
  obtain ⟨p8, e3, hf⟩ := hf
  have r3 := oc_gR e3
  rw [S2.1] at r3
  cases r3
  clear e3
  replace hf := jbind hf
  obtain ⟨v11, e4, hf⟩ := hf
  replace e4 := (jcv_o e4).2
  have r4 := E_X10_kind K2 e4
  replace hf := jite hf
  rcases hf with ⟨c5, hf⟩ | ⟨c5, hf⟩
  · skip
    cases hf
    -- leaf 0: ((- 1 : Int32), h4)
    rw [r4] at c5
    refine ⟨m, T, st, en, H, ?_, fun a j u1 u2 _ => f2 a j u1 (by omega), z2⟩
    rw [if_pos c5]
    exact lrC_l rfl ⟨rfl, R2⟩
  · skip
    -- leaf 1: F_X4_read_R_22 n n a0 (0 : Int32) h4
    rw [r4] at c5
    obtain ⟨a1, a2, a3⟩ := E_X4_read_R_22 n 0 0 W K2 S2 rfl R2 KW J2 rfl (by omega) hf
    refine ⟨m, T, st, en, H, ?_, fun a j u1 u2 u3 => (a2 a j (by omega) u3).trans (f2 a j u1 (by omega)), a3.trans z2⟩
    rw [if_neg c5]
    exact a1
