/-! a text, as the reference reads it; pole -/
theorem cur_00 {b : Nat → Int32} {L m : Nat} {T : Nat → Int32 × Int32} {st en : Nat → Nat} (H : tkE b L m T st en) : cur b st 0 0 := ⟨by omega, fun i _ h => H.2.2.2.2 i h⟩
theorem E_X12_readAll {b : Nat → Int32} {L : Nat} {m : Nat} {T : Nat → Int32 × Int32} {st : Nat → Nat} {en : Nat → Nat} {S : Type} {P : jO → S → Nat → Nat → Prop} {ln : S → Nat → (Nat × S) ⊕ Nat} {cs : List Nat} {fs : List Nat} {N : Nat} {Z : Nat} {W : S} {n : Nat} {a0 : Nat} {x1 : Int32} {h : jH} {q : Int32 × jH} (hN : N < 1000) (m10 : 10 ∈ fs) (m12 : 12 ∈ fs) (H : tkE b L m T st en) (HL : HLn S P ln n a0 x1 b L st cs fs N Z) (HP : HPr S P a0) (M : mS (oc h) a0) (h9 : oi (oc h) a0 9 = nI L) (hb : ∀ i, oi (oc h) (a0 + 6) i = b i) (hP : ∀ O, frM a0 [] [0, 9, 10, 11, 12, 16] (oc h) O → oi O a0 16 = 0 → P O W 0 0) (cz : 0 ∉ cs) (n0 : 0 ∉ fs ∧ 9 ∉ fs) (hf : F_X12_readAll n a0 x1 h = some q) : ((T 0).1 = -1 → q.1 = 0 ∧ P (oc q.2) W 0 0) ∧ ((T 0).1 ≠ -1 → lsG P (oc q.2) q.1 a0 st N 1 (rdLines ln T N W 0)) ∧ oi (oc q.2) a0 0 = 0 ∧ oi (oc q.2) a0 9 = 0 ∧ frZ a0 cs (0 :: 9 :: 10 :: 11 :: 12 :: 16 :: fs) Z (oc h) (oc q.2) ∧ q.2.1 = h.1 := by
  unfold F_X12_readAll at hf
  replace hf := jbind hf
  obtain ⟨h1, e1, hf⟩ := hf
  replace e1 := (jcv_o e1).2
  obtain ⟨u0, u9, u10, u11, uf, uz⟩ := E_X12_uses h9 e1
  replace hf := jbind hf
  obtain ⟨h6, e2, hf⟩ := hf
  obtain ⟨o2, z2⟩ := oc_pf e2
  clear e2
  replace hf := jbind hf
  obtain ⟨h10, e3, hf⟩ := hf
  replace e3 := (jcv_o e3).2
  have f2 : frM a0 [] [16] (oc h1) (oc h6) := by rw [o2]; exact frM_f (by decide)
  have f02 : frM a0 [] [0, 9, 10, 11, 12, 16] (oc h) (oc h6) := frM_tr (frM_le uf (by decide) (by decide)) (frM_le f2 (by decide) (by decide))
  have R0 : rc (oc h6) a0 b L st 0 := ⟨0, ⟨mS_fr M f02 (by decide) (by decide), (frM_oi f2 (by decide) (by decide)).trans u11, H.1, fun i => (oi_M f02 (by simp) (by omega)).trans (hb i), (frM_oi f2 (by decide) (by decide)).trans u10, by omega⟩, cur_00 H⟩
  obtain ⟨R3, g3, f3, z3⟩ := T_blanks H R0 e3
  have f03 := frM_tr f02 (frM_le f3 (by decide) (by decide))
  have g16 : oi (oc h10) a0 16 = 0 := by rw [frM_oi f3 (by decide) (by decide), o2, oi_eq]
  have P3 := hP _ f03 g16
  have s0 := tk_L H 0
  have hL := H.1
  have g9 : oi (oc h10) a0 9 = 0 := by rw [frM_oi f3 (by decide) (by decide), frM_oi f2 (by decide) (by decide), u9]
  have g0 : oi (oc h10) a0 0 = 0 := by rw [frM_oi f3 (by decide) (by decide), frM_oi f2 (by decide) (by decide), u0]
  replace hf := jbind hf
  obtain ⟨v14, e4, hf⟩ := hf
  have r4 := oc_gI e4
  subst r4
  clear e4
  replace hf := jbind hf
  obtain ⟨v18, e5, hf⟩ := hf
  have r5 := oc_gI e5
  subst r5
  clear e5
  replace hf := jite hf
  rcases hf with ⟨c6, hf⟩ | ⟨c6, hf⟩
  · skip
    cases hf
    -- leaf 0: ((0 : Int32), h10)
    rw [R3.2.2.2.2.1, R3.2.1, nI_eq (by omega) (by omega)] at c6
    have t0 := (tk_end H 0).mp c6
    exact ⟨fun _ => ⟨rfl, P3⟩, fun z => absurd t0 z, g0, g9, frZ_n f03 (fun c hc => by simp at hc ⊢; omega), z3.trans (z2.trans uz)⟩
  · skip
    -- leaf 1: F_X12_readAll_28 n n a0 x1 (0 : Int32) h10
    rw [R3.2.2.2.2.1, R3.2.1, nI_eq (by omega) (by omega)] at c6
    have t0 : (T 0).1 ≠ -1 := fun z => c6 ((tk_end H 0).mpr z)
    obtain ⟨a1, a2, a3⟩ := E_X12_readAll_28 (N := N) (Z := Z) (cs := cs) (fs := fs) hN m10 m12 n 0 0 W H HL HP ⟨st 0, R3, cur_0 0⟩ P3 rfl (by omega) hf
    exact ⟨fun z => absurd z t0, fun _ => a1, (frM_oi a2.1 cz n0.1).trans g0, (frM_oi a2.1 cz n0.2).trans g9, frZ_tr (frZ_n f03 (fun c hc => by simp at hc ⊢; omega)) (frZ_le a2 (fun c hc => by simp [hc])), a3.trans (z3.trans (z2.trans uz))⟩
theorem E_X12_readLine_16P {b : Nat → Int32} {L : Nat} {m : Nat} {T : Nat → Int32 × Int32} {st : Nat → Nat} {en : Nat → Nat} {kk : Nat} {j : Nat} {W : jWd} {n : Nat} {a0 : Nat} {x1 : Int32} {x2 : Int32} {s0 : Int32} {s1 : Int32} {h : jH} {q : Int32 × jH} (H : tkE b L m T st en) (R : rw2 (oc h) a0 b L st kk) (hW : wl (oc h) a0 = W) (K : wOK W) (hx : s0 = nI j) (hj : j ≤ 14) (h1 : x1 = 1) (hs1 : s1 = 14) (hf : F_X12_readLine_16 n a0 x1 x2 s0 s1 h = some q) : (j < 14 → lnR (oc q.2) q.1 a0 b L st (rdPole T W kk)) ∧ (j = 14 → q.1 = 0 ∧ oi (oc q.2) a0 12 = nI (st kk)) ∧ frM a0 [1] [10, 12] (oc h) (oc q.2) ∧ q.2.1 = h.1 := by
  unfold F_X12_readLine_16 at hf
  replace hf := jite hf
  rcases hf with ⟨c1, hf⟩ | ⟨c1, hf⟩
  · skip
    cases hf
    -- leaf 0: ((0 : Int32), h)
    rw [hs1, hx, Int32.le_iff_toInt_le, nI_toInt (by omega), show (14 : Int32).toInt = 14 from rfl] at c1
    obtain ⟨e, Rb, -, g⟩ := R
    exact ⟨fun z => by omega, fun _ => ⟨rfl, g⟩, frM_rfl, rfl⟩
  · skip
    replace hf := jite hf
    rcases hf with ⟨c2, hf⟩ | ⟨c2, hf⟩
    · skip
      replace hf := jbind hf
      obtain ⟨q35, e3, hf⟩ := hf
      replace e3 := (jcv_o e3).2
      replace hf := jite hf
      rcases hf with ⟨c4, hf⟩ | ⟨c4, hf⟩
      · skip
        cases hf
        -- leaf 100: ((0 : Int32), q35.2)
        exact absurd (c2.symm.trans h1) (by decide)
      · skip
        cases hf
        -- leaf 101: ((1 : Int32), q35.2)
        exact absurd (c2.symm.trans h1) (by decide)
    · skip
      replace hf := jbind hf
      obtain ⟨q24, e5, hf⟩ := hf
      replace e5 := (jcv_o e5).2
      obtain ⟨d, f, z⟩ := E_X12_readPoleLine H R hW K e5
      replace hf := jite hf
      rcases hf with ⟨c6, hf⟩ | ⟨c6, hf⟩
      · skip
        cases hf
        -- leaf 110: ((0 : Int32), q24.2)
        rw [hs1, hx, Int32.le_iff_toInt_le, nI_toInt (by omega), show (14 : Int32).toInt = 14 from rfl] at c1
        rw [c6] at d
        exact ⟨fun _ => d, fun z => by omega, f, z⟩
      · skip
        cases hf
        -- leaf 111: ((1 : Int32), q24.2)
        rw [hs1, hx, Int32.le_iff_toInt_le, nI_toInt (by omega), show (14 : Int32).toInt = 14 from rfl] at c1
        have e1 : q24.1 = 1 := by
          rcases hR : rdPole T W kk with p | g
          · exact (d.1 p hR).1
          · exact absurd (d.2 g hR).1 c6
        rw [e1] at d
        exact ⟨fun _ => d, fun z => by omega, f, z⟩
theorem E_X12_readLineP {b : Nat → Int32} {L : Nat} {m : Nat} {T : Nat → Int32 × Int32} {st : Nat → Nat} {en : Nat → Nat} {kk : Nat} {j : Nat} {W : jWd} {n : Nat} {a0 : Nat} {x1 : Int32} {x2 : Int32} {h : jH} {q : Int32 × jH} (H : tkE b L m T st en) (R : rc (oc h) a0 b L st kk) (hW : wl (oc h) a0 = W) (K : wOK W) (hx : x2 = nI j) (hj : j ≤ 14) (hp : x1 = 1) (hf : F_X12_readLine n a0 x1 x2 h = some q) : (j < 14 → lnR (oc q.2) q.1 a0 b L st (rdPole T W kk)) ∧ (j = 14 → q.1 = 0 ∧ oi (oc q.2) a0 12 = nI (st kk)) ∧ frM a0 [1] [10, 12] (oc h) (oc q.2) ∧ q.2.1 = h.1 := by
  unfold F_X12_readLine at hf
  replace hf := jbind hf
  obtain ⟨h1, e1, hf⟩ := hf
  replace e1 := (jcv_o e1).2
  obtain ⟨R1, f1, z1⟩ := T_letters H R e1
  replace hf := jite hf
  rcases hf with ⟨c2, hf⟩ | ⟨c2, hf⟩
  · skip
    -- leaf 0: F_X12_readLine_16 n a0 x1 x2 x2 (12 : Int32) h1
    exact absurd (c2.symm.trans hp) (by decide)
  · skip
    -- leaf 1: F_X12_readLine_16 n a0 x1 x2 x2 (14 : Int32) h1
    obtain ⟨a1, a2, a3, a4⟩ := E_X12_readLine_16P (kk := kk) (W := W) H R1 (by rw [wl_f f1 (by decide)]; exact hW) K hx hj hp rfl hf
    exact ⟨a1, a2, frM_tr (frM_le f1 (by decide) (by decide)) a3, a4.trans z1⟩
def polP (x : Nat) (O : jO) (W : jWd) (_j _k : Nat) : Prop := wl O x = W ∧ wOK W
theorem polHL {n a0 : Nat} {b : Nat → Int32} {L m : Nat} {T : Nat → Int32 × Int32} {st en : Nat → Nat} (H : tkE b L m T st en) : HLn jWd (polP a0) (rdPole T) n a0 1 b L st [1] [10, 12] 14 0 := by
  intro kk j W h q R PW hj e
  obtain ⟨a1, a2, a3, a4⟩ := E_X12_readLineP H R PW.1 PW.2 rfl hj rfl e
  refine ⟨fun z => ⟨fun p y => ?_, fun f y => ?_⟩, a2, ⟨a3, fun j hj => by omega⟩, a4⟩
  · obtain ⟨b1, b2, b3⟩ := (a1 z).1 p y
    exact ⟨b1, b2, b3, (rdPole_ok PW.2 y).1⟩
  · obtain ⟨b1, b2, -⟩ := (a1 z).2 f y
    exact ⟨b1, b2⟩
theorem polHP {a0 : Nat} : HPr jWd (polP a0) a0 := fun O O2 W j k k2 P _ f => ⟨by rw [wl_f f (by decide)]; exact P.1, P.2⟩
