/-! conditions, the reference -/
def gPr (b : Nat → Int32) (L m : Nat) (T : Nat → Int32 × Int32) (st : Nat → Nat) (w c : Nat) (g : Nat → jH → Option (Int32 × jH)) : Prop :=
  ∀ (a0 k : Nat) (W : jWd) (s dp F : Nat) (h : jH) (q : Int32 × jH), rr (oc h) a0 b L st m k W s dp → dp ≤ 6 → 4 * m + c ≤ F + 4 * k → g a0 h = some q → lwR a0 b L st m h q.1 q.2 W s dp (rdG T F w dp k)
theorem rdG_0 {T : Nat → Int32 × Int32} {F dp k : Nat} : rdG T (F + 1) 0 dp k = sqP (rdG T F 2 dp k) (fun j => rdG T F 4 dp j) := by
  conv => lhs; unfold rdG
  exact if_pos rfl
theorem rdG_2 {T : Nat → Int32 × Int32} {F dp k : Nat} : rdG T (F + 1) 2 dp k = sqP (rdG T F 1 dp k) (fun j => rdG T F 3 dp j) := by
  conv => lhs; unfold rdG
  rw [if_neg (by decide), if_pos rfl]
theorem rdG_3 {T : Nat → Int32 × Int32} {F dp k : Nat} : rdG T (F + 1) 3 dp k = (if (T k).1 = 12 then sqP (rdG T F 1 dp (k + 1)) (fun j => sqP (.inl (j, [(16, 0)])) (fun i => rdG T F 3 dp i)) else .inl (k, [])) := by
  conv => lhs; unfold rdG
  rw [if_neg (by decide), if_neg (by decide), if_pos rfl]
theorem rdG_4 {T : Nat → Int32 × Int32} {F dp k : Nat} : rdG T (F + 1) 4 dp k = (if (T k).1 = 13 then sqP (rdG T F 2 dp (k + 1)) (fun j => sqP (.inl (j, [(17, 0)])) (fun i => rdG T F 4 dp i)) else .inl (k, [])) := by
  conv => lhs; unfold rdG
  rw [if_neg (by decide), if_neg (by decide), if_neg (by decide), if_pos rfl]
theorem rdG_1 {T : Nat → Int32 × Int32} {F dp k : Nat} : rdG T (F + 1) 1 dp k = (if (T k).1 = 40 then (if dp = 6 then .inr k else sqP (rdG T F 0 (dp + 1) (k + 1)) (fun j => if (T j).1 = 41 then .inl (j + 1, []) else .inr j))
    else if (T k).1 = 11 then (if dp = 6 then .inr k else sqP (rdG T F 1 (dp + 1) (k + 1)) (fun j => .inl (j, [(15, 0)])))
    else if 7 ≤ (T k).1.toInt ∧ (T k).1.toInt ≤ 10 then .inl (k + 1, [((T k).1, 0)])
    else sqP (rdSum T F k) (fun j => if (T j).1 = 60 then sqP (rdSum T F (j + 1)) (fun i => .inl (i, [(13, 0)])) else if (T j).1 = 62 then sqP (rdSum T F (j + 1)) (fun i => .inl (i, [(14, 0)])) else .inr j)) := by
  conv => lhs; unfold rdG
  rw [if_neg (by decide), if_neg (by decide), if_neg (by decide), if_neg (by decide)]
theorem rr_dp {O O2 : jO} {x L m k s dp dp2 : Nat} {b : Nat → Int32} {st : Nat → Nat} {W : jWd} (R : rr O x b L st m k W s dp) (e : O2 = u2 O x 13 (.int (nI dp2))) : rr O2 x b L st m k W s dp2 := by
  obtain ⟨R, a1, a2, a3, a4, a5, a6⟩ := R
  have f : frM x [] [13] O O2 := by rw [e]; exact frM_f (by decide)
  exact ⟨rc_fr R f (by decide) (by decide) (by decide) (by decide) (by decide), (wl_f f (by decide)).trans a1, (frM_oi f (by decide) (by decide)).trans a2, by rw [e, oi_eq], a4, a5, a6⟩
theorem E_X12_readAtom_173 {b : Nat → Int32} {L : Nat} {m : Nat} {st : Nat → Nat} {k : Nat} {W : jWd} {s : Nat} {dp : Nat} {n : Nat} {g0 : Nat → jH → Option (Int32 × jH)} {g1 : Nat → jH → Option (Int32 × jH)} {g2 : Nat → jH → Option (Int32 × jH)} {sa0 : Nat} {s1 : Int32} {h : jH} {q : Int32 × jH} (R : rr (oc h) sa0 b L st m k W s dp) (hs : s + 1 ≤ k) (hf : F_X12_readAtom_173 n g0 g1 g2 sa0 s1 h = some q) : lwR sa0 b L st m h q.1 q.2 W s dp (.inl (k, [(s1, 0)])) := by
  unfold F_X12_readAtom_173 at hf
  replace hf := jbind hf
  obtain ⟨h174, e1, hf⟩ := hf
  replace e1 := (jcv_o e1).2
  obtain ⟨R1, f1, z1⟩ := rr_em R hs e1
  cases hf
  -- leaf : ((1 : Int32), h174)
  exact lwR_l rfl rfl R1 (frM_le f1 (by decide) (by decide)) z1
theorem E_X12_readAtom_152 {b : Nat → Int32} {L : Nat} {m : Nat} {T : Nat → Int32 × Int32} {st : Nat → Nat} {en : Nat → Nat} {k : Nat} {W : jWd} {s : Nat} {dp : Nat} {F : Nat} {n : Nat} {g0 : Nat → jH → Option (Int32 × jH)} {g1 : Nat → jH → Option (Int32 × jH)} {g2 : Nat → jH → Option (Int32 × jH)} {a0 : Nat} {x1 : Int32} {h : jH} {q : Int32 × jH} (H : tkE b L m T st en) (R : rr (oc h) a0 b L st m k W s dp) (hs : s + 1 ≤ k) (hF : m < k + 1 + F) (hf : F_X12_readAtom_152 n g0 g1 g2 a0 x1 h = some q) : lwR a0 b L st m h q.1 q.2 W s dp (sqP (rdSum T F k) (fun i => .inl (i, [(if x1 = 0 then 14 else 13, 0)]))) := by
  unfold F_X12_readAtom_152 at hf
  replace hf := jbind hf
  obtain ⟨q153, e1, hf⟩ := hf
  replace e1 := (jcv_o e1).2
  have A := E_X12_readSum H R hF e1
  replace hf := jite hf
  rcases hf with ⟨c2, hf⟩ | ⟨c2, hf⟩
  · skip
    cases hf
    -- leaf 0: ((0 : Int32), q153.2)
    rcases hA : rdSum T F k with d | f
    · exact absurd (c2.symm.trans (A.1 d hA).1) (by decide)
    rw [c2] at A
    rw [← hA]
    exact lwR_sr A hA
  · skip
    replace hf := jite hf
    rcases hf with ⟨c3, hf⟩ | ⟨c3, hf⟩
    · skip
      -- leaf 10: F_X12_readAtom_173 n g0 g1 g2 a0 (14 : Int32) q153.2
      rcases hA : rdSum T F k with d | f
      rotate_left
      · exact absurd (A.2.1 f hA).1 c2
      obtain ⟨-, R4⟩ := A.1 d hA
      obtain ⟨p1, p2, p3, p4⟩ := sum_i H hA
      rw [← hA]
      refine lwR_sq hA A.2.2.1 A.2.2.2 ?_
      rw [if_pos c3]
      exact E_X12_readAtom_173 R4 (by omega) hf
    · skip
      -- leaf 11: F_X12_readAtom_173 n g0 g1 g2 a0 (13 : Int32) q153.2
      rcases hA : rdSum T F k with d | f
      rotate_left
      · exact absurd (A.2.1 f hA).1 c2
      obtain ⟨-, R4⟩ := A.1 d hA
      obtain ⟨p1, p2, p3, p4⟩ := sum_i H hA
      rw [← hA]
      refine lwR_sq hA A.2.2.1 A.2.2.2 ?_
      rw [if_neg c3]
      exact E_X12_readAtom_173 R4 (by omega) hf
