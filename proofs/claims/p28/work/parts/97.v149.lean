/-! a law's draft of the class at x + 28: codes at x + 32, stops at x + 31, kinds at x + 29, amounts at x + 30; s codes, nl lines -/
def cod (e : Int32 × Int32) : Int32 := if e.1.toInt ≤ 10 then e.1 else if e.1 = 11 then 256 + e.2 else if e.1 = 12 then 43 else if e.1 = 13 then 60 else if e.1 = 14 then 62 else if e.1 = 15 then 11 else if e.1 = 16 then 12 else 13
def cw (O : jO) (x nl s : Nat) : Prop := lawS O (x + 28) ∧ oi O (x + 28) 6 = nI s ∧ oi O (x + 28) 8 = nI nl ∧ 1 ≤ nl ∧ nl ≤ 12
/-- the codes l were put behind the first s -/
def cwA (O O2 : jO) (x nl s : Nat) (l : List Int32) : Prop :=
  (∀ i, oi O2 (x + 32) i = if s ≤ i ∧ i < s + l.length then l.getD (i - s) 0 else oi O (x + 32) i) ∧ (∀ i, oi O2 (x + 31) i = if i + 1 = nl ∧ l ≠ [] then nI (s + l.length) else oi O (x + 31) i) ∧
  ∀ a k : Nat, ¬ (a = x + 1 ∧ k = 5) → ¬ (a = x + 28 ∧ k = 6) → a ≠ x + 31 → a ≠ x + 32 → O2 a k = O a k
theorem cwA_0 {O O2 : jO} {x nl s : Nat} (f : ∀ a k : Nat, ¬ (a = x + 1 ∧ k = 5) → O2 a k = O a k) : cwA O O2 x nl s [] :=
  ⟨fun i => by rw [if_neg (by simp)]; unfold oi; rw [f _ _ (by omega)], fun i => by rw [if_neg (by simp)]; unfold oi; rw [f _ _ (by omega)], fun a k h1 _ _ _ => f a k h1⟩
theorem cwA_tr {O O2 O3 : jO} {x nl s : Nat} {l t : List Int32} (a : cwA O O2 x nl s l) (c : cwA O2 O3 x nl (s + l.length) t) : cwA O O3 x nl s (l ++ t) := by
  obtain ⟨a1, a2, a3⟩ := a
  obtain ⟨c1, c2, c3⟩ := c
  refine ⟨fun i => ?_, fun i => ?_, fun b k h1 h2 h3 h4 => (c3 b k h1 h2 h3 h4).trans (a3 b k h1 h2 h3 h4)⟩
  · rw [c1 i, List.length_append]
    by_cases y : s + l.length ≤ i ∧ i < s + l.length + t.length
    · rw [if_pos y, if_pos (by omega), List.getD_eq_getElem?_getD, List.getD_eq_getElem?_getD, List.getElem?_append_right (by omega), show i - s - l.length = i - (s + l.length) by omega]
    · rw [if_neg y, a1 i]
      by_cases z : s ≤ i ∧ i < s + l.length
      · rw [if_pos z, if_pos (by omega), List.getD_eq_getElem?_getD, List.getD_eq_getElem?_getD, List.getElem?_append_left (by omega)]
      · rw [if_neg z, if_neg (by omega)]
  · rw [c2 i, a2 i, List.length_append]
    by_cases y : i + 1 = nl
    · by_cases z : t = []
      · subst z
        rw [if_neg (by simp), List.append_nil]
        simp
      · rw [if_pos ⟨y, z⟩, if_pos ⟨y, by simp [z]⟩, Nat.add_assoc]
    · rw [if_neg (fun z => y z.1), if_neg (fun z => y z.1), if_neg (fun z => y z.1)]
/-- what the reading of a condition leaves alone, the class -/
def frC (x : Nat) (O O2 : jO) : Prop := ∀ a k : Nat, ¬ (a = x + 1 ∧ k = 5) → ¬ (a = x + 28 ∧ k = 6) → a ≠ x + 31 → a ≠ x + 32 → O2 a k = O a k
theorem frC_tr {x : Nat} {O O2 O3 : jO} (a : frC x O O2) (c : frC x O2 O3) : frC x O O3 := fun b k h1 h2 h3 h4 => (c b k h1 h2 h3 h4).trans (a b k h1 h2 h3 h4)
theorem frC_5 {x : Nat} {O O2 : jO} (f : ∀ a j : Nat, ¬ (a = x + 1 ∧ j = 5) → O2 a j = O a j) : frC x O O2 := fun a j h _ _ _ => f a j h
theorem frC_0 {x : Nat} {O : jO} : frC x O O := fun _ _ _ _ _ _ => rfl
theorem lawS_C {x : Nat} {O O2 : jO} (S : lawS O (x + 28)) (f : frC x O O2) : lawS O2 (x + 28) := by
  obtain ⟨a, b, c, d, e⟩ := S
  exact ⟨(f _ _ (by omega) (by omega) (by omega) (by omega)).trans a, (f _ _ (by omega) (by omega) (by omega) (by omega)).trans b, (f _ _ (by omega) (by omega) (by omega) (by omega)).trans c, (f _ _ (by omega) (by omega) (by omega) (by omega)).trans d, (f _ _ (by omega) (by omega) (by omega) (by omega)).trans e⟩
/-- the class's reader of laws at x + 35 -/
def rlS (O : jO) (x : Nat) : Prop := O (x + 35) 0 = .ref (x + 1) ∧ O (x + 35) 1 = .int 12 ∧ O (x + 35) 2 = .ref (x + 28)
theorem rlS_C {x : Nat} {O O2 : jO} (S : rlS O x) (f : frC x O O2) : rlS O2 x := ⟨(f _ _ (by omega) (by omega) (by omega) (by omega)).trans S.1, (f _ _ (by omega) (by omega) (by omega) (by omega)).trans S.2.1, (f _ _ (by omega) (by omega) (by omega) (by omega)).trans S.2.2⟩
/-- the class stands before thing k with s codes -/
def cc (O : jO) (x : Nat) (b : Nat → Int32) (L m : Nat) (T : Nat → Int32 × Int32) (st : Nat → Nat) (k nl s : Nat) : Prop := ck O (x + 1) b L m T st k ∧ rlS O x ∧ cw O x nl s ∧ s ≤ k
def lwC (x : Nat) (b : Nat → Int32) (L m : Nat) (T : Nat → Int32 × Int32) (st : Nat → Nat) (h : jH) (v : Int32) (h2 : jH) (nl s : Nat) (r : jRd) : Prop :=
  (∀ d, r = .inl d → v = 1 ∧ cc (oc h2) x b L m T st d.1 nl (s + d.2.length) ∧ cwA (oc h) (oc h2) x nl s (d.2.map cod)) ∧ (∀ f, r = .inr f → v = 0 ∧ ck (oc h2) (x + 1) b L m T st f ∧ ∃ s2, cw (oc h2) x nl s2) ∧ frC x (oc h) (oc h2) ∧ h2.1 = h.1
theorem lwC_l {x L m k nl s : Nat} {b : Nat → Int32} {T : Nat → Int32 × Int32} {st : Nat → Nat} {h h2 : jH} {v : Int32} {r : jRd} {l : List (Int32 × Int32)} (e : r = .inl (k, l)) (hv : v = 1) (R : cc (oc h2) x b L m T st k nl (s + l.length)) (w : cwA (oc h) (oc h2) x nl s (l.map cod)) (f : frC x (oc h) (oc h2)) (z : h2.1 = h.1) : lwC x b L m T st h v h2 nl s r :=
  ⟨fun d y => (by rw [e] at y; cases y; exact ⟨hv, R, w⟩), fun d y => (by rw [e] at y; cases y), f, z⟩
theorem lwC_r {x L m k nl s : Nat} {b : Nat → Int32} {T : Nat → Int32 × Int32} {st : Nat → Nat} {h h2 : jH} {v : Int32} {r : jRd} (e : r = .inr k) (hv : v = 0) (g : ck (oc h2) (x + 1) b L m T st k) (c : ∃ s2, cw (oc h2) x nl s2) (f : frC x (oc h) (oc h2)) (z : h2.1 = h.1) : lwC x b L m T st h v h2 nl s r :=
  ⟨fun d y => (by rw [e] at y; cases y), fun d y => (by rw [e] at y; cases y; exact ⟨hv, g, c⟩), f, z⟩
theorem lwC_sq {x L m nl s : Nat} {b : Nat → Int32} {T : Nat → Int32 × Int32} {st : Nat → Nat} {h h2 h3 : jH} {v : Int32} {a : jRd} {f : Nat → jRd} {d : Nat × List (Int32 × Int32)} (ha : a = .inl d) (w : cwA (oc h) (oc h2) x nl s (d.2.map cod)) (f12 : frC x (oc h) (oc h2)) (z12 : h2.1 = h.1) (B : lwC x b L m T st h2 v h3 nl (s + d.2.length) (f d.1)) : lwC x b L m T st h v h3 nl s (sqP a f) := by
  obtain ⟨B1, B2, B3, B4⟩ := B
  refine ⟨fun r y => ?_, fun g y => ?_, frC_tr f12 B3, B4.trans z12⟩
  · obtain ⟨d2, e, a1, a2, a3⟩ := sq_inv y
    cases ha.symm.trans a1
    subst a3
    obtain ⟨q1, q2, q3⟩ := B1 e a2
    dsimp only
    rw [List.length_append, ← Nat.add_assoc, List.map_append]
    exact ⟨q1, q2, cwA_tr w (by rw [List.length_map]; exact q3)⟩
  · rcases hf : f d.1 with e | e
    · rw [sq_ll ha hf] at y
      cases y
    · rw [sq_lr ha hf] at y
      cases y
      exact B2 _ hf
theorem cc_5 {O O2 : jO} {x L m k k2 nl s : Nat} {b : Nat → Int32} {T : Nat → Int32 × Int32} {st : Nat → Nat} (R : cc O x b L m T st k nl s) (K : ck O2 (x + 1) b L m T st k2) (f : ∀ a j : Nat, ¬ (a = x + 1 ∧ j = 5) → O2 a j = O a j) (hk : k ≤ k2) : cc O2 x b L m T st k2 nl s := by
  obtain ⟨-, a, ⟨c1, c2, c3, c4, c5⟩, d⟩ := R
  have g : ∀ j, oi O2 (x + 28) j = oi O (x + 28) j := fun j => by unfold oi; rw [f _ _ (by omega)]
  exact ⟨K, rlS_C a (frC_5 f), ⟨lawS_C c1 (frC_5 f), (g 6).trans c2, (g 8).trans c3, c4, c5⟩, by omega⟩
theorem lwC_cw {x L m nl s : Nat} {b : Nat → Int32} {T : Nat → Int32 × Int32} {st : Nat → Nat} {h h2 : jH} {v : Int32} {r : jRd} (A : lwC x b L m T st h v h2 nl s r) : ∃ s2, cw (oc h2) x nl s2 := by
  rcases r with d | f
  · exact ⟨_, (A.1 d rfl).2.1.2.2.1⟩
  · exact (A.2.1 f rfl).2.2
theorem E_X2_addCode {x : Nat} {nl : Nat} {s : Nat} {n : Nat} {a0 : Nat} {x1 : Int32} {h : jH} {q : jH} (ha : a0 = x + 28) (C : cw (oc h) x nl s) (hf : F_X2_addCode n a0 x1 h = some q) : (s < 400 → cw (oc q) x nl (s + 1) ∧ cwA (oc h) (oc q) x nl s [x1]) ∧ (∀ a k : Nat, ¬ (a = x + 28 ∧ k = 6) → a ≠ x + 31 → a ≠ x + 32 → oc q a k = oc h a k) ∧ q.1 = h.1 ∧ ∃ s2, cw (oc q) x nl s2 := by
  unfold F_X2_addCode at hf
  subst ha
  obtain ⟨LS, g6, g8, n1, n12⟩ := C
  replace hf := jbind hf
  obtain ⟨v1, e1, hf⟩ := hf
  have r1 := oc_gI e1
  subst r1
  clear e1
  replace hf := jite hf
  rcases hf with ⟨c2, hf⟩ | ⟨c2, hf⟩
  · skip
    cases hf
    -- leaf 0: h
    rw [g6, Int32.le_iff_toInt_le] at c2
    refine ⟨fun z => ?_, fun _ _ _ _ _ => rfl, rfl, s, LS, g6, g8, n1, n12⟩
    rw [nI_toInt (by omega), show (400 : Int32).toInt = 400 from rfl] at c2
    omega
  · skip
    replace hf := jbind hf
    obtain ⟨v11, e3, hf⟩ := hf
    have r3 := oc_gI e3
    subst r3
    clear e3
    replace hf := jite hf
    rcases hf with ⟨c4, hf⟩ | ⟨c4, hf⟩
    · skip
      cases hf
      -- leaf 10: h
      rw [g8, Int32.le_iff_toInt_le, nI_toInt (by omega), show (0 : Int32).toInt = 0 from rfl] at c4
      omega
    · skip
      replace hf := jbind hf
      obtain ⟨p18, e5, hf⟩ := hf
      have r5 := oc_gR e5
      rw [LS.2.2.2.1] at r5
      cases r5
      clear e5
      replace hf := jbind hf
      obtain ⟨v22, e6, hf⟩ := hf
      have r6 := oc_gI e6
      subst r6
      clear e6
      replace hf := jbind hf
      obtain ⟨h26, e7, hf⟩ := hf
      obtain ⟨o7, z7, y7⟩ := oc_as e7
      rw [jnar0] at o7
      clear e7
      replace hf := jbind hf
      obtain ⟨v29, e8, hf⟩ := hf
      have r8 := oc_gI e8
      rw [o7] at r8
      rw [oi_ne (Or.inl (by omega))] at r8
      subst r8
      clear e8
      replace hf := jbind hf
      obtain ⟨h34, e9, hf⟩ := hf
      obtain ⟨o9, z9⟩ := oc_pf e9
      clear e9
      replace hf := jbind hf
      obtain ⟨p38, e10, hf⟩ := hf
      have r10 := oc_gR e10
      rw [o9] at r10
      rw [u2_ne (Or.inr (by decide))] at r10
      rw [o7] at r10
      rw [u2_ne (Or.inl (by omega))] at r10
      rw [LS.2.2.1] at r10
      cases r10
      clear e10
      replace hf := jbind hf
      obtain ⟨v42, e11, hf⟩ := hf
      have r11 := oc_gI e11
      rw [o9] at r11
      rw [oi_ne (Or.inr (by decide))] at r11
      rw [o7] at r11
      rw [oi_ne (Or.inl (by omega))] at r11
      subst r11
      clear e11
      replace hf := jbind hf
      obtain ⟨v48, e12, hf⟩ := hf
      have r12 := oc_gI e12
      rw [o9] at r12
      rw [oi_eq] at r12
      subst r12
      clear e12
      replace hf := jbind hf
      obtain ⟨h51, e13, hf⟩ := hf
      obtain ⟨o13, z13, y13⟩ := oc_as e13
      rw [jnar0] at o13
      clear e13
      cases hf
      -- leaf 11: h51
      have o7 : oc h26 = u2 (oc h) (x + 32) _ (.int x1) := o7
      have o13 : oc q = u2 (oc h34) (x + 31) _ (.int _) := o13
      have F0 : (∀ a k : Nat, ¬ (a = x + 28 ∧ k = 6) → a ≠ x + 31 → a ≠ x + 32 → oc q a k = oc h a k) := fun a k h2 h3 h4 => by rw [o13, u2_ne (by omega), o9, u2_ne (by omega), o7, u2_ne (by omega)]
      have F : frC x (oc h) (oc q) := fun a k _ h2 h3 h4 => F0 a k h2 h3 h4
      have g60 := g6
      rw [g6, nI_1] at o9
      refine ⟨fun hs => ?_, F0, z13.trans (z9.trans z7), s + 1, lawS_C LS F, by rw [o13, oi_ne (Or.inl (by omega)), o9, oi_eq], by rw [o13, oi_ne (Or.inl (by omega)), o9, oi_ne (Or.inr (by decide)), o7, oi_ne (Or.inl (by omega))]; exact g8, n1, n12⟩
      rw [g6, nI_cl (by omega)] at o7
      rw [g8, show (1 : Int32) = nI 1 from rfl, nI_sb n1 (by omega), nI_cl (by omega), g6] at o13
      rw [show nI s + nI 1 = nI (s + 1) from nI_add s 1] at o13
      refine ⟨⟨lawS_C LS F, ?_, ?_, n1, n12⟩, fun i => ?_, fun i => ?_, F⟩
      · rw [o13, oi_ne (Or.inl (by omega)), o9, oi_eq]
      · rw [o13, oi_ne (Or.inl (by omega)), o9, oi_ne (Or.inr (by decide)), o7, oi_ne (Or.inl (by omega))]; exact g8
      · rw [o13, oi_ne (Or.inl (by omega)), o9, oi_ne (Or.inl (by omega)), o7]
        by_cases y : i = s
        · subst y
          rw [oi_eq, if_pos (by simp)]
          simp
        · rw [oi_ne (Or.inr y), if_neg (by simp; omega)]
      · rw [o13]
        by_cases y : i + 1 = nl
        · rw [show nl - 1 = i by omega, oi_eq, if_pos ⟨y, by simp⟩]
          rfl
        · rw [oi_ne (Or.inr (by omega)), if_neg (fun z => y z.1), o9, oi_ne (Or.inl (by omega)), o7, oi_ne (Or.inl (by omega))]
theorem cc_em {x L m k nl s n : Nat} {b : Nat → Int32} {T : Nat → Int32 × Int32} {st : Nat → Nat} {c : Int32} {h q : jH} (R : cc (oc h) x b L m T st k nl s) (hs : s + 1 ≤ k) (e : F_X2_addCode n (x + 28) c h = some q) : cc (oc q) x b L m T st k nl (s + 1) ∧ cwA (oc h) (oc q) x nl s [c] ∧ frC x (oc h) (oc q) ∧ q.1 = h.1 := by
  obtain ⟨a, b2, c2, d⟩ := R
  obtain ⟨e1, e2, e3, -⟩ := E_X2_addCode rfl c2 e
  have hk := a.2.2.2.2.1
  have hm := a.2.2.1
  obtain ⟨e4, e5⟩ := e1 (by omega)
  have F : frC x (oc h) (oc q) := fun i j _ h2 h3 h4 => e2 i j h2 h3 h4
  exact ⟨⟨ck_fr a (fun i j h1 h2 => e2 i j (by omega) (by omega) (by omega)), rlS_C b2 F, e4, hs⟩, e5, F, e3⟩
theorem ck_em {x L m k nl s n : Nat} {b : Nat → Int32} {T : Nat → Int32 × Int32} {st : Nat → Nat} {v : Int32} {h q : jH} (R : ck (oc h) (x + 1) b L m T st k) (C : cw (oc h) x nl s) (e : F_X2_addCode n (x + 28) v h = some q) : ck (oc q) (x + 1) b L m T st k ∧ frC x (oc h) (oc q) ∧ q.1 = h.1 ∧ ∃ s2, cw (oc q) x nl s2 := by
  obtain ⟨-, e2, e3, e4⟩ := E_X2_addCode rfl C e
  exact ⟨ck_fr R (fun i j h1 h2 => e2 i j (by omega) (by omega) (by omega)), fun i j _ h2 h3 h4 => e2 i j h2 h3 h4, e3, e4⟩
