/-! a text through the law's own method -/
theorem eq_z3 {x nx r L z : Nat} {W : jWd} {p : jH} (hz : z ≤ p.1) (E : eqS x nx r L W (z, p.2)) : eqS x nx r L W p := eq_oc E rfl hz
theorem eqz_pole {x nx r L n : Nat} {W : jWd} {h : jH} {q : jR × jH} {p : Int32 × jH} (E : eqS x nx r L W h) (J : jlen h (x + 24) = some 8 ∧ jlen h (x + 25) = some 8) (hB : ∀ i, i < 400 → -128 ≤ (oi (oc h) (x + 46) i).toInt ∧ (oi (oc h) (x + 46) i).toInt ≤ 127) (e1 : F_X11_pole n x h = some q) {h1 : jH} (ho : oc h1 = oc q.2) (hz : q.2.1 ≤ h1.1) (e2 : F_X12_pole n (x + 40) h1 = some p) :
    (∃ r2 W2, eqS x nx r2 0 W2 p.2) ∧ ansE [(0, 1), (3, 2)] q.1 p.1 (oi (oc p.2) (x + 40) 0) := by
  obtain ⟨⟨x0, x1, x3, -, -, -, ts, M⟩, ⟨n1, n2, n3, n4, n5, n6, -, -, -⟩, ⟨R, hw, K, LE, LK, LB⟩, ⟨l1, l2, l3, l4, I⟩⟩ := id E
  have C : ctb (oc h) (x + 1) (fun i => oi (oc h) (x + 46) i) L := ⟨ts, l1, l3, fun i hi => l4 i hi, hB⟩
  obtain ⟨m, T, st, en, H, a1, a2, a3, a4, a5⟩ := E_X11_pole rfl x0 x1 x3 I.1 C R K J e1
  -- whatever the answer: what the class leaves alone
  have FQ : ∀ a k : Nat, ¬ (a = x ∧ k = 12) → ¬ (a = x + 1 ∧ 4 ≤ k ∧ k ≤ 6) → ¬ (x + 3 ≤ a ∧ a ≤ x + 5) → ¬ (x + 6 ≤ a ∧ a ≤ x + 12) → ¬ (a = x + 19 ∧ k = 2) → ¬ (x + 21 ≤ a ∧ a ≤ x + 27) → oc q.2 a k = oc h a k := fun a k u1 u2 u3 u4 u5 u6 => by
    rcases hR : (if (T 0).1 = -1 then .inl W else rdLines (rdPole T) T 14 W 0 : jWd ⊕ Nat) with W2 | f
    · rcases (a2 W2 hR).2.2 with ⟨-, -, F⟩ | ⟨-, -, -, -, F⟩
      · exact F a k u1 u2 u3 u6
      · exact F a k u1 u2 u3 u4 u5 u6
    · exact (a1 f hR).2.2 a k u1 u2 u3 u6
  have k2 : ∀ a k : Nat, x + 28 ≤ a → oc q.2 a k = oc h a k := fun a k z => FQ a k (by omega) (by omega) (by omega) (by omega) (by omega) (by omega)
  have ki : ∀ a k : Nat, x + 28 ≤ a → oi (oc q.2) a k = oi (oc h) a k := fun a k z => by unfold oi; rw [k2 a k z]
  have M2 : mS (oc q.2) (x + 40) := by
    obtain ⟨s1, s2, s3, s4, s5, s8, s15, s17, s19, s20, s21⟩ := M
    have k3 : ∀ k, oc q.2 (x + 40) k = oc h (x + 40) k := fun k => k2 _ k (by omega)
    exact ⟨(k3 _).trans s1, (k3 _).trans s2, (k3 _).trans s3, (k3 _).trans s4, (k3 _).trans s5, (k3 _).trans s8, (k3 _).trans s15, (k3 _).trans s17, (k3 _).trans s19, (k3 _).trans s20, (k3 _).trans s21⟩
  have w2 : wl (oc q.2) (x + 40) = W := by rw [← hw]; funext k; exact ki (x + 41) k (by omega)
  rw [← ho] at M2 w2
  obtain ⟨b1, b2, b3, b4, b5⟩ := E_X12_pole H M2 w2 K (by rw [ho]; exact (ki _ _ (by omega)).trans l2) (fun i => by rw [ho]; exact ki (x + 46) i (by omega)) e2
  rw [ho] at b4
  try rw [ho] at b1
  try rw [ho] at b2
  have fp : ∀ a k : Nat, a ≠ x + 41 → a ≠ x + 43 → ¬ (a = x + 40 ∧ (k = 0 ∨ k = 7 ∨ (9 ≤ k ∧ k ≤ 14) ∨ k = 16)) → oc p.2 a k = oc q.2 a k := fun a k u1 u2 u3 => b4 a k (fun c hc z => by simp at hc; omega) (fun z y => u3 ⟨z, by simp at y; omega⟩)
  have fpi : ∀ a k : Nat, a ≤ x + 39 → oi (oc p.2) a k = oi (oc q.2) a k := fun a k z => by unfold oi; rw [fp a k (by omega) (by omega) (by omega)]
  have F : ∀ a k : Nat, ¬ txc x a k → oc p.2 a k = oc h a k := fun a k z => by
    unfold txc at z
    exact (fp a k (by omega) (by omega) (by omega)).trans (FQ a k (by omega) (by omega) (by omega) (by omega) (by omega) (by omega))
  have T2 : oi (oc p.2) (x + 1) 6 = nI 0 ∧ oi (oc p.2) (x + 40) 9 = nI 0 ∧ 0 ≤ 400 := ⟨(fpi _ _ (by omega)).trans a3, b3, by omega⟩
  have D2 : rodS (oc p.2) (x + 21) ∧ lawS (oc p.2) (x + 28) := ⟨rodS_fr a4 (fun k => fp _ _ (by omega) (by omega) (by omega)) (fp _ _ (by omega) (by omega) (by omega)), by
    obtain ⟨g1, g2, g3, g4, g5⟩ := I.1.2.2.2.2.2
    have g : ∀ k, oc p.2 (x + 28) k = oc h (x + 28) k := fun k => (fp _ _ (by omega) (by omega) (by omega)).trans (k2 _ _ (by omega))
    exact ⟨(g _).trans g1, (g _).trans g2, (g _).trans g3, (g _).trans g4, (g _).trans g5⟩⟩
  have fL : ∀ a k : Nat, x + 13 ≤ a → a ≤ x + 17 → oc p.2 a k = oc h a k := fun a k z1 z2 => (fp a k (by omega) (by omega) (by omega)).trans (FQ a k (by omega) (by omega) (by omega) (by omega) (by omega) (by omega))
  have f13 : oi (oc p.2) (x + 13) 7 = oi (oc h) (x + 13) 7 := by unfold oi; rw [fL _ _ (by omega) (by omega)]
  rcases hR : (if (T 0).1 = -1 then .inl W else rdLines (rdPole T) T 14 W 0 : jWd ⊕ Nat) with W2 | f
  · obtain ⟨ok, n12, d⟩ := a2 W2 hR
    obtain ⟨c14, c2, e⟩ := b2 W2 hR
    have W1 : W2 1 = W 1 := ok.2 1 (Or.inl rfl)
    have k11 := K.2.2.2.2.2.2.2.2.2.2
    have l12 : (12 : Int32).toInt = 12 := rfl
    rcases d with ⟨t12, v, G⟩ | ⟨t12, v, R2, s0, G⟩
    · rcases e with ⟨e12, v2, y0, y7, yW⟩ | ⟨e12, -⟩
      · obtain ⟨q1, q2, q3, q4, q5⟩ := wd_cb R K LE yW (fun a k z1 z2 => (fp a k (by omega) (by omega) (by omega)).trans (G a k (by omega) (by omega) (by omega) (by omega))) (fun a k z1 z2 _ => fL a k z1 (by omega))
        have g19 : oi (oc p.2) (x + 19) 2 = oi (oc h) (x + 19) 2 := by unfold oi; rw [fp _ _ (by omega) (by omega) (by omega), G _ _ (by omega) (by omega) (by omega) (by omega)]
        exact ⟨⟨r, _, eq_z3 (z := h.1) (by rw [b5]; rw [a5] at hz; exact hz) (eq_bld (h3 := (h.1, p.2.2)) E F rfl (Or.inr ⟨rfl, g19, y7.trans (ki _ _ (by omega)), f13⟩) ⟨q1, rfl, q2, q3, q4, q5⟩ T2 D2 (((fpi _ _ (by omega)).trans n12).trans c14.symm))⟩, Or.inr ⟨(3, 2), by simp, v, v2, y0⟩⟩
      · exfalso
        rw [W1] at e12
        exact t12 (by rw [Int32.lt_iff_toInt_lt]; have : (W 1).toInt ≠ 12 := fun z => e12 (Int32.toInt_inj.mp (by rw [z, l12])); omega)
    · rcases e with ⟨e12, -⟩ | ⟨e12, v2, y0, yw, y7⟩
      · exfalso
        rw [W1] at e12
        rw [e12] at t12
        exact absurd t12 (by decide)
      · have ok3 : ∀ k : Nat, k = 2 ∨ 435 ≤ k → upd W2 1 (W2 1 + 1) k = W k := fun k hk => by rw [upd_ne (by omega)]; exact ok.2 k (Or.inr hk)
        have L3 : lawE (oc p.2) (x + 13) (upd W2 1 (W2 1 + 1)) := lawE_cg (lawE_fr LE (fun a k z1 z2 _ => fL a k z1 (by omega))) ok3
        have K3 : wOK (upd W2 1 (W2 1 + 1)) := wOK_1 ok.1 (by
          rw [W1]
          rw [Int32.lt_iff_toInt_lt] at t12
          have l1 : (1 : Int32).toInt = 1 := rfl
          rw [jadd (by omega) (by omega)]
          omega)
        exact ⟨⟨0, _, eq_z3 (z := h.1) (by rw [b5]; rw [a5] at hz; exact hz) (eq_bld (h3 := (h.1, p.2.2)) E F rfl (Or.inl ⟨rfl, (fpi _ _ (by omega)).trans s0, y7⟩) ⟨rodE_fr R2 (fun a k z1 z2 => fp a k (by omega) (by omega) (by omega)), yw, K3, L3, lawK_of L3, lawB_of L3⟩ T2 D2 (((fpi _ _ (by omega)).trans n12).trans c14.symm))⟩, Or.inl ⟨by rw [v, v2], y0⟩⟩
  · obtain ⟨v, n12, G⟩ := a1 f hR
    obtain ⟨v2, y0, c14, y7, yW⟩ := b1 f hR
    obtain ⟨q1, q2, q3, q4, q5⟩ := wd_cb R K LE yW (fun a k z1 z2 => (fp a k (by omega) (by omega) (by omega)).trans (G a k (by omega) (by omega) (by omega) (by omega))) (fun a k z1 z2 _ => fL a k z1 (by omega))
    have g19 : oi (oc p.2) (x + 19) 2 = oi (oc h) (x + 19) 2 := by unfold oi; rw [fp _ _ (by omega) (by omega) (by omega), G _ _ (by omega) (by omega) (by omega) (by omega)]
    exact ⟨⟨r, _, eq_z3 (z := h.1) (by rw [b5]; rw [a5] at hz; exact hz) (eq_bld (h3 := (h.1, p.2.2)) E F rfl (Or.inr ⟨rfl, g19, y7.trans (ki _ _ (by omega)), f13⟩) ⟨q1, rfl, q2, q3, q4, q5⟩ T2 D2 (((fpi _ _ (by omega)).trans n12).trans c14.symm))⟩, Or.inr ⟨(0, 1), by simp, v, v2, y0⟩⟩
theorem eqz_law {x nx r L n : Nat} {W : jWd} {h : jH} {q : jR × jH} {p : Int32 × jH} (E : eqS x nx r L W h) (hB : ∀ i, i < 400 → -128 ≤ (oi (oc h) (x + 46) i).toInt ∧ (oi (oc h) (x + 46) i).toInt ≤ 127) (e1 : F_X11_law n x h = some q) {h1 : jH} (ho : oc h1 = oc q.2) (hz : q.2.1 ≤ h1.1) (e2 : F_X12_law n (x + 40) h1 = some p) :
    (∃ r2 W2, eqS x nx r2 0 W2 p.2) ∧ ansE [(0, 1)] q.1 p.1 (oi (oc p.2) (x + 40) 0) := by
  obtain ⟨⟨x0, x1, x3, -, -, -, ts, M⟩, ⟨n1, n2, n3, n4, n5, n6, -, -, -⟩, ⟨R, hw, K, LE, LK, LB⟩, ⟨l1, l2, l3, l4, I⟩⟩ := id E
  have C : ctb (oc h) (x + 1) (fun i => oi (oc h) (x + 46) i) L := ⟨ts, l1, l3, fun i hi => l4 i hi, hB⟩
  obtain ⟨m, T, st, en, H, hm4, a1, a2, a3, a4, a5⟩ := E_X11_law (W := W) rfl x0 x3 I.1 C LE.1 e1
  have FQ : ∀ a k : Nat, ¬ (a = x ∧ k = 12) → ¬ (a = x + 1 ∧ 4 ≤ k ∧ k ≤ 6) → ¬ (x + 3 ≤ a ∧ a ≤ x + 5) → ¬ (a = x + 28 ∧ 6 ≤ k) → ¬ (x + 29 ≤ a ∧ a ≤ x + 32) → ¬ (x + 13 ≤ a ∧ a ≤ x + 18) → ¬ (a = x + 19 ∧ k = 2) → oc q.2 a k = oc h a k := fun a k u1 u2 u3 u4 u5 u6 u7 => by
    rcases hR : (if (T 0).1 = -1 then .inl [] else rdLines (rdLaw T) T 12 [] 0 : List jLn ⊕ Nat) with S | f
    · exact (a2 S hR).2.2.2.2 a k u1 u2 u3 u4 u5 u6 u7
    · exact (a1 f hR).2.2 a k u1 u2 u3 u4 u5
  have k2 : ∀ a k : Nat, x + 33 ≤ a → oc q.2 a k = oc h a k := fun a k z => FQ a k (by omega) (by omega) (by omega) (by omega) (by omega) (by omega) (by omega)
  have ki : ∀ a k : Nat, x + 33 ≤ a → oi (oc q.2) a k = oi (oc h) a k := fun a k z => by unfold oi; rw [k2 a k z]
  have M2 : mS (oc q.2) (x + 40) := by
    obtain ⟨s1, s2, s3, s4, s5, s8, s15, s17, s19, s20, s21⟩ := M
    have k3 : ∀ k, oc q.2 (x + 40) k = oc h (x + 40) k := fun k => k2 _ k (by omega)
    exact ⟨(k3 _).trans s1, (k3 _).trans s2, (k3 _).trans s3, (k3 _).trans s4, (k3 _).trans s5, (k3 _).trans s8, (k3 _).trans s15, (k3 _).trans s17, (k3 _).trans s19, (k3 _).trans s20, (k3 _).trans s21⟩
  have w2 : wl (oc q.2) (x + 40) = W := by rw [← hw]; funext k; exact ki (x + 41) k (by omega)
  rw [← ho] at M2 w2
  obtain ⟨b1, b2, b3, b4, b5⟩ := E_X12_law H M2 w2 (by rw [ho]; exact (ki _ _ (by omega)).trans l2) (fun i => by rw [ho]; exact ki (x + 46) i (by omega)) hm4 e2
  rw [ho] at b4
  try rw [ho] at b1
  try rw [ho] at b2
  have fp : ∀ a k : Nat, a ≠ x + 41 → ¬ (a = x + 40 ∧ (k = 0 ∨ k = 7 ∨ (9 ≤ k ∧ k ≤ 14) ∨ k = 16)) → oc p.2 a k = oc q.2 a k := fun a k u1 u3 => b4 a k (fun c hc z => by simp at hc; omega) (fun z y => u3 ⟨z, by simp at y; omega⟩)
  have fpi : ∀ a k : Nat, a ≤ x + 39 → oi (oc p.2) a k = oi (oc q.2) a k := fun a k z => by unfold oi; rw [fp a k (by omega) (by omega)]
  have F : ∀ a k : Nat, ¬ txc x a k → oc p.2 a k = oc h a k := fun a k z => by
    unfold txc at z
    exact (fp a k (by omega) (by omega)).trans (FQ a k (by omega) (by omega) (by omega) (by omega) (by omega) (by omega) (by omega))
  have T2 : oi (oc p.2) (x + 1) 6 = nI 0 ∧ oi (oc p.2) (x + 40) 9 = nI 0 ∧ 0 ≤ 400 := ⟨(fpi _ _ (by omega)).trans a3, b3, by omega⟩
  have D2 : rodS (oc p.2) (x + 21) ∧ lawS (oc p.2) (x + 28) := ⟨rodS_fr I.1.2.2.2.2.1 (fun k => (fp _ _ (by omega) (by omega)).trans (FQ _ _ (by omega) (by omega) (by omega) (by omega) (by omega) (by omega) (by omega))) ((fp _ _ (by omega) (by omega)).trans (FQ _ _ (by omega) (by omega) (by omega) (by omega) (by omega) (by omega) (by omega))), by
    obtain ⟨g1, g2, g3, g4, g5⟩ := a4
    exact ⟨(fp _ _ (by omega) (by omega)).trans g1, (fp _ _ (by omega) (by omega)).trans g2, (fp _ _ (by omega) (by omega)).trans g3, (fp _ _ (by omega) (by omega)).trans g4, (fp _ _ (by omega) (by omega)).trans g5⟩⟩
  have fR : ∀ a k : Nat, x + 6 ≤ a → a ≤ x + 12 → oc p.2 a k = oc h a k := fun a k z1 z2 => (fp a k (by omega) (by omega)).trans (FQ a k (by omega) (by omega) (by omega) (by omega) (by omega) (by omega) (by omega))
  rcases hR : (if (T 0).1 = -1 then .inl [] else rdLines (rdLaw T) T 12 [] 0 : List jLn ⊕ Nat) with S | f
  · obtain ⟨v, n12, LL, s0, G⟩ := a2 S hR
    obtain ⟨v2, -, y0, c14, y7, yw⟩ := b2 S hR
    have L3 : lawE (oc p.2) (x + 13) (lawW W S) := lawE_fr LL (fun a k z1 z2 _ => fp a k (by omega) (by omega))
    exact ⟨⟨0, _, eq_z3 (z := h.1) (by rw [b5]; rw [a5] at hz; exact hz) (eq_bld (h3 := (h.1, p.2.2)) E F rfl (Or.inl ⟨rfl, (fpi _ _ (by omega)).trans s0, y7⟩) ⟨rodE_c2 (rodE_fr R (fun a k z1 z2 => fR a k z1 (by omega))) K (fun k h1 h2 => lawW_lo h1 h2), yw, wOK_c2 K (fun k h1 h2 => lawW_lo (by omega) h2), L3, lawK_of L3, lawB_of L3⟩ T2 D2 (((fpi _ _ (by omega)).trans n12).trans c14.symm))⟩, Or.inl ⟨by rw [v, v2], y0⟩⟩
  · obtain ⟨v, n12, G⟩ := a1 f hR
    obtain ⟨v2, y0, c14, y7, yW⟩ := b1 f hR
    have fL : ∀ a k : Nat, x + 13 ≤ a → a ≤ x + 18 → oc p.2 a k = oc h a k := fun a k z1 z2 => (fp a k (by omega) (by omega)).trans (G a k (by omega) (by omega) (by omega) (by omega) (by omega))
    obtain ⟨q1, q2, q3, q4, q5⟩ := wd_cb R K LE yW (fun a k z1 z2 => fR a k z1 (by omega)) (fun a k z1 z2 _ => fL a k z1 (by omega))
    have g19 : oi (oc p.2) (x + 19) 2 = oi (oc h) (x + 19) 2 := by unfold oi; rw [fp _ _ (by omega) (by omega), G _ _ (by omega) (by omega) (by omega) (by omega) (by omega)]
    have f13 : oi (oc p.2) (x + 13) 7 = oi (oc h) (x + 13) 7 := by unfold oi; rw [fL _ _ (by omega) (by omega)]
    exact ⟨⟨r, _, eq_z3 (z := h.1) (by rw [b5]; rw [a5] at hz; exact hz) (eq_bld (h3 := (h.1, p.2.2)) E F rfl (Or.inr ⟨rfl, g19, y7.trans (ki _ _ (by omega)), f13⟩) ⟨q1, rfl, q2, q3, q4, q5⟩ T2 D2 (((fpi _ _ (by omega)).trans n12).trans c14.symm))⟩, Or.inr ⟨(0, 1), by simp, v, v2, y0⟩⟩
