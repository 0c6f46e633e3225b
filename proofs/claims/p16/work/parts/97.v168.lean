section
/-! a text through the law's own method -/
theorem eq_z3 {x nx r L z : Nat} {W : jWd} {p : jH} (hz : z ≤ p.1) (E : eqS x nx r L W (z, p.2)) : eqS x nx r L W p := eq_oc E rfl hz
theorem eqz_pole {x nx r L n : Nat} {W : jWd} {h : jH} {q : jR × jH} {p : Int32 × jH} (E : eqS x nx r L W h) (J : jlen h (x + 24) = some 8 ∧ jlen h (x + 25) = some 8) (hB : ∀ i, i < 400 → -128 ≤ (oi (oc h) (x + 46) i).toInt ∧ (oi (oc h) (x + 46) i).toInt ≤ 127) (e1 : F_X11_pole n x h = some q) {h1 : jH} (ho : oc h1 = oc q.2) (hz : q.2.1 ≤ h1.1) (e2 : F_X12_pole n (x + 40) h1 = some p) :
    (∃ r2 W2, eqS x nx r2 0 W2 p.2) ∧ ansE [(0, 1), (3, 2)] q.1 p.1 (oi (oc p.2) (x + 40) 0) := by
  obtain ⟨⟨x0, x1, x3, -, -, -, ts, M⟩, ⟨n1, n2, n3, n4, n5, n6, -, -, -⟩, ⟨R, hw, K, LE, LK, LB⟩, ⟨l1, l2, l3, l4, I⟩⟩ := id E
  have C : ctb (oc h) (x + 1) (fun i => oi (oc h) (x + 46) i) L := ⟨ts, l1, l3, fun i hi => l4 i hi, hB⟩
  obtain ⟨m, T, st, en, H, a1, a2, a3, a4, a5⟩ := E_X11_pole rfl x0 x1 x3 I.1 C R K J e1
  -- whatever the answer: what the class leaves alone
  have FQ : ∀ a k : Nat, ¬ (a = x ∧ k = 12) → ¬ (a = x + 1 ∧ 4 ≤ k ∧ k ≤ 6) → ¬ (x + 3 ≤ a ∧ a ≤ x + 5) → ¬ (x + 6 ≤ a ∧ a ≤ x + 12) → ¬ (a = x + 19 ∧ k = 2) → ¬ (x + 21 ≤ a ∧ a ≤ x + 27) → oc q.2 a k = oc h a k := fun a k u1 u2 u3 u4 u5 u6 => by
    rcases hR : (if (T 0).1 = -1 then .inl W else rdLines (rdPole T) T 14 W 0 : jWd ⊕ Nat) with W2 | f
    · rcases (a2 W2 hR).2.2 with ⟨-, -, F⟩ | ⟨-, -, -, -, F⟩
      · exact F a k u1 u2 u3 u6
      · exact F a k u1 u2 u3 u4 u5 u6
    · exact (a1 f hR).2.2 a k u1 u2 u3 u6
  have k2 : ∀ a k : Nat, x + 28 ≤ a → oc q.2 a k = oc h a k := fun a k z => FQ a k (by omega) (by omega) (by omega) (by omega) (by omega) (by omega)
  have ki : ∀ a k : Nat, x + 28 ≤ a → oi (oc q.2) a k = oi (oc h) a k := fun a k z => by unfold oi; rw [k2 a k z]
  have M2 : mS (oc q.2) (x + 40) := by
    obtain ⟨s1, s2, s3, s4, s5, s8, s15, s17, s19, s20, s21⟩ := M
    have k3 : ∀ k, oc q.2 (x + 40) k = oc h (x + 40) k := fun k => k2 _ k (by omega)
    exact ⟨(k3 _).trans s1, (k3 _).trans s2, (k3 _).trans s3, (k3 _).trans s4, (k3 _).trans s5, (k3 _).trans s8, (k3 _).trans s15, (k3 _).trans s17, (k3 _).trans s19, (k3 _).trans s20, (k3 _).trans s21⟩
  have w2 : wl (oc q.2) (x + 40) = W := by rw [← hw]; funext k; exact ki (x + 41) k (by omega)
  rw [← ho] at M2 w2
  obtain ⟨b1, b2, b3, b4, b5⟩ := E_X12_pole H M2 w2 K (by rw [ho]; exact (ki _ _ (by omega)).trans l2) (fun i => by rw [ho]; exact ki (x + 46) i (by omega)) e2
  rw [ho] at b4
  try rw [ho] at b1
  try rw [ho] at b2
  have fp : ∀ a k : Nat, a ≠ x + 41 → a ≠ x + 43 → ¬ (a = x + 40 ∧ (k = 0 ∨ k = 7 ∨ (9 ≤ k ∧ k ≤ 14) ∨ k = 16)) → oc p.2 a k = oc q.2 a k := fun a k u1 u2 u3 => b4 a k (fun c hc z => by simp at hc; omega) (fun z y => u3 ⟨z, by simp at y; omega⟩)
  have fpi : ∀ a k : Nat, a ≤ x + 39 → oi (oc p.2) a k = oi (oc q.2) a k := fun a k z => by unfold oi; rw [fp a k (by omega) (by omega) (by omega)]
  have F : ∀ a k : Nat, ¬ txc x a k → oc p.2 a k = oc h a k := fun a k z => by
    unfold txc at z
    exact (fp a k (by omega) (by omega) (by omega)).trans (FQ a k (by omega) (by omega) (by omega) (by omega) (by omega) (by omega))
  have T2 : oi (oc p.2) (x + 1) 6 = nI 0 ∧ oi (oc p.2) (x + 40) 9 = nI 0 ∧ 0 ≤ 400 := ⟨(fpi _ _ (by omega)).trans a3, b3, by omega⟩
  have D2 : rodS (oc p.2) (x + 21) ∧ lawS (oc p.2) (x + 28) := ⟨rodS_fr a4 (fun k => fp _ _ (by omega) (by omega) (by omega)) (fp _ _ (by omega) (by omega) (by omega)), by
    obtain ⟨g1, g2, g3, g4, g5⟩ := I.1.2.2.2.2.2
    have g : ∀ k, oc p.2 (x + 28) k = oc h (x + 28) k := fun k => (fp _ _ (by omega) (by omega) (by omega)).trans (k2 _ _ (by omega))
    exact ⟨(g _).trans g1, (g _).trans g2, (g _).trans g3, (g _).trans g4, (g _).trans g5⟩⟩
  have fL : ∀ a k : Nat, x + 13 ≤ a → a ≤ x + 17 → oc p.2 a k = oc h a k := fun a k z1 z2 => (fp a k (by omega) (by omega) (by omega)).trans (FQ a k (by omega) (by omega) (by omega) (by omega) (by omega) (by omega))
  have f13 : oi (oc p.2) (x + 13) 7 = oi (oc h) (x + 13) 7 := by unfold oi; rw [fL _ _ (by omega) (by omega)]
  rcases hR : (if (T 0).1 = -1 then .inl W else rdLines (rdPole T) T 14 W 0 : jWd ⊕ Nat) with W2 | f
  · obtain ⟨ok, n12, d⟩ := a2 W2 hR
    obtain ⟨c14, c2, e⟩ := b2 W2 hR
    have W1 : W2 1 = W 1 := ok.2 1 (Or.inl rfl)
    have k11 := K.2.2.2.2.2.2.2.2.2.2
    have l12 : (12 : Int32).toInt = 12 := rfl
    rcases d with ⟨t12, v, G⟩ | ⟨t12, v, R2, s0, G⟩
    · rcases e with ⟨e12, v2, y0, y7, yW⟩ | ⟨e12, -⟩
      · obtain ⟨q1, q2, q3, q4, q5⟩ := wd_cb R K LE yW (fun a k z1 z2 => (fp a k (by omega) (by omega) (by omega)).trans (G a k (by omega) (by omega) (by omega) (by omega))) (fun a k z1 z2 _ => fL a k z1 (by omega))
        have g19 : oi (oc p.2) (x + 19) 2 = oi (oc h) (x + 19) 2 := by unfold oi; rw [fp _ _ (by omega) (by omega) (by omega), G _ _ (by omega) (by omega) (by omega) (by omega)]
        exact ⟨⟨r, _, eq_z3 (z := h.1) (by rw [b5]; rw [a5] at hz; exact hz) (eq_bld (h3 := (h.1, p.2.2)) E F rfl (Or.inr ⟨rfl, g19, y7.trans (ki _ _ (by omega)), f13⟩) ⟨q1, rfl, q2, q3, q4, q5⟩ T2 D2 (((fpi _ _ (by omega)).trans n12).trans c14.symm))⟩, Or.inr ⟨(3, 2), by simp, v, v2, y0⟩⟩
      · exfalso
        rw [W1] at e12
        exact t12 (by rw [Int32.lt_iff_toInt_lt]; have : (W 1).toInt ≠ 12 := fun z => e12 (Int32.toInt_inj.mp (by rw [z, l12])); omega)
    · rcases e with ⟨e12, -⟩ | ⟨e12, v2, y0, yw, y7⟩
      · exfalso
        rw [W1] at e12
        rw [e12] at t12
        exact absurd t12 (by decide)
      · have ok3 : ∀ k : Nat, k = 2 ∨ 435 ≤ k → upd W2 1 (W2 1 + 1) k = W k := fun k hk => by rw [upd_ne (by omega)]; exact ok.2 k (Or.inr hk)
        have L3 : lawE (oc p.2) (x + 13) (upd W2 1 (W2 1 + 1)) := lawE_cg (lawE_fr LE (fun a k z1 z2 _ => fL a k z1 (by omega))) ok3
        have K3 : wOK (upd W2 1 (W2 1 + 1)) := wOK_1 ok.1 (by
          rw [W1]
          rw [Int32.lt_iff_toInt_lt] at t12
          have l1 : (1 : Int32).toInt = 1 := rfl
          rw [jadd (by omega) (by omega)]
          omega)
        exact ⟨⟨0, _, eq_z3 (z := h.1) (by rw [b5]; rw [a5] at hz; exact hz) (eq_bld (h3 := (h.1, p.2.2)) E F rfl (Or.inl ⟨rfl, (fpi _ _ (by omega)).trans s0, y7⟩) ⟨rodE_fr R2 (fun a k z1 z2 => fp a k (by omega) (by omega) (by omega)), yw, K3, L3, lawK_of L3, lawB_of L3⟩ T2 D2 (((fpi _ _ (by omega)).trans n12).trans c14.symm))⟩, Or.inl ⟨by rw [v, v2], y0⟩⟩
  · obtain ⟨v, n12, G⟩ := a1 f hR
    obtain ⟨v2, y0, c14, y7, yW⟩ := b1 f hR
    obtain ⟨q1, q2, q3, q4, q5⟩ := wd_cb R K LE yW (fun a k z1 z2 => (fp a k (by omega) (by omega) (by omega)).trans (G a k (by omega) (by omega) (by omega) (by omega))) (fun a k z1 z2 _ => fL a k z1 (by omega))
    have g19 : oi (oc p.2) (x + 19) 2 = oi (oc h) (x + 19) 2 := by unfold oi; rw [fp _ _ (by omega) (by omega) (by omega), G _ _ (by omega) (by omega) (by omega) (by omega)]
    exact ⟨⟨r, _, eq_z3 (z := h.1) (by rw [b5]; rw [a5] at hz; exact hz) (eq_bld (h3 := (h.1, p.2.2)) E F rfl (Or.inr ⟨rfl, g19, y7.trans (ki _ _ (by omega)), f13⟩) ⟨q1, rfl, q2, q3, q4, q5⟩ T2 D2 (((fpi _ _ (by omega)).trans n12).trans c14.symm))⟩, Or.inr ⟨(0, 1), by simp, v, v2, y0⟩⟩
theorem eqz_law {x nx r L n : Nat} {W : jWd} {h : jH} {q : jR × jH} {p : Int32 × jH} (E : eqS x nx r L W h) (hB : ∀ i, i < 400 → -128 ≤ (oi (oc h) (x + 46) i).toInt ∧ (oi (oc h) (x + 46) i).toInt ≤ 127) (e1 : F_X11_law n x h = some q) {h1 : jH} (ho : oc h1 = oc q.2) (hz : q.2.1 ≤ h1.1) (e2 : F_X12_law n (x + 40) h1 = some p) :
    (∃ r2 W2, eqS x nx r2 0 W2 p.2) ∧ ansE [(0, 1)] q.1 p.1 (oi (oc p.2) (x + 40) 0) := by
  obtain ⟨⟨x0, x1, x3, -, -, -, ts, M⟩, ⟨n1, n2, n3, n4, n5, n6, -, -, -⟩, ⟨R, hw, K, LE, LK, LB⟩, ⟨l1, l2, l3, l4, I⟩⟩ := id E
  have C : ctb (oc h) (x + 1) (fun i => oi (oc h) (x + 46) i) L := ⟨ts, l1, l3, fun i hi => l4 i hi, hB⟩
  obtain ⟨m, T, st, en, H, hm4, a1, a2, a3, a4, a5⟩ := E_X11_law (W := W) rfl x0 x3 I.1 C LE.1 e1
  have FQ : ∀ a k : Nat, ¬ (a = x ∧ k = 12) → ¬ (a = x + 1 ∧ 4 ≤ k ∧ k ≤ 6) → ¬ (x + 3 ≤ a ∧ a ≤ x + 5) → ¬ (a = x + 28 ∧ 6 ≤ k) → ¬ (x + 29 ≤ a ∧ a ≤ x + 32) → ¬ (x + 13 ≤ a ∧ a ≤ x + 18) → ¬ (a = x + 19 ∧ k = 2) → oc q.2 a k = oc h a k := fun a k u1 u2 u3 u4 u5 u6 u7 => by
    rcases hR : (if (T 0).1 = -1 then .inl [] else rdLines (rdLaw T) T 12 [] 0 : List jLn ⊕ Nat) with S | f
    · exact (a2 S hR).2.2.2.2 a k u1 u2 u3 u4 u5 u6 u7
    · exact (a1 f hR).2.2 a k u1 u2 u3 u4 u5
  have k2 : ∀ a k : Nat, x + 33 ≤ a → oc q.2 a k = oc h a k := fun a k z => FQ a k (by omega) (by omega) (by omega) (by omega) (by omega) (by omega) (by omega)
  have ki : ∀ a k : Nat, x + 33 ≤ a → oi (oc q.2) a k = oi (oc h) a k := fun a k z => by unfold oi; rw [k2 a k z]
  have M2 : mS (oc q.2) (x + 40) := by
    obtain ⟨s1, s2, s3, s4, s5, s8, s15, s17, s19, s20, s21⟩ := M
    have k3 : ∀ k, oc q.2 (x + 40) k = oc h (x + 40) k := fun k => k2 _ k (by omega)
    exact ⟨(k3 _).trans s1, (k3 _).trans s2, (k3 _).trans s3, (k3 _).trans s4, (k3 _).trans s5, (k3 _).trans s8, (k3 _).trans s15, (k3 _).trans s17, (k3 _).trans s19, (k3 _).trans s20, (k3 _).trans s21⟩
  have w2 : wl (oc q.2) (x + 40) = W := by rw [← hw]; funext k; exact ki (x + 41) k (by omega)
  rw [← ho] at M2 w2
  obtain ⟨b1, b2, b3, b4, b5⟩ := E_X12_law H M2 w2 (by rw [ho]; exact (ki _ _ (by omega)).trans l2) (fun i => by rw [ho]; exact ki (x + 46) i (by omega)) hm4 e2
  rw [ho] at b4
  try rw [ho] at b1
  try rw [ho] at b2
  have fp : ∀ a k : Nat, a ≠ x + 41 → ¬ (a = x + 40 ∧ (k = 0 ∨ k = 7 ∨ (9 ≤ k ∧ k ≤ 14) ∨ k = 16)) → oc p.2 a k = oc q.2 a k := fun a k u1 u3 => b4 a k (fun c hc z => by simp at hc; omega) (fun z y => u3 ⟨z, by simp at y; omega⟩)
  have fpi : ∀ a k : Nat, a ≤ x + 39 → oi (oc p.2) a k = oi (oc q.2) a k := fun a k z => by unfold oi; rw [fp a k (by omega) (by omega)]
  have F : ∀ a k : Nat, ¬ txc x a k → oc p.2 a k = oc h a k := fun a k z => by
    unfold txc at z
    exact (fp a k (by omega) (by omega)).trans (FQ a k (by omega) (by omega) (by omega) (by omega) (by omega) (by omega) (by omega))
  have T2 : oi (oc p.2) (x + 1) 6 = nI 0 ∧ oi (oc p.2) (x + 40) 9 = nI 0 ∧ 0 ≤ 400 := ⟨(fpi _ _ (by omega)).trans a3, b3, by omega⟩
  have D2 : rodS (oc p.2) (x + 21) ∧ lawS (oc p.2) (x + 28) := ⟨rodS_fr I.1.2.2.2.2.1 (fun k => (fp _ _ (by omega) (by omega)).trans (FQ _ _ (by omega) (by omega) (by omega) (by omega) (by omega) (by omega) (by omega))) ((fp _ _ (by omega) (by omega)).trans (FQ _ _ (by omega) (by omega) (by omega) (by omega) (by omega) (by omega) (by omega))), by
    obtain ⟨g1, g2, g3, g4, g5⟩ := a4
    exact ⟨(fp _ _ (by omega) (by omega)).trans g1, (fp _ _ (by omega) (by omega)).trans g2, (fp _ _ (by omega) (by omega)).trans g3, (fp _ _ (by omega) (by omega)).trans g4, (fp _ _ (by omega) (by omega)).trans g5⟩⟩
  have fR : ∀ a k : Nat, x + 6 ≤ a → a ≤ x + 12 → oc p.2 a k = oc h a k := fun a k z1 z2 => (fp a k (by omega) (by omega)).trans (FQ a k (by omega) (by omega) (by omega) (by omega) (by omega) (by omega) (by omega))
  rcases hR : (if (T 0).1 = -1 then .inl [] else rdLines (rdLaw T) T 12 [] 0 : List jLn ⊕ Nat) with S | f
  · obtain ⟨v, n12, LL, s0, G⟩ := a2 S hR
    obtain ⟨v2, -, y0, c14, y7, yw⟩ := b2 S hR
    have L3 : lawE (oc p.2) (x + 13) (lawW W S) := lawE_fr LL (fun a k z1 z2 _ => fp a k (by omega) (by omega))
    exact ⟨⟨0, _, eq_z3 (z := h.1) (by rw [b5]; rw [a5] at hz; exact hz) (eq_bld (h3 := (h.1, p.2.2)) E F rfl (Or.inl ⟨rfl, (fpi _ _ (by omega)).trans s0, y7⟩) ⟨rodE_c2 (rodE_fr R (fun a k z1 z2 => fR a k z1 (by omega))) K (fun k h1 h2 => lawW_lo h1 h2), yw, wOK_c2 K (fun k h1 h2 => lawW_lo (by omega) h2), L3, lawK_of L3, lawB_of L3⟩ T2 D2 (((fpi _ _ (by omega)).trans n12).trans c14.symm))⟩, Or.inl ⟨by rw [v, v2], y0⟩⟩
  · obtain ⟨v, n12, G⟩ := a1 f hR
    obtain ⟨v2, y0, c14, y7, yW⟩ := b1 f hR
    have fL : ∀ a k : Nat, x + 13 ≤ a → a ≤ x + 18 → oc p.2 a k = oc h a k := fun a k z1 z2 => (fp a k (by omega) (by omega)).trans (G a k (by omega) (by omega) (by omega) (by omega) (by omega))
    obtain ⟨q1, q2, q3, q4, q5⟩ := wd_cb R K LE yW (fun a k z1 z2 => fR a k z1 (by omega)) (fun a k z1 z2 _ => fL a k z1 (by omega))
    have g19 : oi (oc p.2) (x + 19) 2 = oi (oc h) (x + 19) 2 := by unfold oi; rw [fp _ _ (by omega) (by omega), G _ _ (by omega) (by omega) (by omega) (by omega) (by omega)]
    have f13 : oi (oc p.2) (x + 13) 7 = oi (oc h) (x + 13) 7 := by unfold oi; rw [fL _ _ (by omega) (by omega)]
    exact ⟨⟨r, _, eq_z3 (z := h.1) (by rw [b5]; rw [a5] at hz; exact hz) (eq_bld (h3 := (h.1, p.2.2)) E F rfl (Or.inr ⟨rfl, g19, y7.trans (ki _ _ (by omega)), f13⟩) ⟨q1, rfl, q2, q3, q4, q5⟩ T2 D2 (((fpi _ _ (by omega)).trans n12).trans c14.symm))⟩, Or.inr ⟨(0, 1), by simp, v, v2, y0⟩⟩
end
section
/-! questions: class alone, reference alone -/
theorem eqc {x nx r L : Nat} {W : jWd} {h h2 : jH} (E : eqS x nx r L W h) (C : frK x h h2) : eqS x nx r L W h2 := eq_Q (cs := []) (fs := []) E C frM_rfl (by decide) (by decide) rfl (fun _ => rfl)
theorem eqr_ring {x nx r L n2 : Nat} {W : jWd} {h : jH} {zx1 : Int32} {zx2 : Int32} {q : Int32 × jH} (E : eqS x nx r L W h) (e2 : F_X12_ring n2 (x + 40) zx1 zx2 h = some q) : eqS x nx r L W q.2 := eq_Q E frK_rfl (FQ_X12_ring (cls_of E).2 e2) (by decide) (by decide) (FZ_X12_ring e2) (fq_w (FQ_X12_ring (cls_of E).2 e2) (by decide))
theorem eqr_with {x nx r L n2 : Nat} {W : jWd} {h : jH} {zx1 : Int32} {zx2 : Int32} {q : Int32 × jH} (E : eqS x nx r L W h) (e2 : F_X12_with n2 (x + 40) zx1 zx2 h = some q) : eqS x nx r L W q.2 := eq_Q E frK_rfl (FQ_X12_with (cls_of E).2 e2) (by decide) (by decide) (FZ_X12_with e2) (fq_w (FQ_X12_with (cls_of E).2 e2) (by decide))
theorem eqr_tight {x nx r L n2 : Nat} {W : jWd} {h : jH} {zx1 : Int32} {q : Int32 × jH} (E : eqS x nx r L W h) (e2 : F_X12_tight n2 (x + 40) zx1 h = some q) : eqS x nx r L W q.2 := eq_Q E frK_rfl (FQ_X12_tight (cls_of E).2 e2) (by decide) (by decide) (FZ_X12_tight e2) (fq_w (FQ_X12_tight (cls_of E).2 e2) (by decide))
theorem eqr_lit {x nx r L n2 : Nat} {W : jWd} {h : jH} {zx1 : Int32} {q : Int32 × jH} (E : eqS x nx r L W h) (e2 : F_X12_lit n2 (x + 40) zx1 h = some q) : eqS x nx r L W q.2 := eq_Q E frK_rfl (FQ_X12_lit (cls_of E).2 e2) (by decide) (by decide) (FZ_X12_lit e2) (fq_w (FQ_X12_lit (cls_of E).2 e2) (by decide))
theorem eqr_lets {x nx r L n2 : Nat} {W : jWd} {h : jH} {zx1 : Int32} {zx2 : Int32} {q : Int32 × jH} (E : eqS x nx r L W h) (e2 : F_X12_lets n2 (x + 40) zx1 zx2 h = some q) : eqS x nx r L W q.2 := eq_Q E frK_rfl (FQ_X12_lets (cls_of E).2 e2) (by decide) (by decide) (FZ_X12_lets e2) (fq_w (FQ_X12_lets (cls_of E).2 e2) (by decide))
theorem eqr_rests {x nx r L n2 : Nat} {W : jWd} {h : jH} {zx1 : Int32} {q : Int32 × jH} (E : eqS x nx r L W h) (e2 : F_X12_rests n2 (x + 40) zx1 h = some q) : eqS x nx r L W q.2 := eq_Q E frK_rfl (FQ_X12_rests (cls_of E).2 e2) (by decide) (by decide) (FZ_X12_rests e2) (fq_w (FQ_X12_rests (cls_of E).2 e2) (by decide))
theorem eqr_odds {x nx r L n2 : Nat} {W : jWd} {h : jH} {zx1 : Int32} {zx2 : Int32} {q : Int32 × jH} (E : eqS x nx r L W h) (e2 : F_X12_odds n2 (x + 40) zx1 zx2 h = some q) : eqS x nx r L W q.2 := eq_Q E frK_rfl (FQ_X12_odds (cls_of E).2 e2) (by decide) (by decide) (FZ_X12_odds e2) (fq_w (FQ_X12_odds (cls_of E).2 e2) (by decide))
theorem eqr_led {x nx r L n2 : Nat} {W : jWd} {h : jH} {zx1 : Int32} {zx2 : Int32} {q : Int32 × jH} (E : eqS x nx r L W h) (e2 : F_X12_led n2 (x + 40) zx1 zx2 h = some q) : eqS x nx r L W q.2 := eq_Q E frK_rfl (FQ_X12_led (cls_of E).2 e2) (by decide) (by decide) (FZ_X12_led e2) (fq_w (FQ_X12_led (cls_of E).2 e2) (by decide))
theorem eqr_log {x nx r L n2 : Nat} {W : jWd} {h : jH} {zx1 : Int32} {zx2 : Int32} {q : Int32 × jH} (E : eqS x nx r L W h) (e2 : F_X12_log n2 (x + 40) zx1 zx2 h = some q) : eqS x nx r L W q.2 := eq_Q E frK_rfl (FQ_X12_log (cls_of E).2 e2) (by decide) (by decide) (FZ_X12_log e2) (fq_w (FQ_X12_log (cls_of E).2 e2) (by decide))
theorem eqr_goes {x nx r L n2 : Nat} {W : jWd} {h : jH} {zx1 : Int32} {zx2 : Int32} {q : Int32 × jH} (E : eqS x nx r L W h) (e2 : F_X12_goes n2 (x + 40) zx1 zx2 h = some q) {g : jGh} {Γ : Nat → Option Nat} (w2 : jW (jKd g) Γ h) (w3 : jW (jKd g) Γ q.2) (ha : Γ (x + 40 + 1) = some 21) : eqS x nx r L W q.2 := eq_Q E frK_rfl (FQ_X12_goes (cls_of E).2 e2) (by decide) (by decide) (FZ_X12_goes e2) (wr_w w2 w3 ha (BQ_X12_goes e2) (WR_X12_goes (cls_of E).2 ⟨fun _ _ _ => rfl, fun z => by cases z⟩ e2))
theorem eqr_would {x nx r L n2 : Nat} {W : jWd} {h : jH} {zx1 : Int32} {zx2 : Int32} {zx3 : Int32} {zx4 : Int32} {q : Int32 × jH} (E : eqS x nx r L W h) (e2 : F_X12_would n2 (x + 40) zx1 zx2 zx3 zx4 h = some q) {g : jGh} {Γ : Nat → Option Nat} (w2 : jW (jKd g) Γ h) (w3 : jW (jKd g) Γ q.2) (ha : Γ (x + 40 + 1) = some 21) : eqS x nx r L W q.2 := eq_Q E frK_rfl (FQ_X12_would (cls_of E).2 e2) (by decide) (by decide) (FZ_X12_would e2) (wr_w w2 w3 ha (BQ_X12_would e2) (WR_X12_would (cls_of E).2 ⟨fun _ _ _ => rfl, fun z => by cases z⟩ e2))
theorem eqr_loosen {x nx r L n2 : Nat} {W : jWd} {h : jH} {zx1 : Int32} {zx2 : Int32} {zx3 : Int32} {q : Int32 × jH} (E : eqS x nx r L W h) (e2 : F_X12_loosen n2 (x + 40) zx1 zx2 zx3 h = some q) {g : jGh} {Γ : Nat → Option Nat} (w2 : jW (jKd g) Γ h) (w3 : jW (jKd g) Γ q.2) (ha : Γ (x + 40 + 1) = some 21) : eqS x nx r L W q.2 := eq_Q E frK_rfl (FQ_X12_loosen (cls_of E).2 e2) (by decide) (by decide) (FZ_X12_loosen e2) (wr_w w2 w3 ha (BQ_X12_loosen e2) (WR_X12_loosen (cls_of E).2 ⟨fun _ _ _ => rfl, fun z => by cases z⟩ e2))
theorem eqr_faded {x nx r L n2 : Nat} {W : jWd} {h : jH} {zx1 : Int32} {q : Int32 × jH} (E : eqS x nx r L W h) (e2 : F_X12_faded n2 (x + 40) zx1 h = some q) {g : jGh} {Γ : Nat → Option Nat} (w2 : jW (jKd g) Γ h) (w3 : jW (jKd g) Γ q.2) (ha : Γ (x + 40 + 1) = some 21) : eqS x nx r L W q.2 := eq_Q E frK_rfl (FQ_X12_faded (cls_of E).2 e2) (by decide) (by decide) (FZ_X12_faded e2) (wr_w w2 w3 ha (BQ_X12_faded e2) (WR_X12_faded (cls_of E).2 ⟨fun _ _ _ => rfl, fun z => by cases z⟩ e2))
theorem eqr_ahead {x nx r L n2 : Nat} {W : jWd} {h : jH} {zx1 : Int32} {zx2 : Int32} {q : Int32 × jH} (E : eqS x nx r L W h) (e2 : F_X12_ahead n2 (x + 40) zx1 zx2 h = some q) {g : jGh} {Γ : Nat → Option Nat} (w2 : jW (jKd g) Γ h) (w3 : jW (jKd g) Γ q.2) (ha : Γ (x + 40 + 1) = some 21) : eqS x nx r L W q.2 := eq_Q E frK_rfl (FQ_X12_ahead (cls_of E).2 e2) (by decide) (by decide) (FZ_X12_ahead e2) (wr_w w2 w3 ha (BQ_X12_ahead e2) (WR_X12_ahead (cls_of E).2 ⟨fun _ _ _ => rfl, fun z => by cases z⟩ e2))
theorem eqr_trial {x nx r L n2 : Nat} {W : jWd} {h : jH} {zx1 : Int32} {zx2 : Int32} {q : Int32 × jH} (E : eqS x nx r L W h) (e2 : F_X12_trial n2 (x + 40) zx1 zx2 h = some q) {g : jGh} {Γ : Nat → Option Nat} (w2 : jW (jKd g) Γ h) (w3 : jW (jKd g) Γ q.2) (ha : Γ (x + 40 + 1) = some 21) : eqS x nx r L W q.2 := eq_Q E frK_rfl (FQ_X12_trial (cls_of E).2 e2) (by decide) (by decide) (FZ_X12_trial e2) (wr_w w2 w3 ha (BQ_X12_trial e2) (WR_X12_trial (cls_of E).2 ⟨fun _ _ _ => rfl, fun z => by cases z⟩ e2))
theorem eqr_span {x nx r L n2 : Nat} {W : jWd} {h : jH} {zx1 : Int32} {zx2 : Int32} {q : Int32 × jH} (E : eqS x nx r L W h) (e2 : F_X12_span n2 (x + 40) zx1 zx2 h = some q) {g : jGh} {Γ : Nat → Option Nat} (w2 : jW (jKd g) Γ h) (w3 : jW (jKd g) Γ q.2) (ha : Γ (x + 40 + 1) = some 21) : eqS x nx r L W q.2 := eq_Q E frK_rfl (FQ_X12_span (cls_of E).2 e2) (by decide) (by decide) (FZ_X12_span e2) (wr_w w2 w3 ha (BQ_X12_span e2) (WR_X12_span (cls_of E).2 ⟨fun _ _ _ => rfl, fun z => by cases z⟩ e2))
theorem eqr_best {x nx r L n2 : Nat} {W : jWd} {h : jH} {q : Int32 × jH} (E : eqS x nx r L W h) (e2 : F_X12_best n2 (x + 40) h = some q) {g : jGh} {Γ : Nat → Option Nat} (w2 : jW (jKd g) Γ h) (w3 : jW (jKd g) Γ q.2) (ha : Γ (x + 40 + 1) = some 21) : eqS x nx r L W q.2 := eq_Q E frK_rfl (FQ_X12_best (cls_of E).2 e2) (by decide) (by decide) (FZ_X12_best e2) (wr_w w2 w3 ha (BQ_X12_best e2) (WR_X12_best (cls_of E).2 ⟨fun _ _ _ => rfl, fun z => by cases z⟩ e2))
theorem eqr_fewest {x nx r L n2 : Nat} {W : jWd} {h : jH} {zx1 : Int32} {q : Int32 × jH} (E : eqS x nx r L W h) (e2 : F_X12_fewest n2 (x + 40) zx1 h = some q) {g : jGh} {Γ : Nat → Option Nat} (w2 : jW (jKd g) Γ h) (w3 : jW (jKd g) Γ q.2) (ha : Γ (x + 40 + 1) = some 21) : eqS x nx r L W q.2 := eq_Q E frK_rfl (FQ_X12_fewest (cls_of E).2 e2) (by decide) (by decide) (FZ_X12_fewest e2) (wr_w w2 w3 ha (BQ_X12_fewest e2) (WR_X12_fewest (cls_of E).2 ⟨fun _ _ _ => rfl, fun z => by cases z⟩ e2))
theorem eqr_first {x nx r L n2 : Nat} {W : jWd} {h : jH} {zx1 : Int32} {q : Int32 × jH} (E : eqS x nx r L W h) (e2 : F_X12_first n2 (x + 40) zx1 h = some q) {g : jGh} {Γ : Nat → Option Nat} (w2 : jW (jKd g) Γ h) (w3 : jW (jKd g) Γ q.2) (ha : Γ (x + 40 + 1) = some 21) : eqS x nx r L W q.2 := eq_Q E frK_rfl (FQ_X12_first (cls_of E).2 e2) (by decide) (by decide) (FZ_X12_first e2) (wr_w w2 w3 ha (BQ_X12_first e2) (WR_X12_first (cls_of E).2 ⟨fun _ _ _ => rfl, fun z => by cases z⟩ e2))
theorem eqr_pale {x nx r L n2 : Nat} {W : jWd} {h : jH} {q : Int32 × jH} (E : eqS x nx r L W h) (e2 : F_X12_pale n2 (x + 40) h = some q) {g : jGh} {Γ : Nat → Option Nat} (w2 : jW (jKd g) Γ h) (w3 : jW (jKd g) Γ q.2) (ha : Γ (x + 40 + 1) = some 21) : eqS x nx r L W q.2 := eq_Q E frK_rfl (FQ_X12_pale (cls_of E).2 e2) (by decide) (by decide) (FZ_X12_pale e2) (wr_w w2 w3 ha (BQ_X12_pale e2) (WR_X12_pale (cls_of E).2 ⟨fun _ _ _ => rfl, fun z => by cases z⟩ e2))
theorem eqz_snags {x nx r L n n2 : Nat} {W : jWd} {h : jH} {y z : Int32} {p : jR × jH} {q : Int32 × jH} (E : eqS x nx r L W h) (e1 : F_X11_snags n x y h = some p) {h1 : jH} (ho : oc h1 = oc p.2) (hz : p.2.1 ≤ h1.1) (e2 : F_X12_snags n2 (x + 40) z h1 = some q) {g g2 : jGh} {Γ : Nat → Option Nat} (hg : g2.2.2.2.1 = g.2.2.2.1) (w2 : jW (jKd g) Γ h1) (w3 : jW (jKd g2) Γ q.2) (ha : Γ (x + 40 + 1) = some 21) : eqS x nx r 0 W q.2 := by
  have C := FT_snags (cls_of E).1 e1
  have M2 : mS (oc h1) (x + 40) := by rw [ho]; exact cls_mT E C
  have F := FQ_X12_snags M2 e2
  have hw := wr_w2 hg w2 w3 ha (BQ_X12_snags e2) (WR_X12_snags M2 ⟨fun _ _ _ => rfl, fun z => by cases z⟩ e2)
  have u := U_snags M2 (by rw [ho]; exact h9_T E C) e2
  have s := FZ_X12_snags e2
  rw [ho] at F hw
  exact eq_z3 (z := p.2.1) (by rw [s]; exact hz) (eq_QT (h3 := (p.2.1, q.2.2)) E C F (by decide) (by decide) rfl hw u)
theorem eqz_tries {x nx r L n n2 : Nat} {W : jWd} {h : jH} {p : jR × jH} {q : Int32 × jH} (E : eqS x nx r L W h) (e1 : F_X11_tries n x h = some p) {h1 : jH} (ho : oc h1 = oc p.2) (hz : p.2.1 ≤ h1.1) (e2 : F_X12_tries n2 (x + 40) h1 = some q) {g g2 : jGh} {Γ : Nat → Option Nat} (hg : g2.2.2.2.1 = g.2.2.2.1) (w2 : jW (jKd g) Γ h1) (w3 : jW (jKd g2) Γ q.2) (ha : Γ (x + 40 + 1) = some 21) : eqS x nx r 0 W q.2 := by
  have C := FT_tries (cls_of E).1 e1
  have M2 : mS (oc h1) (x + 40) := by rw [ho]; exact cls_mT E C
  have F := FQ_X12_tries M2 e2
  have hw := wr_w2 hg w2 w3 ha (BQ_X12_tries e2) (WR_X12_tries M2 ⟨fun _ _ _ => rfl, fun z => by cases z⟩ e2)
  have u := U_tries M2 (by rw [ho]; exact h9_T E C) e2
  have s := FZ_X12_tries e2
  rw [ho] at F hw
  exact eq_z3 (z := p.2.1) (by rw [s]; exact hz) (eq_QT (h3 := (p.2.1, q.2.2)) E C F (by decide) (by decide) rfl hw u)
end
section
/-! typed heaps through the law's own methods -/
theorem t_asl {g : jGh} {Γ : Nat → Option Nat} {h h2 : jH} {out : Nat} {i : Int32} {v : Int64} (e : jasl h out i v = some h2) (w : jW (jKd g) Γ h) (to : Γ out = some 40) : jW (jKd g) Γ h2 := by
  obtain ⟨n, f, e1, -, rfl⟩ := jasl_o e
  have h3 : ∃ f : Nat → Int64, h.2 out = some (.inr (.inr (.inr (1, f)))) := (w out 40 to).2
  obtain ⟨f2, e2⟩ := h3
  rw [e1] at e2
  cases e2
  refine t_put w (fun c hc => ?_)
  cases to.symm.trans hc
  exact okE_l
theorem t_z4 {Θ : Nat → jD} {Γ : Nat → Option Nat} {h : jH} {z : Nat} (w : jW Θ Γ h) (hz : h.1 ≤ z) : jW Θ Γ (z, h.2) := fun a c q => ⟨Nat.lt_of_lt_of_le (w a c q).1 hz, (w a c q).2⟩
theorem t_ref {g : jGh} {Γ : Nat → Option Nat} {h : jH} {a b c c2 ci k : Nat} {Fs : List jF} (w : jW (jKd g) Γ h) (ha : Γ a = some c) (hc : jKd g c = .inr (.inr (ci, Fs))) (hk : Fs[k]? = some (.inr (.inl c2))) (ho : oc h a k = .ref b) : Γ b = some c2 := by
  obtain ⟨vs, e1, -, e3⟩ := t_obj w ha hc
  obtain ⟨v, e4, d, e5, e6⟩ := e3 k _ hk
  have e7 : oc h a k = v := by
    unfold oc
    rw [e1]
    show vs.getD k .null = v
    rw [List.getD_eq_getElem?_getD, e4]
    rfl
  rw [e7, e5] at ho
  cases ho
  exact e6
theorem t_w {g : jGh} {Γ : Nat → Option Nat} {h : jH} {m : Nat} (w : jW (jKd g) Γ h) (tm : Γ m = some 20) (M : mS (oc h) m) : Γ (m + 1) = some 21 := t_ref w tm rfl rfl M.1
theorem jok_v {α : Type} {o : Option α} {P : α → Prop} {v : α} (j : jok o P) (e : o = some v) : P v := by
  obtain ⟨u, e1, p⟩ := j
  rw [e1] at e
  cases e
  exact p
theorem FLw_pole {n : Nat} {a0 : Nat} {a1 : Nat} {h : jH} {r : Int32 × jH} (hf : FL_pole n a0 a1 h = some r) : ∃ q : jR × jH, F_X11_pole n a0 h = some q ∧ ∀ {g : jGh} {Γ : Nat → Option Nat}, jW (jKd g) Γ q.2 → Γ a1 = some 40 → jW (jKd g) Γ r.2 := by
  unfold FL_pole at hf
  obtain ⟨q, e, hf⟩ := jbind hf
  refine ⟨q, (jcv_o e).2, ?_⟩
  obtain ⟨q1, q2⟩ := q
  rcases q1 with v | k
  · obtain ⟨h2, e2, hf⟩ := jbind hf
    cases hf
    intro g Γ w to; exact t_asl e2 w to
  · replace hf : (if k = 0 then some ((1 : Int32), q2) else if k = 3 then some ((2 : Int32), q2) else none) = some r := hf
    replace hf := jite hf
    rcases hf with ⟨-, hf⟩ | ⟨-, hf⟩
    · cases hf; intro g Γ w _; exact w
    replace hf := jite hf
    rcases hf with ⟨-, hf⟩ | ⟨-, hf⟩
    · cases hf; intro g Γ w _; exact w
    cases hf
theorem FLw_law {n : Nat} {a0 : Nat} {a1 : Nat} {h : jH} {r : Int32 × jH} (hf : FL_law n a0 a1 h = some r) : ∃ q : jR × jH, F_X11_law n a0 h = some q ∧ ∀ {g : jGh} {Γ : Nat → Option Nat}, jW (jKd g) Γ q.2 → Γ a1 = some 40 → jW (jKd g) Γ r.2 := by
  unfold FL_law at hf
  obtain ⟨q, e, hf⟩ := jbind hf
  refine ⟨q, (jcv_o e).2, ?_⟩
  obtain ⟨q1, q2⟩ := q
  rcases q1 with v | k
  · obtain ⟨h2, e2, hf⟩ := jbind hf
    cases hf
    intro g Γ w to; exact t_asl e2 w to
  · replace hf : (if k = 0 then some ((1 : Int32), q2) else none) = some r := hf
    replace hf := jite hf
    rcases hf with ⟨-, hf⟩ | ⟨-, hf⟩
    · cases hf; intro g Γ w _; exact w
    cases hf
theorem FLw_ring {n : Nat} {a0 : Nat} {x1 : Int32} {x2 : Int32} {a3 : Nat} {h : jH} {r : Int32 × jH} (hf : FL_ring n a0 x1 x2 a3 h = some r) : ∃ q : jR × jH, F_X11_ring n a0 x1 x2 h = some q ∧ ∀ {g : jGh} {Γ : Nat → Option Nat}, jW (jKd g) Γ q.2 → Γ a3 = some 40 → jW (jKd g) Γ r.2 := by
  unfold FL_ring at hf
  obtain ⟨q, e, hf⟩ := jbind hf
  refine ⟨q, (jcv_o e).2, ?_⟩
  obtain ⟨q1, q2⟩ := q
  rcases q1 with v | k
  · obtain ⟨h2, e2, hf⟩ := jbind hf
    cases hf
    intro g Γ w to; exact t_asl e2 w to
  · replace hf : (if k = 2 then some ((1 : Int32), q2) else if k = 4 then some ((2 : Int32), q2) else none) = some r := hf
    replace hf := jite hf
    rcases hf with ⟨-, hf⟩ | ⟨-, hf⟩
    · cases hf; intro g Γ w _; exact w
    replace hf := jite hf
    rcases hf with ⟨-, hf⟩ | ⟨-, hf⟩
    · cases hf; intro g Γ w _; exact w
    cases hf
theorem FLw_pull {n : Nat} {a0 : Nat} {x1 : Int32} {x2 : Int32} {x3 : Int32} {a4 : Nat} {h : jH} {r : Int32 × jH} (hf : FL_pull n a0 x1 x2 x3 a4 h = some r) : ∃ q : jR × jH, F_X11_pull n a0 x1 x2 x3 h = some q ∧ ∀ {g : jGh} {Γ : Nat → Option Nat}, jW (jKd g) Γ q.2 → Γ a4 = some 40 → jW (jKd g) Γ r.2 := by
  unfold FL_pull at hf
  obtain ⟨q, e, hf⟩ := jbind hf
  refine ⟨q, (jcv_o e).2, ?_⟩
  obtain ⟨q1, q2⟩ := q
  rcases q1 with v | k
  · obtain ⟨h2, e2, hf⟩ := jbind hf
    cases hf
    intro g Γ w to; exact t_asl e2 w to
  · replace hf : (if k = 2 then some ((1 : Int32), q2) else if k = 0 then some ((2 : Int32), q2) else none) = some r := hf
    replace hf := jite hf
    rcases hf with ⟨-, hf⟩ | ⟨-, hf⟩
    · cases hf; intro g Γ w _; exact w
    replace hf := jite hf
    rcases hf with ⟨-, hf⟩ | ⟨-, hf⟩
    · cases hf; intro g Γ w _; exact w
    cases hf
theorem FLw_free {n : Nat} {a0 : Nat} {x1 : Int32} {a2 : Nat} {h : jH} {r : Int32 × jH} (hf : FL_free n a0 x1 a2 h = some r) : ∃ q : jR × jH, F_X11_free n a0 x1 h = some q ∧ ∀ {g : jGh} {Γ : Nat → Option Nat}, jW (jKd g) Γ q.2 → Γ a2 = some 40 → jW (jKd g) Γ r.2 := by
  unfold FL_free at hf
  obtain ⟨q, e, hf⟩ := jbind hf
  refine ⟨q, (jcv_o e).2, ?_⟩
  obtain ⟨q1, q2⟩ := q
  rcases q1 with v | k
  · obtain ⟨h2, e2, hf⟩ := jbind hf
    cases hf
    intro g Γ w to; exact t_asl e2 w to
  · replace hf : (if k = 2 then some ((1 : Int32), q2) else if k = 1 then some ((2 : Int32), q2) else none) = some r := hf
    replace hf := jite hf
    rcases hf with ⟨-, hf⟩ | ⟨-, hf⟩
    · cases hf; intro g Γ w _; exact w
    replace hf := jite hf
    rcases hf with ⟨-, hf⟩ | ⟨-, hf⟩
    · cases hf; intro g Γ w _; exact w
    cases hf
theorem FLw_snag {n : Nat} {a0 : Nat} {x1 : Int32} {a2 : Nat} {h : jH} {r : Int32 × jH} (hf : FL_snag n a0 x1 a2 h = some r) : ∃ q : jR × jH, F_X11_snag n a0 x1 h = some q ∧ ∀ {g : jGh} {Γ : Nat → Option Nat}, jW (jKd g) Γ q.2 → Γ a2 = some 40 → jW (jKd g) Γ r.2 := by
  unfold FL_snag at hf
  obtain ⟨q, e, hf⟩ := jbind hf
  refine ⟨q, (jcv_o e).2, ?_⟩
  obtain ⟨q1, q2⟩ := q
  rcases q1 with v | k
  · obtain ⟨h2, e2, hf⟩ := jbind hf
    cases hf
    intro g Γ w to; exact t_asl e2 w to
  · replace hf : (if k = 2 then some ((1 : Int32), q2) else if k = 1 then some ((2 : Int32), q2) else none) = some r := hf
    replace hf := jite hf
    rcases hf with ⟨-, hf⟩ | ⟨-, hf⟩
    · cases hf; intro g Γ w _; exact w
    replace hf := jite hf
    rcases hf with ⟨-, hf⟩ | ⟨-, hf⟩
    · cases hf; intro g Γ w _; exact w
    cases hf
theorem FLw_hook {n : Nat} {a0 : Nat} {x1 : Int32} {x2 : Int32} {a3 : Nat} {h : jH} {r : Int32 × jH} (hf : FL_hook n a0 x1 x2 a3 h = some r) : ∃ q : jR × jH, F_X11_hook n a0 x1 x2 h = some q ∧ ∀ {g : jGh} {Γ : Nat → Option Nat}, jW (jKd g) Γ q.2 → Γ a3 = some 40 → jW (jKd g) Γ r.2 := by
  unfold FL_hook at hf
  obtain ⟨q, e, hf⟩ := jbind hf
  refine ⟨q, (jcv_o e).2, ?_⟩
  obtain ⟨q1, q2⟩ := q
  rcases q1 with v | k
  · obtain ⟨h2, e2, hf⟩ := jbind hf
    cases hf
    intro g Γ w to; exact t_asl e2 w to
  · replace hf : (if k = 2 then some ((1 : Int32), q2) else none) = some r := hf
    replace hf := jite hf
    rcases hf with ⟨-, hf⟩ | ⟨-, hf⟩
    · cases hf; intro g Γ w _; exact w
    cases hf
theorem FLw_sew {n : Nat} {a0 : Nat} {x1 : Int32} {x2 : Int32} {a3 : Nat} {h : jH} {r : Int32 × jH} (hf : FL_sew n a0 x1 x2 a3 h = some r) : ∃ q : jR × jH, F_X11_sew n a0 x1 x2 h = some q ∧ ∀ {g : jGh} {Γ : Nat → Option Nat}, jW (jKd g) Γ q.2 → Γ a3 = some 40 → jW (jKd g) Γ r.2 := by
  unfold FL_sew at hf
  obtain ⟨q, e, hf⟩ := jbind hf
  refine ⟨q, (jcv_o e).2, ?_⟩
  obtain ⟨q1, q2⟩ := q
  rcases q1 with v | k
  · obtain ⟨h2, e2, hf⟩ := jbind hf
    cases hf
    intro g Γ w to; exact t_asl e2 w to
  · replace hf : (if k = 2 then some ((1 : Int32), q2) else if k = 0 then some ((2 : Int32), q2) else if k = 1 then some ((3 : Int32), q2) else none) = some r := hf
    replace hf := jite hf
    rcases hf with ⟨-, hf⟩ | ⟨-, hf⟩
    · cases hf; intro g Γ w _; exact w
    replace hf := jite hf
    rcases hf with ⟨-, hf⟩ | ⟨-, hf⟩
    · cases hf; intro g Γ w _; exact w
    replace hf := jite hf
    rcases hf with ⟨-, hf⟩ | ⟨-, hf⟩
    · cases hf; intro g Γ w _; exact w
    cases hf
theorem FLw_let {n : Nat} {a0 : Nat} {x1 : Int32} {x2 : Int32} {a3 : Nat} {h : jH} {r : Int32 × jH} (hf : FL_let n a0 x1 x2 a3 h = some r) : ∃ q : jR × jH, F_X11_let n a0 x1 x2 h = some q ∧ ∀ {g : jGh} {Γ : Nat → Option Nat}, jW (jKd g) Γ q.2 → Γ a3 = some 40 → jW (jKd g) Γ r.2 := by
  unfold FL_let at hf
  obtain ⟨q, e, hf⟩ := jbind hf
  refine ⟨q, (jcv_o e).2, ?_⟩
  obtain ⟨q1, q2⟩ := q
  rcases q1 with v | k
  · obtain ⟨h2, e2, hf⟩ := jbind hf
    cases hf
    intro g Γ w to; exact t_asl e2 w to
  · replace hf : (if k = 2 then some ((1 : Int32), q2) else if k = 0 then some ((2 : Int32), q2) else none) = some r := hf
    replace hf := jite hf
    rcases hf with ⟨-, hf⟩ | ⟨-, hf⟩
    · cases hf; intro g Γ w _; exact w
    replace hf := jite hf
    rcases hf with ⟨-, hf⟩ | ⟨-, hf⟩
    · cases hf; intro g Γ w _; exact w
    cases hf
theorem FLw_chair {n : Nat} {a0 : Nat} {x1 : Int32} {x2 : Int32} {a3 : Nat} {h : jH} {r : Int32 × jH} (hf : FL_chair n a0 x1 x2 a3 h = some r) : ∃ q : jR × jH, F_X11_chair n a0 x1 x2 h = some q ∧ ∀ {g : jGh} {Γ : Nat → Option Nat}, jW (jKd g) Γ q.2 → Γ a3 = some 40 → jW (jKd g) Γ r.2 := by
  unfold FL_chair at hf
  obtain ⟨q, e, hf⟩ := jbind hf
  refine ⟨q, (jcv_o e).2, ?_⟩
  obtain ⟨q1, q2⟩ := q
  rcases q1 with v | k
  · obtain ⟨h2, e2, hf⟩ := jbind hf
    cases hf
    intro g Γ w to; exact t_asl e2 w to
  · replace hf : (if k = 2 then some ((1 : Int32), q2) else none) = some r := hf
    replace hf := jite hf
    rcases hf with ⟨-, hf⟩ | ⟨-, hf⟩
    · cases hf; intro g Γ w _; exact w
    cases hf
theorem FLw_hours {n : Nat} {a0 : Nat} {x1 : Int32} {a2 : Nat} {h : jH} {r : Int32 × jH} (hf : FL_hours n a0 x1 a2 h = some r) : ∃ q : jR × jH, F_X11_hours n a0 x1 h = some q ∧ ∀ {g : jGh} {Γ : Nat → Option Nat}, jW (jKd g) Γ q.2 → Γ a2 = some 40 → jW (jKd g) Γ r.2 := by
  unfold FL_hours at hf
  obtain ⟨q, e, hf⟩ := jbind hf
  refine ⟨q, (jcv_o e).2, ?_⟩
  obtain ⟨q1, q2⟩ := q
  rcases q1 with v | k
  · obtain ⟨h2, e2, hf⟩ := jbind hf
    cases hf
    intro g Γ w to; exact t_asl e2 w to
  · replace hf : (if k = 0 then some ((1 : Int32), q2) else none) = some r := hf
    replace hf := jite hf
    rcases hf with ⟨-, hf⟩ | ⟨-, hf⟩
    · cases hf; intro g Γ w _; exact w
    cases hf
theorem FLw_goes {n : Nat} {a0 : Nat} {x1 : Int32} {x2 : Int32} {a3 : Nat} {h : jH} {r : Int32 × jH} (hf : FL_goes n a0 x1 x2 a3 h = some r) : ∃ q : jR × jH, F_X11_goes n a0 x1 x2 h = some q ∧ ∀ {g : jGh} {Γ : Nat → Option Nat}, jW (jKd g) Γ q.2 → Γ a3 = some 40 → jW (jKd g) Γ r.2 := by
  unfold FL_goes at hf
  obtain ⟨q, e, hf⟩ := jbind hf
  refine ⟨q, (jcv_o e).2, ?_⟩
  obtain ⟨q1, q2⟩ := q
  rcases q1 with v | k
  · obtain ⟨h2, e2, hf⟩ := jbind hf
    cases hf
    intro g Γ w to; exact t_asl e2 w to
  · replace hf : (if k = 2 then some ((1 : Int32), q2) else none) = some r := hf
    replace hf := jite hf
    rcases hf with ⟨-, hf⟩ | ⟨-, hf⟩
    · cases hf; intro g Γ w _; exact w
    cases hf
theorem FLw_with {n : Nat} {a0 : Nat} {x1 : Int32} {x2 : Int32} {a3 : Nat} {h : jH} {r : Int32 × jH} (hf : FL_with n a0 x1 x2 a3 h = some r) : ∃ q : jR × jH, F_X11_with n a0 x1 x2 h = some q ∧ ∀ {g : jGh} {Γ : Nat → Option Nat}, jW (jKd g) Γ q.2 → Γ a3 = some 40 → jW (jKd g) Γ r.2 := by
  unfold FL_with at hf
  obtain ⟨q, e, hf⟩ := jbind hf
  refine ⟨q, (jcv_o e).2, ?_⟩
  obtain ⟨q1, q2⟩ := q
  rcases q1 with v | k
  · obtain ⟨h2, e2, hf⟩ := jbind hf
    cases hf
    intro g Γ w to; exact t_asl e2 w to
  · replace hf : (if k = 2 then some ((1 : Int32), q2) else none) = some r := hf
    replace hf := jite hf
    rcases hf with ⟨-, hf⟩ | ⟨-, hf⟩
    · cases hf; intro g Γ w _; exact w
    cases hf
theorem FLw_would {n : Nat} {a0 : Nat} {x1 : Int32} {x2 : Int32} {x3 : Int32} {x4 : Int32} {a5 : Nat} {h : jH} {r : Int32 × jH} (hf : FL_would n a0 x1 x2 x3 x4 a5 h = some r) : ∃ q : jR × jH, F_X11_would n a0 x1 x2 x3 x4 h = some q ∧ ∀ {g : jGh} {Γ : Nat → Option Nat}, jW (jKd g) Γ q.2 → Γ a5 = some 40 → jW (jKd g) Γ r.2 := by
  unfold FL_would at hf
  obtain ⟨q, e, hf⟩ := jbind hf
  refine ⟨q, (jcv_o e).2, ?_⟩
  obtain ⟨q1, q2⟩ := q
  rcases q1 with v | k
  · obtain ⟨h2, e2, hf⟩ := jbind hf
    cases hf
    intro g Γ w to; exact t_asl e2 w to
  · replace hf : (if k = 2 then some ((1 : Int32), q2) else if k = 0 then some ((2 : Int32), q2) else none) = some r := hf
    replace hf := jite hf
    rcases hf with ⟨-, hf⟩ | ⟨-, hf⟩
    · cases hf; intro g Γ w _; exact w
    replace hf := jite hf
    rcases hf with ⟨-, hf⟩ | ⟨-, hf⟩
    · cases hf; intro g Γ w _; exact w
    cases hf
theorem FLw_snags {n : Nat} {a0 : Nat} {x1 : Int32} {a2 : Nat} {h : jH} {r : Int32 × jH} (hf : FL_snags n a0 x1 a2 h = some r) : ∃ q : jR × jH, F_X11_snags n a0 x1 h = some q ∧ ∀ {g : jGh} {Γ : Nat → Option Nat}, jW (jKd g) Γ q.2 → Γ a2 = some 40 → jW (jKd g) Γ r.2 := by
  unfold FL_snags at hf
  obtain ⟨q, e, hf⟩ := jbind hf
  refine ⟨q, (jcv_o e).2, ?_⟩
  obtain ⟨q1, q2⟩ := q
  rcases q1 with v | k
  · obtain ⟨h2, e2, hf⟩ := jbind hf
    cases hf
    intro g Γ w to; exact t_asl e2 w to
  · replace hf : (if k = 0 then some ((1 : Int32), q2) else none) = some r := hf
    replace hf := jite hf
    rcases hf with ⟨-, hf⟩ | ⟨-, hf⟩
    · cases hf; intro g Γ w _; exact w
    cases hf
theorem FLw_tries {n : Nat} {a0 : Nat} {a1 : Nat} {h : jH} {r : Int32 × jH} (hf : FL_tries n a0 a1 h = some r) : ∃ q : jR × jH, F_X11_tries n a0 h = some q ∧ ∀ {g : jGh} {Γ : Nat → Option Nat}, jW (jKd g) Γ q.2 → Γ a1 = some 40 → jW (jKd g) Γ r.2 := by
  unfold FL_tries at hf
  obtain ⟨q, e, hf⟩ := jbind hf
  refine ⟨q, (jcv_o e).2, ?_⟩
  obtain ⟨q1, q2⟩ := q
  rcases q1 with v | k
  · obtain ⟨h2, e2, hf⟩ := jbind hf
    cases hf
    intro g Γ w to; exact t_asl e2 w to
  · replace hf : (if k = 0 then some ((1 : Int32), q2) else none) = some r := hf
    replace hf := jite hf
    rcases hf with ⟨-, hf⟩ | ⟨-, hf⟩
    · cases hf; intro g Γ w _; exact w
    cases hf
theorem FLw_loosen {n : Nat} {a0 : Nat} {x1 : Int32} {x2 : Int32} {x3 : Int32} {a4 : Nat} {h : jH} {r : Int32 × jH} (hf : FL_loosen n a0 x1 x2 x3 a4 h = some r) : ∃ q : jR × jH, F_X11_loosen n a0 x1 x2 x3 h = some q ∧ ∀ {g : jGh} {Γ : Nat → Option Nat}, jW (jKd g) Γ q.2 → Γ a4 = some 40 → jW (jKd g) Γ r.2 := by
  unfold FL_loosen at hf
  obtain ⟨q, e, hf⟩ := jbind hf
  refine ⟨q, (jcv_o e).2, ?_⟩
  obtain ⟨q1, q2⟩ := q
  rcases q1 with v | k
  · obtain ⟨h2, e2, hf⟩ := jbind hf
    cases hf
    intro g Γ w to; exact t_asl e2 w to
  · replace hf : (if k = 2 then some ((1 : Int32), q2) else if k = 0 then some ((2 : Int32), q2) else none) = some r := hf
    replace hf := jite hf
    rcases hf with ⟨-, hf⟩ | ⟨-, hf⟩
    · cases hf; intro g Γ w _; exact w
    replace hf := jite hf
    rcases hf with ⟨-, hf⟩ | ⟨-, hf⟩
    · cases hf; intro g Γ w _; exact w
    cases hf
theorem FLw_tight {n : Nat} {a0 : Nat} {x1 : Int32} {a2 : Nat} {h : jH} {r : Int32 × jH} (hf : FL_tight n a0 x1 a2 h = some r) : ∃ q : jR × jH, F_X11_tight n a0 x1 h = some q ∧ ∀ {g : jGh} {Γ : Nat → Option Nat}, jW (jKd g) Γ q.2 → Γ a2 = some 40 → jW (jKd g) Γ r.2 := by
  unfold FL_tight at hf
  obtain ⟨q, e, hf⟩ := jbind hf
  refine ⟨q, (jcv_o e).2, ?_⟩
  obtain ⟨q1, q2⟩ := q
  rcases q1 with v | k
  · obtain ⟨h2, e2, hf⟩ := jbind hf
    cases hf
    intro g Γ w to; exact t_asl e2 w to
  · replace hf : (if k = 0 then some ((1 : Int32), q2) else none) = some r := hf
    replace hf := jite hf
    rcases hf with ⟨-, hf⟩ | ⟨-, hf⟩
    · cases hf; intro g Γ w _; exact w
    cases hf
theorem FLw_lit {n : Nat} {a0 : Nat} {x1 : Int32} {a2 : Nat} {h : jH} {r : Int32 × jH} (hf : FL_lit n a0 x1 a2 h = some r) : ∃ q : jR × jH, F_X11_lit n a0 x1 h = some q ∧ ∀ {g : jGh} {Γ : Nat → Option Nat}, jW (jKd g) Γ q.2 → Γ a2 = some 40 → jW (jKd g) Γ r.2 := by
  unfold FL_lit at hf
  obtain ⟨q, e, hf⟩ := jbind hf
  refine ⟨q, (jcv_o e).2, ?_⟩
  obtain ⟨q1, q2⟩ := q
  rcases q1 with v | k
  · obtain ⟨h2, e2, hf⟩ := jbind hf
    cases hf
    intro g Γ w to; exact t_asl e2 w to
  · replace hf : (if k = 2 then some ((1 : Int32), q2) else none) = some r := hf
    replace hf := jite hf
    rcases hf with ⟨-, hf⟩ | ⟨-, hf⟩
    · cases hf; intro g Γ w _; exact w
    cases hf
theorem FLw_faded {n : Nat} {a0 : Nat} {x1 : Int32} {a2 : Nat} {h : jH} {r : Int32 × jH} (hf : FL_faded n a0 x1 a2 h = some r) : ∃ q : jR × jH, F_X11_faded n a0 x1 h = some q ∧ ∀ {g : jGh} {Γ : Nat → Option Nat}, jW (jKd g) Γ q.2 → Γ a2 = some 40 → jW (jKd g) Γ r.2 := by
  unfold FL_faded at hf
  obtain ⟨q, e, hf⟩ := jbind hf
  refine ⟨q, (jcv_o e).2, ?_⟩
  obtain ⟨q1, q2⟩ := q
  rcases q1 with v | k
  · obtain ⟨h2, e2, hf⟩ := jbind hf
    cases hf
    intro g Γ w to; exact t_asl e2 w to
  · replace hf : (if k = 0 then some ((1 : Int32), q2) else none) = some r := hf
    replace hf := jite hf
    rcases hf with ⟨-, hf⟩ | ⟨-, hf⟩
    · cases hf; intro g Γ w _; exact w
    cases hf
theorem FLw_lets {n : Nat} {a0 : Nat} {x1 : Int32} {x2 : Int32} {a3 : Nat} {h : jH} {r : Int32 × jH} (hf : FL_lets n a0 x1 x2 a3 h = some r) : ∃ q : jR × jH, F_X11_lets n a0 x1 x2 h = some q ∧ ∀ {g : jGh} {Γ : Nat → Option Nat}, jW (jKd g) Γ q.2 → Γ a3 = some 40 → jW (jKd g) Γ r.2 := by
  unfold FL_lets at hf
  obtain ⟨q, e, hf⟩ := jbind hf
  refine ⟨q, (jcv_o e).2, ?_⟩
  obtain ⟨q1, q2⟩ := q
  rcases q1 with v | k
  · obtain ⟨h2, e2, hf⟩ := jbind hf
    cases hf
    intro g Γ w to; exact t_asl e2 w to
  · replace hf : (if k = 2 then some ((1 : Int32), q2) else if k = 0 then some ((2 : Int32), q2) else none) = some r := hf
    replace hf := jite hf
    rcases hf with ⟨-, hf⟩ | ⟨-, hf⟩
    · cases hf; intro g Γ w _; exact w
    replace hf := jite hf
    rcases hf with ⟨-, hf⟩ | ⟨-, hf⟩
    · cases hf; intro g Γ w _; exact w
    cases hf
theorem FLw_rests {n : Nat} {a0 : Nat} {x1 : Int32} {a2 : Nat} {h : jH} {r : Int32 × jH} (hf : FL_rests n a0 x1 a2 h = some r) : ∃ q : jR × jH, F_X11_rests n a0 x1 h = some q ∧ ∀ {g : jGh} {Γ : Nat → Option Nat}, jW (jKd g) Γ q.2 → Γ a2 = some 40 → jW (jKd g) Γ r.2 := by
  unfold FL_rests at hf
  obtain ⟨q, e, hf⟩ := jbind hf
  refine ⟨q, (jcv_o e).2, ?_⟩
  obtain ⟨q1, q2⟩ := q
  rcases q1 with v | k
  · obtain ⟨h2, e2, hf⟩ := jbind hf
    cases hf
    intro g Γ w to; exact t_asl e2 w to
  · replace hf : (if k = 2 then some ((1 : Int32), q2) else none) = some r := hf
    replace hf := jite hf
    rcases hf with ⟨-, hf⟩ | ⟨-, hf⟩
    · cases hf; intro g Γ w _; exact w
    cases hf
theorem FLw_odds {n : Nat} {a0 : Nat} {x1 : Int32} {x2 : Int32} {a3 : Nat} {h : jH} {r : Int32 × jH} (hf : FL_odds n a0 x1 x2 a3 h = some r) : ∃ q : jR × jH, F_X11_odds n a0 x1 x2 h = some q ∧ ∀ {g : jGh} {Γ : Nat → Option Nat}, jW (jKd g) Γ q.2 → Γ a3 = some 40 → jW (jKd g) Γ r.2 := by
  unfold FL_odds at hf
  obtain ⟨q, e, hf⟩ := jbind hf
  refine ⟨q, (jcv_o e).2, ?_⟩
  obtain ⟨q1, q2⟩ := q
  rcases q1 with v | k
  · obtain ⟨h2, e2, hf⟩ := jbind hf
    cases hf
    intro g Γ w to; exact t_asl e2 w to
  · replace hf : (if k = 2 then some ((1 : Int32), q2) else if k = 0 then some ((2 : Int32), q2) else none) = some r := hf
    replace hf := jite hf
    rcases hf with ⟨-, hf⟩ | ⟨-, hf⟩
    · cases hf; intro g Γ w _; exact w
    replace hf := jite hf
    rcases hf with ⟨-, hf⟩ | ⟨-, hf⟩
    · cases hf; intro g Γ w _; exact w
    cases hf
theorem FLw_ahead {n : Nat} {a0 : Nat} {x1 : Int32} {x2 : Int32} {a3 : Nat} {h : jH} {r : Int32 × jH} (hf : FL_ahead n a0 x1 x2 a3 h = some r) : ∃ q : jR × jH, F_X11_ahead n a0 x1 x2 h = some q ∧ ∀ {g : jGh} {Γ : Nat → Option Nat}, jW (jKd g) Γ q.2 → Γ a3 = some 40 → jW (jKd g) Γ r.2 := by
  unfold FL_ahead at hf
  obtain ⟨q, e, hf⟩ := jbind hf
  refine ⟨q, (jcv_o e).2, ?_⟩
  obtain ⟨q1, q2⟩ := q
  rcases q1 with v | k
  · obtain ⟨h2, e2, hf⟩ := jbind hf
    cases hf
    intro g Γ w to; exact t_asl e2 w to
  · replace hf : (if k = 2 then some ((1 : Int32), q2) else if k = 0 then some ((2 : Int32), q2) else none) = some r := hf
    replace hf := jite hf
    rcases hf with ⟨-, hf⟩ | ⟨-, hf⟩
    · cases hf; intro g Γ w _; exact w
    replace hf := jite hf
    rcases hf with ⟨-, hf⟩ | ⟨-, hf⟩
    · cases hf; intro g Γ w _; exact w
    cases hf
theorem FLw_trial {n : Nat} {a0 : Nat} {x1 : Int32} {x2 : Int32} {a3 : Nat} {h : jH} {r : Int32 × jH} (hf : FL_trial n a0 x1 x2 a3 h = some r) : ∃ q : jR × jH, F_X11_trial n a0 x1 x2 h = some q ∧ ∀ {g : jGh} {Γ : Nat → Option Nat}, jW (jKd g) Γ q.2 → Γ a3 = some 40 → jW (jKd g) Γ r.2 := by
  unfold FL_trial at hf
  obtain ⟨q, e, hf⟩ := jbind hf
  refine ⟨q, (jcv_o e).2, ?_⟩
  obtain ⟨q1, q2⟩ := q
  rcases q1 with v | k
  · obtain ⟨h2, e2, hf⟩ := jbind hf
    cases hf
    intro g Γ w to; exact t_asl e2 w to
  · replace hf : (if k = 0 then some ((1 : Int32), q2) else none) = some r := hf
    replace hf := jite hf
    rcases hf with ⟨-, hf⟩ | ⟨-, hf⟩
    · cases hf; intro g Γ w _; exact w
    cases hf
theorem FLw_span {n : Nat} {a0 : Nat} {x1 : Int32} {x2 : Int32} {a3 : Nat} {h : jH} {r : Int32 × jH} (hf : FL_span n a0 x1 x2 a3 h = some r) : ∃ q : jR × jH, F_X11_span n a0 x1 x2 h = some q ∧ ∀ {g : jGh} {Γ : Nat → Option Nat}, jW (jKd g) Γ q.2 → Γ a3 = some 40 → jW (jKd g) Γ r.2 := by
  unfold FL_span at hf
  obtain ⟨q, e, hf⟩ := jbind hf
  refine ⟨q, (jcv_o e).2, ?_⟩
  obtain ⟨q1, q2⟩ := q
  rcases q1 with v | k
  · obtain ⟨h2, e2, hf⟩ := jbind hf
    cases hf
    intro g Γ w to; exact t_asl e2 w to
  · replace hf : (if k = 0 then some ((1 : Int32), q2) else none) = some r := hf
    replace hf := jite hf
    rcases hf with ⟨-, hf⟩ | ⟨-, hf⟩
    · cases hf; intro g Γ w _; exact w
    cases hf
theorem FLw_led {n : Nat} {a0 : Nat} {x1 : Int32} {x2 : Int32} {a3 : Nat} {h : jH} {r : Int32 × jH} (hf : FL_led n a0 x1 x2 a3 h = some r) : ∃ q : jR × jH, F_X11_led n a0 x1 x2 h = some q ∧ ∀ {g : jGh} {Γ : Nat → Option Nat}, jW (jKd g) Γ q.2 → Γ a3 = some 40 → jW (jKd g) Γ r.2 := by
  unfold FL_led at hf
  obtain ⟨q, e, hf⟩ := jbind hf
  refine ⟨q, (jcv_o e).2, ?_⟩
  obtain ⟨q1, q2⟩ := q
  rcases q1 with v | k
  · obtain ⟨h2, e2, hf⟩ := jbind hf
    cases hf
    intro g Γ w to; exact t_asl e2 w to
  · replace hf : (if k = 2 then some ((1 : Int32), q2) else none) = some r := hf
    replace hf := jite hf
    rcases hf with ⟨-, hf⟩ | ⟨-, hf⟩
    · cases hf; intro g Γ w _; exact w
    cases hf
theorem FLw_log {n : Nat} {a0 : Nat} {x1 : Int32} {x2 : Int32} {a3 : Nat} {h : jH} {r : Int32 × jH} (hf : FL_log n a0 x1 x2 a3 h = some r) : ∃ q : jR × jH, F_X11_log n a0 x1 x2 h = some q ∧ ∀ {g : jGh} {Γ : Nat → Option Nat}, jW (jKd g) Γ q.2 → Γ a3 = some 40 → jW (jKd g) Γ r.2 := by
  unfold FL_log at hf
  obtain ⟨q, e, hf⟩ := jbind hf
  refine ⟨q, (jcv_o e).2, ?_⟩
  obtain ⟨q1, q2⟩ := q
  rcases q1 with v | k
  · obtain ⟨h2, e2, hf⟩ := jbind hf
    cases hf
    intro g Γ w to; exact t_asl e2 w to
  · replace hf : (if k = 4 then some ((1 : Int32), q2) else none) = some r := hf
    replace hf := jite hf
    rcases hf with ⟨-, hf⟩ | ⟨-, hf⟩
    · cases hf; intro g Γ w _; exact w
    cases hf
end
