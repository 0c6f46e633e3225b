/-! image, on both sides -/
theorem E_lawnew {n : Nat} {h q : jH} (e : F_X2_init n h.1 (jnew h (.inl (2, [.null, .null, .null, .null, .null, .int 0, .int 0, .int 0, .int 0]))) = some q) : lawS (oc q) h.1 ∧ q.1 = h.1 + 6 ∧ ∀ a k, a < h.1 → oc q a k = oc h a k := by
  obtain ⟨v, e2, j⟩ := I_X2_init (n := n) (h := h)
  cases e.symm.trans e2
  obtain ⟨j1, j2, j3⟩ := j
  have o : ∀ i, oc q (h.1 + 0) i = ([.ref (h.1 + 1), .ref (h.1 + 2), .ref (h.1 + 3), .ref (h.1 + 4), .ref (h.1 + 5), .int 0, .int 0, .int 0, .int 0] : List Value).getD i .null := fun i => by
    unfold oc
    rw [j3 0 _ rfl]
  refine ⟨⟨o 0, o 1, o 2, o 3, o 4⟩, j1, fun a k ha => ?_⟩
  unfold oc
  rw [j2 a ha]
theorem va_r {b : Nat} {o : Option Nat} (e : Value.ref b = va_rf o) : o = some b := by
  cases o with
  | none => cases e
  | some c =>
    have e2 : Value.ref b = .ref c := e
    cases e2
    rfl
theorem va_n {o : Option Nat} (e : Value.null = va_rf o) : o = none := by
  cases o with
  | none => rfl
  | some c =>
    have e2 : Value.null = .ref c := e
    cases e2
/-- rod and law of the class, taken over into what is kept -/
theorem E_img36 {n x kr kl : Nat} {W : jWd} {h q : jH} (X1 : oc h x 1 = .ref (x + 6)) (X2 : oc h x 2 = .ref (x + 13)) (X10 : oc h x 10 = .ref kr) (X11 : oc h x 11 = .ref kl) (R : rodE (oc h) (x + 6) W) (K : wOK W) (LE : lawE (oc h) (x + 13) W) (sr : rodS (oc h) kr) (sl : lawS (oc h) kl)
    (ap : x + 52 < kr ∧ x + 52 < kl ∧ (kr + 6 < kl ∨ kl + 5 < kr)) (hf : F_X11_image_36 n x h = some q) : rodE (oc q) kr W ∧ lawE (oc q) kl W ∧ (∀ a k : Nat, ¬ (kr ≤ a ∧ a ≤ kr + 6) → ¬ (kl ≤ a ∧ a ≤ kl + 5) → oc q a k = oc h a k) ∧ q.1 = h.1 := by
  unfold F_X11_image_36 at hf
  obtain ⟨o37, e1, hf⟩ := jbind hf
  have r1 := oc_gQ e1
  rw [X10] at r1
  cases va_r r1
  obtain ⟨p41, e2, hf⟩ := jbind hf
  have r2 := oc_gR e2
  rw [X1] at r2
  cases r2
  dsimp only at hf
  obtain ⟨h44, e3, hf⟩ := jbind hf
  obtain ⟨R3, f3, z3⟩ := E_X8_copyFrom (d := kr) (r := x + 6) rfl rfl (by omega) sr R K (jcv_o e3).2
  obtain ⟨o48, e4, hf⟩ := jbind hf
  have r4 := oc_gQ e4
  rw [f3 _ _ (by omega), X11] at r4
  cases va_r r4
  obtain ⟨p52, e5, hf⟩ := jbind hf
  have r5 := oc_gR e5
  rw [f3 _ _ (by omega), X2] at r5
  cases r5
  dsimp only at hf
  obtain ⟨h55, e6, hf⟩ := jbind hf
  have S6 : lawS (oc h44) kl := by
    obtain ⟨s0, s1, s2, s3, s4⟩ := sl
    exact ⟨(f3 _ _ (by omega)).trans s0, (f3 _ _ (by omega)).trans s1, (f3 _ _ (by omega)).trans s2, (f3 _ _ (by omega)).trans s3, (f3 _ _ (by omega)).trans s4⟩
  obtain ⟨R6, f6, z6⟩ := E_X2_copyFrom (d := kl) (r := x + 13) rfl rfl (by omega) S6 (lawE_fr LE (fun a k h1 h2 _ => f3 a k (by omega))) (jcv_o e6).2
  cases hf
  exact ⟨rodE_fr R3 (fun a k h1 h2 => f6 a k (by omega)), R6, fun a k h1 h2 => (f6 a k (by omega)).trans (f3 a k (by omega)), z6.trans z3⟩
/-- the kept rod and law: none yet, or these -/
def kp0 (O : jO) (z x : Nat) (kr kl : Nat) : Prop := (O x 10 = .null ∧ O x 11 = .null ∧ kr = z ∧ kl = z + 7) ∨ (O x 10 = .ref kr ∧ O x 11 = .ref kl ∧ rodS O kr ∧ lawS O kl ∧ x + 52 < kr ∧ kr + 6 < z ∧ x + 52 < kl ∧ kl + 5 < z ∧ (kr + 6 < kl ∨ kl + 5 < kr))
theorem E_X11_image {n x kr kl : Nat} {W : jWd} {h q : jH} (X1 : oc h x 1 = .ref (x + 6)) (X2 : oc h x 2 = .ref (x + 13)) (R : rodE (oc h) (x + 6) W) (K : wOK W) (LE : lawE (oc h) (x + 13) W) (hz : x + 52 < h.1) (A : kp0 (oc h) h.1 x kr kl) (hf : F_X11_image n x h = some q) :
    oc q x 10 = .ref kr ∧ oc q x 11 = .ref kl ∧ rodE (oc q) kr W ∧ lawE (oc q) kl W ∧ (x + 52 < kr ∧ kr + 6 < q.1 ∧ x + 52 < kl ∧ kl + 5 < q.1 ∧ (kr + 6 < kl ∨ kl + 5 < kr)) ∧ (∀ a k : Nat, a < h.1 → ¬ (a = x ∧ (k = 10 ∨ k = 11)) → ¬ (kr ≤ a ∧ a ≤ kr + 6) → ¬ (kl ≤ a ∧ a ≤ kl + 5) → oc q a k = oc h a k) ∧ h.1 ≤ q.1 := by
  unfold F_X11_image at hf
  obtain ⟨o1, e1, hf⟩ := jbind hf
  have r1 := oc_gQ e1
  rcases A with ⟨a10, a11, ek, el⟩ | ⟨a10, a11, sr, sl, b1, b2, b3, b4, b5⟩
  · subst ek el
    rw [a10] at r1
    cases va_n r1
    dsimp only at hf
    obtain ⟨h8, e2, hf⟩ := jbind hf
    cases e2
    obtain ⟨h12, e3, hf⟩ := jbind hf
    obtain ⟨n1, n2, n3⟩ := E_rodnew e3
    obtain ⟨h15, e4, hf⟩ := jbind hf
    obtain ⟨o4, z4⟩ := oc_pf e4
    have f15 : ∀ a k : Nat, a < h.1 → ¬ (a = x ∧ k = 10) → oc h15 a k = oc h a k := fun a k u w => by rw [o4, u2_ne (by omega)]; exact n3 a k u
    unfold F_X11_image_18 at hf
    obtain ⟨o5, e5, hf⟩ := jbind hf
    have r5 := oc_gQ e5
    rw [f15 _ _ (by omega) (by omega), a11] at r5
    cases va_n r5
    dsimp only at hf
    obtain ⟨h26, e6, hf⟩ := jbind hf
    cases e6
    have z15 : h15.1 = h.1 + 7 := z4.trans n2
    obtain ⟨h30, e7, hf⟩ := jbind hf
    obtain ⟨l1, l2, l3⟩ := E_lawnew e7
    obtain ⟨h33, e8, hf⟩ := jbind hf
    obtain ⟨o8, z8⟩ := oc_pf e8
    have f33 : ∀ a k : Nat, a < h.1 → ¬ (a = x ∧ (k = 10 ∨ k = 11)) → oc h33 a k = oc h a k := fun a k u w => by rw [o8, u2_ne (by omega), l3 a k (by omega)]; exact f15 a k u (by omega)
    have S33 : rodS (oc h33) h.1 := rodS_fr n1 (fun k => by rw [o8, u2_ne (by omega), l3 _ _ (by omega), o4, u2_ne (by omega)]) (by rw [o8, u2_ne (by omega), l3 _ _ (by omega), o4, u2_ne (by omega)])
    have L33 : lawS (oc h33) (h.1 + 7) := by
      rw [z15] at l1
      obtain ⟨s0, s1, s2, s3, s4⟩ := l1
      have g : ∀ k, oc h33 (h.1 + 7) k = oc h30 (h.1 + 7) k := fun k => by rw [o8, u2_ne (by omega)]
      exact ⟨(g _).trans s0, (g _).trans s1, (g _).trans s2, (g _).trans s3, (g _).trans s4⟩
    have y10 : oc h33 x 10 = .ref h.1 := by rw [o8, u2_ne (by omega), l3 _ _ (by omega), o4, u2_eq]
    have y11 : oc h33 x 11 = .ref (h.1 + 7) := by rw [o8, u2_eq, z15]
    obtain ⟨c1, c2, c3, c4⟩ := E_img36 (kr := h.1) (kl := h.1 + 7) (W := W) ((f33 _ _ (by omega) (by omega)).trans X1) ((f33 _ _ (by omega) (by omega)).trans X2) y10 y11 (rodE_fr R (fun a k u1 u2 => f33 a k (by omega) (by omega))) K (lawE_fr LE (fun a k u1 u2 _ => f33 a k (by omega) (by omega))) S33 L33 (by omega) hf
    have zq : q.1 = h.1 + 13 := by rw [c4, z8, l2, z15]
    exact ⟨(c3 _ _ (by omega) (by omega)).trans y10, (c3 _ _ (by omega) (by omega)).trans y11, c1, c2, by omega, fun a k u1 u2 u3 u4 => (c3 a k u3 u4).trans (f33 a k u1 u2), by omega⟩
  · rw [a10] at r1
    cases va_r r1
    dsimp only at hf
    unfold F_X11_image_18 at hf
    obtain ⟨o5, e5, hf⟩ := jbind hf
    have r5 := oc_gQ e5
    rw [a11] at r5
    cases va_r r5
    dsimp only at hf
    obtain ⟨c1, c2, c3, c4⟩ := E_img36 (kr := kr) (kl := kl) (W := W) X1 X2 a10 a11 R K LE sr sl (by omega) hf
    exact ⟨(c3 _ _ (by omega) (by omega)).trans a10, (c3 _ _ (by omega) (by omega)).trans a11, c1, c2, by omega, fun a k _ _ u3 u4 => c3 a k u3 u4, by omega⟩
theorem E_X12_image {n a0 : Nat} {h q : jH} (M : mS (oc h) a0) (hf : F_X12_image n a0 h = some q) : oi (oc q) a0 0 = 0 ∧ oi (oc q) a0 6 = 1 ∧ (∀ j, j < 1284 → oi (oc q) (a0 + 2) j = wl (oc h) a0 j) ∧ frM a0 [2] [0, 6] (oc h) (oc q) ∧ q.1 = h.1 := by
  unfold F_X12_image at hf
  obtain ⟨h2, e1, hf⟩ := jbind hf
  obtain ⟨o1, z1⟩ := oc_pf e1
  have f1 : frM a0 [] [0] (oc h) (oc h2) := by rw [o1]; exact frM_f (by decide)
  obtain ⟨b1, b2, b3, b4⟩ := E_X12_image_7 n 0 (mS_fr M f1 (by decide) (by decide)) rfl (by omega) hf
  refine ⟨(frM_oi b2 (by decide) (by decide)).trans (by rw [o1, oi_eq]), b4, fun j hj => ?_, frM_tr (frM_le f1 (by decide) (by decide)) (frM_le b2 (by decide) (by decide)), b3.trans z1⟩
  rw [b1 j, if_pos (by omega)]
  exact congrFun (wl_f f1 (by decide)) j
/-- acts left alone but for cells that no act holds -/
theorem slot_k2 {x z z2 : Nat} {O O2 : jO} (fr : ∀ a k : Nat, (a = x + 20 ∨ a = x + 45 ∨ (a = x + 13 ∧ k = 7) ∨ ∃ s b : Nat, s < 12 ∧ O (x + 20) s = .ref b ∧ b ≤ a ∧ a ≤ b + 6) → O2 a k = O a k) (hz : z ≤ z2) (S : slotE O z x) (P : apartE O x) : slotE O2 z2 x ∧ apartE O2 x := by
  refine ⟨fun s hs => ?_, fun s t b c hs ht ne e1 e2 => ?_⟩
  · rw [fr _ _ (Or.inl rfl)]
    rcases S s hs with w | ⟨c, w, w1, w2, w3⟩
    · exact Or.inl w
    · exact Or.inr ⟨c, w, rodS_fr w1 (fun k => fr _ _ (Or.inr (Or.inr (Or.inr ⟨s, c, hs, w, by omega, by omega⟩)))) (fr _ _ (Or.inr (Or.inr (Or.inr ⟨s, c, hs, w, by omega, by omega⟩)))), w2, by omega⟩
  · rw [fr _ _ (Or.inl rfl)] at e1 e2
    exact P s t b c hs ht ne e1 e2
theorem act_k2 {x r nx : Nat} {O O2 : jO} (fr : ∀ a k : Nat, (a = x + 20 ∨ a = x + 45 ∨ (a = x + 13 ∧ k = 7) ∨ ∃ s b : Nat, s < 12 ∧ O (x + 20) s = .ref b ∧ b ≤ a ∧ a ≤ b + 6) → O2 a k = O a k) (A : actE O x (x + 40) r nx) : actE O2 x (x + 40) r nx := by
  intro j hj
  obtain ⟨c, V, a1, a2, a3, a4, a5⟩ := A j hj
  refine ⟨c, V, (fr _ _ (Or.inl rfl)).trans a1, rodE_fr a2 (fun a k h1 h2 => fr _ _ (Or.inr (Or.inr (Or.inr ⟨_, c, Nat.mod_lt _ (by decide), a1, h1, h2⟩)))), a3, fun k hk => (a4 k hk).trans ?_, a5.trans ?_⟩
  · unfold oi
    rw [fr _ _ (Or.inr (Or.inl rfl))]
  · unfold oi
    rw [fr _ _ (Or.inr (Or.inr (Or.inl ⟨rfl, rfl⟩)))]
theorem eq_image {x nx r L n : Nat} {W : jWd} {h q p : jH} (E : eqS x nx r L W h) (e1 : F_X11_image n x h = some q) (e2 : F_X12_image n (x + 40) q = some p) : eqS x nx r L W p ∧ oi (oc p) (x + 40) 0 = 0 := by
  obtain ⟨⟨x0, x1, x3, x8, x36, x19, ⟨t0, t1, t2, t3⟩, s1, s2, s3, s4, s5, s8, s15, s17, s19, s20, s21⟩, ⟨n1, n2, n3, n4, n5, n6, S, P, A⟩, ⟨R, hw, K, LE, LK, LB⟩, ⟨l1, l2, l3, l4, I⟩⟩ := E
  obtain ⟨I0, If, I⟩ := I
  obtain ⟨kr, kl, A0, sc⟩ : ∃ kr kl : Nat, kp0 (oc h) h.1 x kr kl ∧ ∀ s b : Nat, s < 12 → oc h (x + 20) s = .ref b → b + 6 < h.1 ∧ (b + 6 < kr ∨ kr + 6 < b) ∧ (b + 6 < kl ∨ kl + 5 < b) := by
    have sb : ∀ s b : Nat, s < 12 → oc h (x + 20) s = .ref b → b + 6 < h.1 := fun s b hs e => by
      rcases S s hs with q | ⟨c, q, q1, q2, q3⟩
      · rw [q] at e; cases e
      · rw [q] at e; cases e; exact q3
    rcases I with ⟨a1, a2, -⟩ | ⟨kr, kl, ⟨a1, a2, -⟩, ⟨b1, b2, -, -, -⟩, ⟨c1, c2, c3, c4, c5⟩, d⟩
    · exact ⟨h.1, h.1 + 7, Or.inl ⟨a1, a2, rfl, rfl⟩, fun s b hs e => by have := sb s b hs e; omega⟩
    · exact ⟨kr, kl, Or.inr ⟨a1, a2, b1.1, b2.1, c1, c2, c3, c4, c5⟩, fun s b hs e => ⟨sb s b hs e, d s b hs e⟩⟩
  obtain ⟨c1, c2, c3, c4, c5, c6, c7⟩ := E_X11_image x1 I0.1.1 R K LE n6 A0 e1
  have f1 : ∀ a k : Nat, a ≤ x + 52 → ¬ (a = x ∧ (k = 10 ∨ k = 11)) → oc q a k = oc h a k := fun a k z1 z2 => c6 a k (by omega) z2 (by omega) (by omega)
  have M2 : mS (oc q) (x + 40) := ⟨(f1 _ _ (by omega) (by omega)).trans s1, (f1 _ _ (by omega) (by omega)).trans s2, (f1 _ _ (by omega) (by omega)).trans s3, (f1 _ _ (by omega) (by omega)).trans s4, (f1 _ _ (by omega) (by omega)).trans s5, (f1 _ _ (by omega) (by omega)).trans s8, (f1 _ _ (by omega) (by omega)).trans s15, (f1 _ _ (by omega) (by omega)).trans s17, (f1 _ _ (by omega) (by omega)).trans s19, (f1 _ _ (by omega) (by omega)).trans s20, (f1 _ _ (by omega) (by omega)).trans s21⟩
  obtain ⟨d0, d6, dw, df, dz⟩ := E_X12_image M2 e2
  have f2 : ∀ a k : Nat, a ≠ x + 42 → ¬ (a = x + 40 ∧ (k = 0 ∨ k = 6)) → oc p a k = oc q a k := fun a k u1 u2 => df a k (fun c hc z => by simp at hc; omega) (fun z y => u2 ⟨z, by simpa using y⟩)
  have f : ∀ a k : Nat, a ≤ x + 52 → a ≠ x + 42 → ¬ (a = x ∧ (k = 10 ∨ k = 11)) → ¬ (a = x + 40 ∧ (k = 0 ∨ k = 6)) → oc p a k = oc h a k := fun a k u1 u2 u3 u4 => (f2 a k u2 u4).trans (f1 a k u1 u3)
  have g : ∀ a k : Nat, a ≤ x + 52 → a ≠ x + 42 → ¬ (a = x ∧ (k = 10 ∨ k = 11)) → ¬ (a = x + 40 ∧ (k = 0 ∨ k = 6)) → oi (oc p) a k = oi (oc h) a k := fun a k u1 u2 u3 u4 => by unfold oi; rw [f a k u1 u2 u3 u4]
  have fa : ∀ a k : Nat, (a = x + 20 ∨ a = x + 45 ∨ (a = x + 13 ∧ k = 7) ∨ ∃ s b : Nat, s < 12 ∧ oc h (x + 20) s = .ref b ∧ b ≤ a ∧ a ≤ b + 6) → oc p a k = oc h a k := fun a k z => by
    rcases z with z | z | z | ⟨s, b, hs, e, z1, z2⟩
    · exact f a k (by omega) (by omega) (by omega) (by omega)
    · exact f a k (by omega) (by omega) (by omega) (by omega)
    · exact f a k (by omega) (by omega) (by omega) (by omega)
    · have y := sc s b hs e
      have lb : x + 52 < b := by
        rcases S s hs with q | ⟨c, q, q1, q2, q3⟩
        · rw [q] at e; cases e
        · rw [q] at e; cases e; exact q2
      exact (f2 a k (by omega) (by omega)).trans (c6 a k (by omega) (by omega) (by omega) (by omega))
  obtain ⟨q1, q2⟩ := slot_k2 (O2 := oc p) (z2 := p.1) fa (by omega) S P
  have q3 := act_k2 (O2 := oc p) fa A
  have wq : wl (oc q) (x + 40) = W := by
    rw [← hw]; funext k
    show oi (oc q) (x + 41) k = oi (oc h) (x + 41) k
    unfold oi; rw [f1 _ _ (by omega) (by omega)]
  have wp : wl (oc p) (x + 40) = W := (wl_f df (by decide)).trans wq
  have S3 : rdrS (oc p) x := rdrS_fr I0 (fun a k z => f a k (by omega) (by omega) (by omega) (by omega))
  have F3 : oi (oc p) x 12 = oi (oc p) (x + 40) 14 := by rw [g _ _ (by omega) (by omega) (by omega) (by omega), g _ _ (by omega) (by omega) (by omega) (by omega)]; exact If
  have ei : ∀ k, k < 1284 → iwl (oc p) x k = W k := fun k hk => (dw k hk).trans (congrFun wq k)
  have kk : kptE (oc p) p.1 x kr kl := by
    have L9 : lawE (oc p) kl (iwl (oc p) x) := lawE_cb (lawE_fr c4 (fun a k u1 u2 _ => f2 a k (by omega) (by omega))) ei
    exact ⟨⟨(f2 _ _ (by omega) (by omega)).trans c1, (f2 _ _ (by omega) (by omega)).trans c2, d6⟩, ⟨rodE_cg (rodE_fr c3 (fun a k u1 u2 => f2 a k (by omega) (by omega))) K (fun k hk => ei k (by omega)), L9, wOK_cg K (fun k hk => ei k (by omega)), lawK_of L9, lawB_of L9⟩, by omega, fun s b hs e => (sc s b hs (by rw [← fa (x + 20) s (Or.inl rfl)]; exact e)).2⟩
  have q4 : oi (oc p) (x + 40) 7 = nI r := by rw [g _ _ (by omega) (by omega) (by omega) (by omega)]; exact n4
  refine ⟨⟨⟨?_, ?_, ?_, ?_, ?_, ?_, ⟨?_, ?_, ?_, ?_⟩, mS_fr M2 df (by decide) (by decide)⟩, ⟨?_, n2, ?_, q4, n5, by omega, q1, q2, q3⟩, ⟨rodE_fr R (fun a k u1 u2 => f a k (by omega) (by omega) (by omega) (by omega)), wp, K, lawE_fr LE (fun a k u1 u2 _ => f a k (by omega) (by omega) (by omega) (by omega)), LK, LB⟩, ⟨?_, ?_, l3, fun i hi => ?_, S3, F3, Or.inr ⟨kr, kl, kk⟩⟩⟩, d0⟩
  · exact (f _ _ (by omega) (by omega) (by omega) (by omega)).trans x0
  · exact (f _ _ (by omega) (by omega) (by omega) (by omega)).trans x1
  · exact (f _ _ (by omega) (by omega) (by omega) (by omega)).trans x3
  · exact (f _ _ (by omega) (by omega) (by omega) (by omega)).trans x8
  · exact (f _ _ (by omega) (by omega) (by omega) (by omega)).trans x36
  · exact (f _ _ (by omega) (by omega) (by omega) (by omega)).trans x19
  · exact (f _ _ (by omega) (by omega) (by omega) (by omega)).trans t0
  · exact (f _ _ (by omega) (by omega) (by omega) (by omega)).trans t1
  · exact (f _ _ (by omega) (by omega) (by omega) (by omega)).trans t2
  · exact (f _ _ (by omega) (by omega) (by omega) (by omega)).trans t3
  · exact (g _ _ (by omega) (by omega) (by omega) (by omega)).trans n1
  · rw [g _ _ (by omega) (by omega) (by omega) (by omega)]; exact n3
  · exact (g _ _ (by omega) (by omega) (by omega) (by omega)).trans l1
  · exact (g _ _ (by omega) (by omega) (by omega) (by omega)).trans l2
  · rw [g (x + 2) i (by omega) (by omega) (by omega) (by omega), g (x + 46) i (by omega) (by omega) (by omega) (by omega)]
    exact l4 i hi
