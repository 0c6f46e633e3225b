/-! readers, draft, clock and pulls of the class stand where they were made; image and fault alike -/
def rdrS (O : jO) (x : Nat) : Prop :=
  (O x 2 = .ref (x + 13) ∧ O x 4 = .ref (x + 21) ∧ O x 5 = .ref (x + 28) ∧ O x 6 = .ref (x + 34) ∧ O x 7 = .ref (x + 35) ∧ O x 9 = .ref (x + 37)) ∧
  (O (x + 34) 0 = .ref (x + 1) ∧ O (x + 34) 1 = .int 14 ∧ O (x + 34) 2 = .ref (x + 21)) ∧ (O (x + 35) 0 = .ref (x + 1) ∧ O (x + 35) 1 = .int 12 ∧ O (x + 35) 2 = .ref (x + 28)) ∧
  (O (x + 36) 1 = .ref (x + 21) ∧ O (x + 37) 0 = .ref (x + 1) ∧ O (x + 37) 1 = .ref (x + 21) ∧ O (x + 37) 2 = .ref (x + 38) ∧ O (x + 37) 3 = .ref (x + 39)) ∧ rodS O (x + 21) ∧ lawS O (x + 28)
theorem rdrS_fr {O O2 : jO} {x : Nat} (S : rdrS O x) (f : ∀ a k : Nat, ((a = x ∧ k ≤ 9) ∨ (x + 34 ≤ a ∧ a ≤ x + 37) ∨ (a = x + 21 ∧ k ≤ 4) ∨ (a = x + 26 ∧ k = 0) ∨ (a = x + 28 ∧ k ≤ 4)) → O2 a k = O a k) : rdrS O2 x := by
  obtain ⟨⟨a1, a2, a3, a4, a5, a6⟩, ⟨b1, b2, b3⟩, ⟨c1, c2, c3⟩, ⟨d1, d2, d3, d4, d5⟩, ⟨e1, e2, e3, e4, e5, e6⟩, ⟨g1, g2, g3, g4, g5⟩⟩ := S
  refine ⟨⟨?_, ?_, ?_, ?_, ?_, ?_⟩, ⟨?_, ?_, ?_⟩, ⟨?_, ?_, ?_⟩, ⟨?_, ?_, ?_, ?_, ?_⟩, ⟨?_, ?_, ?_, ?_, ?_, ?_⟩, ⟨?_, ?_, ?_, ?_, ?_⟩⟩
  all_goals first
    | exact (f _ _ (by omega)).trans a1 | exact (f _ _ (by omega)).trans a2 | exact (f _ _ (by omega)).trans a3 | exact (f _ _ (by omega)).trans a4 | exact (f _ _ (by omega)).trans a5 | exact (f _ _ (by omega)).trans a6
    | exact (f _ _ (by omega)).trans b1 | exact (f _ _ (by omega)).trans b2 | exact (f _ _ (by omega)).trans b3 | exact (f _ _ (by omega)).trans c1 | exact (f _ _ (by omega)).trans c2 | exact (f _ _ (by omega)).trans c3
    | exact (f _ _ (by omega)).trans d1 | exact (f _ _ (by omega)).trans d2 | exact (f _ _ (by omega)).trans d3 | exact (f _ _ (by omega)).trans d4 | exact (f _ _ (by omega)).trans d5
    | exact (f _ _ (by omega)).trans e1 | exact (f _ _ (by omega)).trans e2 | exact (f _ _ (by omega)).trans e3 | exact (f _ _ (by omega)).trans e4 | exact (f _ _ (by omega)).trans e5 | exact (f _ _ (by omega)).trans e6
    | exact (f _ _ (by omega)).trans g1 | exact (f _ _ (by omega)).trans g2 | exact (f _ _ (by omega)).trans g3 | exact (f _ _ (by omega)).trans g4 | exact (f _ _ (by omega)).trans g5
/-- what the reference's image tells -/
def iwl (O : jO) (x : Nat) : jWd := fun k => oi O (x + 42) k
def kptE (O : jO) (z x kr kl : Nat) : Prop := (O x 10 = .ref kr ∧ O x 11 = .ref kl ∧ oi O (x + 40) 6 = 1) ∧ (rodE O kr (iwl O x) ∧ lawE O kl (iwl O x) ∧ wOK (iwl O x) ∧ lawK (iwl O x) ∧ lawB (iwl O x)) ∧ (x + 52 < kr ∧ kr + 6 < z ∧ x + 52 < kl ∧ kl + 5 < z ∧ (kr + 6 < kl ∨ kl + 5 < kr)) ∧ ∀ s b : Nat, s < 12 → O (x + 20) s = .ref b → (b + 6 < kr ∨ kr + 6 < b) ∧ (b + 6 < kl ∨ kl + 5 < b)
def imE (O : jO) (z x : Nat) : Prop := rdrS O x ∧ oi O x 12 = oi O (x + 40) 14 ∧ ((O x 10 = .null ∧ O x 11 = .null ∧ oi O (x + 40) 6 = 0) ∨ ∃ kr kl : Nat, kptE O z x kr kl)
theorem im_keep {O O2 : jO} {x z z2 : Nat} (fr : ∀ a k : Nat, (a = x ∨ (x + 34 ≤ a ∧ a ≤ x + 37) ∨ (a = x + 21 ∧ k ≤ 4) ∨ (a = x + 26 ∧ k = 0) ∨ (a = x + 28 ∧ k ≤ 4) ∨ a = x + 42 ∨ (a = x + 40 ∧ (k = 6 ∨ k = 14)) ∨ (x + 52 < a ∧ a < z ∧ ∀ s b : Nat, s < 12 → O (x + 20) s = .ref b → a < b ∨ b + 6 < a)) → O2 a k = O a k)
    (sl : ∀ s b : Nat, s < 12 → O2 (x + 20) s = .ref b → O (x + 20) s = .ref b ∨ z ≤ b) (hz : z ≤ z2) (I : imE O z x) : imE O2 z2 x := by
  obtain ⟨S, F, I⟩ := I
  have fi : ∀ a k : Nat, (a = x ∨ a = x + 42 ∨ (a = x + 40 ∧ (k = 6 ∨ k = 14))) → oi O2 a k = oi O a k := fun a k h => by unfold oi; rw [fr a k (by omega)]
  have ew : iwl O2 x = iwl O x := funext fun k => fi _ _ (by omega)
  refine ⟨rdrS_fr S (fun a k h => fr a k (by omega)), by rw [fi _ _ (by omega), fi _ _ (by omega)]; exact F, ?_⟩
  rcases I with ⟨a1, a2, a3⟩ | ⟨kr, kl, ⟨a1, a2, a3⟩, ⟨b1, b2, b3, b4, b5⟩, ⟨c1, c2, c3, c4, c5⟩, d⟩
  · exact Or.inl ⟨(fr _ _ (by omega)).trans a1, (fr _ _ (by omega)).trans a2, (fi _ _ (by omega)).trans a3⟩
  · refine Or.inr ⟨kr, kl, ⟨(fr _ _ (by omega)).trans a1, (fr _ _ (by omega)).trans a2, (fi _ _ (by omega)).trans a3⟩, ?_, ⟨c1, by omega, c3, by omega, c5⟩, fun s b hs e => ?_⟩
    · rw [ew]
      refine ⟨rodE_fr b1 (fun a k h1 h2 => fr a k ?_), lawE_fr b2 (fun a k h1 h2 h3 => fr a k ?_), b3, b4, b5⟩
      · exact Or.inr (Or.inr (Or.inr (Or.inr (Or.inr (Or.inr (Or.inr ⟨by omega, by omega, fun s b hs e => by have := (d s b hs e).1; omega⟩))))))
      · exact Or.inr (Or.inr (Or.inr (Or.inr (Or.inr (Or.inr (Or.inr ⟨by omega, by omega, fun s b hs e => by have := (d s b hs e).2; omega⟩))))))
    · rcases sl s b hs e with y | y
      · exact d s b hs y
      · exact ⟨by omega, by omega⟩
/-! class and reference alike (but for image and readers): W is the world of both, L the tape's length, r acts remembered, nx the class's next slot -/
def eqS (x nx r L : Nat) (W : jWd) (h : jH) : Prop :=
  (oc h x 0 = .ref (x + 1) ∧ oc h x 1 = .ref (x + 6) ∧ oc h x 3 = .ref (x + 19) ∧ oc h x 8 = .ref (x + 36) ∧ oc h (x + 36) 0 = .ref (x + 13) ∧ oc h (x + 19) 0 = .ref (x + 20) ∧ tpS (oc h) (x + 1) ∧ mS (oc h) (x + 40)) ∧
  (oi (oc h) (x + 19) 1 = nI nx ∧ nx ≤ 11 ∧ (oi (oc h) (x + 19) 2).toInt = (r : Int) ∧ oi (oc h) (x + 40) 7 = nI r ∧ r ≤ 12 ∧ x + 52 < h.1 ∧ slotE (oc h) h.1 x ∧ apartE (oc h) x ∧ actE (oc h) x (x + 40) r nx) ∧
  (rodE (oc h) (x + 6) W ∧ wl (oc h) (x + 40) = W ∧ wOK W ∧ lawE (oc h) (x + 13) W ∧ lawK W ∧ lawB W) ∧
  (oi (oc h) (x + 1) 6 = nI L ∧ oi (oc h) (x + 40) 9 = nI L ∧ L ≤ 400 ∧ (∀ i, i < 400 → oi (oc h) (x + 2) i = oi (oc h) (x + 46) i) ∧ imE (oc h) h.1 x)
theorem eq_pre {x nx r L : Nat} {W : jWd} {h : jH} (E : eqS x nx r L W h) : cPre x nx W h := by
  obtain ⟨⟨e0, e1, e3, e8, e36, e19, -, -⟩, ⟨n1, n2, n3, n4, n5, n6, S, P, A⟩, ⟨R, -, K, -⟩, -⟩ := E
  refine ⟨⟨e1, e3, e19, n1, n2, R, K⟩, fun b e => ?_, n6, by omega⟩
  rcases S nx (by omega) with q | ⟨c, q, q1, q2, q3⟩
  · rw [q] at e; cases e
  · rw [q] at e; cases e; exact ⟨q1, q2⟩
theorem eq_actL {x nx r L : Nat} {W W2 : jWd} {h h2 h3 : jH} (E : eqS x nx r L W h) (C : cAct x nx W W2 h h2) (D : rAct (x + 40) r W2 h2 h3) (K2 : wOK W2) (LE2 : lawE (oc h2) (x + 13) W2) (LK2 : lawK W2) (LB2 : lawB W2) : eqS x ((nx + 1) % 12) (if r < 12 then r + 1 else 12) L W2 h3 := by
  have hb := (eq_pre E).2.1
  obtain ⟨⟨e0, e1, e3, e8, e36, e19, ⟨t0, t1, t2, t3⟩, M⟩, ⟨n1, n2, n3, n4, n5, n6, S, P, A⟩, ⟨R, hw, K, LE, LK, LB⟩, ⟨l1, l2, l3, l4, I⟩⟩ := E
  have f2 := c_keep n6 hb C
  obtain ⟨q1, q2, q3⟩ := act_step n2 n5 S P A (fun k _ => congrFun hw k) K LE.2.1 n6 C D
  have C' := C
  obtain ⟨R2, b, ⟨B, c1, c2, c3, c4⟩, c5⟩ := C'
  obtain ⟨d0, dw, d7, dA, dB, dF, dz⟩ := D
  have f3 : ∀ a k : Nat, a ≠ x + 41 → a ≠ x + 45 → a ≠ x + 48 → ¬ (a = x + 40 ∧ (k = 0 ∨ k = 7 ∨ k = 18)) → oc h3 a k = oc h2 a k := fun a k z1 z2 z3 z4 => dF a k (fun c hc z => by simp at hc; omega) (fun z w => z4 ⟨z, by simpa using w⟩)
  have f : ∀ a k : Nat, a ≤ x + 52 → ¬ (x + 6 ≤ a ∧ a ≤ x + 12) → a ≠ x + 18 → ¬ (a = x + 13 ∧ k = 5) → ¬ (a = x + 19 ∧ (k = 1 ∨ k = 2)) → a ≠ x + 20 → a ≠ x + 41 → a ≠ x + 45 → a ≠ x + 48 → ¬ (a = x + 40 ∧ (k = 0 ∨ k = 7 ∨ k = 18)) → oc h3 a k = oc h a k := fun a k y1 y2 y3 y4 y5 y6 y7 y8 y9 y10 => (f3 a k y7 y8 y9 y10).trans (f2 a k y1 y5 (by omega) y2 y3 y4)
  have fi : ∀ a k : Nat, a ≤ x + 52 → ¬ (x + 6 ≤ a ∧ a ≤ x + 12) → a ≠ x + 18 → ¬ (a = x + 13 ∧ k = 5) → ¬ (a = x + 19 ∧ (k = 1 ∨ k = 2)) → a ≠ x + 20 → a ≠ x + 41 → a ≠ x + 45 → a ≠ x + 48 → ¬ (a = x + 40 ∧ (k = 0 ∨ k = 7 ∨ k = 18)) → oi (oc h3) a k = oi (oc h) a k := fun a k y1 y2 y3 y4 y5 y6 y7 y8 y9 y10 => by unfold oi; rw [f a k y1 y2 y3 y4 y5 y6 y7 y8 y9 y10]
  have g : ∀ a k : Nat, a ≤ x + 39 → oc h3 a k = oc h2 a k := fun a k z => f3 a k (by omega) (by omega) (by omega) (by omega)
  have gi : ∀ a k : Nat, a ≤ x + 39 → oi (oc h3) a k = oi (oc h2) a k := fun a k z => by unfold oi; rw [g a k z]
  refine ⟨⟨?_, ?_, ?_, ?_, ?_, ?_, ⟨?_, ?_, ?_, ?_⟩, ?_⟩, ⟨?_, by omega, ?_, d7, by split <;> omega, ?_, q1, q2, q3⟩, ⟨?_, dw, K2, ?_, LK2, LB2⟩, ⟨?_, ?_, l3, fun i hi => ?_, ?_⟩⟩
  · exact (f _ _ (by omega) (by omega) (by omega) (by omega) (by omega) (by omega) (by omega) (by omega) (by omega) (by omega)).trans e0
  · exact (f _ _ (by omega) (by omega) (by omega) (by omega) (by omega) (by omega) (by omega) (by omega) (by omega) (by omega)).trans e1
  · exact (f _ _ (by omega) (by omega) (by omega) (by omega) (by omega) (by omega) (by omega) (by omega) (by omega) (by omega)).trans e3
  · exact (f _ _ (by omega) (by omega) (by omega) (by omega) (by omega) (by omega) (by omega) (by omega) (by omega) (by omega)).trans e8
  · exact (f _ _ (by omega) (by omega) (by omega) (by omega) (by omega) (by omega) (by omega) (by omega) (by omega) (by omega)).trans e36
  · exact (f _ _ (by omega) (by omega) (by omega) (by omega) (by omega) (by omega) (by omega) (by omega) (by omega) (by omega)).trans e19
  · exact (f _ _ (by omega) (by omega) (by omega) (by omega) (by omega) (by omega) (by omega) (by omega) (by omega) (by omega)).trans t0
  · exact (f _ _ (by omega) (by omega) (by omega) (by omega) (by omega) (by omega) (by omega) (by omega) (by omega) (by omega)).trans t1
  · exact (f _ _ (by omega) (by omega) (by omega) (by omega) (by omega) (by omega) (by omega) (by omega) (by omega) (by omega)).trans t2
  · exact (f _ _ (by omega) (by omega) (by omega) (by omega) (by omega) (by omega) (by omega) (by omega) (by omega) (by omega)).trans t3
  · have M2 : mS (oc h2) (x + 40) := by
      obtain ⟨s1, s2, s3, s4, s5, s8, s15, s17, s19, s20, s21⟩ := M
      have k2 : ∀ k, oc h2 (x + 40) k = oc h (x + 40) k := fun k => f2 _ k (by omega) (by omega) (by omega) (by omega) (by omega) (by omega)
      exact ⟨(k2 _).trans s1, (k2 _).trans s2, (k2 _).trans s3, (k2 _).trans s4, (k2 _).trans s5, (k2 _).trans s8, (k2 _).trans s15, (k2 _).trans s17, (k2 _).trans s19, (k2 _).trans s20, (k2 _).trans s21⟩
    exact mS_fr M2 dF (by decide) (by decide)
  · exact (gi _ _ (by omega)).trans c3
  · rw [gi _ _ (by omega), c4, n3]; split <;> split <;> omega
  · rcases B with ⟨-, y⟩ | ⟨-, -, y⟩ <;> omega
  · exact rodE_fr R2 (fun a k z1 z2 => g a k (by omega))
  · exact lawE_fr LE2 (fun a k z1 z2 z3 => g a k (by omega))
  · exact (fi _ _ (by omega) (by omega) (by omega) (by omega) (by omega) (by omega) (by omega) (by omega) (by omega) (by omega)).trans l1
  · exact (fi _ _ (by omega) (by omega) (by omega) (by omega) (by omega) (by omega) (by omega) (by omega) (by omega) (by omega)).trans l2
  · rw [fi (x + 2) i (by omega) (by omega) (by omega) (by omega) (by omega) (by omega) (by omega) (by omega) (by omega) (by omega), fi (x + 46) i (by omega) (by omega) (by omega) (by omega) (by omega) (by omega) (by omega) (by omega) (by omega) (by omega)]
    exact l4 i hi
  · refine im_keep (O := oc h) (z := h.1) (fun a k z => ?_) (fun s d hs e => ?_) (by rcases B with ⟨-, y⟩ | ⟨-, -, y⟩ <;> omega) I
    · have u : a < h.1 ∧ (a ≤ x + 42 ∨ x + 52 < a) ∧ ¬ (b ≤ a ∧ a ≤ b + 6) := by
        have lb := cRm_lb n6 hb ⟨B, c1, c2, c3, c4⟩
        rcases z with z | z | z | z | z | z | z | ⟨z1, z2, z3⟩
        · omega
        · omega
        · omega
        · omega
        · omega
        · omega
        · omega
        · refine ⟨z2, by omega, ?_⟩
          rcases B with ⟨y, -⟩ | ⟨-, y, -⟩
          · have := z3 nx b (by omega) y; omega
          · omega
      have v : ¬ (a = x + 19 ∧ (k = 1 ∨ k = 2)) ∧ ¬ (a = x + 20 ∧ k = nx) ∧ ¬ (x + 6 ≤ a ∧ a ≤ x + 12) ∧ a ≠ x + 18 ∧ ¬ (a = x + 13 ∧ k = 5) ∧ a ≠ x + 41 ∧ a ≠ x + 45 ∧ a ≠ x + 48 ∧ ¬ (a = x + 40 ∧ (k = 0 ∨ k = 7 ∨ k = 18)) := by omega
      exact (f3 a k v.2.2.2.2.2.1 v.2.2.2.2.2.2.1 v.2.2.2.2.2.2.2.1 v.2.2.2.2.2.2.2.2).trans (c5 a k u.1 u.2.2 v.1 v.2.1 v.2.2.1 v.2.2.2.1 v.2.2.2.2.1)
    · by_cases ns : s = nx
      · rw [ns, f3 _ _ (by omega) (by omega) (by omega) (by omega), c1] at e
        cases e
        rcases B with ⟨y, -⟩ | ⟨-, y, -⟩
        · rw [ns]; exact Or.inl y
        · exact Or.inr (by omega)
      · rw [f3 _ _ (by omega) (by omega) (by omega) (by omega), f2 _ _ (by omega) (by omega) (by omega) (by omega) (by omega) (by omega)] at e
        exact Or.inl e
theorem eq_act {x nx r L : Nat} {W W2 : jWd} {h h2 h3 : jH} (E : eqS x nx r L W h) (C : cAct x nx W W2 h h2) (D : rAct (x + 40) r W2 h2 h3) (K2 : wOK W2) (hl : ∀ k, k = 2 ∨ 435 ≤ k → W2 k = W k) (LK2 : lawK W2) (LB2 : lawB W2) : eqS x ((nx + 1) % 12) (if r < 12 then r + 1 else 12) L W2 h3 :=
  eq_actL E C D K2 (lawE_cg (lawE_fr E.2.2.1.2.2.2.1 (fun a k z1 z2 z3 => c_keep E.2.1.2.2.2.2.2.1 (eq_pre E).2.1 C a k (by omega) (by omega) (by omega) (by omega) (by omega) (by omega))) hl) LK2 LB2
