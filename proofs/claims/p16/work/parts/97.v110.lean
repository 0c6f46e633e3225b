section
/-! the acts that are remembered, on both sides -/
def slotE (O : jO) (z x : Nat) : Prop := ∀ s : Nat, s < 12 → O (x + 20) s = .null ∨ ∃ b : Nat, O (x + 20) s = .ref b ∧ rodS O b ∧ x + 52 < b ∧ b + 6 < z
def apartE (O : jO) (x : Nat) : Prop := ∀ s t b c : Nat, s < 12 → t < 12 → s ≠ t → O (x + 20) s = .ref b → O (x + 20) t = .ref c → b + 6 < c ∨ c + 6 < b
/-- the j-th latest act -/
def actE (O : jO) (x m r nx : Nat) : Prop := ∀ j : Nat, j < r → ∃ (b : Nat) (V : jWd), O (x + 20) ((nx + 11 - j) % 12) = .ref b ∧ rodE O b V ∧ wOK V ∧ (∀ k, k < 435 → V k = oi O (m + 5) (435 * (r - 1 - j) + k)) ∧ V 2 = oi O (x + 13) 7
theorem act_step {x nx r : Nat} {W W2 V2 : jWd} {h h2 h3 : jH} (hn : nx ≤ 11) (hr : r ≤ 12) (S : slotE (oc h) h.1 x) (P : apartE (oc h) x) (A : actE (oc h) x (x + 40) r nx) (hw : ∀ k, k < 435 → wl (oc h) (x + 40) k = W k) (K : wOK W) (h2w : oi (oc h) (x + 13) 7 = W 2) (hz : x + 52 < h.1) (C : cAct x nx W W2 h h2) (D : rAct (x + 40) r V2 h2 h3) :
    slotE (oc h3) h3.1 x ∧ apartE (oc h3) x ∧ actE (oc h3) x (x + 40) (if r < 12 then r + 1 else 12) ((nx + 1) % 12) := by
  obtain ⟨d0, dw, d7, dA, dB, dF, dz⟩ := D
  obtain ⟨-, b, C1, c5⟩ := C
  have hb : ∀ b : Nat, oc h (x + 20) nx = .ref b → rodS (oc h) b ∧ x + 52 < b := fun b e => by
    rcases S nx (by omega) with q | ⟨c, q, q1, q2, q3⟩
    · rw [q] at e; cases e
    · rw [q] at e; cases e; exact ⟨q1, q2⟩
  have lb := cRm_lb hz hb C1
  obtain ⟨B, c1, c2, c3, c4⟩ := C1
  have f3 : ∀ a k : Nat, (a ≤ x + 39 ∨ x + 52 < a) → oc h3 a k = oc h2 a k := fun a k q => dF a k (fun c hc z => by simp at hc; omega) (fun z => by omega)
  have zz : b + 6 < h3.1 ∧ h.1 ≤ h3.1 := by
    rcases B with ⟨e, y⟩ | ⟨e, y, y2⟩
    · rcases S nx (by omega) with q | ⟨c, q, q1, q2, q3⟩
      · rw [q] at e; cases e
      · rw [q] at e; cases e; omega
    · omega
  have ow : ∀ s c : Nat, s < 12 → s ≠ nx → oc h (x + 20) s = .ref c → (c + 6 < b ∨ b + 6 < c) ∧ x + 52 < c ∧ c + 6 < h.1 ∧ rodS (oc h) c := fun s c hs ns e => by
    have l : rodS (oc h) c ∧ x + 52 < c ∧ c + 6 < h.1 := by
      rcases S s hs with q | ⟨c2, q, q1, q2, q3⟩
      · rw [q] at e; cases e
      · rw [q] at e; cases e; exact ⟨q1, q2, q3⟩
    refine ⟨?_, l.2.1, l.2.2, l.1⟩
    rcases B with ⟨y, -⟩ | ⟨-, y, -⟩
    · exact P s nx c b hs (by omega) ns e y
    · omega
  have kp : ∀ s c : Nat, s < 12 → s ≠ nx → oc h (x + 20) s = .ref c → ∀ a k : Nat, c ≤ a → a ≤ c + 6 → oc h3 a k = oc h a k := fun s c hs ns e a k h1 h2 => by
    obtain ⟨w1, w2, w3, -⟩ := ow s c hs ns e
    exact (f3 a k (by omega)).trans (c5 a k (by omega) (by omega) (by omega) (by omega) (by omega) (by omega) (by omega))
  have sn : ∀ s : Nat, s < 12 → s ≠ nx → oc h3 (x + 20) s = oc h (x + 20) s := fun s hs ns => (f3 _ _ (by omega)).trans (c5 _ _ (by omega) (by omega) (by omega) (by omega) (by omega) (by omega) (by omega))
  have s0 : oc h3 (x + 20) nx = .ref b := (f3 _ _ (by omega)).trans c1
  have rb : rodE (oc h3) b W := rodE_fr c2 (fun a k h1 h2 => f3 a k (by omega))
  have h13 : oi (oc h3) (x + 13) 7 = oi (oc h) (x + 13) 7 := by
    unfold oi
    rw [f3 _ _ (by omega), c5 _ _ (by omega) (by omega) (by omega) (by omega) (by omega) (by omega) (by omega)]
  refine ⟨fun s hs => ?_, fun s t c d hs ht ne e1 e2 => ?_, fun j hj => ?_⟩
  · by_cases q : s = nx
    · subst q; exact Or.inr ⟨b, s0, rb.1, lb, zz.1⟩
    · rw [sn s hs q]
      rcases S s hs with w | ⟨c, w, w1, w2, w3⟩
      · exact Or.inl w
      · exact Or.inr ⟨c, w, rodS_fr w1 (fun k => kp s c hs q w _ _ (by omega) (by omega)) (kp s c hs q w _ _ (by omega) (by omega)), w2, by omega⟩
  · by_cases q : s = nx
    · subst q
      rw [s0] at e1
      cases e1
      rw [sn t ht (Ne.symm ne)] at e2
      exact (ow t d ht (Ne.symm ne) e2).1.symm
    · rw [sn s hs q] at e1
      by_cases q2 : t = nx
      · subst q2
        rw [s0] at e2
        cases e2
        exact (ow s c hs q e1).1
      · rw [sn t ht q2] at e2
        exact P s t c d hs ht ne e1 e2
  · by_cases j0 : j = 0
    · subst j0
      refine ⟨b, W, ?_, rb, K, fun k hk => ?_, (h13.trans h2w).symm⟩
      · rw [show ((nx + 1) % 12 + 11 - 0) % 12 = nx by omega]; exact s0
      · have y := dA k hk
        have w : wl (oc h2) (x + 40) k = wl (oc h) (x + 40) k := by
          show oi (oc h2) (x + 40 + 1) k = oi (oc h) (x + 40 + 1) k
          unfold oi
          rw [c5 _ _ (by omega) (by omega) (by omega) (by omega) (by omega) (by omega) (by omega)]
        exact ((y.trans w).trans (hw k hk)).symm
    · have jr : j - 1 < r := by split at hj <;> omega
      have j12 : j ≤ 11 := by split at hj <;> omega
      obtain ⟨c, V, a1, a2, a3, a4, a5⟩ := A (j - 1) jr
      have es : ((nx + 1) % 12 + 11 - j) % 12 = (nx + 11 - (j - 1)) % 12 := by omega
      have ns : (nx + 11 - (j - 1)) % 12 ≠ nx := by omega
      have hs : (nx + 11 - (j - 1)) % 12 < 12 := by omega
      refine ⟨c, V, ?_, rodE_fr a2 (kp _ c hs ns a1), a3, fun k hk => ?_, a5.trans h13.symm⟩
      · rw [es, sn _ hs ns]; exact a1
      · have y := dB j (by omega) hj k hk
        have w : oi (oc h2) (x + 40 + 5) (435 * (r - j) + k) = oi (oc h) (x + 40 + 5) (435 * (r - j) + k) := by
          unfold oi
          rw [c5 _ _ (by omega) (by omega) (by omega) (by omega) (by omega) (by omega) (by omega)]
        have z := a4 k hk
        rw [show r - 1 - (j - 1) = r - j by omega] at z
        exact z.trans (y.trans w).symm
end
section
/-! acts left alone, and one taken back -/
theorem slot_keep {x z z2 : Nat} {O O2 : jO} (fr : ∀ a k : Nat, (a = x + 20 ∨ x + 52 < a ∨ a = x + 45) → O2 a k = O a k) (hz : z ≤ z2) (S : slotE O z x) (P : apartE O x) : slotE O2 z2 x ∧ apartE O2 x := by
  refine ⟨fun s hs => ?_, fun s t b c hs ht ne e1 e2 => ?_⟩
  · rw [fr _ _ (Or.inl rfl)]
    rcases S s hs with w | ⟨c, w, w1, w2, w3⟩
    · exact Or.inl w
    · exact Or.inr ⟨c, w, rodS_fr w1 (fun k => fr _ _ (by omega)) (fr _ _ (by omega)), w2, by omega⟩
  · rw [fr _ _ (Or.inl rfl)] at e1 e2
    exact P s t b c hs ht ne e1 e2
theorem act_keep {x z r nx : Nat} {O O2 : jO} (fr : ∀ a k : Nat, (a = x + 20 ∨ x + 52 < a ∨ a = x + 45 ∨ (a = x + 13 ∧ k = 7)) → O2 a k = O a k) (S : slotE O z x) (hn : nx ≤ 11) (A : actE O x (x + 40) r nx) : actE O2 x (x + 40) r nx := by
  intro j hj
  obtain ⟨c, V, a1, a2, a3, a4, a5⟩ := A j hj
  have l : x + 52 < c := by
    rcases S ((nx + 11 - j) % 12) (by omega) with q | ⟨d, q, q1, q2, q3⟩
    · rw [q] at a1; cases a1
    · rw [q] at a1; cases a1; exact q2
  refine ⟨c, V, (fr _ _ (Or.inl rfl)).trans a1, rodE_fr a2 (fun a k h1 h2 => fr _ _ (by omega)), a3, fun k hk => (a4 k hk).trans ?_, a5.trans ?_⟩
  · unfold oi
    rw [fr _ _ (Or.inr (Or.inr (Or.inl rfl)))]
  · unfold oi
    rw [fr _ _ (Or.inr (Or.inr (Or.inr ⟨rfl, rfl⟩)))]
theorem act_undo {x z r nx : Nat} {O O2 : jO} (fr : ∀ a k : Nat, (a = x + 20 ∨ x + 52 < a ∨ a = x + 45 ∨ (a = x + 13 ∧ k = 7)) → O2 a k = O a k) (S : slotE O z x) (hn : nx ≤ 11) (hr : r ≤ 12) (A : actE O x (x + 40) r nx) : actE O2 x (x + 40) (r - 1) ((nx + 11) % 12) := by
  intro j hj
  obtain ⟨c, V, a1, a2, a3, a4, a5⟩ := act_keep fr S hn A (j + 1) (by omega)
  refine ⟨c, V, ?_, a2, a3, fun k hk => ?_, a5⟩
  · rw [show ((nx + 11) % 12 + 11 - j) % 12 = (nx + 11 - (j + 1)) % 12 by omega]; exact a1
  · rw [a4 k hk, show r - 1 - (j + 1) = r - 1 - 1 - j by omega]
/-- the latest act, as undo finds it -/
theorem act_last {x z r nx : Nat} {O : jO} (S : slotE O z x) (P : apartE O x) (hn : nx ≤ 11) (hr : 1 ≤ r) (A : actE O x (x + 40) r nx) : ∃ (b : Nat) (V : jWd), O (x + 20) ((nx + 11) % 12) = .ref b ∧ x + 52 < b ∧ rodE O b V ∧ wOK V ∧ (∀ k, k < 435 → V k = oi O (x + 45) (435 * (r - 1) + k)) ∧ V 2 = oi O (x + 13) 7 := by
  obtain ⟨c, V, a1, a2, a3, a4, a5⟩ := A 0 (by omega)
  refine ⟨c, V, a1, ?_, a2, a3, a4, a5⟩
  rcases S ((nx + 11) % 12) (by omega) with q | ⟨d, q, q1, q2, q3⟩
  · rw [show (nx + 11 - 0) % 12 = (nx + 11) % 12 by omega, q] at a1; cases a1
  · rw [show (nx + 11 - 0) % 12 = (nx + 11) % 12 by omega, q] at a1; cases a1; exact q2
end
section
/-! readers, draft, clock and pulls of the class stand where they were made; image and fault alike -/
def rdrS (O : jO) (x : Nat) : Prop :=
  (O x 2 = .ref (x + 13) ∧ O x 4 = .ref (x + 21) ∧ O x 5 = .ref (x + 28) ∧ O x 6 = .ref (x + 34) ∧ O x 7 = .ref (x + 35) ∧ O x 9 = .ref (x + 37)) ∧
  (O (x + 34) 0 = .ref (x + 1) ∧ O (x + 34) 1 = .int 14 ∧ O (x + 34) 2 = .ref (x + 21)) ∧ (O (x + 35) 0 = .ref (x + 1) ∧ O (x + 35) 1 = .int 12 ∧ O (x + 35) 2 = .ref (x + 28)) ∧
  (O (x + 36) 1 = .ref (x + 21) ∧ O (x + 37) 0 = .ref (x + 1) ∧ O (x + 37) 1 = .ref (x + 21) ∧ O (x + 37) 2 = .ref (x + 38) ∧ O (x + 37) 3 = .ref (x + 39)) ∧ rodS O (x + 21) ∧ lawS O (x + 28)
theorem rdrS_fr {O O2 : jO} {x : Nat} (S : rdrS O x) (f : ∀ a k : Nat, ((a = x ∧ k ≤ 9) ∨ (x + 34 ≤ a ∧ a ≤ x + 37) ∨ (a = x + 21 ∧ k ≤ 4) ∨ (a = x + 26 ∧ k = 0) ∨ (a = x + 28 ∧ k ≤ 4)) → O2 a k = O a k) : rdrS O2 x := by
  obtain ⟨⟨a1, a2, a3, a4, a5, a6⟩, ⟨b1, b2, b3⟩, ⟨c1, c2, c3⟩, ⟨d1, d2, d3, d4, d5⟩, ⟨e1, e2, e3, e4, e5, e6⟩, ⟨g1, g2, g3, g4, g5⟩⟩ := S
  refine ⟨⟨?_, ?_, ?_, ?_, ?_, ?_⟩, ⟨?_, ?_, ?_⟩, ⟨?_, ?_, ?_⟩, ⟨?_, ?_, ?_, ?_, ?_⟩, ⟨?_, ?_, ?_, ?_, ?_, ?_⟩, ⟨?_, ?_, ?_, ?_, ?_⟩⟩
  all_goals first
    | exact (f _ _ (by omega)).trans a1 | exact (f _ _ (by omega)).trans a2 | exact (f _ _ (by omega)).trans a3 | exact (f _ _ (by omega)).trans a4 | exact (f _ _ (by omega)).trans a5 | exact (f _ _ (by omega)).trans a6
    | exact (f _ _ (by omega)).trans b1 | exact (f _ _ (by omega)).trans b2 | exact (f _ _ (by omega)).trans b3 | exact (f _ _ (by omega)).trans c1 | exact (f _ _ (by omega)).trans c2 | exact (f _ _ (by omega)).trans c3
    | exact (f _ _ (by omega)).trans d1 | exact (f _ _ (by omega)).trans d2 | exact (f _ _ (by omega)).trans d3 | exact (f _ _ (by omega)).trans d4 | exact (f _ _ (by omega)).trans d5
    | exact (f _ _ (by omega)).trans e1 | exact (f _ _ (by omega)).trans e2 | exact (f _ _ (by omega)).trans e3 | exact (f _ _ (by omega)).trans e4 | exact (f _ _ (by omega)).trans e5 | exact (f _ _ (by omega)).trans e6
    | exact (f _ _ (by omega)).trans g1 | exact (f _ _ (by omega)).trans g2 | exact (f _ _ (by omega)).trans g3 | exact (f _ _ (by omega)).trans g4 | exact (f _ _ (by omega)).trans g5
/-- what the reference's image tells -/
def iwl (O : jO) (x : Nat) : jWd := fun k => oi O (x + 42) k
def kptE (O : jO) (z x kr kl : Nat) : Prop := (O x 10 = .ref kr ∧ O x 11 = .ref kl ∧ oi O (x + 40) 6 = 1) ∧ (rodE O kr (iwl O x) ∧ lawE O kl (iwl O x) ∧ wOK (iwl O x) ∧ lawK (iwl O x) ∧ lawB (iwl O x)) ∧ (x + 52 < kr ∧ kr + 6 < z ∧ x + 52 < kl ∧ kl + 5 < z ∧ (kr + 6 < kl ∨ kl + 5 < kr)) ∧ ∀ s b : Nat, s < 12 → O (x + 20) s = .ref b → (b + 6 < kr ∨ kr + 6 < b) ∧ (b + 6 < kl ∨ kl + 5 < b)
def imE (O : jO) (z x : Nat) : Prop := rdrS O x ∧ oi O x 12 = oi O (x + 40) 14 ∧ ((O x 10 = .null ∧ O x 11 = .null ∧ oi O (x + 40) 6 = 0) ∨ ∃ kr kl : Nat, kptE O z x kr kl)
theorem im_keep {O O2 : jO} {x z z2 : Nat} (fr : ∀ a k : Nat, (a = x ∨ (x + 34 ≤ a ∧ a ≤ x + 37) ∨ (a = x + 21 ∧ k ≤ 4) ∨ (a = x + 26 ∧ k = 0) ∨ (a = x + 28 ∧ k ≤ 4) ∨ a = x + 42 ∨ (a = x + 40 ∧ (k = 6 ∨ k = 14)) ∨ (x + 52 < a ∧ a < z ∧ ∀ s b : Nat, s < 12 → O (x + 20) s = .ref b → a < b ∨ b + 6 < a)) → O2 a k = O a k)
    (sl : ∀ s b : Nat, s < 12 → O2 (x + 20) s = .ref b → O (x + 20) s = .ref b ∨ z ≤ b) (hz : z ≤ z2) (I : imE O z x) : imE O2 z2 x := by
  obtain ⟨S, F, I⟩ := I
  have fi : ∀ a k : Nat, (a = x ∨ a = x + 42 ∨ (a = x + 40 ∧ (k = 6 ∨ k = 14))) → oi O2 a k = oi O a k := fun a k h => by unfold oi; rw [fr a k (by omega)]
  have ew : iwl O2 x = iwl O x := funext fun k => fi _ _ (by omega)
  refine ⟨rdrS_fr S (fun a k h => fr a k (by omega)), by rw [fi _ _ (by omega), fi _ _ (by omega)]; exact F, ?_⟩
  rcases I with ⟨a1, a2, a3⟩ | ⟨kr, kl, ⟨a1, a2, a3⟩, ⟨b1, b2, b3, b4, b5⟩, ⟨c1, c2, c3, c4, c5⟩, d⟩
  · exact Or.inl ⟨(fr _ _ (by omega)).trans a1, (fr _ _ (by omega)).trans a2, (fi _ _ (by omega)).trans a3⟩
  · refine Or.inr ⟨kr, kl, ⟨(fr _ _ (by omega)).trans a1, (fr _ _ (by omega)).trans a2, (fi _ _ (by omega)).trans a3⟩, ?_, ⟨c1, by omega, c3, by omega, c5⟩, fun s b hs e => ?_⟩
    · rw [ew]
      refine ⟨rodE_fr b1 (fun a k h1 h2 => fr a k ?_), lawE_fr b2 (fun a k h1 h2 h3 => fr a k ?_), b3, b4, b5⟩
      · exact Or.inr (Or.inr (Or.inr (Or.inr (Or.inr (Or.inr (Or.inr ⟨by omega, by omega, fun s b hs e => by have := (d s b hs e).1; omega⟩))))))
      · exact Or.inr (Or.inr (Or.inr (Or.inr (Or.inr (Or.inr (Or.inr ⟨by omega, by omega, fun s b hs e => by have := (d s b hs e).2; omega⟩))))))
    · rcases sl s b hs e with y | y
      · exact d s b hs y
      · exact ⟨by omega, by omega⟩
/-! class and reference alike (but for image and readers): W is the world of both, L the tape's length, r acts remembered, nx the class's next slot -/
def eqS (x nx r L : Nat) (W : jWd) (h : jH) : Prop :=
  (oc h x 0 = .ref (x + 1) ∧ oc h x 1 = .ref (x + 6) ∧ oc h x 3 = .ref (x + 19) ∧ oc h x 8 = .ref (x + 36) ∧ oc h (x + 36) 0 = .ref (x + 13) ∧ oc h (x + 19) 0 = .ref (x + 20) ∧ tpS (oc h) (x + 1) ∧ mS (oc h) (x + 40)) ∧
  (oi (oc h) (x + 19) 1 = nI nx ∧ nx ≤ 11 ∧ (oi (oc h) (x + 19) 2).toInt = (r : Int) ∧ oi (oc h) (x + 40) 7 = nI r ∧ r ≤ 12 ∧ x + 52 < h.1 ∧ slotE (oc h) h.1 x ∧ apartE (oc h) x ∧ actE (oc h) x (x + 40) r nx) ∧
  (rodE (oc h) (x + 6) W ∧ wl (oc h) (x + 40) = W ∧ wOK W ∧ lawE (oc h) (x + 13) W ∧ lawK W ∧ lawB W) ∧
  (oi (oc h) (x + 1) 6 = nI L ∧ oi (oc h) (x + 40) 9 = nI L ∧ L ≤ 400 ∧ (∀ i, i < 400 → oi (oc h) (x + 2) i = oi (oc h) (x + 46) i) ∧ imE (oc h) h.1 x)
theorem eq_pre {x nx r L : Nat} {W : jWd} {h : jH} (E : eqS x nx r L W h) : cPre x nx W h := by
  obtain ⟨⟨e0, e1, e3, e8, e36, e19, -, -⟩, ⟨n1, n2, n3, n4, n5, n6, S, P, A⟩, ⟨R, -, K, -⟩, -⟩ := E
  refine ⟨⟨e1, e3, e19, n1, n2, R, K⟩, fun b e => ?_, n6, by omega⟩
  rcases S nx (by omega) with q | ⟨c, q, q1, q2, q3⟩
  · rw [q] at e; cases e
  · rw [q] at e; cases e; exact ⟨q1, q2⟩
theorem eq_actL {x nx r L : Nat} {W W2 : jWd} {h h2 h3 : jH} (E : eqS x nx r L W h) (C : cAct x nx W W2 h h2) (D : rAct (x + 40) r W2 h2 h3) (K2 : wOK W2) (LE2 : lawE (oc h2) (x + 13) W2) (LK2 : lawK W2) (LB2 : lawB W2) : eqS x ((nx + 1) % 12) (if r < 12 then r + 1 else 12) L W2 h3 := by
  have hb := (eq_pre E).2.1
  obtain ⟨⟨e0, e1, e3, e8, e36, e19, ⟨t0, t1, t2, t3⟩, M⟩, ⟨n1, n2, n3, n4, n5, n6, S, P, A⟩, ⟨R, hw, K, LE, LK, LB⟩, ⟨l1, l2, l3, l4, I⟩⟩ := E
  have f2 := c_keep n6 hb C
  obtain ⟨q1, q2, q3⟩ := act_step n2 n5 S P A (fun k _ => congrFun hw k) K LE.2.1 n6 C D
  have C' := C
  obtain ⟨R2, b, ⟨B, c1, c2, c3, c4⟩, c5⟩ := C'
  obtain ⟨d0, dw, d7, dA, dB, dF, dz⟩ := D
  have f3 : ∀ a k : Nat, a ≠ x + 41 → a ≠ x + 45 → a ≠ x + 48 → ¬ (a = x + 40 ∧ (k = 0 ∨ k = 7 ∨ k = 18)) → oc h3 a k = oc h2 a k := fun a k z1 z2 z3 z4 => dF a k (fun c hc z => by simp at hc; omega) (fun z w => z4 ⟨z, by simpa using w⟩)
  have f : ∀ a k : Nat, a ≤ x + 52 → ¬ (x + 6 ≤ a ∧ a ≤ x + 12) → a ≠ x + 18 → ¬ (a = x + 13 ∧ k = 5) → ¬ (a = x + 19 ∧ (k = 1 ∨ k = 2)) → a ≠ x + 20 → a ≠ x + 41 → a ≠ x + 45 → a ≠ x + 48 → ¬ (a = x + 40 ∧ (k = 0 ∨ k = 7 ∨ k = 18)) → oc h3 a k = oc h a k := fun a k y1 y2 y3 y4 y5 y6 y7 y8 y9 y10 => (f3 a k y7 y8 y9 y10).trans (f2 a k y1 y5 (by omega) y2 y3 y4)
  have fi : ∀ a k : Nat, a ≤ x + 52 → ¬ (x + 6 ≤ a ∧ a ≤ x + 12) → a ≠ x + 18 → ¬ (a = x + 13 ∧ k = 5) → ¬ (a = x + 19 ∧ (k = 1 ∨ k = 2)) → a ≠ x + 20 → a ≠ x + 41 → a ≠ x + 45 → a ≠ x + 48 → ¬ (a = x + 40 ∧ (k = 0 ∨ k = 7 ∨ k = 18)) → oi (oc h3) a k = oi (oc h) a k := fun a k y1 y2 y3 y4 y5 y6 y7 y8 y9 y10 => by unfold oi; rw [f a k y1 y2 y3 y4 y5 y6 y7 y8 y9 y10]
  have g : ∀ a k : Nat, a ≤ x + 39 → oc h3 a k = oc h2 a k := fun a k z => f3 a k (by omega) (by omega) (by omega) (by omega)
  have gi : ∀ a k : Nat, a ≤ x + 39 → oi (oc h3) a k = oi (oc h2) a k := fun a k z => by unfold oi; rw [g a k z]
  refine ⟨⟨?_, ?_, ?_, ?_, ?_, ?_, ⟨?_, ?_, ?_, ?_⟩, ?_⟩, ⟨?_, by omega, ?_, d7, by split <;> omega, ?_, q1, q2, q3⟩, ⟨?_, dw, K2, ?_, LK2, LB2⟩, ⟨?_, ?_, l3, fun i hi => ?_, ?_⟩⟩
  · exact (f _ _ (by omega) (by omega) (by omega) (by omega) (by omega) (by omega) (by omega) (by omega) (by omega) (by omega)).trans e0
  · exact (f _ _ (by omega) (by omega) (by omega) (by omega) (by omega) (by omega) (by omega) (by omega) (by omega) (by omega)).trans e1
  · exact (f _ _ (by omega) (by omega) (by omega) (by omega) (by omega) (by omega) (by omega) (by omega) (by omega) (by omega)).trans e3
  · exact (f _ _ (by omega) (by omega) (by omega) (by omega) (by omega) (by omega) (by omega) (by omega) (by omega) (by omega)).trans e8
  · exact (f _ _ (by omega) (by omega) (by omega) (by omega) (by omega) (by omega) (by omega) (by omega) (by omega) (by omega)).trans e36
  · exact (f _ _ (by omega) (by omega) (by omega) (by omega) (by omega) (by omega) (by omega) (by omega) (by omega) (by omega)).trans e19
  · exact (f _ _ (by omega) (by omega) (by omega) (by omega) (by omega) (by omega) (by omega) (by omega) (by omega) (by omega)).trans t0
  · exact (f _ _ (by omega) (by omega) (by omega) (by omega) (by omega) (by omega) (by omega) (by omega) (by omega) (by omega)).trans t1
  · exact (f _ _ (by omega) (by omega) (by omega) (by omega) (by omega) (by omega) (by omega) (by omega) (by omega) (by omega)).trans t2
  · exact (f _ _ (by omega) (by omega) (by omega) (by omega) (by omega) (by omega) (by omega) (by omega) (by omega) (by omega)).trans t3
  · have M2 : mS (oc h2) (x + 40) := by
      obtain ⟨s1, s2, s3, s4, s5, s8, s15, s17, s19, s20, s21⟩ := M
      have k2 : ∀ k, oc h2 (x + 40) k = oc h (x + 40) k := fun k => f2 _ k (by omega) (by omega) (by omega) (by omega) (by omega) (by omega)
      exact ⟨(k2 _).trans s1, (k2 _).trans s2, (k2 _).trans s3, (k2 _).trans s4, (k2 _).trans s5, (k2 _).trans s8, (k2 _).trans s15, (k2 _).trans s17, (k2 _).trans s19, (k2 _).trans s20, (k2 _).trans s21⟩
    exact mS_fr M2 dF (by decide) (by decide)
  · exact (gi _ _ (by omega)).trans c3
  · rw [gi _ _ (by omega), c4, n3]; split <;> split <;> omega
  · rcases B with ⟨-, y⟩ | ⟨-, -, y⟩ <;> omega
  · exact rodE_fr R2 (fun a k z1 z2 => g a k (by omega))
  · exact lawE_fr LE2 (fun a k z1 z2 z3 => g a k (by omega))
  · exact (fi _ _ (by omega) (by omega) (by omega) (by omega) (by omega) (by omega) (by omega) (by omega) (by omega) (by omega)).trans l1
  · exact (fi _ _ (by omega) (by omega) (by omega) (by omega) (by omega) (by omega) (by omega) (by omega) (by omega) (by omega)).trans l2
  · rw [fi (x + 2) i (by omega) (by omega) (by omega) (by omega) (by omega) (by omega) (by omega) (by omega) (by omega) (by omega), fi (x + 46) i (by omega) (by omega) (by omega) (by omega) (by omega) (by omega) (by omega) (by omega) (by omega) (by omega)]
    exact l4 i hi
  · refine im_keep (O := oc h) (z := h.1) (fun a k z => ?_) (fun s d hs e => ?_) (by rcases B with ⟨-, y⟩ | ⟨-, -, y⟩ <;> omega) I
    · have u : a < h.1 ∧ (a ≤ x + 42 ∨ x + 52 < a) ∧ ¬ (b ≤ a ∧ a ≤ b + 6) := by
        have lb := cRm_lb n6 hb ⟨B, c1, c2, c3, c4⟩
        rcases z with z | z | z | z | z | z | z | ⟨z1, z2, z3⟩
        · omega
        · omega
        · omega
        · omega
        · omega
        · omega
        · omega
        · refine ⟨z2, by omega, ?_⟩
          rcases B with ⟨y, -⟩ | ⟨-, y, -⟩
          · have := z3 nx b (by omega) y; omega
          · omega
      have v : ¬ (a = x + 19 ∧ (k = 1 ∨ k = 2)) ∧ ¬ (a = x + 20 ∧ k = nx) ∧ ¬ (x + 6 ≤ a ∧ a ≤ x + 12) ∧ a ≠ x + 18 ∧ ¬ (a = x + 13 ∧ k = 5) ∧ a ≠ x + 41 ∧ a ≠ x + 45 ∧ a ≠ x + 48 ∧ ¬ (a = x + 40 ∧ (k = 0 ∨ k = 7 ∨ k = 18)) := by omega
      exact (f3 a k v.2.2.2.2.2.1 v.2.2.2.2.2.2.1 v.2.2.2.2.2.2.2.1 v.2.2.2.2.2.2.2.2).trans (c5 a k u.1 u.2.2 v.1 v.2.1 v.2.2.1 v.2.2.2.1 v.2.2.2.2.1)
    · by_cases ns : s = nx
      · rw [ns, f3 _ _ (by omega) (by omega) (by omega) (by omega), c1] at e
        cases e
        rcases B with ⟨y, -⟩ | ⟨-, y, -⟩
        · rw [ns]; exact Or.inl y
        · exact Or.inr (by omega)
      · rw [f3 _ _ (by omega) (by omega) (by omega) (by omega), f2 _ _ (by omega) (by omega) (by omega) (by omega) (by omega) (by omega)] at e
        exact Or.inl e
theorem eq_act {x nx r L : Nat} {W W2 : jWd} {h h2 h3 : jH} (E : eqS x nx r L W h) (C : cAct x nx W W2 h h2) (D : rAct (x + 40) r W2 h2 h3) (K2 : wOK W2) (hl : ∀ k, k = 2 ∨ 435 ≤ k → W2 k = W k) (LK2 : lawK W2) (LB2 : lawB W2) : eqS x ((nx + 1) % 12) (if r < 12 then r + 1 else 12) L W2 h3 :=
  eq_actL E C D K2 (lawE_cg (lawE_fr E.2.2.1.2.2.2.1 (fun a k z1 z2 z3 => c_keep E.2.1.2.2.2.2.2.1 (eq_pre E).2.1 C a k (by omega) (by omega) (by omega) (by omega) (by omega) (by omega))) hl) LK2 LB2
end
section
/-! the calls keep eqS: a call that throws, an act; let -/
theorem eq_thr {x nx r L : Nat} {W : jWd} {h h3 : jH} {c : Int32} (E : eqS x nx r L W h) (T : rTh (x + 40) c h h3) : eqS x nx r L W h3 := by
  obtain ⟨⟨e0, e1, e3, e8, e36, e19, ⟨t0, t1, t2, t3⟩, M⟩, ⟨n1, n2, n3, n4, n5, n6, S, P, A⟩, ⟨R, hw, K, LE, LK, LB⟩, ⟨l1, l2, l3, l4, I⟩⟩ := E
  obtain ⟨-, dF, dz⟩ := T
  have f : ∀ a k : Nat, ¬ (a = x + 40 ∧ k = 0) → oc h3 a k = oc h a k := fun a k z => dF a k (fun c hc => by cases hc) (fun y w => z ⟨y, by simpa using w⟩)
  have fi : ∀ a k : Nat, ¬ (a = x + 40 ∧ k = 0) → oi (oc h3) a k = oi (oc h) a k := fun a k z => by unfold oi; rw [f a k z]
  obtain ⟨q1, q2⟩ := slot_keep (O2 := oc h3) (z2 := h3.1) (fun a k z => f a k (by omega)) (by omega) S P
  have q3 := act_keep (O2 := oc h3) (fun a k z => f a k (by omega)) S n2 A
  refine ⟨⟨(f _ _ (by omega)).trans e0, (f _ _ (by omega)).trans e1, (f _ _ (by omega)).trans e3, (f _ _ (by omega)).trans e8, (f _ _ (by omega)).trans e36, (f _ _ (by omega)).trans e19, ⟨(f _ _ (by omega)).trans t0, (f _ _ (by omega)).trans t1, (f _ _ (by omega)).trans t2, (f _ _ (by omega)).trans t3⟩, mS_fr M dF (by decide) (by decide)⟩, ⟨(fi _ _ (by omega)).trans n1, n2, by rw [fi _ _ (by omega)]; exact n3, (fi _ _ (by omega)).trans n4, n5, by omega, q1, q2, q3⟩, ⟨rodE_fr R (fun a k z1 z2 => f _ _ (by omega)), (wl_f dF (by decide)).trans hw, K, lawE_fr LE (fun a k z1 z2 z3 => f _ _ (by omega)), LK, LB⟩, ⟨(fi _ _ (by omega)).trans l1, (fi _ _ (by omega)).trans l2, l3, fun i hi => ?_, im_keep (O := oc h) (z := h.1) (fun a k z => f a k (by omega)) (fun s d hs e => Or.inl (by rw [← f _ _ (by omega)]; exact e)) (by omega) I⟩⟩
  rw [fi _ _ (by omega), fi _ _ (by omega)]
  exact l4 i hi
theorem eq_mid {x nx r L : Nat} {W W2 : jWd} {h h2 : jH} (E : eqS x nx r L W h) (C : cAct x nx W W2 h h2) : mS (oc h2) (x + 40) ∧ wl (oc h2) (x + 40) = W ∧ oi (oc h2) (x + 40) 7 = nI r := by
  have f2 := c_keep E.2.1.2.2.2.2.2.1 (eq_pre E).2.1 C
  obtain ⟨⟨-, -, -, -, -, -, -, M⟩, ⟨-, -, -, n4, -⟩, ⟨-, hw, -⟩, -⟩ := E
  obtain ⟨s1, s2, s3, s4, s5, s8, s15, s17, s19, s20, s21⟩ := M
  have k2 : ∀ a k : Nat, 40 ≤ a → a ≤ 52 → oc h2 (x + a) k = oc h (x + a) k := fun a k z1 z2 => f2 _ k (by omega) (by omega) (by omega) (by omega) (by omega) (by omega)
  have k3 : ∀ k, oc h2 (x + 40) k = oc h (x + 40) k := fun k => k2 40 k (by omega) (by omega)
  refine ⟨⟨(k3 _).trans s1, (k3 _).trans s2, (k3 _).trans s3, (k3 _).trans s4, (k3 _).trans s5, (k3 _).trans s8, (k3 _).trans s15, (k3 _).trans s17, (k3 _).trans s19, (k3 _).trans s20, (k3 _).trans s21⟩, ?_, ?_⟩
  · rw [← hw]
    funext k
    show oi (oc h2) (x + 41) k = oi (oc h) (x + 41) k
    unfold oi
    rw [k2 41 k (by omega) (by omega)]
  · rw [← n4]
    unfold oi
    rw [k3]
/-- the class's answer (or throw), the reference's answer and fault; l: which throw is which fault -/
def ansE (l : List (Nat × Int32)) (a : jR) (b f : Int32) : Prop := (a = .inl b ∧ f = 0) ∨ ∃ p ∈ l, a = .inr p.1 ∧ b = 0 ∧ f = p.2
theorem no_ring {W : jWd} {v : Int32} {i : Nat} (K : wOK W) (h8 : i < 8) (hi : v = nI i) (hi0 : (i : Int) < (W 0).toInt) : 0 ≤ v.toInt ∧ v.toInt < (W 0).toInt := by
  rw [hi, nI_toInt (by omega)]; omega
theorem eq_let {x nx r L n : Nat} {W : jWd} {v w : Int32} {h : jH} {q : jR × jH} {p : Int32 × jH} (E : eqS x nx r L W h) (e1 : F_X11_let n x v w h = some q) (e2 : F_X12_let n (x + 40) v w q.2 = some p) : (∃ nx2 r2 W2, eqS x nx2 r2 L W2 p.2) ∧ ansE [(2, 1), (0, 2)] q.1 p.1 (oi (oc p.2) (x + 40) 0) := by
  have C := eq_pre E
  obtain ⟨⟨-, -, -, -, -, -, -, M⟩, ⟨-, -, -, n4, n5, -⟩, ⟨-, hw, K, -, LK, LB⟩, -⟩ := id E
  rcases E_X11_let C e1 with ⟨P, y, z⟩ | ⟨i, h8, hi, hi0, ⟨P, y, z⟩ | ⟨P, y, A⟩⟩
  · rw [z] at e2
    rcases E_X12_let M hw K n4 n5 e2 with ⟨-, y2, T⟩ | ⟨j, j8, hj, hj0, -⟩
    · exact ⟨⟨_, _, _, eq_thr E T⟩, Or.inr ⟨(2, 1), by simp, y, y2, T.1⟩⟩
    · exact absurd (no_ring K j8 hj hj0) P
  · rw [z] at e2
    rcases E_X12_let M hw K n4 n5 e2 with ⟨P2, -, -⟩ | ⟨j, j8, hj, hj0, ⟨-, y2, T⟩ | ⟨P2, -, -⟩⟩
    · exact absurd (no_ring K h8 hi hi0) P2
    · exact ⟨⟨_, _, _, eq_thr E T⟩, Or.inr ⟨(0, 2), by simp, y, y2, T.1⟩⟩
    · exact absurd P2 P
  · obtain ⟨M2, w2, g2⟩ := eq_mid E A
    rcases E_X12_let M2 w2 K g2 n5 e2 with ⟨P2, -, -⟩ | ⟨j, j8, hj, hj0, ⟨P2, -, -⟩ | ⟨-, y2, D⟩⟩
    · exact absurd (no_ring K h8 hi hi0) P2
    · exact absurd P P2
    · have ij : j = i := (nI_eq (by omega) (by omega)).mp (hj.symm.trans hi)
      subst ij
      have hl := up_law (W := W) (i := 16 + 8 * j) (x := w) ⟨by omega, by omega⟩
      exact ⟨⟨_, _, _, eq_act E A D (wOK_ln K P) hl (lawK_cg LK hl) (lawB_cg LB hl)⟩, Or.inl ⟨by rw [y, y2], D.1⟩⟩
end
section
/-! hook, chair, free, snag keep eqS -/
theorem eq_hook {x nx r L n : Nat} {W : jWd} {v w : Int32} {h : jH} {q : jR × jH} {p : Int32 × jH} (hw2 : w = 0 ∨ w = 1) (E : eqS x nx r L W h) (e1 : F_X11_hook n x v w h = some q) (e2 : F_X12_hook n (x + 40) v w q.2 = some p) : (∃ nx2 r2 W2, eqS x nx2 r2 L W2 p.2) ∧ ansE [(2, 1)] q.1 p.1 (oi (oc p.2) (x + 40) 0) := by
  have C := eq_pre E
  obtain ⟨⟨-, -, -, -, -, -, -, M⟩, ⟨-, -, -, n4, n5, -⟩, ⟨-, hw, K, -, LK, LB⟩, -⟩ := id E
  rcases E_X11_hook C hw2 e1 with ⟨P, y, z⟩ | ⟨i, h8, hi, hi0, y, A⟩
  · rw [z] at e2
    rcases E_X12_hook M hw K n4 n5 hw2 e2 with ⟨-, y2, T⟩ | ⟨j, j8, hj, hj0, -⟩
    · exact ⟨⟨_, _, _, eq_thr E T⟩, Or.inr ⟨(2, 1), by simp, y, y2, T.1⟩⟩
    · exact absurd (no_ring K j8 hj hj0) P
  · obtain ⟨M2, w2, g2⟩ := eq_mid E A
    rcases E_X12_hook M2 w2 K g2 n5 hw2 e2 with ⟨P2, -, -⟩ | ⟨j, j8, hj, hj0, y2, D⟩
    · exact absurd (no_ring K h8 hi hi0) P2
    · have ij : j = i := (nI_eq (by omega) (by omega)).mp (hj.symm.trans hi)
      subst ij
      have hl := up_law (W := W) (i := 17 + 8 * j) (x := w) ⟨by omega, by omega⟩
      exact ⟨⟨_, _, _, eq_act E A D (wOK_hk K hw2) hl (lawK_cg LK hl) (lawB_cg LB hl)⟩, Or.inl ⟨by rw [y, y2], D.1⟩⟩
theorem eq_chair {x nx r L n : Nat} {W : jWd} {v w : Int32} {h : jH} {q : jR × jH} {p : Int32 × jH} (hw2 : w = 0 ∨ w = 1) (E : eqS x nx r L W h) (e1 : F_X11_chair n x v w h = some q) (e2 : F_X12_chair n (x + 40) v w q.2 = some p) : (∃ nx2 r2 W2, eqS x nx2 r2 L W2 p.2) ∧ ansE [(2, 1)] q.1 p.1 (oi (oc p.2) (x + 40) 0) := by
  have C := eq_pre E
  obtain ⟨⟨-, -, -, -, -, -, -, M⟩, ⟨-, -, -, n4, n5, -⟩, ⟨-, hw, K, -, LK, LB⟩, -⟩ := id E
  have pl : ∀ i : Nat, i < 32 → v = nI i → 0 ≤ v.toInt ∧ v.toInt ≤ 31 := fun i h1 h2 => by rw [h2, nI_toInt (by omega)]; omega
  rcases E_X11_chair C e1 with ⟨P, y, z⟩ | ⟨i, h8, hi, y, A⟩
  · rw [z] at e2
    rcases E_X12_chair M hw K n4 n5 hw2 e2 with ⟨-, y2, T⟩ | ⟨j, j8, hj, -⟩
    · exact ⟨⟨_, _, _, eq_thr E T⟩, Or.inr ⟨(2, 1), by simp, y, y2, T.1⟩⟩
    · exact absurd (pl j j8 hj) P
  · obtain ⟨M2, w2, g2⟩ := eq_mid E A
    rcases E_X12_chair M2 w2 K g2 n5 hw2 e2 with ⟨P2, -, -⟩ | ⟨j, j8, hj, y2, D⟩
    · exact absurd (pl i h8 hi) P2
    · have ij : j = i := (nI_eq (by omega) (by omega)).mp (hj.symm.trans hi)
      subst ij
      have hl := up_law (W := W) (i := 7) (x := chV (W 7) j w) ⟨by omega, by omega⟩
      exact ⟨⟨_, _, _, eq_act E A D (wOK_7 K) hl (lawK_cg LK hl) (lawB_cg LB hl)⟩, Or.inl ⟨by rw [y, y2], D.1⟩⟩
theorem eq_free {x nx r L n : Nat} {W : jWd} {v : Int32} {h : jH} {q : jR × jH} {p : Int32 × jH} (E : eqS x nx r L W h) (e1 : F_X11_free n x v h = some q) (e2 : F_X12_free n (x + 40) v q.2 = some p) : (∃ nx2 r2 W2, eqS x nx2 r2 L W2 p.2) ∧ ansE [(2, 1), (1, 2)] q.1 p.1 (oi (oc p.2) (x + 40) 0) := by
  have C := eq_pre E
  obtain ⟨⟨-, -, -, -, -, -, -, M⟩, ⟨-, -, -, n4, n5, -⟩, ⟨-, hw, K, -, LK, LB⟩, -⟩ := id E
  rcases E_X11_free C e1 with ⟨P, y, z⟩ | ⟨i, h8, hi, hi0, ⟨P, y, z⟩ | ⟨P, P3, y, A⟩⟩
  · rw [z] at e2
    rcases E_X12_free M hw K n4 n5 e2 with ⟨-, y2, T⟩ | ⟨j, j8, hj, hj0, -⟩
    · exact ⟨⟨_, _, _, eq_thr E T⟩, Or.inr ⟨(2, 1), by simp, y, y2, T.1⟩⟩
    · exact absurd (no_ring K j8 hj hj0) P
  · rw [z] at e2
    rcases E_X12_free M hw K n4 n5 e2 with ⟨P2, -, -⟩ | ⟨j, j8, hj, hj0, ⟨-, y2, T⟩ | ⟨P2, -, -, -⟩⟩
    · exact absurd (no_ring K h8 hi hi0) P2
    · exact ⟨⟨_, _, _, eq_thr E T⟩, Or.inr ⟨(1, 2), by simp, y, y2, T.1⟩⟩
    · have ij : j = i := (nI_eq (by omega) (by omega)).mp (hj.symm.trans hi)
      subst ij
      exact absurd P P2
  · obtain ⟨M2, w2, g2⟩ := eq_mid E A
    rcases E_X12_free M2 w2 K g2 n5 e2 with ⟨P2, -, -⟩ | ⟨j, j8, hj, hj0, ⟨P2, -, -⟩ | ⟨-, -, y2, D⟩⟩
    · exact absurd (no_ring K h8 hi hi0) P2
    · have ij : j = i := (nI_eq (by omega) (by omega)).mp (hj.symm.trans hi)
      subst ij
      exact absurd P2 P
    · have ij : j = i := (nI_eq (by omega) (by omega)).mp (hj.symm.trans hi)
      subst ij
      have hl := up_law (W := W) (i := 18 + 8 * j) (x := 0) ⟨by omega, by omega⟩
      exact ⟨⟨_, _, _, eq_act E A D (wOK_ct K (Or.inl rfl)) hl (lawK_cg LK hl) (lawB_cg LB hl)⟩, Or.inl ⟨by rw [y, y2], D.1⟩⟩
theorem eq_snag {x nx r L n : Nat} {W : jWd} {v : Int32} {h : jH} {q : jR × jH} {p : Int32 × jH} (E : eqS x nx r L W h) (e1 : F_X11_snag n x v h = some q) (e2 : F_X12_snag n (x + 40) v q.2 = some p) : (∃ nx2 r2 W2, eqS x nx2 r2 L W2 p.2) ∧ ansE [(2, 1), (1, 2)] q.1 p.1 (oi (oc p.2) (x + 40) 0) := by
  have C := eq_pre E
  obtain ⟨⟨-, -, -, -, -, -, -, M⟩, ⟨-, -, -, n4, n5, -⟩, ⟨-, hw, K, -, LK, LB⟩, -⟩ := id E
  rcases E_X11_snag C e1 with ⟨P, y, z⟩ | ⟨i, h8, hi, hi0, ⟨P, y, z⟩ | ⟨P, P3, y, A⟩⟩
  · rw [z] at e2
    rcases E_X12_snag M hw K n4 n5 e2 with ⟨-, y2, T⟩ | ⟨j, j8, hj, hj0, -⟩
    · exact ⟨⟨_, _, _, eq_thr E T⟩, Or.inr ⟨(2, 1), by simp, y, y2, T.1⟩⟩
    · exact absurd (no_ring K j8 hj hj0) P
  · rw [z] at e2
    rcases E_X12_snag M hw K n4 n5 e2 with ⟨P2, -, -⟩ | ⟨j, j8, hj, hj0, ⟨-, y2, T⟩ | ⟨P2, -, -, -⟩⟩
    · exact absurd (no_ring K h8 hi hi0) P2
    · exact ⟨⟨_, _, _, eq_thr E T⟩, Or.inr ⟨(1, 2), by simp, y, y2, T.1⟩⟩
    · have ij : j = i := (nI_eq (by omega) (by omega)).mp (hj.symm.trans hi)
      subst ij
      exact absurd P P2
  · obtain ⟨M2, w2, g2⟩ := eq_mid E A
    rcases E_X12_snag M2 w2 K g2 n5 e2 with ⟨P2, -, -⟩ | ⟨j, j8, hj, hj0, ⟨P2, -, -⟩ | ⟨-, -, y2, D⟩⟩
    · exact absurd (no_ring K h8 hi hi0) P2
    · have ij : j = i := (nI_eq (by omega) (by omega)).mp (hj.symm.trans hi)
      subst ij
      exact absurd P2 P
    · have ij : j = i := (nI_eq (by omega) (by omega)).mp (hj.symm.trans hi)
      subst ij
      have hl := up_law (W := W) (i := 18 + 8 * j) (x := 1) ⟨by omega, by omega⟩
      exact ⟨⟨_, _, _, eq_act E A D (wOK_ct K (Or.inr ⟨rfl, P3⟩)) hl (lawK_cg LK hl) (lawB_cg LB hl)⟩, Or.inl ⟨by rw [y, y2], D.1⟩⟩
end
section
/-! pull and sew keep eqS -/
theorem eq_pull {x nx r L n : Nat} {W : jWd} {d : Bool} {v s w : Int32} {h : jH} {q : jR × jH} {p : Int32 × jH} (hd : s = dI d) (E : eqS x nx r L W h) (e1 : F_X11_pull n x v s w h = some q) (e2 : F_X12_pull n (x + 40) v s w q.2 = some p) : (∃ nx2 r2 W2, eqS x nx2 r2 L W2 p.2) ∧ ansE [(2, 1), (0, 2)] q.1 p.1 (oi (oc p.2) (x + 40) 0) := by
  have C := eq_pre E
  obtain ⟨⟨-, -, -, -, -, -, -, M⟩, ⟨-, -, -, n4, n5, -⟩, ⟨-, hw, K, -, LK, LB⟩, -⟩ := id E
  have st : ∀ N : Nat, N < 32 → 1 ≤ N → w = nI N → 1 ≤ w.toInt ∧ w.toInt ≤ 31 := fun i h1 h2 h3 => by rw [h3, nI_toInt (by omega)]; omega
  rcases E_X11_pull C hd e1 with ⟨P, y, z⟩ | ⟨i, h8, hi, hi0, ⟨P, y, z⟩ | ⟨N, f, hN, hN1, h3, F, y, K3, A⟩⟩
  · rw [z] at e2
    rcases E_X12_pull M hw K n4 n5 hd e2 with ⟨-, y2, T⟩ | ⟨j, j8, hj, hj0, -⟩
    · exact ⟨⟨_, _, _, eq_thr E T⟩, Or.inr ⟨(2, 1), by simp, y, y2, T.1⟩⟩
    · exact absurd (no_ring K j8 hj hj0) P
  · rw [z] at e2
    rcases E_X12_pull M hw K n4 n5 hd e2 with ⟨P2, -, -⟩ | ⟨j, j8, hj, hj0, ⟨-, y2, T⟩ | ⟨N, f, hN, hN1, h3, -⟩⟩
    · exact absurd (no_ring K h8 hi hi0) P2
    · exact ⟨⟨_, _, _, eq_thr E T⟩, Or.inr ⟨(0, 2), by simp, y, y2, T.1⟩⟩
    · exact absurd (st N hN hN1 h3) P
  · obtain ⟨M2, w2, g2⟩ := eq_mid E A
    rcases E_X12_pull M2 w2 K g2 n5 hd e2 with ⟨P2, -, -⟩ | ⟨j, j8, hj, hj0, ⟨P2, -, -⟩ | ⟨N2, f2, hN2, hN12, h32, F2, y2, D⟩⟩
    · exact absurd (no_ring K h8 hi hi0) P2
    · exact absurd (st N hN hN1 h3) P2
    · have ij : j = i := (nI_eq (by omega) (by omega)).mp (hj.symm.trans hi)
      subst ij
      have NN : N2 = N := (nI_eq (by omega) (by omega)).mp (h32.symm.trans h3)
      subst NN
      have ff := isF_u F2 F
      subst ff
      have hl := pl_law (W := W) (r := j) (i := j) (f := f2) (d := d) (x := nI j) (y := 0) (z := nI f2)
      exact ⟨⟨_, _, _, eq_act E A D (wOK_tl K3) hl (lawK_cg LK hl) (lawB_cg LB hl)⟩, Or.inl ⟨by rw [y, y2], D.1⟩⟩
theorem eq_sew {x nx r L n : Nat} {W : jWd} {v w : Int32} {h : jH} {q : jR × jH} {p : Int32 × jH} (E : eqS x nx r L W h) (e1 : F_X11_sew n x v w h = some q) (e2 : F_X12_sew n (x + 40) v w q.2 = some p) : (∃ nx2 r2 W2, eqS x nx2 r2 L W2 p.2) ∧ ansE [(2, 1), (0, 2), (1, 3)] q.1 p.1 (oi (oc p.2) (x + 40) 0) := by
  have C := eq_pre E
  obtain ⟨⟨-, -, -, -, -, -, -, M⟩, ⟨-, -, -, n4, n5, -⟩, ⟨-, hw, K, -, LK, LB⟩, -⟩ := id E
  rcases E_X11_sew C e1 with ⟨P, y, z⟩ | ⟨P, ⟨Q, y, z⟩ | ⟨Q, ⟨U, y, z⟩ | ⟨U, y, A⟩⟩⟩
  · rw [z] at e2
    rcases E_X12_sew M hw K n4 n5 e2 with ⟨-, y2, T⟩ | ⟨P2, -⟩
    · exact ⟨⟨_, _, _, eq_thr E T⟩, Or.inr ⟨(2, 1), by simp, y, y2, T.1⟩⟩
    · exact absurd P2 P
  · rw [z] at e2
    rcases E_X12_sew M hw K n4 n5 e2 with ⟨P2, -⟩ | ⟨-, ⟨-, y2, T⟩ | ⟨Q2, -⟩⟩
    · exact absurd P P2
    · exact ⟨⟨_, _, _, eq_thr E T⟩, Or.inr ⟨(0, 2), by simp, y, y2, T.1⟩⟩
    · exact absurd Q2 Q
  · rw [z] at e2
    rcases E_X12_sew M hw K n4 n5 e2 with ⟨P2, -⟩ | ⟨-, ⟨Q2, -⟩ | ⟨-, ⟨-, y2, T⟩ | ⟨U2, -⟩⟩⟩
    · exact absurd P P2
    · exact absurd Q Q2
    · exact ⟨⟨_, _, _, eq_thr E T⟩, Or.inr ⟨(1, 3), by simp, y, y2, T.1⟩⟩
    · exact absurd U2 U
  · obtain ⟨M2, w2, g2⟩ := eq_mid E A
    rcases E_X12_sew M2 w2 K g2 n5 e2 with ⟨P2, -⟩ | ⟨-, ⟨Q2, -⟩ | ⟨-, ⟨U2, -⟩ | ⟨-, y2, D⟩⟩⟩
    · exact absurd P P2
    · exact absurd Q Q2
    · exact absurd U U2
    · have hl := hg_law (W := W) (x := v) (y := w) (cN_lt K U.1)
      exact ⟨⟨_, _, _, eq_act E A D (wOK_hg K P Q U) hl (lawK_cg LK hl) (lawB_cg LB hl)⟩, Or.inl ⟨by rw [y, y2], D.1⟩⟩
end
section
/-! feed and end keep eqS -/
theorem eq_tape {x nx r L L2 : Nat} {W : jWd} {h h3 : jH} (E : eqS x nx r L W h) (f : ∀ a k : Nat, ¬ (a = x + 1 ∧ k = 6) → a ≠ x + 2 → a ≠ x + 46 → a ≠ x + 47 → ¬ (a = x + 40 ∧ (k = 0 ∨ k = 9)) → oc h3 a k = oc h a k) (dz : h3.1 = h.1)
    (T : oi (oc h3) (x + 1) 6 = nI L2 ∧ oi (oc h3) (x + 40) 9 = nI L2 ∧ L2 ≤ 400 ∧ ∀ i, i < 400 → oi (oc h3) (x + 2) i = oi (oc h3) (x + 46) i) : eqS x nx r L2 W h3 := by
  obtain ⟨⟨e0, e1, e3, e8, e36, e19, ⟨t0, t1, t2, t3⟩, s1, s2, s3, s4, s5, s8, s15, s17, s19, s20, s21⟩, ⟨n1, n2, n3, n4, n5, n6, S, P, A⟩, ⟨R, hw, K, LE, LK, LB⟩, ⟨-, -, -, -, I⟩⟩ := E
  have g : ∀ a k : Nat, a ≠ x + 1 → a ≠ x + 2 → a ≠ x + 46 → a ≠ x + 47 → ¬ (a = x + 40 ∧ (k = 0 ∨ k = 9)) → oc h3 a k = oc h a k := fun a k z1 z2 z3 z4 z5 => f a k (by omega) z2 z3 z4 z5
  have gi : ∀ a k : Nat, a ≠ x + 1 → a ≠ x + 2 → a ≠ x + 46 → a ≠ x + 47 → ¬ (a = x + 40 ∧ (k = 0 ∨ k = 9)) → oi (oc h3) a k = oi (oc h) a k := fun a k z1 z2 z3 z4 z5 => by unfold oi; rw [g a k z1 z2 z3 z4 z5]
  obtain ⟨q1, q2⟩ := slot_keep (O2 := oc h3) (z2 := h3.1) (fun a k z => g a k (by omega) (by omega) (by omega) (by omega) (by omega)) (by omega) S P
  have q3 := act_keep (O2 := oc h3) (fun a k z => g a k (by omega) (by omega) (by omega) (by omega) (by omega)) S n2 A
  have m : ∀ k : Nat, k ≠ 0 → k ≠ 9 → oc h3 (x + 40) k = oc h (x + 40) k := fun k z1 z2 => g _ k (by omega) (by omega) (by omega) (by omega) (by omega)
  have c : ∀ k : Nat, oc h3 x k = oc h x k := fun k => g _ k (by omega) (by omega) (by omega) (by omega) (by omega)
  have t : ∀ k : Nat, k ≠ 6 → oc h3 (x + 1) k = oc h (x + 1) k := fun k z => f _ k (by omega) (by omega) (by omega) (by omega) (by omega)
  refine ⟨⟨(c _).trans e0, (c _).trans e1, (c _).trans e3, (c _).trans e8, (g _ _ (by omega) (by omega) (by omega) (by omega) (by omega)).trans e36, (g _ _ (by omega) (by omega) (by omega) (by omega) (by omega)).trans e19, ⟨(t _ (by decide)).trans t0, (t _ (by decide)).trans t1, (t _ (by decide)).trans t2, (t _ (by decide)).trans t3⟩, (m _ (by decide) (by decide)).trans s1, (m _ (by decide) (by decide)).trans s2, (m _ (by decide) (by decide)).trans s3, (m _ (by decide) (by decide)).trans s4, (m _ (by decide) (by decide)).trans s5, (m _ (by decide) (by decide)).trans s8, (m _ (by decide) (by decide)).trans s15, (m _ (by decide) (by decide)).trans s17, (m _ (by decide) (by decide)).trans s19, (m _ (by decide) (by decide)).trans s20, (m _ (by decide) (by decide)).trans s21⟩, ⟨(gi _ _ (by omega) (by omega) (by omega) (by omega) (by omega)).trans n1, n2, ?_, (gi _ _ (by omega) (by omega) (by omega) (by omega) (by omega)).trans n4, n5, by omega, q1, q2, q3⟩, ⟨rodE_fr R (fun a k z1 z2 => g a k (by omega) (by omega) (by omega) (by omega) (by omega)), ?_, K, lawE_fr LE (fun a k z1 z2 z3 => g a k (by omega) (by omega) (by omega) (by omega) (by omega)), LK, LB⟩, ⟨T.1, T.2.1, T.2.2.1, T.2.2.2, im_keep (O := oc h) (z := h.1) (fun a k z => f a k (by omega) (by omega) (by omega) (by omega) (by omega)) (fun s d hs e => Or.inl (by rw [← f (x + 20) s (by omega) (by omega) (by omega) (by omega) (by omega)]; exact e)) (by omega) I⟩⟩
  · rw [gi _ _ (by omega) (by omega) (by omega) (by omega) (by omega)]; exact n3
  · rw [← hw]
    funext k
    exact gi (x + 41) k (by omega) (by omega) (by omega) (by omega) (by omega)
theorem eq_feed {x nx r L n : Nat} {W : jWd} {v1 v2 v3 v4 v5 : Int32} {h : jH} {q p : Int32 × jH} (E : eqS x nx r L W h) (e1 : F_X11_feed n x v1 v2 v3 v4 v5 h = some q) (e2 : F_X12_feed n (x + 40) v1 v2 v3 v4 v5 q.2 = some p) : (∃ L2, eqS x nx r L2 W p.2) ∧ q.1 = p.1 ∧ oi (oc p.2) (x + 40) 0 = 0 := by
  obtain ⟨⟨e0, -, -, -, -, -, ts, M⟩, -, -, ⟨l1, l2, l3, l4, -⟩⟩ := id E
  rcases E_X11_feed e0 ts l1 l3 e1 with ⟨P, y⟩ | ⟨P, y, y6, yb, yf, yz⟩
  · rw [y] at e2
    rcases E_X12_feed M l2 l3 e2 with ⟨-, y2, T⟩ | ⟨P2, -⟩
    · exact ⟨⟨L, eq_thr E T⟩, by rw [y, y2], T.1⟩
    · omega
  · have M2 : mS (oc q.2) (x + 40) := by
      obtain ⟨s1, s2, s3, s4, s5, s8, s15, s17, s19, s20, s21⟩ := M
      have k2 : ∀ k, oc q.2 (x + 40) k = oc h (x + 40) k := fun k => yf _ k (by omega) (by omega)
      exact ⟨(k2 _).trans s1, (k2 _).trans s2, (k2 _).trans s3, (k2 _).trans s4, (k2 _).trans s5, (k2 _).trans s8, (k2 _).trans s15, (k2 _).trans s17, (k2 _).trans s19, (k2 _).trans s20, (k2 _).trans s21⟩
    have yi : ∀ a k : Nat, a ≠ x + 2 → ¬ (a = x + 1 ∧ k = 6) → oi (oc q.2) a k = oi (oc h) a k := fun a k z1 z2 => by unfold oi; rw [yf a k (by omega) z2]
    rcases E_X12_feed M2 ((yi _ _ (by omega) (by omega)).trans l2) l3 e2 with ⟨P2, -⟩ | ⟨-, w, w0, w9, wb, wf, wz⟩
    · omega
    · have fr : ∀ a k : Nat, a ≠ x + 46 → a ≠ x + 47 → ¬ (a = x + 40 ∧ (k = 0 ∨ k = 9)) → oc p.2 a k = oc q.2 a k := fun a k z1 z2 z3 => wf a k (fun c hc z => by simp at hc; omega) (fun z y => z3 ⟨z, by simpa using y⟩)
      have fi : ∀ a k : Nat, a ≠ x + 46 → a ≠ x + 47 → ¬ (a = x + 40 ∧ (k = 0 ∨ k = 9)) → oi (oc p.2) a k = oi (oc q.2) a k := fun a k z1 z2 z3 => by unfold oi; rw [fr a k z1 z2 z3]
      refine ⟨⟨L + 20, eq_tape E (fun a k z1 z2 z3 z4 z5 => (fr a k z3 z4 z5).trans (yf a k z2 z1)) (wz.trans yz) ⟨(fi _ _ (by omega) (by omega) (by omega)).trans y6, w9, by omega, fun i hi => ?_⟩⟩, by rw [y, w], w0⟩
      have b1 := (fi (x + 2) i (by omega) (by omega) (by omega)).trans (yb i)
      have b2 := wb i
      rw [yi _ _ (by omega) (by omega)] at b2
      rw [b1]
      refine Eq.trans ?_ b2.symm
      by_cases z : L ≤ i ∧ i < L + 20
      · rw [if_pos z, if_pos z]
      · rw [if_neg z, if_neg z]; exact l4 i hi
end
section
/-! end and seed keep eqS -/
theorem eq_end {x nx r L n : Nat} {W : jWd} {v : Int32} {h : jH} {q p : Int32 × jH} (E : eqS x nx r L W h) (e1 : F_X11_end n x v h = some q) (e2 : F_X12_end n (x + 40) v q.2 = some p) : (∃ L2, eqS x nx r L2 W p.2) ∧ q.1 = p.1 ∧ oi (oc p.2) (x + 40) 0 = 0 := by
  obtain ⟨⟨e0, -, -, -, -, -, ts, M⟩, -, -, ⟨l1, l2, l3, l4, -⟩⟩ := id E
  rcases E_X11_end e0 l1 l3 e1 with ⟨P, y⟩ | ⟨P, Q, y, y6, yf, yz⟩
  · rw [y] at e2
    rcases E_X12_end l2 l3 e2 with ⟨-, y2, y0, yf, yz⟩ | ⟨P2, Q2, -⟩
    · exact ⟨⟨L, eq_thr E ⟨y0, yf, yz⟩⟩, by rw [y, y2], y0⟩
    · omega
  · have yi : ∀ a k : Nat, ¬ (a = x + 1 ∧ k = 6) → oi (oc q.2) a k = oi (oc h) a k := fun a k z => by unfold oi; rw [yf a k z]
    rcases E_X12_end ((yi _ _ (by omega)).trans l2) l3 e2 with ⟨P2, -⟩ | ⟨-, -, w, w0, w9, wf, wz⟩
    · omega
    · have fr : ∀ a k : Nat, ¬ (a = x + 40 ∧ (k = 0 ∨ k = 9)) → oc p.2 a k = oc q.2 a k := fun a k z3 => wf a k (fun c hc z => by cases hc) (fun z y => z3 ⟨z, by simpa using y⟩)
      have fi : ∀ a k : Nat, ¬ (a = x + 40 ∧ (k = 0 ∨ k = 9)) → oi (oc p.2) a k = oi (oc q.2) a k := fun a k z => by unfold oi; rw [fr a k z]
      have vk : v = nI v.toInt.toNat := nI_k (by omega)
      refine ⟨⟨v.toInt.toNat, eq_tape E (fun a k z1 z2 z3 z4 z5 => (fr a k z5).trans (yf a k z1)) (wz.trans yz) ⟨((fi _ _ (by omega)).trans y6).trans vk, w9.trans vk, by omega, fun i hi => ?_⟩⟩, by rw [y, w], w0⟩
      rw [fi _ _ (by omega), fi _ _ (by omega), yi _ _ (by omega), yi _ _ (by omega)]
      exact l4 i hi
end
section
/-! seed and undo keep eqS -/
theorem eq_wld {x nx r L nx2 r2 : Nat} {W W2 : jWd} {h h3 : jH} (E : eqS x nx r L W h) (f : ∀ a k : Nat, ¬ (x + 6 ≤ a ∧ a ≤ x + 12) → ¬ (a = x + 19 ∧ (k = 1 ∨ k = 2)) → a ≠ x + 41 → ¬ (a = x + 40 ∧ (k = 0 ∨ k = 7)) → oc h3 a k = oc h a k) (dz : h3.1 = h.1)
    (N : oi (oc h3) (x + 19) 1 = nI nx2 ∧ nx2 ≤ 11 ∧ (oi (oc h3) (x + 19) 2).toInt = (r2 : Int) ∧ oi (oc h3) (x + 40) 7 = nI r2 ∧ r2 ≤ 12 ∧ actE (oc h3) x (x + 40) r2 nx2) (R2 : rodE (oc h3) (x + 6) W2) (w2 : wl (oc h3) (x + 40) = W2) (K2 : wOK W2) (hl : ∀ k, k = 2 ∨ 435 ≤ k → W2 k = W k) : eqS x nx2 r2 L W2 h3 := by
  obtain ⟨⟨e0, e1, e3, e8, e36, e19, ⟨t0, t1, t2, t3⟩, s1, s2, s3, s4, s5, s8, s15, s17, s19, s20, s21⟩, ⟨n1, n2, n3, n4, n5, n6, S, P, A⟩, ⟨R, hw, K, LE, LK, LB⟩, ⟨l1, l2, l3, l4, I⟩⟩ := E
  obtain ⟨m1, m2, m3, m4, m5, m6⟩ := N
  obtain ⟨q1, q2⟩ := slot_keep (O2 := oc h3) (z2 := h3.1) (fun a k z => f a k (by omega) (by omega) (by omega) (by omega)) (by omega) S P
  have m : ∀ k : Nat, k ≠ 0 → k ≠ 7 → oc h3 (x + 40) k = oc h (x + 40) k := fun k z1 z2 => f _ k (by omega) (by omega) (by omega) (by omega)
  have c : ∀ a k : Nat, a ≤ x + 5 → oc h3 a k = oc h a k := fun a k z => f _ k (by omega) (by omega) (by omega) (by omega)
  have ci : ∀ a k : Nat, a ≤ x + 5 → oi (oc h3) a k = oi (oc h) a k := fun a k z => by unfold oi; rw [c a k z]
  refine ⟨⟨(c _ _ (by omega)).trans e0, (c _ _ (by omega)).trans e1, (c _ _ (by omega)).trans e3, (c _ _ (by omega)).trans e8, (f _ _ (by omega) (by omega) (by omega) (by omega)).trans e36, (f _ _ (by omega) (by omega) (by omega) (by omega)).trans e19, ⟨(c _ _ (by omega)).trans t0, (c _ _ (by omega)).trans t1, (c _ _ (by omega)).trans t2, (c _ _ (by omega)).trans t3⟩, (m _ (by decide) (by decide)).trans s1, (m _ (by decide) (by decide)).trans s2, (m _ (by decide) (by decide)).trans s3, (m _ (by decide) (by decide)).trans s4, (m _ (by decide) (by decide)).trans s5, (m _ (by decide) (by decide)).trans s8, (m _ (by decide) (by decide)).trans s15, (m _ (by decide) (by decide)).trans s17, (m _ (by decide) (by decide)).trans s19, (m _ (by decide) (by decide)).trans s20, (m _ (by decide) (by decide)).trans s21⟩, ⟨m1, m2, m3, m4, m5, by omega, q1, q2, m6⟩, ⟨R2, w2, K2, lawE_cg (lawE_fr LE (fun a k z1 z2 z3 => f a k (by omega) (by omega) (by omega) (by omega))) hl, lawK_cg LK hl, lawB_cg LB hl⟩, ⟨(ci _ _ (by omega)).trans l1, ?_, l3, fun i hi => ?_, im_keep (O := oc h) (z := h.1) (fun a k z => f a k (by omega) (by omega) (by omega) (by omega)) (fun s d hs e => Or.inl (by rw [← f (x + 20) s (by omega) (by omega) (by omega) (by omega)]; exact e)) (by omega) I⟩⟩
  · rw [← l2]
    unfold oi
    rw [m 9 (by decide) (by decide)]
  · have y : oi (oc h3) (x + 46) i = oi (oc h) (x + 46) i := by unfold oi; rw [f (x + 46) i (by omega) (by omega) (by omega) (by omega)]
    rw [ci _ _ (by omega), y]
    exact l4 i hi
theorem eq_seed {x nx r L n : Nat} {W : jWd} {v : Int32} {h : jH} {q p : Int32 × jH} (E : eqS x nx r L W h) (e1 : F_X11_seed n x v h = some q) (e2 : F_X12_seed n (x + 40) v q.2 = some p) : (∃ W2, eqS x nx r L W2 p.2) ∧ q.1 = p.1 ∧ oi (oc p.2) (x + 40) 0 = 0 := by
  obtain ⟨⟨-, x1, -, -, -, -, -, M⟩, ⟨n1, n2, n3, n4, n5, n6, S, P, A⟩, ⟨R, hw, K, -⟩, -⟩ := id E
  obtain ⟨y, yR, yf, yz⟩ := E_X11_seed x1 R e1
  have M2 : mS (oc q.2) (x + 40) := by
    obtain ⟨s1, s2, s3, s4, s5, s8, s15, s17, s19, s20, s21⟩ := M
    have k2 : ∀ k, oc q.2 (x + 40) k = oc h (x + 40) k := fun k => yf _ k (by omega)
    exact ⟨(k2 _).trans s1, (k2 _).trans s2, (k2 _).trans s3, (k2 _).trans s4, (k2 _).trans s5, (k2 _).trans s8, (k2 _).trans s15, (k2 _).trans s17, (k2 _).trans s19, (k2 _).trans s20, (k2 _).trans s21⟩
  have w2 : wl (oc q.2) (x + 40) = W := by
    rw [← hw]
    funext k
    show oi (oc q.2) (x + 41) k = oi (oc h) (x + 41) k
    unfold oi
    rw [yf _ _ (by omega)]
  obtain ⟨u, u0, uw, uf, uz⟩ := E_X12_seed M2 w2 e2
  have fr : ∀ a k : Nat, a ≠ x + 41 → ¬ (a = x + 40 ∧ k = 0) → oc p.2 a k = oc q.2 a k := fun a k z1 z2 => uf a k (fun c hc z => by simp at hc; omega) (fun z y => z2 ⟨z, by simpa using y⟩)
  have f : ∀ a k : Nat, ¬ (x + 6 ≤ a ∧ a ≤ x + 12) → a ≠ x + 41 → ¬ (a = x + 40 ∧ k = 0) → oc p.2 a k = oc h a k := fun a k z1 z2 z3 => (fr a k z2 z3).trans (yf a k (by omega))
  have fi : ∀ a k : Nat, ¬ (x + 6 ≤ a ∧ a ≤ x + 12) → a ≠ x + 41 → ¬ (a = x + 40 ∧ k = 0) → oi (oc p.2) a k = oi (oc h) a k := fun a k z1 z2 z3 => by unfold oi; rw [f a k z1 z2 z3]
  refine ⟨⟨upd W 10 v, eq_wld E (fun a k z1 z2 z3 z4 => f a k z1 z3 (by omega)) (uz.trans yz) ⟨(fi _ _ (by omega) (by omega) (by omega)).trans n1, n2, by rw [fi _ _ (by omega) (by omega) (by omega)]; exact n3, (fi _ _ (by omega) (by omega) (by omega)).trans n4, n5, act_keep (O2 := oc p.2) (fun a k z => f a k (by omega) (by omega) (by omega)) S n2 A⟩ (rodE_fr yR (fun a k z1 z2 => fr a k (by omega) (by omega))) uw (wOK_10 K) (up_law ⟨by decide, by decide⟩)⟩, by rw [y, u], u0⟩
end
section
/-! hours and undo keep eqS -/
theorem eq_hours {x nx r L n : Nat} {W : jWd} {v : Int32} {h : jH} {q : jR × jH} {p : Int32 × jH} (E : eqS x nx r L W h) (e1 : F_X11_hours n x v h = some q) (e2 : F_X12_hours n (x + 40) v q.2 = some p) : (∃ nx2 r2 W2, eqS x nx2 r2 L W2 p.2) ∧ ansE [(0, 1)] q.1 p.1 (oi (oc p.2) (x + 40) 0) := by
  have C := eq_pre E
  obtain ⟨⟨-, -, -, e8, e36, -, -, M⟩, ⟨-, -, -, n4, n5, -⟩, ⟨-, hw, K, LE, LK, LB⟩, -⟩ := id E
  have hr : ∀ m : Nat, m ≤ 80 → 1 ≤ m → v = nI m → 1 ≤ v.toInt ∧ v.toInt ≤ 80 := fun m h1 h2 h3 => by rw [h3, nI_toInt (by omega)]; omega
  rcases E_X11_hours C e8 e36 LE e1 with ⟨P, y, z⟩ | ⟨m, h8, h1, hi, y, A, CE⟩
  · rw [z] at e2
    rcases E_X12_hours M hw K n4 n5 LK LB e2 with ⟨-, y2, T⟩ | ⟨j, j8, j1, hj, -⟩
    · exact ⟨⟨_, _, _, eq_thr E T⟩, Or.inr ⟨(0, 1), by simp, y, y2, T.1⟩⟩
    · exact absurd (hr j j8 j1 hj) P
  · obtain ⟨M2, w2, g2⟩ := eq_mid E A
    rcases E_X12_hours M2 w2 K g2 n5 LK LB e2 with ⟨P2, -, -⟩ | ⟨j, j8, j1, hj, y2, D, RK⟩
    · exact absurd (hr m h8 h1 hi) P2
    · have ij : j = m := (nI_eq (by omega) (by omega)).mp (hj.symm.trans hi)
      subst ij
      exact ⟨⟨_, _, _, eq_actL E A D CE.2.2.2 CE.2.2.1 RK.2.2.2.1 RK.2.2.2.2⟩, Or.inl ⟨by rw [y, y2], D.1⟩⟩
theorem eq_undo {x nx r L n : Nat} {W : jWd} {h : jH} {q p : Int32 × jH} (E : eqS x nx r L W h) (e1 : F_X11_undo n x h = some q) (e2 : F_X12_undo n (x + 40) q.2 = some p) : (∃ nx2 r2 W2, eqS x nx2 r2 L W2 p.2) ∧ q.1 = p.1 ∧ oi (oc p.2) (x + 40) 0 = 0 := by
  obtain ⟨⟨-, x1, x3, -, -, e19, -, M⟩, ⟨n1, n2, n3, n4, n5, n6, S, P, A⟩, ⟨R, hw, K, LE, -, -⟩, -⟩ := id E
  obtain ⟨c1, c2⟩ := E_X11_undo x1 x3 e1
  by_cases r0 : r = 0
  · have y := c1 (by rw [← Int32.toInt_inj, n3, r0]; rfl)
    rw [y] at e2
    rcases E_X12_undo M n4 n5 e2 with ⟨-, y2, F, z, w0⟩ | ⟨r1, -⟩
    · exact ⟨⟨_, _, _, eq_thr E ⟨w0, F, z⟩⟩, by rw [y, y2], w0⟩
    · omega
  · obtain ⟨b, V, b1, b2, b3, b4, b5, b6⟩ := act_last S P n2 (by omega) A
    obtain ⟨y, yR, y1, y2, yz, yf⟩ := c2 nx b V e19 n1 n2 b1 b3 b4 R.1 b2 (by rw [n3]; omega)
    have k2 : ∀ a k : Nat, x + 20 ≤ a → oc q.2 a k = oc h a k := fun a k z => yf a k (by omega) (by omega)
    have M2 : mS (oc q.2) (x + 40) := by
      obtain ⟨s1, s2, s3, s4, s5, s8, s15, s17, s19, s20, s21⟩ := M
      have k3 : ∀ k, oc q.2 (x + 40) k = oc h (x + 40) k := fun k => k2 _ k (by omega)
      exact ⟨(k3 _).trans s1, (k3 _).trans s2, (k3 _).trans s3, (k3 _).trans s4, (k3 _).trans s5, (k3 _).trans s8, (k3 _).trans s15, (k3 _).trans s17, (k3 _).trans s19, (k3 _).trans s20, (k3 _).trans s21⟩
    have g2 : oi (oc q.2) (x + 40) 7 = nI r := by rw [← n4]; unfold oi; rw [k2 _ _ (by omega)]
    have w2 : wl (oc q.2) (x + 40) = W := by
      rw [← hw]
      funext k
      show oi (oc q.2) (x + 41) k = oi (oc h) (x + 41) k
      unfold oi
      rw [k2 _ _ (by omega)]
    rcases E_X12_undo M2 g2 n5 e2 with ⟨r1, -⟩ | ⟨-, w, w7, ww, wf, wz, w0⟩
    · omega
    · have fr : ∀ a k : Nat, a ≠ x + 41 → ¬ (a = x + 40 ∧ (k = 0 ∨ k = 7)) → oc p.2 a k = oc q.2 a k := fun a k z1 z2 => wf a k (fun c hc z => by simp at hc; omega) (fun z y => z2 ⟨z, by simpa using y⟩)
      have f : ∀ a k : Nat, ¬ (x + 6 ≤ a ∧ a ≤ x + 12) → ¬ (a = x + 19 ∧ (k = 1 ∨ k = 2)) → a ≠ x + 41 → ¬ (a = x + 40 ∧ (k = 0 ∨ k = 7)) → oc p.2 a k = oc h a k := fun a k z1 z2 z3 z4 => (fr a k z3 z4).trans (yf a k z1 z2)
      have gi : ∀ a k : Nat, a ≤ x + 39 → oi (oc p.2) a k = oi (oc q.2) a k := fun a k z => by unfold oi; rw [fr a k (by omega) (by omega)]
      have lo : ∀ k, k < 435 → wl (oc p.2) (x + 40) k = V k := fun k hk => by
        rw [ww k, if_pos hk, b5 k hk]
        unfold oi
        rw [k2 _ _ (by omega)]
      refine ⟨⟨(nx + 11) % 12, r - 1, wl (oc p.2) (x + 40), eq_wld E f (wz.trans yz) ⟨(gi _ _ (by omega)).trans y1, by omega, ?_, w7, by omega, act_undo (fun a k z => f a k (by omega) (by omega) (by omega) (by omega)) S n2 n5 A⟩ (rodE_fr (rodE_cg yR b4 lo) (fun a k z1 z2 => fr a k (by omega) (by omega))) rfl (wOK_cg b4 (fun k hk => lo k (by omega))) ?_⟩, by rw [y, w], w0⟩
      · rw [gi _ _ (by omega), y2, n3]; omega
      · intro k hk
        rcases hk with hk | hk
        · rw [hk, lo 2 (by omega), b6, LE.2.1]
        · rw [ww k, if_neg (by omega), w2]
end
section
/-! what the reference reads of its tape: rows of bytes, words, numbers -/
def bIn (b : Nat → Int32) (L : Nat) (lo hi : Int32) (i : Nat) : Prop := i < L ∧ lo ≤ b i ∧ b i ≤ hi
def isRow (P : Nat → Prop) (i j : Nat) : Prop := i ≤ j ∧ (∀ k, i ≤ k → k < j → P k) ∧ ¬ P j
theorem row_u {P : Nat → Prop} {i j k : Nat} (a : isRow P i j) (c : isRow P i k) : j = k := by
  obtain ⟨a1, a2, a3⟩ := a
  obtain ⟨c1, c2, c3⟩ := c
  rcases Nat.lt_trichotomy j k with z | z | z
  · exact absurd (c2 j a1 z) a3
  · exact z
  · exact absurd (a2 k c1 z) c3
theorem row_0 {P : Nat → Prop} {i : Nat} (h : ¬ P i) : isRow P i i := ⟨Nat.le_refl i, fun k h1 h2 => by omega, h⟩
theorem row_s {P : Nat → Prop} {i j : Nat} (h : P i) (r : isRow P (i + 1) j) : isRow P i j :=
  ⟨by have := r.1; omega, fun k h1 h2 => by
    by_cases z : k = i
    · rw [z]; exact h
    · exact r.2.1 k (by omega) h2, r.2.2⟩
theorem row_L {b : Nat → Int32} {L i j : Nat} {lo hi : Int32} (r : isRow (bIn b L lo hi) i j) (hi : i ≤ L) : j ≤ L := by
  rcases Nat.lt_or_ge L j with z | z
  · have y := (r.2.1 (j - 1) (by omega) (by omega)).1
    omega
  · exact z
/-- the word l stands from s to e -/
def spl (b : Nat → Int32) (s e : Nat) (l : List Int32) : Prop := e = s + l.length ∧ ∀ i, i < l.length → b (s + i) = l.getD i 0
theorem spl_u {b : Nat → Int32} {s e : Nat} {l l2 : List Int32} (a : spl b s e l) (c : spl b s e l2) : l = l2 := by
  have hl : l.length = l2.length := by have := a.1; have := c.1; omega
  refine List.ext_getElem hl fun i h1 h2 => ?_
  have x := a.2 i h1
  have y := c.2 i h2
  rw [List.getD_eq_getElem?_getD, List.getElem?_eq_getElem h1] at x
  rw [List.getD_eq_getElem?_getD, List.getElem?_eq_getElem h2] at y
  exact x.symm.trans y
/-- the number that k digits from s on make -/
def dV (b : Nat → Int32) (s : Nat) : Nat → Int32
  | 0 => 0
  | k + 1 => (10 * dV b s k + b (s + k)) - 48
theorem dV_b {b : Nat → Int32} {s : Nat} : ∀ k : Nat, k ≤ 3 → (∀ i, i < k → (48 : Int32) ≤ b (s + i) ∧ b (s + i) ≤ 57) → 0 ≤ (dV b s k).toInt ∧ (dV b s k).toInt + 1 ≤ 10 ^ k
  | 0, _, _ => by show 0 ≤ (0 : Int32).toInt ∧ (0 : Int32).toInt + 1 ≤ 10 ^ 0; decide
  | k + 1, hk, h => by
    obtain ⟨a, c⟩ := dV_b k (by omega) (fun i hi => h i (by omega))
    obtain ⟨d1, d2⟩ := h k (by omega)
    rw [Int32.le_iff_toInt_le] at d1 d2
    have l48 : (48 : Int32).toInt = 48 := rfl
    have l57 : (57 : Int32).toInt = 57 := rfl
    have l10 : (10 : Int32).toInt = 10 := rfl
    have p : (10 : Int) ^ k ≤ 100 := by
      rcases (by omega : k = 0 ∨ k = 1 ∨ k = 2) with z | z | z <;> subst z <;> decide
    have m : ((10 : Int32) * dV b s k).toInt = 10 * (dV b s k).toInt := by rw [Int32.toInt_mul, l10]; exact Int.bmod_eq_of_le (by omega) (by omega)
    have e : (dV b s (k + 1)).toInt = 10 * (dV b s k).toInt + (b (s + k)).toInt - 48 := by
      show ((10 * dV b s k + b (s + k)) - 48 : Int32).toInt = _
      rw [jsub (by rw [jadd (by omega) (by omega)]; omega) (by rw [jadd (by omega) (by omega)]; omega), jadd (by omega) (by omega), m, l48]
    rw [e, Int.pow_succ]
    omega
/-- the reference reads: the tape's bytes are b, its end L, the point p -/
def rb (O : jO) (m : Nat) (b : Nat → Int32) (L p : Nat) : Prop := mS O m ∧ oi O m 11 = nI L ∧ L ≤ 400 ∧ (∀ i, oi O (m + 6) i = b i) ∧ oi O m 10 = nI p ∧ p ≤ L
theorem rb_pt {O : jO} {m L p j : Nat} {b : Nat → Int32} (R : rb O m b L p) (hj : j ≤ L) : rb (u2 O m 10 (.int (nI j))) m b L j := by
  obtain ⟨M, e1, e2, e3, -, -⟩ := R
  exact ⟨mS_fr M (frM_f (cs := []) (fs := [10]) (by decide)) (by decide) (by decide), by rw [oi_ne (Or.inr (by decide))]; exact e1, e2, fun i => by rw [oi_ne (Or.inl (by omega))]; exact e3 i, oi_eq, hj⟩
theorem rb_fr {O O2 : jO} {m L p : Nat} {cs fs : List Nat} {b : Nat → Int32} (R : rb O m b L p) (f : frM m cs fs O O2) (hc : 0 ∉ cs) (hc6 : 6 ∉ cs) (hf : ∀ k ∈ [1, 2, 3, 4, 5, 8, 15, 17, 19, 20, 21], k ∉ fs) (h10 : 10 ∉ fs) (h11 : 11 ∉ fs) : rb O2 m b L p := by
  obtain ⟨M, e1, e2, e3, e4, e5⟩ := R
  exact ⟨mS_fr M f hc hf, (frM_oi f hc h11).trans e1, e2, fun i => (oi_M f (fun c z q => by have : c = 6 := by omega
                                                                                            subst this; exact hc6 z) (fun q => by omega)).trans (e3 i), (frM_oi f hc h10).trans e4, e5⟩
theorem E_X12_isAt {b : Nat → Int32} {L : Nat} {p : Nat} {n : Nat} {a0 : Nat} {x1 : Int32} {x2 : Int32} {h : jH} {q : Int32} (R : rb (oc h) a0 b L p) (hf : F_X12_isAt n a0 x1 x2 h = some q) : (q = 1 ∧ bIn b L x1 x2 p) ∨ (q = 0 ∧ ¬ bIn b L x1 x2 p) := by
  unfold F_X12_isAt at hf
  obtain ⟨M, b11, bL, b6, b10, bp⟩ := id R
  obtain ⟨s1, s2, s3, s4, s5, s8, s15, s17, s19, s20, s21⟩ := id M
  replace hf := jbind hf
  obtain ⟨v1, e1, hf⟩ := hf
  have r1 := oc_gI e1
  subst r1
  clear e1
  replace hf := jbind hf
  obtain ⟨v5, e2, hf⟩ := hf
  have r2 := oc_gI e2
  subst r2
  clear e2
  replace hf := jite hf
  rcases hf with ⟨c3, hf⟩ | ⟨c3, hf⟩
  · skip
    cases hf
    -- leaf 0: (0 : Int32)
    rw [b10, b11, Int32.le_iff_toInt_le, nI_toInt (by omega), nI_toInt (by omega)] at c3
    exact Or.inr ⟨rfl, fun z => by have := z.1; omega⟩
  · skip
    replace hf := jbind hf
    obtain ⟨p12, e4, hf⟩ := hf
    have r4 := oc_gR e4
    rw [s8] at r4
    cases r4
    clear e4
    replace hf := jbind hf
    obtain ⟨v16, e5, hf⟩ := hf
    have r5 := oc_gI e5
    subst r5
    clear e5
    replace hf := jbind hf
    obtain ⟨v19, e6, hf⟩ := hf
    obtain ⟨r6, y6⟩ := oc_al e6
    subst r6
    clear e6
    replace hf := jite hf
    rcases hf with ⟨c7, hf⟩ | ⟨c7, hf⟩
    · skip
      cases hf
      -- leaf 10: (0 : Int32)
      rw [b10, nI_cl (by omega), b6] at c7
      exact Or.inr ⟨rfl, fun z => by have := z.2.1; rw [Int32.le_iff_toInt_le] at this; rw [Int32.lt_iff_toInt_lt] at c7; omega⟩
    · skip
      replace hf := jbind hf
      obtain ⟨p25, e8, hf⟩ := hf
      have r8 := oc_gR e8
      rw [s8] at r8
      cases r8
      clear e8
      replace hf := jbind hf
      obtain ⟨v29, e9, hf⟩ := hf
      have r9 := oc_gI e9
      subst r9
      clear e9
      replace hf := jbind hf
      obtain ⟨v32, e10, hf⟩ := hf
      obtain ⟨r10, y10⟩ := oc_al e10
      subst r10
      clear e10
      replace hf := jite hf
      rcases hf with ⟨c11, hf⟩ | ⟨c11, hf⟩
      · skip
        cases hf
        -- leaf 110: (0 : Int32)
        rw [b10, nI_cl (by omega), b6] at c11
        exact Or.inr ⟨rfl, fun z => by have := z.2.2; rw [Int32.le_iff_toInt_le] at this; rw [Int32.lt_iff_toInt_lt] at c11; omega⟩
      · skip
        cases hf
        -- leaf 111: (1 : Int32)
        rw [b10, b11, Int32.le_iff_toInt_le, nI_toInt (by omega), nI_toInt (by omega)] at c3
        rw [b10, nI_cl (by omega), b6] at c7 c11
        exact Or.inl ⟨rfl, by omega, by rw [Int32.le_iff_toInt_le]; rw [Int32.lt_iff_toInt_lt] at c7; omega, by rw [Int32.le_iff_toInt_le]; rw [Int32.lt_iff_toInt_lt] at c11; omega⟩
theorem E_X12_blanks_0 {n : Nat} {b : Nat → Int32} {L : Nat} : ∀ (k : Nat) {a0 : Nat} {h : jH} {q : jH} (p : Nat) (R : rb (oc h) a0 b L p), F_X12_blanks_0 n k a0 h = some q → ∃ j, isRow (bIn b L 32 32) p j ∧ rb (oc q) a0 b L j ∧ oi (oc q) a0 12 = nI j ∧ frM a0 [] [10, 12] (oc h) (oc q) ∧ q.1 = h.1
  | 0, a0, h, q, p, R, hf => by cases hf
  | k + 1, a0, h, q, p, R, hf => by
    replace hf : F_X12_blanks_0_b n (F_X12_blanks_0 n k) a0 h = some q := hf
    unfold F_X12_blanks_0_b at hf
    obtain ⟨M, b11, bL, b6, b10, bp⟩ := id R
    obtain ⟨s1, s2, s3, s4, s5, s8, s15, s17, s19, s20, s21⟩ := id M
    replace hf := jbind hf
    obtain ⟨v5, e1, hf⟩ := hf
    replace e1 := (jcv_o e1).2
    have r1 := E_X12_isAt R e1
    replace hf := jite hf
    rcases hf with ⟨c2, hf⟩ | ⟨c2, hf⟩
    · skip
      replace hf := jbind hf
      obtain ⟨v26, e3, hf⟩ := hf
      have r3 := oc_gI e3
      subst r3
      clear e3
      replace hf := jbind hf
      obtain ⟨h29, e4, hf⟩ := hf
      obtain ⟨o4, z4⟩ := oc_pf e4
      clear e4
      cases hf
      -- leaf 0: h29
      rcases r1 with ⟨y, -⟩ | ⟨-, y⟩
      · exact absurd (c2.symm.trans y) (by decide)
      have f4 : frM a0 [] [10, 12] (oc h) (oc q) := by rw [o4]; exact frM_f (by decide)
      have g4 : oi (oc q) a0 12 = nI p := by rw [o4, oi_eq]; exact b10
      have R4 : rb (oc q) a0 b L p := by rw [o4]; exact rb_fr R (frM_f (cs := []) (fs := [12]) (by decide)) (by decide) (by decide) (by decide) (by decide) (by decide)
      exact ⟨p, row_0 y, R4, g4, f4, z4⟩
    · skip
      replace hf := jbind hf
      obtain ⟨v13, e5, hf⟩ := hf
      have r5 := oc_gI e5
      subst r5
      clear e5
      replace hf := jbind hf
      obtain ⟨h18, e6, hf⟩ := hf
      obtain ⟨o6, z6⟩ := oc_pf e6
      clear e6
      -- leaf 1: rc0 a0 h18
      rcases r1 with ⟨-, y⟩ | ⟨y, -⟩
      rotate_left
      · exact absurd y c2
      have hp : p < L := y.1
      rw [b10, nI_1] at o6
      have R4 : rb (oc h18) a0 b L (p + 1) := by rw [o6]; exact rb_pt R (by omega)
      have f4 : frM a0 [] [10, 12] (oc h) (oc h18) := by rw [o6]; exact frM_f (by decide)
      obtain ⟨j, j1, j2, j3, j4, j5⟩ := E_X12_blanks_0 k (p + 1) R4 hf
      exact ⟨j, row_s y j1, j2, j3, frM_tr f4 j4, j5.trans z6⟩
theorem E_X12_blanks {b : Nat → Int32} {L : Nat} {p : Nat} {n : Nat} {a0 : Nat} {h : jH} {q : jH} (R : rb (oc h) a0 b L p) (hf : F_X12_blanks n a0 h = some q) : ∃ j, isRow (bIn b L 32 32) p j ∧ rb (oc q) a0 b L j ∧ oi (oc q) a0 12 = nI j ∧ frM a0 [] [10, 12] (oc h) (oc q) ∧ q.1 = h.1 := by
  unfold F_X12_blanks at hf
  -- leaf : F_X12_blanks_0 n n a0 h
  exact E_X12_blanks_0 n p R hf
theorem E_X12_letters_4 {n : Nat} {b : Nat → Int32} {L : Nat} : ∀ (k : Nat) {a0 : Nat} {h : jH} {q : jH} (p : Nat) (R : rb (oc h) a0 b L p), F_X12_letters_4 n k a0 h = some q → ∃ j, isRow (bIn b L 97 122) p j ∧ rb (oc q) a0 b L j ∧ frM a0 [] [10] (oc h) (oc q) ∧ q.1 = h.1
  | 0, a0, h, q, p, R, hf => by cases hf
  | k + 1, a0, h, q, p, R, hf => by
    replace hf : F_X12_letters_4_b n (F_X12_letters_4 n k) a0 h = some q := hf
    unfold F_X12_letters_4_b at hf
    obtain ⟨M, b11, bL, b6, b10, bp⟩ := id R
    obtain ⟨s1, s2, s3, s4, s5, s8, s15, s17, s19, s20, s21⟩ := id M
    replace hf := jbind hf
    obtain ⟨v9, e1, hf⟩ := hf
    replace e1 := (jcv_o e1).2
    have r1 := E_X12_isAt R e1
    replace hf := jite hf
    rcases hf with ⟨c2, hf⟩ | ⟨c2, hf⟩
    · skip
      cases hf
      -- leaf 0: h
      rcases r1 with ⟨y, -⟩ | ⟨-, y⟩
      · exact absurd (c2.symm.trans y) (by decide)
      exact ⟨p, row_0 y, R, frM_rfl, rfl⟩
    · skip
      replace hf := jbind hf
      obtain ⟨v17, e3, hf⟩ := hf
      have r3 := oc_gI e3
      subst r3
      clear e3
      replace hf := jbind hf
      obtain ⟨h22, e4, hf⟩ := hf
      obtain ⟨o4, z4⟩ := oc_pf e4
      clear e4
      -- leaf 1: rc4 a0 h22
      rcases r1 with ⟨-, y⟩ | ⟨y, -⟩
      rotate_left
      · exact absurd y c2
      have hp : p < L := y.1
      rw [b10, nI_1] at o4
      have R4 : rb (oc h22) a0 b L (p + 1) := by rw [o4]; exact rb_pt R (by omega)
      have f4 : frM a0 [] [10] (oc h) (oc h22) := by rw [o4]; exact frM_f (by decide)
      obtain ⟨j, j1, j2, j4, j5⟩ := E_X12_letters_4 k (p + 1) R4 hf
      exact ⟨j, row_s y j1, j2, frM_tr f4 j4, j5.trans z4⟩
theorem E_X12_letters {b : Nat → Int32} {L : Nat} {p : Nat} {n : Nat} {a0 : Nat} {h : jH} {q : jH} (R : rb (oc h) a0 b L p) (hf : F_X12_letters n a0 h = some q) : ∃ s e, isRow (bIn b L 32 32) p s ∧ isRow (bIn b L 97 122) s e ∧ rb (oc q) a0 b L e ∧ oi (oc q) a0 12 = nI s ∧ frM a0 [] [10, 12] (oc h) (oc q) ∧ q.1 = h.1 := by
  unfold F_X12_letters at hf
  replace hf := jbind hf
  obtain ⟨h1, e1, hf⟩ := hf
  replace e1 := (jcv_o e1).2
  obtain ⟨s1, t1, R1, g1, f1, z1⟩ := E_X12_blanks R e1
  -- leaf : F_X12_letters_4 n n a0 h1
  obtain ⟨j, j1, j2, j4, j5⟩ := E_X12_letters_4 n s1 R1 hf
  exact ⟨s1, j, t1, j1, j2, (frM_oi j4 (by decide) (by decide)).trans g1, frM_tr f1 (frM_le j4 (by decide) (by decide)), j5.trans z1⟩
end
