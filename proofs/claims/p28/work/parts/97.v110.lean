/-! the acts that are remembered, on both sides -/
def slotE (O : jO) (z x : Nat) : Prop := ∀ s : Nat, s < 12 → O (x + 20) s = .null ∨ ∃ b : Nat, O (x + 20) s = .ref b ∧ rodS O b ∧ x + 52 < b ∧ b + 6 < z
def apartE (O : jO) (x : Nat) : Prop := ∀ s t b c : Nat, s < 12 → t < 12 → s ≠ t → O (x + 20) s = .ref b → O (x + 20) t = .ref c → b + 6 < c ∨ c + 6 < b
/-- the j-th latest act -/
def actE (O : jO) (x m r nx : Nat) : Prop := ∀ j : Nat, j < r → ∃ (b : Nat) (V : jWd), O (x + 20) ((nx + 11 - j) % 12) = .ref b ∧ rodE O b V ∧ wOK V ∧ (∀ k, k < 435 → V k = oi O (m + 5) (435 * (r - 1 - j) + k)) ∧ V 2 = oi O (x + 13) 7
theorem act_step {x nx r : Nat} {W W2 V2 : jWd} {h h2 h3 : jH} (hn : nx ≤ 11) (hr : r ≤ 12) (S : slotE (oc h) h.1 x) (P : apartE (oc h) x) (A : actE (oc h) x (x + 40) r nx) (hw : ∀ k, k < 435 → wl (oc h) (x + 40) k = W k) (K : wOK W) (h2w : oi (oc h) (x + 13) 7 = W 2) (hz : x + 52 < h.1) (C : cAct x nx W W2 h h2) (D : rAct (x + 40) r V2 h2 h3) :
    slotE (oc h3) h3.1 x ∧ apartE (oc h3) x ∧ actE (oc h3) x (x + 40) (if r < 12 then r + 1 else 12) ((nx + 1) % 12) := by
  obtain ⟨d0, dw, d7, dA, dB, dF, dz⟩ := D
  obtain ⟨-, b, C1, c5⟩ := C
  have hb : ∀ b : Nat, oc h (x + 20) nx = .ref b → rodS (oc h) b ∧ x + 52 < b := fun b e => by
    rcases S nx (by omega) with q | ⟨c, q, q1, q2, q3⟩
    · rw [q] at e; cases e
    · rw [q] at e; cases e; exact ⟨q1, q2⟩
  have lb := cRm_lb hz hb C1
  obtain ⟨B, c1, c2, c3, c4⟩ := C1
  have f3 : ∀ a k : Nat, (a ≤ x + 39 ∨ x + 52 < a) → oc h3 a k = oc h2 a k := fun a k q => dF a k (fun c hc z => by simp at hc; omega) (fun z => by omega)
  have zz : b + 6 < h3.1 ∧ h.1 ≤ h3.1 := by
    rcases B with ⟨e, y⟩ | ⟨e, y, y2⟩
    · rcases S nx (by omega) with q | ⟨c, q, q1, q2, q3⟩
      · rw [q] at e; cases e
      · rw [q] at e; cases e; omega
    · omega
  have ow : ∀ s c : Nat, s < 12 → s ≠ nx → oc h (x + 20) s = .ref c → (c + 6 < b ∨ b + 6 < c) ∧ x + 52 < c ∧ c + 6 < h.1 ∧ rodS (oc h) c := fun s c hs ns e => by
    have l : rodS (oc h) c ∧ x + 52 < c ∧ c + 6 < h.1 := by
      rcases S s hs with q | ⟨c2, q, q1, q2, q3⟩
      · rw [q] at e; cases e
      · rw [q] at e; cases e; exact ⟨q1, q2, q3⟩
    refine ⟨?_, l.2.1, l.2.2, l.1⟩
    rcases B with ⟨y, -⟩ | ⟨-, y, -⟩
    · exact P s nx c b hs (by omega) ns e y
    · omega
  have kp : ∀ s c : Nat, s < 12 → s ≠ nx → oc h (x + 20) s = .ref c → ∀ a k : Nat, c ≤ a → a ≤ c + 6 → oc h3 a k = oc h a k := fun s c hs ns e a k h1 h2 => by
    obtain ⟨w1, w2, w3, -⟩ := ow s c hs ns e
    exact (f3 a k (by omega)).trans (c5 a k (by omega) (by omega) (by omega) (by omega) (by omega) (by omega) (by omega))
  have sn : ∀ s : Nat, s < 12 → s ≠ nx → oc h3 (x + 20) s = oc h (x + 20) s := fun s hs ns => (f3 _ _ (by omega)).trans (c5 _ _ (by omega) (by omega) (by omega) (by omega) (by omega) (by omega) (by omega))
  have s0 : oc h3 (x + 20) nx = .ref b := (f3 _ _ (by omega)).trans c1
  have rb : rodE (oc h3) b W := rodE_fr c2 (fun a k h1 h2 => f3 a k (by omega))
  have h13 : oi (oc h3) (x + 13) 7 = oi (oc h) (x + 13) 7 := by
    unfold oi
    rw [f3 _ _ (by omega), c5 _ _ (by omega) (by omega) (by omega) (by omega) (by omega) (by omega) (by omega)]
  refine ⟨fun s hs => ?_, fun s t c d hs ht ne e1 e2 => ?_, fun j hj => ?_⟩
  · by_cases q : s = nx
    · subst q; exact Or.inr ⟨b, s0, rb.1, lb, zz.1⟩
    · rw [sn s hs q]
      rcases S s hs with w | ⟨c, w, w1, w2, w3⟩
      · exact Or.inl w
      · exact Or.inr ⟨c, w, rodS_fr w1 (fun k => kp s c hs q w _ _ (by omega) (by omega)) (kp s c hs q w _ _ (by omega) (by omega)), w2, by omega⟩
  · by_cases q : s = nx
    · subst q
      rw [s0] at e1
      cases e1
      rw [sn t ht (Ne.symm ne)] at e2
      exact (ow t d ht (Ne.symm ne) e2).1.symm
    · rw [sn s hs q] at e1
      by_cases q2 : t = nx
      · subst q2
        rw [s0] at e2
        cases e2
        exact (ow s c hs q e1).1
      · rw [sn t ht q2] at e2
        exact P s t c d hs ht ne e1 e2
  · by_cases j0 : j = 0
    · subst j0
      refine ⟨b, W, ?_, rb, K, fun k hk => ?_, (h13.trans h2w).symm⟩
      · rw [show ((nx + 1) % 12 + 11 - 0) % 12 = nx by omega]; exact s0
      · have y := dA k hk
        have w : wl (oc h2) (x + 40) k = wl (oc h) (x + 40) k := by
          show oi (oc h2) (x + 40 + 1) k = oi (oc h) (x + 40 + 1) k
          unfold oi
          rw [c5 _ _ (by omega) (by omega) (by omega) (by omega) (by omega) (by omega) (by omega)]
        exact ((y.trans w).trans (hw k hk)).symm
    · have jr : j - 1 < r := by split at hj <;> omega
      have j12 : j ≤ 11 := by split at hj <;> omega
      obtain ⟨c, V, a1, a2, a3, a4, a5⟩ := A (j - 1) jr
      have es : ((nx + 1) % 12 + 11 - j) % 12 = (nx + 11 - (j - 1)) % 12 := by omega
      have ns : (nx + 11 - (j - 1)) % 12 ≠ nx := by omega
      have hs : (nx + 11 - (j - 1)) % 12 < 12 := by omega
      refine ⟨c, V, ?_, rodE_fr a2 (kp _ c hs ns a1), a3, fun k hk => ?_, a5.trans h13.symm⟩
      · rw [es, sn _ hs ns]; exact a1
      · have y := dB j (by omega) hj k hk
        have w : oi (oc h2) (x + 40 + 5) (435 * (r - j) + k) = oi (oc h) (x + 40 + 5) (435 * (r - j) + k) := by
          unfold oi
          rw [c5 _ _ (by omega) (by omega) (by omega) (by omega) (by omega) (by omega) (by omega)]
        have z := a4 k hk
        rw [show r - 1 - (j - 1) = r - j by omega] at z
        exact z.trans (y.trans w).symm
