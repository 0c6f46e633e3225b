/-! what the law wrote to out stands there still behind the reference's call -/
theorem jKd_big {g : jGh} {c : Nat} (h : 1000 ≤ c) : jKd g c = .inr (.inl (c - 999, 1000)) := by
  unfold jKd
  split <;> first | exact absurd h (by decide) | exact if_pos h
def kF : jF → Nat
  | .inl _ => 0
  | .inr (.inl c) => c
  | .inr (.inr c) => c
def no40 : jD → Bool
  | .inl _ => true
  | .inr (.inl q) => q.2 != 40
  | .inr (.inr q) => q.2.all fun F => kF F != 40
theorem jKd_no40 {g : jGh} {c : Nat} : no40 (jKd g c) = true := by
  unfold jKd
  split
  all_goals first
    | rfl
    | (show (List.all _ _) = true
       by_cases q1 : g.2.2.2.2.2.2.1 = 0 <;> by_cases q2 : g.2.2.2.2.2.2.2.1 = 0 <;> simp only [q1, q2, if_true, if_false] <;> rfl)
    | (split <;> rfl)
theorem okV_k {Γ Γ2 : Nat → Option Nat} {F : jF} {v : Value} (hF : kF F ≠ 40) (hm : ∀ a c, c ≠ 40 → Γ a = some c → Γ2 a = some c) (h : okV Γ F v) : okV Γ2 F v := by
  rcases F with P | c | c
  · exact h
  · obtain ⟨a, e, ha⟩ := h
    exact ⟨a, e, hm a c hF ha⟩
  · rcases h with h | ⟨a, e, ha⟩
    · exact Or.inl h
    · exact Or.inr ⟨a, e, hm a c hF ha⟩
theorem okE_k {Γ Γ2 : Nat → Option Nat} {D : jD} {e : Option jE} (hD : no40 D = true) (hm : ∀ a c, c ≠ 40 → Γ a = some c → Γ2 a = some c) (h : okE Γ D e) : okE Γ2 D e := by
  rcases D with q | q | q
  · exact h
  · show (if q.2 = 1000 then _ else _)
    have h2 : (if q.2 = 1000 then ∃ f : Nat → Int64, e = some (.inr (.inr (.inr (1, f)))) ∧ (q.1 = 0 ∨ q.1 % 18446744073709551616 = (f 0).toUInt64.toNat) else ∃ f : Nat → Option Nat, e = some (.inr (.inr (.inl (q.1, f)))) ∧ ∀ k a, f k = some a → Γ a = some q.2) := h
    have hq4 : q.2 ≠ 40 := by
      have h3 : (q.2 != 40) = true := hD
      simpa using h3
    by_cases hq : q.2 = 1000
    · rw [if_pos hq] at h2 ⊢
      exact h2
    · rw [if_neg hq] at h2 ⊢
      obtain ⟨f, e1, e2⟩ := h2
      exact ⟨f, e1, fun k a hk => hm a _ hq4 (e2 k a hk)⟩
  · obtain ⟨vs, e1, e2, e3⟩ := h
    have h3 : (q.2.all fun F => kF F != 40) = true := hD
    refine ⟨vs, e1, e2, fun k F hk => ?_⟩
    obtain ⟨v, f1, f2⟩ := e3 k F hk
    have h4 := List.all_eq_true.mp h3 F (List.mem_of_getElem? hk)
    exact ⟨v, f1, okV_k (by simpa using h4) hm f2⟩
theorem k_max (Γ : Nat → Option Nat) (n : Nat) : ∃ M : Nat, ∀ b c : Nat, b < n → Γ b = some c → c < M := by
  induction n with
  | zero => exact ⟨0, fun b c h => absurd h (Nat.not_lt_zero b)⟩
  | succ n ih =>
    obtain ⟨M, hM⟩ := ih
    cases hk : Γ n with
    | none =>
      refine ⟨M, fun b c hb e => ?_⟩
      by_cases q : b = n
      · subst q; rw [hk] at e; cases e
      · exact hM b c (by omega) e
    | some k =>
      refine ⟨M + k + 1, fun b c hb e => ?_⟩
      by_cases q : b = n
      · subst q; rw [hk] at e; cases e; omega
      · have := hM b c (by omega) e; omega
theorem out_keep {g : jGh} {Γ : Nat → Option Nat} {h q : jH} {out : Nat} (w : jW (jKd g) Γ h) (to : Γ out = some 40) (hu : ∀ a b c, 9 ≤ c → Γ a = some c → Γ b = some c → a = b)
    (F : ∀ Γ2 : Nat → Option Nat, (∀ a c, c ≠ 40 → Γ a = some c → Γ2 a = some c) → (∀ a b c, 9 ≤ c → Γ2 a = some c → Γ2 b = some c → a = b) → jW (jKd g) Γ2 h → ∃ g2, jW (jKd g2) Γ2 q) : jall_ q out 0 = jall_ h out 0 := by
  have h3 : ∃ f : Nat → Int64, h.2 out = some (.inr (.inr (.inr (1, f)))) ∧ ((0 : Nat) = 0 ∨ (0 : Nat) % 18446744073709551616 = (f 0).toUInt64.toNat) := (w out 40 to).2
  obtain ⟨f, e1, -⟩ := h3
  obtain ⟨M, hM⟩ := k_max Γ h.1
  obtain ⟨K, hK, hK1, hK2⟩ : ∃ K : Nat, 1000 ≤ K ∧ M < K ∧ (K - 999) % 18446744073709551616 = (f 0).toUInt64.toNat := by
    have hl : (f 0).toUInt64.toNat < 18446744073709551616 := by
      have := (f 0).toUInt64.toNat_lt
      omega
    refine ⟨999 + ((f 0).toUInt64.toNat + 18446744073709551616 * (M + 1)), by omega, by omega, ?_⟩
    rw [show 999 + ((f 0).toUInt64.toNat + 18446744073709551616 * (M + 1)) - 999 = (f 0).toUInt64.toNat + 18446744073709551616 * (M + 1) by omega, Nat.add_mul_mod_self_left, Nat.mod_eq_of_lt hl]
  have hm : ∀ a c, c ≠ 40 → Γ a = some c → (fun b => if b = out then some K else Γ b) a = some c := by
    intro a c hc ha
    have : a ≠ out := fun z => by subst z; rw [to] at ha; cases ha; exact hc rfl
    show (if a = out then some K else Γ a) = some c
    rw [if_neg this]; exact ha
  obtain ⟨g2, w2⟩ := F (fun b => if b = out then some K else Γ b) hm (fun a b c hc ha hb => by
      have ha : (if a = out then some K else Γ a) = some c := ha
      have hb : (if b = out then some K else Γ b) = some c := hb
      by_cases qa : a = out
      · by_cases qb : b = out
        · rw [qa, qb]
        · rw [if_pos qa] at ha; rw [if_neg qb] at hb; cases ha
          have := hM b K (w b K hb).1 hb; omega
      · by_cases qb : b = out
        · rw [if_neg qa] at ha; rw [if_pos qb] at hb; cases hb
          have := hM a K (w a K ha).1 ha; omega
        · rw [if_neg qa] at ha; rw [if_neg qb] at hb; exact hu a b c hc ha hb)
    (fun a c ha => by
      have ha2 : (if a = out then some K else Γ a) = some c := ha
      by_cases qa : a = out
      · rw [if_pos qa] at ha2; cases ha2
        refine ⟨by rw [qa]; exact (w out 40 to).1, ?_⟩
        rw [jKd_big hK, qa, e1]
        have h9 : (if (1000 : Nat) = 1000 then ∃ f9 : Nat → Int64, (some (.inr (.inr (.inr (1, f)))) : Option jE) = some (.inr (.inr (.inr (1, f9)))) ∧ (K - 999 = 0 ∨ (K - 999) % 18446744073709551616 = (f9 0).toUInt64.toNat) else ∃ f9 : Nat → Option Nat, (some (.inr (.inr (.inr (1, f)))) : Option jE) = some (.inr (.inr (.inl (K - 999, f9)))) ∧ ∀ k a, f9 k = some a → (fun b => if b = out then some K else Γ b) a = some 1000) := by
          rw [if_pos rfl]
          exact ⟨f, rfl, Or.inr hK2⟩
        exact h9
      · rw [if_neg qa] at ha2
        exact ⟨(w a c ha2).1, okE_k jKd_no40 hm (w a c ha2).2⟩)
  have h5 := (w2 out K (if_pos rfl)).2
  rw [jKd_big hK] at h5
  have h6 : (if (1000 : Nat) = 1000 then ∃ f2 : Nat → Int64, q.2 out = some (.inr (.inr (.inr (1, f2)))) ∧ (K - 999 = 0 ∨ (K - 999) % 18446744073709551616 = (f2 0).toUInt64.toNat) else ∃ f2 : Nat → Option Nat, q.2 out = some (.inr (.inr (.inl (K - 999, f2)))) ∧ ∀ k a, f2 k = some a → (if a = out then some K else Γ a) = some 1000) := h5
  rw [if_pos rfl] at h6
  obtain ⟨f2, e2, h7⟩ := h6
  have h8 : f2 0 = f 0 := by
    have h9 : (f2 0).toUInt64.toNat = (f 0).toUInt64.toNat := by
      rcases h7 with z | z
      · omega
      · rw [← z, hK2]
    have h10 := UInt64.toNat_inj.mp h9
    have inj : ∀ x y : Int64, x.toUInt64 = y.toUInt64 → x = y := fun x y h => by
      rcases x with ⟨a⟩
      rcases y with ⟨b⟩
      have h : a = b := h
      rw [h]
    exact inj _ _ h10
  unfold jall_
  rw [e1, e2]
  show (if ¬ ((0 : Int32) < 0 ∨ 1 ≤ (0 : Int32).toNatClampNeg) then some (f2 (0 : Int32).toNatClampNeg) else none) = (if ¬ ((0 : Int32) < 0 ∨ 1 ≤ (0 : Int32).toNatClampNeg) then some (f (0 : Int32).toNatClampNeg) else none)
  have e0 : (0 : Int32).toNatClampNeg = 0 := by decide
  rw [e0, h8]
theorem jasl_ll {h h2 : jH} {out : Nat} {v : Int64} (e : jasl h out 0 v = some h2) : jall_ h2 out 0 = some v := by
  unfold jasl at e
  split at e
  · rename_i x hx
    split at e
    · rename_i c
      cases e
      unfold jall_
      rw [show (jup h out (.inr (.inr (.inr (x.1, vp_updL x.2 (0 : Int32).toNatClampNeg v))))).2 out = some (.inr (.inr (.inr (x.1, vp_updL x.2 (0 : Int32).toNatClampNeg v)))) from if_pos rfl]
      dsimp only
      rw [if_pos c]
      congr 1
      all_goals (unfold vp_updL; simp)
    · cases e
  · cases e
def FK_pole : Nat → Option Int32 := fun k : Nat => if k = 0 then some (1 : Int32) else if k = 3 then some (2 : Int32) else none
theorem FLa_pole {n : Nat} {a0 : Nat} {a1 : Nat} {h : jH} {r : Int32 × jH} (hf : FL_pole n a0 a1 h = some r) : ∃ q : jR × jH, F_X11_pole n a0 h = some q ∧ ((∃ v : Int32, q.1 = .inl v ∧ r.1 = 0 ∧ jall_ r.2 a1 0 = some ((fun v : Int32 => v.toInt64) v)) ∨ ∃ k : Nat, q.1 = .inr k ∧ FK_pole k = some r.1) := by
  unfold FL_pole at hf
  obtain ⟨q, e, hf⟩ := jbind hf
  refine ⟨q, (jcv_o e).2, ?_⟩
  obtain ⟨q1, q2⟩ := q
  rcases q1 with v | k
  · obtain ⟨h2, e2, hf⟩ := jbind hf
    cases hf
    exact Or.inl ⟨v, rfl, rfl, jasl_ll e2⟩
  · refine Or.inr ⟨k, rfl, ?_⟩
    replace hf : (if k = 0 then some ((1 : Int32), q2) else if k = 3 then some ((2 : Int32), q2) else none) = some r := hf
    unfold FK_pole
    by_cases c0 : k = 0
    · rw [if_pos c0] at hf ⊢; cases hf; rfl
    rw [if_neg c0] at hf ⊢
    by_cases c1 : k = 3
    · rw [if_pos c1] at hf ⊢; cases hf; rfl
    rw [if_neg c1] at hf ⊢
    cases hf
def FK_law : Nat → Option Int32 := fun k : Nat => if k = 0 then some (1 : Int32) else none
theorem FLa_law {n : Nat} {a0 : Nat} {a1 : Nat} {h : jH} {r : Int32 × jH} (hf : FL_law n a0 a1 h = some r) : ∃ q : jR × jH, F_X11_law n a0 h = some q ∧ ((∃ v : Int32, q.1 = .inl v ∧ r.1 = 0 ∧ jall_ r.2 a1 0 = some ((fun v : Int32 => v.toInt64) v)) ∨ ∃ k : Nat, q.1 = .inr k ∧ FK_law k = some r.1) := by
  unfold FL_law at hf
  obtain ⟨q, e, hf⟩ := jbind hf
  refine ⟨q, (jcv_o e).2, ?_⟩
  obtain ⟨q1, q2⟩ := q
  rcases q1 with v | k
  · obtain ⟨h2, e2, hf⟩ := jbind hf
    cases hf
    exact Or.inl ⟨v, rfl, rfl, jasl_ll e2⟩
  · refine Or.inr ⟨k, rfl, ?_⟩
    replace hf : (if k = 0 then some ((1 : Int32), q2) else none) = some r := hf
    unfold FK_law
    by_cases c0 : k = 0
    · rw [if_pos c0] at hf ⊢; cases hf; rfl
    rw [if_neg c0] at hf ⊢
    cases hf
def FK_ring : Nat → Option Int32 := fun k : Nat => if k = 2 then some (1 : Int32) else if k = 4 then some (2 : Int32) else none
theorem FLa_ring {n : Nat} {a0 : Nat} {x1 : Int32} {x2 : Int32} {a3 : Nat} {h : jH} {r : Int32 × jH} (hf : FL_ring n a0 x1 x2 a3 h = some r) : ∃ q : jR × jH, F_X11_ring n a0 x1 x2 h = some q ∧ ((∃ v : Int32, q.1 = .inl v ∧ r.1 = 0 ∧ jall_ r.2 a3 0 = some ((fun v : Int32 => v.toInt64) v)) ∨ ∃ k : Nat, q.1 = .inr k ∧ FK_ring k = some r.1) := by
  unfold FL_ring at hf
  obtain ⟨q, e, hf⟩ := jbind hf
  refine ⟨q, (jcv_o e).2, ?_⟩
  obtain ⟨q1, q2⟩ := q
  rcases q1 with v | k
  · obtain ⟨h2, e2, hf⟩ := jbind hf
    cases hf
    exact Or.inl ⟨v, rfl, rfl, jasl_ll e2⟩
  · refine Or.inr ⟨k, rfl, ?_⟩
    replace hf : (if k = 2 then some ((1 : Int32), q2) else if k = 4 then some ((2 : Int32), q2) else none) = some r := hf
    unfold FK_ring
    by_cases c0 : k = 2
    · rw [if_pos c0] at hf ⊢; cases hf; rfl
    rw [if_neg c0] at hf ⊢
    by_cases c1 : k = 4
    · rw [if_pos c1] at hf ⊢; cases hf; rfl
    rw [if_neg c1] at hf ⊢
    cases hf
def FK_pull : Nat → Option Int32 := fun k : Nat => if k = 2 then some (1 : Int32) else if k = 0 then some (2 : Int32) else none
theorem FLa_pull {n : Nat} {a0 : Nat} {x1 : Int32} {x2 : Int32} {x3 : Int32} {a4 : Nat} {h : jH} {r : Int32 × jH} (hf : FL_pull n a0 x1 x2 x3 a4 h = some r) : ∃ q : jR × jH, F_X11_pull n a0 x1 x2 x3 h = some q ∧ ((∃ v : Int32, q.1 = .inl v ∧ r.1 = 0 ∧ jall_ r.2 a4 0 = some ((fun v : Int32 => v.toInt64) v)) ∨ ∃ k : Nat, q.1 = .inr k ∧ FK_pull k = some r.1) := by
  unfold FL_pull at hf
  obtain ⟨q, e, hf⟩ := jbind hf
  refine ⟨q, (jcv_o e).2, ?_⟩
  obtain ⟨q1, q2⟩ := q
  rcases q1 with v | k
  · obtain ⟨h2, e2, hf⟩ := jbind hf
    cases hf
    exact Or.inl ⟨v, rfl, rfl, jasl_ll e2⟩
  · refine Or.inr ⟨k, rfl, ?_⟩
    replace hf : (if k = 2 then some ((1 : Int32), q2) else if k = 0 then some ((2 : Int32), q2) else none) = some r := hf
    unfold FK_pull
    by_cases c0 : k = 2
    · rw [if_pos c0] at hf ⊢; cases hf; rfl
    rw [if_neg c0] at hf ⊢
    by_cases c1 : k = 0
    · rw [if_pos c1] at hf ⊢; cases hf; rfl
    rw [if_neg c1] at hf ⊢
    cases hf
def FK_free : Nat → Option Int32 := fun k : Nat => if k = 2 then some (1 : Int32) else if k = 1 then some (2 : Int32) else none
theorem FLa_free {n : Nat} {a0 : Nat} {x1 : Int32} {a2 : Nat} {h : jH} {r : Int32 × jH} (hf : FL_free n a0 x1 a2 h = some r) : ∃ q : jR × jH, F_X11_free n a0 x1 h = some q ∧ ((∃ v : Int32, q.1 = .inl v ∧ r.1 = 0 ∧ jall_ r.2 a2 0 = some ((fun v : Int32 => v.toInt64) v)) ∨ ∃ k : Nat, q.1 = .inr k ∧ FK_free k = some r.1) := by
  unfold FL_free at hf
  obtain ⟨q, e, hf⟩ := jbind hf
  refine ⟨q, (jcv_o e).2, ?_⟩
  obtain ⟨q1, q2⟩ := q
  rcases q1 with v | k
  · obtain ⟨h2, e2, hf⟩ := jbind hf
    cases hf
    exact Or.inl ⟨v, rfl, rfl, jasl_ll e2⟩
  · refine Or.inr ⟨k, rfl, ?_⟩
    replace hf : (if k = 2 then some ((1 : Int32), q2) else if k = 1 then some ((2 : Int32), q2) else none) = some r := hf
    unfold FK_free
    by_cases c0 : k = 2
    · rw [if_pos c0] at hf ⊢; cases hf; rfl
    rw [if_neg c0] at hf ⊢
    by_cases c1 : k = 1
    · rw [if_pos c1] at hf ⊢; cases hf; rfl
    rw [if_neg c1] at hf ⊢
    cases hf
def FK_snag : Nat → Option Int32 := fun k : Nat => if k = 2 then some (1 : Int32) else if k = 1 then some (2 : Int32) else none
theorem FLa_snag {n : Nat} {a0 : Nat} {x1 : Int32} {a2 : Nat} {h : jH} {r : Int32 × jH} (hf : FL_snag n a0 x1 a2 h = some r) : ∃ q : jR × jH, F_X11_snag n a0 x1 h = some q ∧ ((∃ v : Int32, q.1 = .inl v ∧ r.1 = 0 ∧ jall_ r.2 a2 0 = some ((fun v : Int32 => v.toInt64) v)) ∨ ∃ k : Nat, q.1 = .inr k ∧ FK_snag k = some r.1) := by
  unfold FL_snag at hf
  obtain ⟨q, e, hf⟩ := jbind hf
  refine ⟨q, (jcv_o e).2, ?_⟩
  obtain ⟨q1, q2⟩ := q
  rcases q1 with v | k
  · obtain ⟨h2, e2, hf⟩ := jbind hf
    cases hf
    exact Or.inl ⟨v, rfl, rfl, jasl_ll e2⟩
  · refine Or.inr ⟨k, rfl, ?_⟩
    replace hf : (if k = 2 then some ((1 : Int32), q2) else if k = 1 then some ((2 : Int32), q2) else none) = some r := hf
    unfold FK_snag
    by_cases c0 : k = 2
    · rw [if_pos c0] at hf ⊢; cases hf; rfl
    rw [if_neg c0] at hf ⊢
    by_cases c1 : k = 1
    · rw [if_pos c1] at hf ⊢; cases hf; rfl
    rw [if_neg c1] at hf ⊢
    cases hf
def FK_hook : Nat → Option Int32 := fun k : Nat => if k = 2 then some (1 : Int32) else none
theorem FLa_hook {n : Nat} {a0 : Nat} {x1 : Int32} {x2 : Int32} {a3 : Nat} {h : jH} {r : Int32 × jH} (hf : FL_hook n a0 x1 x2 a3 h = some r) : ∃ q : jR × jH, F_X11_hook n a0 x1 x2 h = some q ∧ ((∃ v : Int32, q.1 = .inl v ∧ r.1 = 0 ∧ jall_ r.2 a3 0 = some ((fun v : Int32 => if v = 0 then (0 : Int64) else 1) v)) ∨ ∃ k : Nat, q.1 = .inr k ∧ FK_hook k = some r.1) := by
  unfold FL_hook at hf
  obtain ⟨q, e, hf⟩ := jbind hf
  refine ⟨q, (jcv_o e).2, ?_⟩
  obtain ⟨q1, q2⟩ := q
  rcases q1 with v | k
  · obtain ⟨h2, e2, hf⟩ := jbind hf
    cases hf
    exact Or.inl ⟨v, rfl, rfl, jasl_ll e2⟩
  · refine Or.inr ⟨k, rfl, ?_⟩
    replace hf : (if k = 2 then some ((1 : Int32), q2) else none) = some r := hf
    unfold FK_hook
    by_cases c0 : k = 2
    · rw [if_pos c0] at hf ⊢; cases hf; rfl
    rw [if_neg c0] at hf ⊢
    cases hf
def FK_sew : Nat → Option Int32 := fun k : Nat => if k = 2 then some (1 : Int32) else if k = 0 then some (2 : Int32) else if k = 1 then some (3 : Int32) else none
theorem FLa_sew {n : Nat} {a0 : Nat} {x1 : Int32} {x2 : Int32} {a3 : Nat} {h : jH} {r : Int32 × jH} (hf : FL_sew n a0 x1 x2 a3 h = some r) : ∃ q : jR × jH, F_X11_sew n a0 x1 x2 h = some q ∧ ((∃ v : Int32, q.1 = .inl v ∧ r.1 = 0 ∧ jall_ r.2 a3 0 = some ((fun v : Int32 => v.toInt64) v)) ∨ ∃ k : Nat, q.1 = .inr k ∧ FK_sew k = some r.1) := by
  unfold FL_sew at hf
  obtain ⟨q, e, hf⟩ := jbind hf
  refine ⟨q, (jcv_o e).2, ?_⟩
  obtain ⟨q1, q2⟩ := q
  rcases q1 with v | k
  · obtain ⟨h2, e2, hf⟩ := jbind hf
    cases hf
    exact Or.inl ⟨v, rfl, rfl, jasl_ll e2⟩
  · refine Or.inr ⟨k, rfl, ?_⟩
    replace hf : (if k = 2 then some ((1 : Int32), q2) else if k = 0 then some ((2 : Int32), q2) else if k = 1 then some ((3 : Int32), q2) else none) = some r := hf
    unfold FK_sew
    by_cases c0 : k = 2
    · rw [if_pos c0] at hf ⊢; cases hf; rfl
    rw [if_neg c0] at hf ⊢
    by_cases c1 : k = 0
    · rw [if_pos c1] at hf ⊢; cases hf; rfl
    rw [if_neg c1] at hf ⊢
    by_cases c2 : k = 1
    · rw [if_pos c2] at hf ⊢; cases hf; rfl
    rw [if_neg c2] at hf ⊢
    cases hf
def FK_let : Nat → Option Int32 := fun k : Nat => if k = 2 then some (1 : Int32) else if k = 0 then some (2 : Int32) else none
theorem FLa_let {n : Nat} {a0 : Nat} {x1 : Int32} {x2 : Int32} {a3 : Nat} {h : jH} {r : Int32 × jH} (hf : FL_let n a0 x1 x2 a3 h = some r) : ∃ q : jR × jH, F_X11_let n a0 x1 x2 h = some q ∧ ((∃ v : Int32, q.1 = .inl v ∧ r.1 = 0 ∧ jall_ r.2 a3 0 = some ((fun v : Int32 => v.toInt64) v)) ∨ ∃ k : Nat, q.1 = .inr k ∧ FK_let k = some r.1) := by
  unfold FL_let at hf
  obtain ⟨q, e, hf⟩ := jbind hf
  refine ⟨q, (jcv_o e).2, ?_⟩
  obtain ⟨q1, q2⟩ := q
  rcases q1 with v | k
  · obtain ⟨h2, e2, hf⟩ := jbind hf
    cases hf
    exact Or.inl ⟨v, rfl, rfl, jasl_ll e2⟩
  · refine Or.inr ⟨k, rfl, ?_⟩
    replace hf : (if k = 2 then some ((1 : Int32), q2) else if k = 0 then some ((2 : Int32), q2) else none) = some r := hf
    unfold FK_let
    by_cases c0 : k = 2
    · rw [if_pos c0] at hf ⊢; cases hf; rfl
    rw [if_neg c0] at hf ⊢
    by_cases c1 : k = 0
    · rw [if_pos c1] at hf ⊢; cases hf; rfl
    rw [if_neg c1] at hf ⊢
    cases hf
def FK_chair : Nat → Option Int32 := fun k : Nat => if k = 2 then some (1 : Int32) else none
theorem FLa_chair {n : Nat} {a0 : Nat} {x1 : Int32} {x2 : Int32} {a3 : Nat} {h : jH} {r : Int32 × jH} (hf : FL_chair n a0 x1 x2 a3 h = some r) : ∃ q : jR × jH, F_X11_chair n a0 x1 x2 h = some q ∧ ((∃ v : Int32, q.1 = .inl v ∧ r.1 = 0 ∧ jall_ r.2 a3 0 = some ((fun v : Int32 => if v = 0 then (0 : Int64) else 1) v)) ∨ ∃ k : Nat, q.1 = .inr k ∧ FK_chair k = some r.1) := by
  unfold FL_chair at hf
  obtain ⟨q, e, hf⟩ := jbind hf
  refine ⟨q, (jcv_o e).2, ?_⟩
  obtain ⟨q1, q2⟩ := q
  rcases q1 with v | k
  · obtain ⟨h2, e2, hf⟩ := jbind hf
    cases hf
    exact Or.inl ⟨v, rfl, rfl, jasl_ll e2⟩
  · refine Or.inr ⟨k, rfl, ?_⟩
    replace hf : (if k = 2 then some ((1 : Int32), q2) else none) = some r := hf
    unfold FK_chair
    by_cases c0 : k = 2
    · rw [if_pos c0] at hf ⊢; cases hf; rfl
    rw [if_neg c0] at hf ⊢
    cases hf
def FK_hours : Nat → Option Int32 := fun k : Nat => if k = 0 then some (1 : Int32) else none
theorem FLa_hours {n : Nat} {a0 : Nat} {x1 : Int32} {a2 : Nat} {h : jH} {r : Int32 × jH} (hf : FL_hours n a0 x1 a2 h = some r) : ∃ q : jR × jH, F_X11_hours n a0 x1 h = some q ∧ ((∃ v : Int32, q.1 = .inl v ∧ r.1 = 0 ∧ jall_ r.2 a2 0 = some ((fun v : Int32 => v.toInt64) v)) ∨ ∃ k : Nat, q.1 = .inr k ∧ FK_hours k = some r.1) := by
  unfold FL_hours at hf
  obtain ⟨q, e, hf⟩ := jbind hf
  refine ⟨q, (jcv_o e).2, ?_⟩
  obtain ⟨q1, q2⟩ := q
  rcases q1 with v | k
  · obtain ⟨h2, e2, hf⟩ := jbind hf
    cases hf
    exact Or.inl ⟨v, rfl, rfl, jasl_ll e2⟩
  · refine Or.inr ⟨k, rfl, ?_⟩
    replace hf : (if k = 0 then some ((1 : Int32), q2) else none) = some r := hf
    unfold FK_hours
    by_cases c0 : k = 0
    · rw [if_pos c0] at hf ⊢; cases hf; rfl
    rw [if_neg c0] at hf ⊢
    cases hf
def FK_goes : Nat → Option Int32 := fun k : Nat => if k = 2 then some (1 : Int32) else none
theorem FLa_goes {n : Nat} {a0 : Nat} {x1 : Int32} {x2 : Int32} {a3 : Nat} {h : jH} {r : Int32 × jH} (hf : FL_goes n a0 x1 x2 a3 h = some r) : ∃ q : jR × jH, F_X11_goes n a0 x1 x2 h = some q ∧ ((∃ v : Int32, q.1 = .inl v ∧ r.1 = 0 ∧ jall_ r.2 a3 0 = some ((fun v : Int32 => v.toInt64) v)) ∨ ∃ k : Nat, q.1 = .inr k ∧ FK_goes k = some r.1) := by
  unfold FL_goes at hf
  obtain ⟨q, e, hf⟩ := jbind hf
  refine ⟨q, (jcv_o e).2, ?_⟩
  obtain ⟨q1, q2⟩ := q
  rcases q1 with v | k
  · obtain ⟨h2, e2, hf⟩ := jbind hf
    cases hf
    exact Or.inl ⟨v, rfl, rfl, jasl_ll e2⟩
  · refine Or.inr ⟨k, rfl, ?_⟩
    replace hf : (if k = 2 then some ((1 : Int32), q2) else none) = some r := hf
    unfold FK_goes
    by_cases c0 : k = 2
    · rw [if_pos c0] at hf ⊢; cases hf; rfl
    rw [if_neg c0] at hf ⊢
    cases hf
def FK_with : Nat → Option Int32 := fun k : Nat => if k = 2 then some (1 : Int32) else none
theorem FLa_with {n : Nat} {a0 : Nat} {x1 : Int32} {x2 : Int32} {a3 : Nat} {h : jH} {r : Int32 × jH} (hf : FL_with n a0 x1 x2 a3 h = some r) : ∃ q : jR × jH, F_X11_with n a0 x1 x2 h = some q ∧ ((∃ v : Int32, q.1 = .inl v ∧ r.1 = 0 ∧ jall_ r.2 a3 0 = some ((fun v : Int32 => v.toInt64) v)) ∨ ∃ k : Nat, q.1 = .inr k ∧ FK_with k = some r.1) := by
  unfold FL_with at hf
  obtain ⟨q, e, hf⟩ := jbind hf
  refine ⟨q, (jcv_o e).2, ?_⟩
  obtain ⟨q1, q2⟩ := q
  rcases q1 with v | k
  · obtain ⟨h2, e2, hf⟩ := jbind hf
    cases hf
    exact Or.inl ⟨v, rfl, rfl, jasl_ll e2⟩
  · refine Or.inr ⟨k, rfl, ?_⟩
    replace hf : (if k = 2 then some ((1 : Int32), q2) else none) = some r := hf
    unfold FK_with
    by_cases c0 : k = 2
    · rw [if_pos c0] at hf ⊢; cases hf; rfl
    rw [if_neg c0] at hf ⊢
    cases hf
def FK_would : Nat → Option Int32 := fun k : Nat => if k = 2 then some (1 : Int32) else if k = 0 then some (2 : Int32) else none
theorem FLa_would {n : Nat} {a0 : Nat} {x1 : Int32} {x2 : Int32} {x3 : Int32} {x4 : Int32} {a5 : Nat} {h : jH} {r : Int32 × jH} (hf : FL_would n a0 x1 x2 x3 x4 a5 h = some r) : ∃ q : jR × jH, F_X11_would n a0 x1 x2 x3 x4 h = some q ∧ ((∃ v : Int32, q.1 = .inl v ∧ r.1 = 0 ∧ jall_ r.2 a5 0 = some ((fun v : Int32 => v.toInt64) v)) ∨ ∃ k : Nat, q.1 = .inr k ∧ FK_would k = some r.1) := by
  unfold FL_would at hf
  obtain ⟨q, e, hf⟩ := jbind hf
  refine ⟨q, (jcv_o e).2, ?_⟩
  obtain ⟨q1, q2⟩ := q
  rcases q1 with v | k
  · obtain ⟨h2, e2, hf⟩ := jbind hf
    cases hf
    exact Or.inl ⟨v, rfl, rfl, jasl_ll e2⟩
  · refine Or.inr ⟨k, rfl, ?_⟩
    replace hf : (if k = 2 then some ((1 : Int32), q2) else if k = 0 then some ((2 : Int32), q2) else none) = some r := hf
    unfold FK_would
    by_cases c0 : k = 2
    · rw [if_pos c0] at hf ⊢; cases hf; rfl
    rw [if_neg c0] at hf ⊢
    by_cases c1 : k = 0
    · rw [if_pos c1] at hf ⊢; cases hf; rfl
    rw [if_neg c1] at hf ⊢
    cases hf
def FK_snags : Nat → Option Int32 := fun k : Nat => if k = 0 then some (1 : Int32) else none
theorem FLa_snags {n : Nat} {a0 : Nat} {x1 : Int32} {a2 : Nat} {h : jH} {r : Int32 × jH} (hf : FL_snags n a0 x1 a2 h = some r) : ∃ q : jR × jH, F_X11_snags n a0 x1 h = some q ∧ ((∃ v : Int32, q.1 = .inl v ∧ r.1 = 0 ∧ jall_ r.2 a2 0 = some ((fun v : Int32 => v.toInt64) v)) ∨ ∃ k : Nat, q.1 = .inr k ∧ FK_snags k = some r.1) := by
  unfold FL_snags at hf
  obtain ⟨q, e, hf⟩ := jbind hf
  refine ⟨q, (jcv_o e).2, ?_⟩
  obtain ⟨q1, q2⟩ := q
  rcases q1 with v | k
  · obtain ⟨h2, e2, hf⟩ := jbind hf
    cases hf
    exact Or.inl ⟨v, rfl, rfl, jasl_ll e2⟩
  · refine Or.inr ⟨k, rfl, ?_⟩
    replace hf : (if k = 0 then some ((1 : Int32), q2) else none) = some r := hf
    unfold FK_snags
    by_cases c0 : k = 0
    · rw [if_pos c0] at hf ⊢; cases hf; rfl
    rw [if_neg c0] at hf ⊢
    cases hf
def FK_tries : Nat → Option Int32 := fun k : Nat => if k = 0 then some (1 : Int32) else none
theorem FLa_tries {n : Nat} {a0 : Nat} {a1 : Nat} {h : jH} {r : Int32 × jH} (hf : FL_tries n a0 a1 h = some r) : ∃ q : jR × jH, F_X11_tries n a0 h = some q ∧ ((∃ v : Int32, q.1 = .inl v ∧ r.1 = 0 ∧ jall_ r.2 a1 0 = some ((fun v : Int32 => v.toInt64) v)) ∨ ∃ k : Nat, q.1 = .inr k ∧ FK_tries k = some r.1) := by
  unfold FL_tries at hf
  obtain ⟨q, e, hf⟩ := jbind hf
  refine ⟨q, (jcv_o e).2, ?_⟩
  obtain ⟨q1, q2⟩ := q
  rcases q1 with v | k
  · obtain ⟨h2, e2, hf⟩ := jbind hf
    cases hf
    exact Or.inl ⟨v, rfl, rfl, jasl_ll e2⟩
  · refine Or.inr ⟨k, rfl, ?_⟩
    replace hf : (if k = 0 then some ((1 : Int32), q2) else none) = some r := hf
    unfold FK_tries
    by_cases c0 : k = 0
    · rw [if_pos c0] at hf ⊢; cases hf; rfl
    rw [if_neg c0] at hf ⊢
    cases hf
def FK_loosen : Nat → Option Int32 := fun k : Nat => if k = 2 then some (1 : Int32) else if k = 0 then some (2 : Int32) else none
theorem FLa_loosen {n : Nat} {a0 : Nat} {x1 : Int32} {x2 : Int32} {x3 : Int32} {a4 : Nat} {h : jH} {r : Int32 × jH} (hf : FL_loosen n a0 x1 x2 x3 a4 h = some r) : ∃ q : jR × jH, F_X11_loosen n a0 x1 x2 x3 h = some q ∧ ((∃ v : Int32, q.1 = .inl v ∧ r.1 = 0 ∧ jall_ r.2 a4 0 = some ((fun v : Int32 => v.toInt64) v)) ∨ ∃ k : Nat, q.1 = .inr k ∧ FK_loosen k = some r.1) := by
  unfold FL_loosen at hf
  obtain ⟨q, e, hf⟩ := jbind hf
  refine ⟨q, (jcv_o e).2, ?_⟩
  obtain ⟨q1, q2⟩ := q
  rcases q1 with v | k
  · obtain ⟨h2, e2, hf⟩ := jbind hf
    cases hf
    exact Or.inl ⟨v, rfl, rfl, jasl_ll e2⟩
  · refine Or.inr ⟨k, rfl, ?_⟩
    replace hf : (if k = 2 then some ((1 : Int32), q2) else if k = 0 then some ((2 : Int32), q2) else none) = some r := hf
    unfold FK_loosen
    by_cases c0 : k = 2
    · rw [if_pos c0] at hf ⊢; cases hf; rfl
    rw [if_neg c0] at hf ⊢
    by_cases c1 : k = 0
    · rw [if_pos c1] at hf ⊢; cases hf; rfl
    rw [if_neg c1] at hf ⊢
    cases hf
def FK_tight : Nat → Option Int32 := fun k : Nat => if k = 0 then some (1 : Int32) else none
theorem FLa_tight {n : Nat} {a0 : Nat} {x1 : Int32} {a2 : Nat} {h : jH} {r : Int32 × jH} (hf : FL_tight n a0 x1 a2 h = some r) : ∃ q : jR × jH, F_X11_tight n a0 x1 h = some q ∧ ((∃ v : Int32, q.1 = .inl v ∧ r.1 = 0 ∧ jall_ r.2 a2 0 = some ((fun v : Int32 => v.toInt64) v)) ∨ ∃ k : Nat, q.1 = .inr k ∧ FK_tight k = some r.1) := by
  unfold FL_tight at hf
  obtain ⟨q, e, hf⟩ := jbind hf
  refine ⟨q, (jcv_o e).2, ?_⟩
  obtain ⟨q1, q2⟩ := q
  rcases q1 with v | k
  · obtain ⟨h2, e2, hf⟩ := jbind hf
    cases hf
    exact Or.inl ⟨v, rfl, rfl, jasl_ll e2⟩
  · refine Or.inr ⟨k, rfl, ?_⟩
    replace hf : (if k = 0 then some ((1 : Int32), q2) else none) = some r := hf
    unfold FK_tight
    by_cases c0 : k = 0
    · rw [if_pos c0] at hf ⊢; cases hf; rfl
    rw [if_neg c0] at hf ⊢
    cases hf
def FK_lit : Nat → Option Int32 := fun k : Nat => if k = 2 then some (1 : Int32) else none
theorem FLa_lit {n : Nat} {a0 : Nat} {x1 : Int32} {a2 : Nat} {h : jH} {r : Int32 × jH} (hf : FL_lit n a0 x1 a2 h = some r) : ∃ q : jR × jH, F_X11_lit n a0 x1 h = some q ∧ ((∃ v : Int32, q.1 = .inl v ∧ r.1 = 0 ∧ jall_ r.2 a2 0 = some ((fun v : Int32 => v.toInt64) v)) ∨ ∃ k : Nat, q.1 = .inr k ∧ FK_lit k = some r.1) := by
  unfold FL_lit at hf
  obtain ⟨q, e, hf⟩ := jbind hf
  refine ⟨q, (jcv_o e).2, ?_⟩
  obtain ⟨q1, q2⟩ := q
  rcases q1 with v | k
  · obtain ⟨h2, e2, hf⟩ := jbind hf
    cases hf
    exact Or.inl ⟨v, rfl, rfl, jasl_ll e2⟩
  · refine Or.inr ⟨k, rfl, ?_⟩
    replace hf : (if k = 2 then some ((1 : Int32), q2) else none) = some r := hf
    unfold FK_lit
    by_cases c0 : k = 2
    · rw [if_pos c0] at hf ⊢; cases hf; rfl
    rw [if_neg c0] at hf ⊢
    cases hf
def FK_faded : Nat → Option Int32 := fun k : Nat => if k = 0 then some (1 : Int32) else none
theorem FLa_faded {n : Nat} {a0 : Nat} {x1 : Int32} {a2 : Nat} {h : jH} {r : Int32 × jH} (hf : FL_faded n a0 x1 a2 h = some r) : ∃ q : jR × jH, F_X11_faded n a0 x1 h = some q ∧ ((∃ v : Int32, q.1 = .inl v ∧ r.1 = 0 ∧ jall_ r.2 a2 0 = some ((fun v : Int32 => v.toInt64) v)) ∨ ∃ k : Nat, q.1 = .inr k ∧ FK_faded k = some r.1) := by
  unfold FL_faded at hf
  obtain ⟨q, e, hf⟩ := jbind hf
  refine ⟨q, (jcv_o e).2, ?_⟩
  obtain ⟨q1, q2⟩ := q
  rcases q1 with v | k
  · obtain ⟨h2, e2, hf⟩ := jbind hf
    cases hf
    exact Or.inl ⟨v, rfl, rfl, jasl_ll e2⟩
  · refine Or.inr ⟨k, rfl, ?_⟩
    replace hf : (if k = 0 then some ((1 : Int32), q2) else none) = some r := hf
    unfold FK_faded
    by_cases c0 : k = 0
    · rw [if_pos c0] at hf ⊢; cases hf; rfl
    rw [if_neg c0] at hf ⊢
    cases hf
def FK_lets : Nat → Option Int32 := fun k : Nat => if k = 2 then some (1 : Int32) else if k = 0 then some (2 : Int32) else none
theorem FLa_lets {n : Nat} {a0 : Nat} {x1 : Int32} {x2 : Int32} {a3 : Nat} {h : jH} {r : Int32 × jH} (hf : FL_lets n a0 x1 x2 a3 h = some r) : ∃ q : jR × jH, F_X11_lets n a0 x1 x2 h = some q ∧ ((∃ v : Int32, q.1 = .inl v ∧ r.1 = 0 ∧ jall_ r.2 a3 0 = some ((fun v : Int32 => v.toInt64) v)) ∨ ∃ k : Nat, q.1 = .inr k ∧ FK_lets k = some r.1) := by
  unfold FL_lets at hf
  obtain ⟨q, e, hf⟩ := jbind hf
  refine ⟨q, (jcv_o e).2, ?_⟩
  obtain ⟨q1, q2⟩ := q
  rcases q1 with v | k
  · obtain ⟨h2, e2, hf⟩ := jbind hf
    cases hf
    exact Or.inl ⟨v, rfl, rfl, jasl_ll e2⟩
  · refine Or.inr ⟨k, rfl, ?_⟩
    replace hf : (if k = 2 then some ((1 : Int32), q2) else if k = 0 then some ((2 : Int32), q2) else none) = some r := hf
    unfold FK_lets
    by_cases c0 : k = 2
    · rw [if_pos c0] at hf ⊢; cases hf; rfl
    rw [if_neg c0] at hf ⊢
    by_cases c1 : k = 0
    · rw [if_pos c1] at hf ⊢; cases hf; rfl
    rw [if_neg c1] at hf ⊢
    cases hf
def FK_rests : Nat → Option Int32 := fun k : Nat => if k = 2 then some (1 : Int32) else none
theorem FLa_rests {n : Nat} {a0 : Nat} {x1 : Int32} {a2 : Nat} {h : jH} {r : Int32 × jH} (hf : FL_rests n a0 x1 a2 h = some r) : ∃ q : jR × jH, F_X11_rests n a0 x1 h = some q ∧ ((∃ v : Int32, q.1 = .inl v ∧ r.1 = 0 ∧ jall_ r.2 a2 0 = some ((fun v : Int32 => v.toInt64) v)) ∨ ∃ k : Nat, q.1 = .inr k ∧ FK_rests k = some r.1) := by
  unfold FL_rests at hf
  obtain ⟨q, e, hf⟩ := jbind hf
  refine ⟨q, (jcv_o e).2, ?_⟩
  obtain ⟨q1, q2⟩ := q
  rcases q1 with v | k
  · obtain ⟨h2, e2, hf⟩ := jbind hf
    cases hf
    exact Or.inl ⟨v, rfl, rfl, jasl_ll e2⟩
  · refine Or.inr ⟨k, rfl, ?_⟩
    replace hf : (if k = 2 then some ((1 : Int32), q2) else none) = some r := hf
    unfold FK_rests
    by_cases c0 : k = 2
    · rw [if_pos c0] at hf ⊢; cases hf; rfl
    rw [if_neg c0] at hf ⊢
    cases hf
def FK_odds : Nat → Option Int32 := fun k : Nat => if k = 2 then some (1 : Int32) else if k = 0 then some (2 : Int32) else none
theorem FLa_odds {n : Nat} {a0 : Nat} {x1 : Int32} {x2 : Int32} {a3 : Nat} {h : jH} {r : Int32 × jH} (hf : FL_odds n a0 x1 x2 a3 h = some r) : ∃ q : jR × jH, F_X11_odds n a0 x1 x2 h = some q ∧ ((∃ v : Int32, q.1 = .inl v ∧ r.1 = 0 ∧ jall_ r.2 a3 0 = some ((fun v : Int32 => v.toInt64) v)) ∨ ∃ k : Nat, q.1 = .inr k ∧ FK_odds k = some r.1) := by
  unfold FL_odds at hf
  obtain ⟨q, e, hf⟩ := jbind hf
  refine ⟨q, (jcv_o e).2, ?_⟩
  obtain ⟨q1, q2⟩ := q
  rcases q1 with v | k
  · obtain ⟨h2, e2, hf⟩ := jbind hf
    cases hf
    exact Or.inl ⟨v, rfl, rfl, jasl_ll e2⟩
  · refine Or.inr ⟨k, rfl, ?_⟩
    replace hf : (if k = 2 then some ((1 : Int32), q2) else if k = 0 then some ((2 : Int32), q2) else none) = some r := hf
    unfold FK_odds
    by_cases c0 : k = 2
    · rw [if_pos c0] at hf ⊢; cases hf; rfl
    rw [if_neg c0] at hf ⊢
    by_cases c1 : k = 0
    · rw [if_pos c1] at hf ⊢; cases hf; rfl
    rw [if_neg c1] at hf ⊢
    cases hf
def FK_ahead : Nat → Option Int32 := fun k : Nat => if k = 2 then some (1 : Int32) else if k = 0 then some (2 : Int32) else none
theorem FLa_ahead {n : Nat} {a0 : Nat} {x1 : Int32} {x2 : Int32} {a3 : Nat} {h : jH} {r : Int32 × jH} (hf : FL_ahead n a0 x1 x2 a3 h = some r) : ∃ q : jR × jH, F_X11_ahead n a0 x1 x2 h = some q ∧ ((∃ v : Int32, q.1 = .inl v ∧ r.1 = 0 ∧ jall_ r.2 a3 0 = some ((fun v : Int32 => v.toInt64) v)) ∨ ∃ k : Nat, q.1 = .inr k ∧ FK_ahead k = some r.1) := by
  unfold FL_ahead at hf
  obtain ⟨q, e, hf⟩ := jbind hf
  refine ⟨q, (jcv_o e).2, ?_⟩
  obtain ⟨q1, q2⟩ := q
  rcases q1 with v | k
  · obtain ⟨h2, e2, hf⟩ := jbind hf
    cases hf
    exact Or.inl ⟨v, rfl, rfl, jasl_ll e2⟩
  · refine Or.inr ⟨k, rfl, ?_⟩
    replace hf : (if k = 2 then some ((1 : Int32), q2) else if k = 0 then some ((2 : Int32), q2) else none) = some r := hf
    unfold FK_ahead
    by_cases c0 : k = 2
    · rw [if_pos c0] at hf ⊢; cases hf; rfl
    rw [if_neg c0] at hf ⊢
    by_cases c1 : k = 0
    · rw [if_pos c1] at hf ⊢; cases hf; rfl
    rw [if_neg c1] at hf ⊢
    cases hf
def FK_trial : Nat → Option Int32 := fun k : Nat => if k = 0 then some (1 : Int32) else none
theorem FLa_trial {n : Nat} {a0 : Nat} {x1 : Int32} {x2 : Int32} {a3 : Nat} {h : jH} {r : Int32 × jH} (hf : FL_trial n a0 x1 x2 a3 h = some r) : ∃ q : jR × jH, F_X11_trial n a0 x1 x2 h = some q ∧ ((∃ v : Int32, q.1 = .inl v ∧ r.1 = 0 ∧ jall_ r.2 a3 0 = some ((fun v : Int32 => v.toInt64) v)) ∨ ∃ k : Nat, q.1 = .inr k ∧ FK_trial k = some r.1) := by
  unfold FL_trial at hf
  obtain ⟨q, e, hf⟩ := jbind hf
  refine ⟨q, (jcv_o e).2, ?_⟩
  obtain ⟨q1, q2⟩ := q
  rcases q1 with v | k
  · obtain ⟨h2, e2, hf⟩ := jbind hf
    cases hf
    exact Or.inl ⟨v, rfl, rfl, jasl_ll e2⟩
  · refine Or.inr ⟨k, rfl, ?_⟩
    replace hf : (if k = 0 then some ((1 : Int32), q2) else none) = some r := hf
    unfold FK_trial
    by_cases c0 : k = 0
    · rw [if_pos c0] at hf ⊢; cases hf; rfl
    rw [if_neg c0] at hf ⊢
    cases hf
def FK_span : Nat → Option Int32 := fun k : Nat => if k = 0 then some (1 : Int32) else none
theorem FLa_span {n : Nat} {a0 : Nat} {x1 : Int32} {x2 : Int32} {a3 : Nat} {h : jH} {r : Int32 × jH} (hf : FL_span n a0 x1 x2 a3 h = some r) : ∃ q : jR × jH, F_X11_span n a0 x1 x2 h = some q ∧ ((∃ v : Int32, q.1 = .inl v ∧ r.1 = 0 ∧ jall_ r.2 a3 0 = some ((fun v : Int32 => v.toInt64) v)) ∨ ∃ k : Nat, q.1 = .inr k ∧ FK_span k = some r.1) := by
  unfold FL_span at hf
  obtain ⟨q, e, hf⟩ := jbind hf
  refine ⟨q, (jcv_o e).2, ?_⟩
  obtain ⟨q1, q2⟩ := q
  rcases q1 with v | k
  · obtain ⟨h2, e2, hf⟩ := jbind hf
    cases hf
    exact Or.inl ⟨v, rfl, rfl, jasl_ll e2⟩
  · refine Or.inr ⟨k, rfl, ?_⟩
    replace hf : (if k = 0 then some ((1 : Int32), q2) else none) = some r := hf
    unfold FK_span
    by_cases c0 : k = 0
    · rw [if_pos c0] at hf ⊢; cases hf; rfl
    rw [if_neg c0] at hf ⊢
    cases hf
def FK_led : Nat → Option Int32 := fun k : Nat => if k = 2 then some (1 : Int32) else none
theorem FLa_led {n : Nat} {a0 : Nat} {x1 : Int32} {x2 : Int32} {a3 : Nat} {h : jH} {r : Int32 × jH} (hf : FL_led n a0 x1 x2 a3 h = some r) : ∃ q : jR × jH, F_X11_led n a0 x1 x2 h = some q ∧ ((∃ v : Int32, q.1 = .inl v ∧ r.1 = 0 ∧ jall_ r.2 a3 0 = some ((fun v : Int32 => v.toInt64) v)) ∨ ∃ k : Nat, q.1 = .inr k ∧ FK_led k = some r.1) := by
  unfold FL_led at hf
  obtain ⟨q, e, hf⟩ := jbind hf
  refine ⟨q, (jcv_o e).2, ?_⟩
  obtain ⟨q1, q2⟩ := q
  rcases q1 with v | k
  · obtain ⟨h2, e2, hf⟩ := jbind hf
    cases hf
    exact Or.inl ⟨v, rfl, rfl, jasl_ll e2⟩
  · refine Or.inr ⟨k, rfl, ?_⟩
    replace hf : (if k = 2 then some ((1 : Int32), q2) else none) = some r := hf
    unfold FK_led
    by_cases c0 : k = 2
    · rw [if_pos c0] at hf ⊢; cases hf; rfl
    rw [if_neg c0] at hf ⊢
    cases hf
def FK_log : Nat → Option Int32 := fun k : Nat => if k = 4 then some (1 : Int32) else none
theorem FLa_log {n : Nat} {a0 : Nat} {x1 : Int32} {x2 : Int32} {a3 : Nat} {h : jH} {r : Int32 × jH} (hf : FL_log n a0 x1 x2 a3 h = some r) : ∃ q : jR × jH, F_X11_log n a0 x1 x2 h = some q ∧ ((∃ v : Int32, q.1 = .inl v ∧ r.1 = 0 ∧ jall_ r.2 a3 0 = some ((fun v : Int32 => v.toInt64) v)) ∨ ∃ k : Nat, q.1 = .inr k ∧ FK_log k = some r.1) := by
  unfold FL_log at hf
  obtain ⟨q, e, hf⟩ := jbind hf
  refine ⟨q, (jcv_o e).2, ?_⟩
  obtain ⟨q1, q2⟩ := q
  rcases q1 with v | k
  · obtain ⟨h2, e2, hf⟩ := jbind hf
    cases hf
    exact Or.inl ⟨v, rfl, rfl, jasl_ll e2⟩
  · refine Or.inr ⟨k, rfl, ?_⟩
    replace hf : (if k = 4 then some ((1 : Int32), q2) else none) = some r := hf
    unfold FK_log
    by_cases c0 : k = 4
    · rw [if_pos c0] at hf ⊢; cases hf; rfl
    rw [if_neg c0] at hf ⊢
    cases hf
/-- what class and law say, beside what the reference says -/
theorem ans_B {l : List (Nat × Int32)} {a : jR} {b f c : Int32} {out : Nat} {H0 H1 : jH} {cv : Int32 → Int64} {code : Nat → Option Int32} (A : ansE l a b f) (B : (∃ v : Int32, a = .inl v ∧ c = 0 ∧ jall_ H0 out 0 = some (cv v)) ∨ ∃ k : Nat, a = .inr k ∧ code k = some c) (hc : ∀ p ∈ l, code p.1 = some p.2 ∧ p.2 ≠ 0) (ok : jall_ H1 out 0 = jall_ H0 out 0) : f = c ∧ (c = 0 → jall_ H1 out 0 = some (cv b)) := by
  rcases A with ⟨a1, f1⟩ | ⟨p, hp, a1, b1, f1⟩
  · rcases B with ⟨v, b2, c2, j⟩ | ⟨k, b2, c2⟩
    · rw [a1] at b2
      cases b2
      exact ⟨f1.trans c2.symm, fun _ => ok.trans j⟩
    · rw [a1] at b2
      cases b2
  · rcases B with ⟨v, b2, c2, j⟩ | ⟨k, b2, c2⟩
    · rw [a1] at b2
      cases b2
    · rw [a1] at b2
      cases b2
      obtain ⟨c3, c4⟩ := hc p hp
      have c5 : p.2 = c := Option.some.inj (c3.symm.trans c2)
      exact ⟨f1.trans c5, fun z => absurd (c5.trans z) c4⟩
