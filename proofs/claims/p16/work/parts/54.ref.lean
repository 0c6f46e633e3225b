section
/-! the reference reads a pole -/
theorem jneg1 : ¬ (0 : Int32) ≤ -1 := by decide
/-- a write to the world below 435, at a place that is not bound -/
theorem t_asW {g : jGh} {Γ : Nat → Option Nat} {h : jH} {a : Nat} {i x : Int32} (w : jW (jKd g) Γ h) (ha : Γ a = some 21) (h0 : 1 ≤ i.toInt) (h9 : i.toInt ≠ 9) (h1 : i.toInt < 435) (h8 : i.toInt < 11 ∨ 75 ≤ i.toInt ∨ (i.toInt - 11) % 8 ≠ 0) : jok (jas 0 h a i x) (fun h1 => jW (jKd g) Γ h1 ∧ jfa h h1) :=
  t_as w ha rfl (by omega) (by omega) (show jRw g i.toInt.toNat x from ⟨⟨Or.inl (by omega), Or.inl (by omega), by omega⟩, Or.inl (by omega)⟩) (fun q => by cases q)
theorem j01s {g : jGh} {Γ : Nat → Option Nat} {h : jH} (w : jW (jKd g) Γ h) (c : Prop) [Decidable c] : jok (if c then some ((0 : Int32), h) else some ((1 : Int32), h)) (fun q => jW (jKd g) Γ q.2 ∧ (q.1 = 0 ∨ q.1 = 1)) :=
  jok_if (fun _ => jok_s ⟨w, Or.inl rfl⟩) (fun _ => jok_s ⟨w, Or.inr rfl⟩)
theorem S_X12_readNumber {g : jGh} {Γ : Nat → Option Nat} {n a0 : Nat} {x1 x2 x3 : Int32} {h : jH} (hn : 6000 ≤ n) (w : jW (jKd g) Γ h) (ta0 : Γ a0 = some 20) (h0 : 1 ≤ x1.toInt) (h1 : x1.toInt ≤ 8) : jok (F_X12_readNumber n a0 x1 x2 x3 h) (fun q => jW (jKd g) Γ q.2 ∧ (q.1 = 0 ∨ q.1 = 1)) := by
  unfold F_X12_readNumber
  rw [t_cv w ta0 rfl]
  refine jok_b (S_X12_number hn w ta0) (fun q3 w3 => ?_)
  obtain ⟨⟨w3, -⟩, -⟩ := w3
  refine jok_b (t_gR w3 ta0 rfl rfl) (fun p9 t9 => ?_)
  refine jok_if (fun _ => ?_) (fun _ => ?_)
  · refine jok_b (t_asW w3 t9 h0 (by omega) (by omega) (by omega)) (fun h29 w29 => ?_)
    exact j01s w29.1 _
  · refine jok_b (t_gR w3 ta0 rfl rfl) (fun p19 t19 => ?_)
    refine jok_b (t_al w3 t19 rfl (by omega) (by omega)) (fun v23 _ => ?_)
    refine jok_b (t_asW w3 t9 h0 (by omega) (by omega) (by omega)) (fun h29 w29 => ?_)
    exact j01s w29.1 _
theorem S_X12_readRing_171 {g : jGh} {Γ : Nat → Option Nat} {n a0 p : Nat} {x1 x6 x7 s1 s2 : Int32} {h : jH} (hn : 6000 ≤ n) (hg : jgok g) (w : jW (jKd g) Γ h) (ta0 : Γ a0 = some 20) (tp : Γ p = some 21) (l1 : 0 ≤ x1.toInt) (u1 : x1.toInt ≤ 7) (ls : s1.toInt = 11 + 8 * x1.toInt + 3) : jok (F_X12_readRing_171 n a0 x1 x6 x7 p s1 s2 h) (fun q => jW (jKd g) Γ q.2 ∧ (q.1 = 0 ∨ q.1 = 1)) := by
  have e4 : (4 : Int32).toInt = 4 := rfl
  have e5 : (5 : Int32).toInt = 5 := rfl
  unfold F_X12_readRing_171
  refine jok_b (t_asW w tp (by omega) (by omega) (by omega) (by omega)) (fun h171 w171 => ?_)
  obtain ⟨w171, -⟩ := w171
  refine jok_b (t_gR w171 ta0 rfl rfl) (fun p173 t173 => ?_)
  refine jok_b (S_X12_at hn hg w171 l1 (by omega) (by omega) (by omega)) (fun v178 l178 => ?_)
  refine jok_b (t_asW w171 t173 (by omega) (by omega) (by omega) (by omega)) (fun h183 w183 => ?_)
  obtain ⟨w183, -⟩ := w183
  refine jok_b (t_gR w183 ta0 rfl rfl) (fun p185 t185 => ?_)
  refine jok_b (S_X12_at hn hg w183 l1 (by omega) (by omega) (by omega)) (fun v190 l190 => ?_)
  refine jok_b (t_asW w183 t185 (by omega) (by omega) (by omega) (by omega)) (fun h195 w195 => ?_)
  exact jok_s ⟨w195.1, Or.inr rfl⟩
theorem S_X12_readRing_151 {g : jGh} {Γ : Nat → Option Nat} {n a0 p : Nat} {x1 x5 x6 x7 s1 s2 : Int32} {h : jH} (hn : 6000 ≤ n) (hg : jgok g) (w : jW (jKd g) Γ h) (ta0 : Γ a0 = some 20) (tp : Γ p = some 21) (l1 : 0 ≤ x1.toInt) (u1 : x1.toInt ≤ 7) (ls : s1.toInt = 11 + 8 * x1.toInt + 2) : jok (F_X12_readRing_151 n a0 x1 x5 x6 x7 p s1 s2 h) (fun q => jW (jKd g) Γ q.2 ∧ (q.1 = 0 ∨ q.1 = 1)) := by
  have e3 : (3 : Int32).toInt = 3 := rfl
  unfold F_X12_readRing_151
  refine jok_b (t_asW w tp (by omega) (by omega) (by omega) (by omega)) (fun h151 w151 => ?_)
  obtain ⟨w151, -⟩ := w151
  refine jok_b (t_gR w151 ta0 rfl rfl) (fun p153 t153 => ?_)
  refine jok_b (S_X12_at hn hg w151 l1 (by omega) (by omega) (by omega)) (fun v158 l158 => ?_)
  exact jok_if (fun _ => S_X12_readRing_171 hn hg w151 ta0 t153 l1 u1 (by omega)) (fun _ => S_X12_readRing_171 hn hg w151 ta0 t153 l1 u1 (by omega))
theorem S_X12_readRing_117 {g : jGh} {Γ : Nat → Option Nat} {n a0 : Nat} {x1 x2 x3 x4 x5 x6 s0 : Int32} {h : jH} (hn : 6000 ≤ n) (hg : jgok g) (w : jW (jKd g) Γ h) (ta0 : Γ a0 = some 20) (l1 : 0 ≤ x1.toInt) (u1 : x1.toInt ≤ 7) (l2 : 0 ≤ x2.toInt) (u2 : x2.toInt ≤ 31) (hr : ∀ r, F_X12_rings n a0 h = some r → 0 ≤ r.toInt ∧ r.toInt ≤ 7) : jok (F_X12_readRing_117 n a0 x1 x2 x3 x4 x5 x6 s0 h) (fun q => jW (jKd g) Γ q.2 ∧ (q.1 = 0 ∨ q.1 = 1)) := by
  have e2 : (2 : Int32).toInt = 2 := rfl
  unfold F_X12_readRing_117
  refine jok_if (fun _ => ?_) (fun _ => jok_s ⟨w, Or.inl rfl⟩)
  rw [t_cv w ta0 rfl]
  refine jok_b (S_X12_hangs hn hg w ta0 l2 u2 hr) (fun h129 w129 => ?_)
  refine jok_b (t_gR w129 ta0 rfl rfl) (fun p133 t133 => ?_)
  refine jok_b (S_X12_at hn hg w129 l1 (by omega) (by omega) (by omega)) (fun v138 l138 => ?_)
  exact jok_if (fun _ => S_X12_readRing_151 hn hg w129 ta0 t133 l1 u1 (by omega)) (fun _ => S_X12_readRing_151 hn hg w129 ta0 t133 l1 u1 (by omega))
theorem S_X12_readRing_88 {g : jGh} {Γ : Nat → Option Nat} {n a0 : Nat} {x1 x2 x3 x4 x5 s0 : Int32} {h : jH} (hn : 6000 ≤ n) (hg : jgok g) (w : jW (jKd g) Γ h) (ta0 : Γ a0 = some 20) (l1 : 0 ≤ x1.toInt) (u1 : x1.toInt ≤ 7) (l2 : 0 ≤ x2.toInt) (u2 : x2.toInt ≤ 31) (hr : ∀ r, F_X12_rings n a0 h = some r → 0 ≤ r.toInt ∧ r.toInt ≤ 7) : jok (F_X12_readRing_88 n a0 x1 x2 x3 x4 x5 s0 h) (fun q => jW (jKd g) Γ q.2 ∧ (q.1 = 0 ∨ q.1 = 1)) := by
  unfold F_X12_readRing_88
  refine jok_if (fun _ => ?_) (fun _ => jok_s ⟨w, Or.inl rfl⟩)
  rw [t_cv w ta0 rfl]
  refine jok_b (S_X12_passes hn w ta0 (by decide)) (fun q100 w100 => ?_)
  refine jok_if (fun _ => S_X12_readRing_117 hn hg w100.1 ta0 l1 u1 l2 u2 (by rw [w100.2]; exact hr)) (fun _ => ?_)
  rw [t_cv w100.1 ta0 rfl]
  refine jok_b (S_X12_number hn w100.1 ta0) (fun q110 w110 => ?_)
  exact S_X12_readRing_117 hn hg w110.1.1 ta0 l1 u1 l2 u2 (by rw [w110.1.2, w100.2]; exact hr)
theorem S_X12_readRing_45 {g : jGh} {Γ : Nat → Option Nat} {n a0 : Nat} {x1 x2 s0 : Int32} {h : jH} (hn : 6000 ≤ n) (hg : jgok g) (w : jW (jKd g) Γ h) (ta0 : Γ a0 = some 20) (l1 : 0 ≤ x1.toInt) (u1 : x1.toInt ≤ 7) (l2 : (0 : Int32) ≤ s0 → 0 ≤ x2.toInt ∧ x2.toInt ≤ 31) (hr : ∀ r, F_X12_rings n a0 h = some r → 0 ≤ r.toInt ∧ r.toInt ≤ 7) : jok (F_X12_readRing_45 n a0 x1 x2 s0 h) (fun q => jW (jKd g) Γ q.2 ∧ (q.1 = 0 ∨ q.1 = 1)) := by
  unfold F_X12_readRing_45
  refine jok_if (fun c => ?_) (fun _ => jok_s ⟨w, Or.inl rfl⟩)
  obtain ⟨l2, u2⟩ := l2 c
  rw [t_cv w ta0 rfl]
  refine jok_b (S_X12_passes hn w ta0 (by decide)) (fun q55 w55 => ?_)
  rw [t_cv w55.1 ta0 rfl]
  refine jok_b (S_X12_passes hn w55.1 ta0 (by decide)) (fun q63 w63 => ?_)
  rw [t_cv w63.1 ta0 rfl]
  refine jok_b (S_X12_passes hn w63.1 ta0 (by decide)) (fun q71 w71 => ?_)
  refine jok_if (fun _ => S_X12_readRing_88 hn hg w71.1 ta0 l1 u1 l2 u2 (by rw [w71.2, w63.2, w55.2]; exact hr)) (fun _ => ?_)
  rw [t_cv w71.1 ta0 rfl]
  refine jok_b (S_X12_number hn w71.1 ta0) (fun q81 w81 => ?_)
  exact S_X12_readRing_88 hn hg w81.1.1 ta0 l1 u1 l2 u2 (by rw [w81.1.2, w71.2, w63.2, w55.2]; exact hr)
theorem S_X12_readRing {g : jGh} {Γ : Nat → Option Nat} {n a0 : Nat} {h : jH} (hn : 6000 ≤ n) (hg : jgok g) (w : jW (jKd g) Γ h) (ta0 : Γ a0 = some 20) : jok (F_X12_readRing n a0 h) (fun q => jW (jKd g) Γ q.2 ∧ (q.1 = 0 ∨ q.1 = 1)) := by
  have e8 : (8 : Int32).toInt = 8 := rfl
  have e0 : (0 : Int32).toInt = 0 := rfl
  have em : (-1 : Int32).toInt = -1 := rfl
  unfold F_X12_readRing
  rw [t_cv w ta0 rfl]
  refine jok_b2 (S_X12_rings hn hg w ta0) (fun v1 q1 l1 => ?_)
  refine jok_eq (fun _ _ => jok_s ⟨w, Or.inl rfl⟩) (fun c => ?_)
  have hr : ∀ r, F_X12_rings n a0 h = some r → 0 ≤ r.toInt ∧ r.toInt ≤ 7 := fun r er => by
    cases q1.symm.trans er
    omega
  rw [t_cv w ta0 rfl]
  refine jok_b (S_X12_leastPlace hn hg w ta0) (fun v17 l17 => ?_)
  rw [t_cv w ta0 rfl]
  refine jok_b (S_X12_mostPlace hn hg w ta0) (fun v21 l21 => ?_)
  rw [t_cv w ta0 rfl]
  refine jok_b (S_X12_after hn w ta0 (by decide)) (fun q24 w24 => ?_)
  obtain ⟨w24, l24⟩ := w24
  refine jok_le (fun d => ?_) (fun d => ?_)
  · have hb : 0 ≤ q24.1.toInt ∧ q24.1.toInt ≤ 31 := by
      rcases l24 with z | z
      · rw [z, e0, em] at d
        omega
      · omega
    rw [t_cv w24.1 ta0 rfl]
    refine jok_b (S_X12_after hn w24.1 ta0 (by decide)) (fun q42 w42 => ?_)
    exact S_X12_readRing_45 hn hg w42.1.1 ta0 l1.1 (by omega) (fun _ => hb) (by rw [w42.1.2, w24.2]; exact hr)
  · exact S_X12_readRing_45 hn hg w24.1 ta0 l1.1 (by omega) (fun q => absurd q jneg1) (by rw [w24.2]; exact hr)
theorem S_X12_readCaught {g : jGh} {Γ : Nat → Option Nat} {n a0 : Nat} {h : jH} (hn : 6000 ≤ n) (hg : jgok g) (w : jW (jKd g) Γ h) (ta0 : Γ a0 = some 20) : jok (F_X12_readCaught n a0 h) (fun q => jW (jKd g) Γ q.2 ∧ (q.1 = 0 ∨ q.1 = 1)) := by
  have e0 : (0 : Int32).toInt = 0 := rfl
  have e1 : (1 : Int32).toInt = 1 := rfl
  have e7 : (7 : Int32).toInt = 7 := rfl
  have em : (-1 : Int32).toInt = -1 := rfl
  unfold F_X12_readCaught
  rw [t_cv w ta0 rfl]
  refine jok_b (S_X12_lastRing hn hg w ta0) (fun v3 l3 => ?_)
  have es : (v3 - (1 : Int32)).toInt = v3.toInt - 1 := by rw [jsub (by omega) (by omega), e1]
  rw [t_cv w ta0 rfl]
  refine jok_b (S_X12_number hn w ta0) (fun q8 w8 => ?_)
  obtain ⟨⟨w8, -⟩, l8⟩ := w8
  refine jok_le (fun d => ?_) (fun d => jok_s ⟨w8, Or.inl rfl⟩)
  have hb : 0 ≤ q8.1.toInt ∧ q8.1.toInt ≤ 6 := by
    rcases l8 with z | z
    · rw [z, e0, em] at d
      omega
    · omega
  refine jok_b (t_gR w8 ta0 rfl rfl) (fun p19 t19 => ?_)
  refine jok_b (S_X12_at hn hg w8 hb.1 (by omega) (by omega) (by omega)) (fun v25 l25 => ?_)
  refine jok_b (t_asW w8 t19 (by omega) (by omega) (by omega) (by omega)) (fun h29 w29 => ?_)
  exact jok_s ⟨w29.1, Or.inr rfl⟩
theorem S_X12_readChair {g : jGh} {Γ : Nat → Option Nat} {n a0 : Nat} {h : jH} (hn : 6000 ≤ n) (w : jW (jKd g) Γ h) (ta0 : Γ a0 = some 20) : jok (F_X12_readChair n a0 h) (fun q => jW (jKd g) Γ q.2 ∧ (q.1 = 0 ∨ q.1 = 1)) := by
  have e7 : (7 : Int32).toInt = 7 := rfl
  unfold F_X12_readChair
  rw [t_cv w ta0 rfl]
  refine jok_b (S_X12_number hn w ta0) (fun q4 w4 => ?_)
  obtain ⟨⟨w4, -⟩, -⟩ := w4
  refine jok_if (fun d => ?_) (fun d => jok_s ⟨w4, Or.inl rfl⟩)
  refine jok_b (t_gR w4 ta0 rfl rfl) (fun p15 t15 => ?_)
  refine jok_b (t_al w4 t15 rfl (by omega) (by omega)) (fun v21 _ => ?_)
  refine jok_b (t_asW w4 t15 (by omega) (by omega) (by omega) (by omega)) (fun h26 w26 => ?_)
  exact jok_s ⟨w26.1, Or.inr rfl⟩
theorem j01p {g : jGh} {Γ : Nat → Option Nat} {o : Option (Int32 × jH)} (h : jok o (fun q => jW (jKd g) Γ q.2 ∧ (q.1 = 0 ∨ q.1 = 1))) : jok (o.bind fun q => if q.1 = 0 ∨ q.1 = 1 then some (q.1, q.2) else none) (fun q => jW (jKd g) Γ q.2 ∧ (q.1 = 0 ∨ q.1 = 1)) :=
  jok_b h (fun q w => by rw [if_pos w.2]; exact jok_s w)
theorem S_X12_readPoleLine {g : jGh} {Γ : Nat → Option Nat} {n a0 : Nat} {h : jH} (hn : 6000 ≤ n) (hg : jgok g) (w : jW (jKd g) Γ h) (ta0 : Γ a0 = some 20) : jok (F_X12_readPoleLine n a0 h) (fun q => jW (jKd g) Γ q.2 ∧ (q.1 = 0 ∨ q.1 = 1)) := by
  unfold F_X12_readPoleLine
  rw [t_cv w ta0 rfl]
  refine jok_b (S_X12_isWord hn w ta0 (by decide)) (fun v3 _ => jok_if (fun _ => ?_) (fun _ => by rw [t_cv w ta0 rfl]; exact j01p (S_X12_readRing hn hg w ta0)))
  rw [t_cv w ta0 rfl]
  refine jok_b (S_X12_isWord hn w ta0 (by decide)) (fun v17 _ => jok_if (fun _ => ?_) (fun _ => by rw [t_cv w ta0 rfl]; exact j01p (S_X12_readCaught hn hg w ta0)))
  rw [t_cv w ta0 rfl]
  refine jok_b (S_X12_isWord hn w ta0 (by decide)) (fun v31 _ => jok_if (fun _ => ?_) (fun _ => by rw [t_cv w ta0 rfl]; exact j01p (S_X12_readChair hn w ta0)))
  rw [t_cv w ta0 rfl]
  refine jok_b (S_X12_isWord hn w ta0 (by decide)) (fun v45 _ => jok_if (fun _ => ?_) (fun _ => by rw [t_cv w ta0 rfl]; exact j01p (S_X12_readNumber hn w ta0 (by decide) (by decide))))
  rw [t_cv w ta0 rfl]
  refine jok_b (S_X12_isWord hn w ta0 (by decide)) (fun v63 _ => jok_if (fun _ => ?_) (fun _ => by rw [t_cv w ta0 rfl]; exact j01p (S_X12_readNumber hn w ta0 (by decide) (by decide))))
  rw [t_cv w ta0 rfl]
  refine jok_b (S_X12_isWord hn w ta0 (by decide)) (fun v82 _ => jok_if (fun _ => ?_) (fun _ => by rw [t_cv w ta0 rfl]; exact j01p (S_X12_readNumber hn w ta0 (by decide) (by decide))))
  rw [t_cv w ta0 rfl]
  refine jok_b (S_X12_isWord hn w ta0 (by decide)) (fun v100 _ => jok_if (fun _ => jok_s ⟨w, Or.inl rfl⟩) (fun _ => ?_))
  rw [t_cv w ta0 rfl]
  refine jok_b (S_X12_readNumber hn w ta0 (by decide) (by decide)) (fun q112 w112 => j01s w112.1 _)
end
section
/-! the reference reads: what is left alone, and how far the reading comes -/
def jrx (a0 : Nat) (h q : jH) : Prop := ∀ k, k ≠ 10 → k ≠ 12 → jgf 10 q a0 k = jgf 10 h a0 k
/-- the reading comes on by d at least -/
def jmo (a0 : Nat) (d : Int) (h q : jH) : Prop := ∀ u, jgI 10 h a0 10 = some u → ∃ v, jgI 10 q a0 10 = some v ∧ u.toInt + d ≤ v.toInt
def jrw (g : jGh) (Γ : Nat → Option Nat) (a0 : Nat) (h q : jH) : Prop := jW (jKd g) Γ q ∧ jrx a0 h q
theorem jrw_tr {g : jGh} {Γ : Nat → Option Nat} {a0 : Nat} {h h1 h2 : jH} (a : jrw g Γ a0 h h1) (b : jrw g Γ a0 h1 h2) : jrw g Γ a0 h h2 := ⟨b.1, fun k c d => (b.2 k c d).trans (a.2 k c d)⟩
theorem jmo_tr {a0 : Nat} {d e : Int} {h h1 h2 : jH} (a : jmo a0 d h h1) (b : jmo a0 e h1 h2) : jmo a0 (d + e) h h2 := by
  intro u eu
  obtain ⟨v, ev, hv⟩ := a u eu
  obtain ⟨z, ez, hz⟩ := b v ev
  exact ⟨z, ez, by omega⟩
theorem jmo_0 {a0 : Nat} {h : jH} : jmo a0 0 h h := fun u eu => ⟨u, eu, by omega⟩
theorem jmo_le {a0 : Nat} {d e : Int} {h q : jH} (a : jmo a0 d h q) (hd : e ≤ d) : jmo a0 e h q := by
  intro u eu
  obtain ⟨v, ev, hv⟩ := a u eu
  exact ⟨v, ev, by omega⟩
theorem t_rw {g : jGh} {Γ : Nat → Option Nat} {a0 k : Nat} {x : Int32} {h : jH} (w : jW (jKd g) Γ h) (ta0 : Γ a0 = some 20) (hk : k = 10 ∨ k = 12) (l0 : 0 ≤ x.toInt) (l4 : x.toInt ≤ 400) : jok (jpf 10 h a0 k (.int x)) (fun h1 => jrw g Γ a0 h h1 ∧ jgf 10 h1 a0 k = some (.int x) ∧ jfr h h1 a0 k) := by
  rcases hk with rfl | rfl
  · obtain ⟨h1, e, w1⟩ := t_pI (k := 10) w ta0 rfl rfl (show jI 0 400 x from ⟨l0, l4⟩)
    exact ⟨h1, e, ⟨w1.1, fun k c _ => w1.2.2 10 a0 k (Or.inr c)⟩, w1.2⟩
  · obtain ⟨h1, e, w1⟩ := t_pI (k := 12) w ta0 rfl rfl (show jI 0 400 x from ⟨l0, l4⟩)
    exact ⟨h1, e, ⟨w1.1, fun k _ d => w1.2.2 10 a0 k (Or.inr d)⟩, w1.2⟩
theorem T_X12_blanks_0 {g : jGh} {Γ : Nat → Option Nat} {n : Nat} : ∀ (k : Nat) {a0 : Nat} {u : Int32} {h : jH}, jW (jKd g) Γ h → Γ a0 = some 20 → jgI 10 h a0 10 = some u → 400 - u.toInt < k → jok (F_X12_blanks_0 n k a0 h) (fun q => jrw g Γ a0 h q ∧ ∃ v, jgI 10 q a0 10 = some v ∧ jgI 10 q a0 12 = some v ∧ u.toInt ≤ v.toInt)
  | 0, a0, u, h, w, ta, eu, hk => by
    obtain ⟨v1, e1, l1⟩ := t_gI (k := 10) w ta rfl rfl
    have l1 : 0 ≤ v1.toInt ∧ v1.toInt ≤ 400 := l1
    have qz : v1 = u := Option.some.inj (e1.symm.trans eu)
    subst qz
    omega
  | k + 1, a0, u, h, w, ta, eu, hk => by
    show jok (F_X12_blanks_0_b n (F_X12_blanks_0 n k) a0 h) _
    unfold F_X12_blanks_0_b
    obtain ⟨v1, e1, l1⟩ := t_gI (k := 10) w ta rfl rfl
    have l1 : 0 ≤ v1.toInt ∧ v1.toInt ≤ 400 := l1
    have qz : v1 = u := Option.some.inj (e1.symm.trans eu)
    subst qz
    have eo : (1 : Int32).toInt = 1 := rfl
    rw [t_cv w ta rfl]
    refine jok_b (S_X12_isAt w ta) (fun v5 l5 => ?_)
    refine jok_eq (fun _ _ => ?_) (fun c => ?_)
    · refine jok_r e1 (jok_b (t_rw w ta (Or.inr rfl) l1.1 l1.2) (fun h29 w29 => ?_))
      exact jok_s ⟨w29.1, v1, fI (w29.2.2 10 a0 10 (Or.inr (by decide))) e1, fJ w29.2.1, Int.le_refl _⟩
    · have hp := l5.2 c _ e1
      have ea : (v1 + (1 : Int32)).toInt = v1.toInt + 1 := by rw [jadd (by omega) (by omega), eo]
      refine jok_r e1 (jok_b (t_rw w ta (Or.inl rfl) (by omega) (by omega)) (fun h18 w18 => ?_))
      obtain ⟨w18, q18, -⟩ := w18
      refine jok_w (T_X12_blanks_0 k w18.1 ta (fJ q18) (by omega)) (fun q wq => ?_)
      obtain ⟨wq, v, a, b, c⟩ := wq
      exact ⟨jrw_tr w18 wq, v, a, b, by omega⟩
theorem T_X12_blanks {g : jGh} {Γ : Nat → Option Nat} {n a0 : Nat} {u : Int32} {h : jH} (hn : 6000 ≤ n) (w : jW (jKd g) Γ h) (ta0 : Γ a0 = some 20) (eu : jgI 10 h a0 10 = some u) : jok (F_X12_blanks n a0 h) (fun q => jrw g Γ a0 h q ∧ ∃ v, jgI 10 q a0 10 = some v ∧ jgI 10 q a0 12 = some v ∧ u.toInt ≤ v.toInt) := by
  obtain ⟨v1, e1, l1⟩ := t_gI (k := 10) w ta0 rfl rfl
  have l1 : 0 ≤ v1.toInt ∧ v1.toInt ≤ 400 := l1
  have qz : v1 = u := Option.some.inj (e1.symm.trans eu)
  subst qz
  unfold F_X12_blanks
  exact T_X12_blanks_0 n w ta0 e1 (by omega)
theorem T_X12_letters_4 {g : jGh} {Γ : Nat → Option Nat} {n : Nat} : ∀ (k : Nat) {a0 : Nat} {u s : Int32} {h : jH}, jW (jKd g) Γ h → Γ a0 = some 20 → jgI 10 h a0 10 = some u → jgI 10 h a0 12 = some s → 400 - u.toInt < k → jok (F_X12_letters_4 n k a0 h) (fun q => jrw g Γ a0 h q ∧ jgI 10 q a0 12 = some s ∧ ∃ v, jgI 10 q a0 10 = some v ∧ u.toInt ≤ v.toInt)
  | 0, a0, u, s, h, w, ta, eu, es, hk => by
    obtain ⟨v1, e1, l1⟩ := t_gI (k := 10) w ta rfl rfl
    have l1 : 0 ≤ v1.toInt ∧ v1.toInt ≤ 400 := l1
    have qz : v1 = u := Option.some.inj (e1.symm.trans eu)
    subst qz
    omega
  | k + 1, a0, u, s, h, w, ta, eu, es, hk => by
    show jok (F_X12_letters_4_b n (F_X12_letters_4 n k) a0 h) _
    unfold F_X12_letters_4_b
    obtain ⟨v1, e1, l1⟩ := t_gI (k := 10) w ta rfl rfl
    have l1 : 0 ≤ v1.toInt ∧ v1.toInt ≤ 400 := l1
    have qz : v1 = u := Option.some.inj (e1.symm.trans eu)
    subst qz
    have eo : (1 : Int32).toInt = 1 := rfl
    rw [t_cv w ta rfl]
    refine jok_b (S_X12_isAt w ta) (fun v5 l5 => ?_)
    refine jok_eq (fun _ _ => jok_s ⟨⟨w, fun _ _ _ => rfl⟩, es, v1, e1, Int.le_refl _⟩) (fun c => ?_)
    have hp := l5.2 c _ e1
    have ea : (v1 + (1 : Int32)).toInt = v1.toInt + 1 := by rw [jadd (by omega) (by omega), eo]
    refine jok_r e1 (jok_b (t_rw w ta (Or.inl rfl) (by omega) (by omega)) (fun h18 w18 => ?_))
    obtain ⟨w18, q18, f18⟩ := w18
    refine jok_w (T_X12_letters_4 k w18.1 ta (fJ q18) (fI (f18 10 a0 12 (Or.inr (by decide))) es) (by omega)) (fun q wq => ?_)
    obtain ⟨wq, a, v, b, c⟩ := wq
    exact ⟨jrw_tr w18 wq, a, v, b, by omega⟩
theorem T_X12_letters {g : jGh} {Γ : Nat → Option Nat} {n a0 : Nat} {u : Int32} {h : jH} (hn : 6000 ≤ n) (w : jW (jKd g) Γ h) (ta0 : Γ a0 = some 20) (eu : jgI 10 h a0 10 = some u) : jok (F_X12_letters n a0 h) (fun q => jrw g Γ a0 h q ∧ ∃ s v, jgI 10 q a0 12 = some s ∧ jgI 10 q a0 10 = some v ∧ u.toInt ≤ s.toInt ∧ s.toInt ≤ v.toInt) := by
  unfold F_X12_letters
  rw [t_cv w ta0 rfl]
  refine jok_b (T_X12_blanks hn w ta0 eu) (fun h1 w1 => ?_)
  obtain ⟨w1, v1, e1, e2, l1⟩ := w1
  obtain ⟨v9, e9, l9⟩ := t_gI (k := 10) w1.1 ta0 rfl rfl
  have l9 : 0 ≤ v9.toInt ∧ v9.toInt ≤ 400 := l9
  have qz : v9 = v1 := Option.some.inj (e9.symm.trans e1)
  subst qz
  refine jok_w (T_X12_letters_4 n w1.1 ta0 e1 e2 (by omega)) (fun q wq => ?_)
  obtain ⟨wq, a, v, b, c⟩ := wq
  exact ⟨jrw_tr w1 wq, v9, v, a, b, l1, c⟩
theorem T_X12_isWord {g : jGh} {Γ : Nat → Option Nat} {n a0 t1 : Nat} {u s : Int32} {h : jH} (hn : 6000 ≤ n) (w : jW (jKd g) Γ h) (ta0 : Γ a0 = some 20) (ht : t1 < 36) (eu : jgI 10 h a0 10 = some u) (es : jgI 10 h a0 12 = some s) : jok (F_X12_isWord n a0 t1 h) (fun v => v = 0 ∨ (v = 1 ∧ u.toInt = s.toInt + ((jtb t1).length : Int))) := by
  unfold F_X12_isWord
  have hl := jtb_lt t1 ht
  obtain ⟨v1, e1, l1⟩ := t_gI (k := 10) w ta0 rfl rfl
  have l1 : 0 ≤ v1.toInt ∧ v1.toInt ≤ 400 := l1
  obtain ⟨v5, e5, l5⟩ := t_gI (k := 12) w ta0 rfl rfl
  have l5 : 0 ≤ v5.toInt ∧ v5.toInt ≤ 400 := l5
  have qz : v1 = u := Option.some.inj (e1.symm.trans eu)
  subst qz
  have qz : v5 = s := Option.some.inj (e5.symm.trans es)
  subst qz
  refine jok_r e1 (jok_r e5 (jok_b (t_tl ht ⟨rfl, hl⟩) (fun v10 l10 => ?_)))
  have ez : (v1 - v5).toInt = v1.toInt - v5.toInt := jsub (by omega) (by omega)
  refine jok_eq (fun c _ => ?_) (fun _ => ?_)
  · refine jok_w (S_X12_isWord_24 n w ta0 ht (Or.inr ⟨rfl, fun s q => ?_⟩) (by decide) (by decide) (by have z0 : (0 : Int32).toInt = 0 := rfl; omega)) (fun v hv => ?_)
    · cases e5.symm.trans q
      omega
    · rcases hv with hv | hv
      · exact Or.inl hv
      · exact Or.inr ⟨hv, by omega⟩
  · have z : jok (F_X12_isWord_24 n n a0 t1 (0 : Int32) (0 : Int32) h) (fun v => v = 0) := by
      obtain ⟨m, rfl⟩ : ∃ m, n = m + 1 := ⟨n - 1, by omega⟩
      show jok (F_X12_isWord_24_b (m + 1) (F_X12_isWord_24 (m + 1) m) a0 t1 (0 : Int32) (0 : Int32) h) _
      unfold F_X12_isWord_24_b
      rw [if_pos rfl, if_pos (Or.inl rfl)]
      exact jok_s rfl
    exact jok_w z (fun v hv => Or.inl hv)
theorem T_X12_passes {g : jGh} {Γ : Nat → Option Nat} {n a0 t1 : Nat} {h : jH} (hn : 6000 ≤ n) (w : jW (jKd g) Γ h) (ta0 : Γ a0 = some 20) (ht : t1 < 36) : jok (F_X12_passes n a0 t1 h) (fun q => jrw g Γ a0 h q.2 ∧ ((q.1 = 0 ∧ jmo a0 0 h q.2) ∨ (q.1 = 1 ∧ jmo a0 ((jtb t1).length : Int) h q.2))) := by
  unfold F_X12_passes
  obtain ⟨u, eu, -⟩ := t_gI (k := 10) w ta0 rfl rfl
  rw [t_cv w ta0 rfl]
  refine jok_b (T_X12_letters hn w ta0 eu) (fun h1 w1 => ?_)
  obtain ⟨w1, s, v, es, ev, l1, l2⟩ := w1
  rw [t_cv w1.1 ta0 rfl]
  refine jok_b (T_X12_isWord hn w1.1 ta0 ht ev es) (fun v6 l6 => ?_)
  rcases l6 with rfl | ⟨rfl, l6⟩
  · rw [if_pos rfl]
    obtain ⟨v16, e16, l16⟩ := t_gI (k := 12) w1.1 ta0 rfl rfl
    have qz : v16 = s := Option.some.inj (e16.symm.trans es)
    subst qz
    refine jok_r e16 (jok_b (t_rw w1.1 ta0 (Or.inl rfl) l16.1 l16.2) (fun h19 w19 => ?_))
    refine jok_s ⟨jrw_tr w1 w19.1, Or.inl ⟨rfl, fun u9 e9 => ⟨v16, fJ w19.2.1, ?_⟩⟩⟩
    have qz : u = u9 := Option.some.inj (eu.symm.trans e9)
    subst qz
    omega
  · rw [if_neg (by decide)]
    refine jok_s ⟨w1, Or.inr ⟨rfl, fun u9 e9 => ⟨v, ev, ?_⟩⟩⟩
    have qz : u = u9 := Option.some.inj (eu.symm.trans e9)
    subst qz
    omega
theorem T_X12_sign {g : jGh} {Γ : Nat → Option Nat} {n a0 : Nat} {x1 : Int32} {h : jH} (hn : 6000 ≤ n) (w : jW (jKd g) Γ h) (ta0 : Γ a0 = some 20) : jok (F_X12_sign n a0 x1 h) (fun q => jrw g Γ a0 h q.2 ∧ ((q.1 = 0 ∧ jmo a0 0 h q.2) ∨ (q.1 = 1 ∧ jmo a0 1 h q.2))) := by
  unfold F_X12_sign
  have eo : (1 : Int32).toInt = 1 := rfl
  obtain ⟨u, eu, -⟩ := t_gI (k := 10) w ta0 rfl rfl
  rw [t_cv w ta0 rfl]
  refine jok_b (T_X12_blanks hn w ta0 eu) (fun h1 w1 => ?_)
  obtain ⟨w1, v, ev, -, lv⟩ := w1
  rw [t_cv w1.1 ta0 rfl]
  refine jok_b (S_X12_isAt w1.1 ta0) (fun v7 l7 => ?_)
  refine jok_eq (fun _ _ => jok_s ⟨w1, Or.inl ⟨rfl, fun u9 e9 => ⟨v, ev, ?_⟩⟩⟩) (fun c => ?_)
  · have qz : u = u9 := Option.some.inj (eu.symm.trans e9)
    subst qz
    omega
  obtain ⟨v17, e17, l17⟩ := t_gI (k := 10) w1.1 ta0 rfl rfl
  have l17 : 0 ≤ v17.toInt ∧ v17.toInt ≤ 400 := l17
  have qz : v17 = v := Option.some.inj (e17.symm.trans ev)
  subst qz
  have hp := l7.2 c _ e17
  have ea : (v17 + (1 : Int32)).toInt = v17.toInt + 1 := by rw [jadd (by omega) (by omega), eo]
  refine jok_r e17 (jok_b (t_rw w1.1 ta0 (Or.inl rfl) (by omega) (by omega)) (fun h22 w22 => ?_))
  refine jok_s ⟨jrw_tr w1 w22.1, Or.inr ⟨rfl, fun u9 e9 => ⟨_, fJ w22.2.1, ?_⟩⟩⟩
  have qz : u = u9 := Option.some.inj (eu.symm.trans e9)
  subst qz
  omega
end
section
theorem T_X12_number_6 {g : jGh} {Γ : Nat → Option Nat} {n : Nat} : ∀ (k : Nat) {a0 : Nat} {x1 x2 x3 u s : Int32} {h : jH}, jW (jKd g) Γ h → Γ a0 = some 20 → jgI 10 h a0 10 = some u → jgI 10 h a0 12 = some s → 400 - u.toInt < k → jok (F_X12_number_6 n k a0 x1 x2 x3 h) (fun q => jrw g Γ a0 h q.2 ∧ ∃ v, jgI 10 q.2 a0 10 = some v ∧ u.toInt ≤ v.toInt ∧ (q.1 = -1 ∨ (x1.toInt ≤ q.1.toInt ∧ q.1.toInt ≤ x2.toInt ∧ v.toInt ≠ s.toInt)))
  | 0, a0, x1, x2, x3, u, s, h, w, ta, eu, es, hk => by
    obtain ⟨v1, e1, l1⟩ := t_gI (k := 10) w ta rfl rfl
    have l1 : 0 ≤ v1.toInt ∧ v1.toInt ≤ 400 := l1
    have qz : v1 = u := Option.some.inj (e1.symm.trans eu)
    subst qz
    omega
  | k + 1, a0, x1, x2, x3, u, s, h, w, ta, eu, es, hk => by
    show jok (F_X12_number_6_b n (F_X12_number_6 n k) a0 x1 x2 x3 h) _
    unfold F_X12_number_6_b
    obtain ⟨v1, e1, l1⟩ := t_gI (k := 10) w ta rfl rfl
    have l1 : 0 ≤ v1.toInt ∧ v1.toInt ≤ 400 := l1
    have qz : v1 = u := Option.some.inj (e1.symm.trans eu)
    subst qz
    have eo : (1 : Int32).toInt = 1 := rfl
    rw [t_cv w ta rfl]
    have hr : jrw g Γ a0 h h := ⟨w, fun _ _ _ => rfl⟩
    have hm : ∀ {x : Int32}, x = -1 → jok (some (x, h)) (fun q => jrw g Γ a0 h q.2 ∧ ∃ v, jgI 10 q.2 a0 10 = some v ∧ v1.toInt ≤ v.toInt ∧ (q.1 = -1 ∨ (x1.toInt ≤ q.1.toInt ∧ q.1.toInt ≤ x2.toInt ∧ v.toInt ≠ s.toInt))) := fun hx => jok_s ⟨hr, v1, e1, Int.le_refl _, Or.inl hx⟩
    refine jok_b (S_X12_isAt w ta) (fun v5 l5 => ?_)
    refine jok_eq (fun _ _ => ?_) (fun c => ?_)
    · refine jok_r e1 (jok_r es (jok_eq (fun _ _ => hm rfl) (fun hne => ?_)))
      refine jok_r e1 (jok_r es (jok_if (fun _ => hm rfl) (fun _ => ?_)))
      refine jok_lt (fun _ => hm rfl) (fun c1 => jok_le (fun c2 => jok_s ⟨hr, v1, e1, Int.le_refl _, Or.inr ⟨c1, c2, hne⟩⟩) (fun _ => hm rfl))
    · have hp := l5.2 c _ e1
      have ea : (v1 + (1 : Int32)).toInt = v1.toInt + 1 := by rw [jadd (by omega) (by omega), eo]
      have hn9 : ∀ {x : Int32}, jok ((jpf 10 h a0 10 (.int (v1 + (1 : Int32)))).bind fun h59 => F_X12_number_6 n k a0 x1 x2 x h59) (fun q => jrw g Γ a0 h q.2 ∧ ∃ v, jgI 10 q.2 a0 10 = some v ∧ v1.toInt ≤ v.toInt ∧ (q.1 = -1 ∨ (x1.toInt ≤ q.1.toInt ∧ q.1.toInt ≤ x2.toInt ∧ v.toInt ≠ s.toInt))) := by
        intro x
        refine jok_b (t_rw w ta (Or.inl rfl) (by omega) (by omega)) (fun h18 w18 => ?_)
        obtain ⟨w18, q18, f18⟩ := w18
        refine jok_w (T_X12_number_6 k w18.1 ta (fJ q18) (fI (f18 10 a0 12 (Or.inr (by decide))) es) (by omega)) (fun q wq => ?_)
        obtain ⟨wq, v, b, c, d⟩ := wq
        exact ⟨jrw_tr w18 wq, v, b, by omega, d⟩
      refine jok_r e1 (jok_r es (jok_if (fun _ => jok_r e1 hn9) (fun _ => ?_)))
      refine jok_b (t_gR w ta rfl rfl) (fun p35 t35 => ?_)
      refine jok_r e1 (jok_b (t_al w t35 rfl (by omega) (by omega)) (fun v42 _ => jok_r e1 hn9))
theorem T_X12_number {g : jGh} {Γ : Nat → Option Nat} {n a0 : Nat} {x1 x2 : Int32} {h : jH} (hn : 6000 ≤ n) (w : jW (jKd g) Γ h) (ta0 : Γ a0 = some 20) : jok (F_X12_number n a0 x1 x2 h) (fun q => jrw g Γ a0 h q.2 ∧ jmo a0 0 h q.2 ∧ (q.1 = -1 ∨ (x1.toInt ≤ q.1.toInt ∧ q.1.toInt ≤ x2.toInt ∧ jmo a0 1 h q.2))) := by
  unfold F_X12_number
  obtain ⟨u, eu, -⟩ := t_gI (k := 10) w ta0 rfl rfl
  rw [t_cv w ta0 rfl]
  refine jok_b (T_X12_blanks hn w ta0 eu) (fun h1 w1 => ?_)
  obtain ⟨w1, v1, e1, e2, l1⟩ := w1
  obtain ⟨v9, e9, l9⟩ := t_gI (k := 10) w1.1 ta0 rfl rfl
  have l9 : 0 ≤ v9.toInt ∧ v9.toInt ≤ 400 := l9
  have qz : v9 = v1 := Option.some.inj (e9.symm.trans e1)
  subst qz
  refine jok_w (T_X12_number_6 n w1.1 ta0 e1 e2 (by omega)) (fun q wq => ?_)
  obtain ⟨wq, v, ev, lv, d⟩ := wq
  have hm : ∀ e : Int, v9.toInt + e ≤ v.toInt → jmo a0 e h q.2 := fun e he u9 e99 => by
    have qz : u = u9 := Option.some.inj (eu.symm.trans e99)
    subst qz
    exact ⟨v, ev, by omega⟩
  refine ⟨jrw_tr w1 wq, hm 0 (by omega), ?_⟩
  rcases d with d | ⟨d1, d2, d3⟩
  · exact Or.inl d
  · exact Or.inr ⟨d1, d2, hm 1 (by omega)⟩
/-! the reference reads a law: its codes -/
/-- the draft's codes, as law's -/
def jdr (C : Nat → Int32) : Nat → Int32 := fun k => C (k + 849)
theorem jhgt_eq {c d : Nat → Int32} {s : Nat} : ∀ l : Nat, (∀ k, s ≤ k → k < s + l → c (484 + 2 * k) = d (484 + 2 * k)) → jhgt c s l = jhgt d s l
  | 0, _ => rfl
  | l + 1, h => by
    show (jhgt c s l).bind _ = (jhgt d s l).bind _
    rw [jhgt_eq l (fun k a b => h k a (by omega)), h (s + l) (by omega) (by omega)]
/-- while a line of the law is read: its codes from s on, at height t; d steps behind the reading; depth p -/
def jls (g : jGh) (Γ : Nat → Option Nat) (a0 : Nat) (C0 : Nat → Int32) (s t : Nat) (d b p : Int) (h : jH) : Prop := ∃ C : Nat → Int32, (∀ k, k < 1333 + 2 * s → C k = C0 k) ∧ jW (jKd (g.1, g.2.1, g.2.2.1, C, g.2.2.2.2)) Γ h ∧ ∃ st u dp : Int32, jgI 10 h a0 16 = some st ∧ jgI 10 h a0 10 = some u ∧ jgI 10 h a0 13 = some dp ∧ dp.toInt = p ∧ (s : Int) ≤ st.toInt ∧ st.toInt + d ≤ u.toInt ∧ b ≤ u.toInt ∧ jhgt (jdr C) s (st.toInt.toNat - s) = some t
/-- the line could not be read -/
def jlf (g : jGh) (Γ : Nat → Option Nat) (C0 : Nat → Int32) (s : Nat) (h : jH) : Prop := ∃ C : Nat → Int32, (∀ k, k < 1333 + 2 * s → C k = C0 k) ∧ jW (jKd (g.1, g.2.1, g.2.2.1, C, g.2.2.2.2)) Γ h
theorem jls_f {g : jGh} {Γ : Nat → Option Nat} {a0 : Nat} {C0 : Nat → Int32} {s t : Nat} {d b p : Int} {h : jH} (a : jls g Γ a0 C0 s t d b p h) : jlf g Γ C0 s h := by
  obtain ⟨C, a, z, -⟩ := a
  exact ⟨C, a, z⟩
theorem jls_le {g : jGh} {Γ : Nat → Option Nat} {a0 : Nat} {C0 : Nat → Int32} {s t : Nat} {d e b p : Int} {h : jH} (a : jls g Γ a0 C0 s t d b p h) (he : e ≤ d) : jls g Γ a0 C0 s t e b p h := by
  obtain ⟨C, a, z, st, u, dp, e1, e2, e3, e4, e5, e6, e8, e7⟩ := a
  exact ⟨C, a, z, st, u, dp, e1, e2, e3, e4, e5, by omega, e8, e7⟩
/-- reading on: only where the reading stands changes -/
theorem jls_mo {g : jGh} {Γ : Nat → Option Nat} {a0 : Nat} {C0 C : Nat → Int32} {s t : Nat} {d e b p : Int} {h q : jH} (hC : ∀ k, k < 1333 + 2 * s → C k = C0 k) (r : jrw (g.1, g.2.1, g.2.2.1, C, g.2.2.2.2) Γ a0 h q) (m : jmo a0 e h q) (a : ∃ st u dp : Int32, jgI 10 h a0 16 = some st ∧ jgI 10 h a0 10 = some u ∧ jgI 10 h a0 13 = some dp ∧ dp.toInt = p ∧ (s : Int) ≤ st.toInt ∧ st.toInt + d ≤ u.toInt ∧ b ≤ u.toInt ∧ jhgt (jdr C) s (st.toInt.toNat - s) = some t) : jls g Γ a0 C0 s t (d + e) (b + e) p q := by
  obtain ⟨st, u, dp, e1, e2, e3, e4, e5, e6, e8, e7⟩ := a
  obtain ⟨v, ev, hv⟩ := m u e2
  exact ⟨C, hC, r.1, st, v, dp, fI (r.2 16 (by decide) (by decide)) e1, ev, fI (r.2 13 (by decide) (by decide)) e3, e4, e5, by omega, by omega, e7⟩
end
section
theorem jKd_C {g : jGh} {C : Nat → Int32} {c : Nat} (hc : c ≠ 21) : jKd (g.1, g.2.1, g.2.2.1, C, g.2.2.2.2) c = jKd g c := by
  unfold jKd
  split <;> first | rfl | exact absurd rfl hc
/-- a write to the world from 435 on: law's ghost anew -/
theorem t_asC {g : jGh} {Γ : Nat → Option Nat} {h : jH} {a : Nat} {i x : Int32} (w : jW (jKd g) Γ h) (hu : ∀ a b c, 9 ≤ c → Γ a = some c → Γ b = some c → a = b) (ha : Γ a = some 21) (h0 : 435 ≤ i.toInt) (h1 : i.toInt < 2133) : jok (jas 0 h a i x) (fun h1 => jW (jKd (g.1, g.2.1, g.2.2.1, upd g.2.2.2.1 i.toInt.toNat x, g.2.2.2.2)) Γ h1 ∧ jfa h h1) := by
  obtain ⟨f, e1, e2⟩ := t_arr w ha rfl
  have hi : i.toNatClampNeg = i.toInt.toNat := rfl
  refine ⟨jup h a (.inr (.inl (0, 2133, upd f i.toNatClampNeg (jnar 0 x)))), ?_, ?_, jfa_up e1⟩
  · unfold jas
    rw [e1]
    dsimp only
    rw [if_pos ⟨rfl, jnoob (by omega) (by omega), fun q => by cases q⟩]
  · intro b c hb
    refine ⟨(w b c hb).1, ?_⟩
    show okE Γ (jKd (g.1, g.2.1, g.2.2.1, upd g.2.2.2.1 i.toInt.toNat x, g.2.2.2.2) c) (if b = a then some _ else h.2 b)
    by_cases hq : b = a
    · subst hq
      cases ha.symm.trans hb
      rw [if_pos rfl]
      refine ⟨_, rfl, fun k hk => ?_⟩
      have e2k := e2 k hk
      by_cases hk2 : k = i.toInt.toNat
      · subst hk2
        refine ⟨⟨Or.inl (by omega), Or.inl (by omega), Or.inr (Or.inl (by omega))⟩, Or.inr ?_⟩
        show upd f i.toInt.toNat (jnar 0 x) i.toInt.toNat = upd g.2.2.2.1 i.toInt.toNat x i.toInt.toNat
        simp only [upd, if_pos]
        rfl
      · have z1 : upd f i.toNatClampNeg (jnar 0 x) k = f k := by
          simp only [upd]
          rw [if_neg (by rw [hi]; exact hk2)]
        have z2 : upd g.2.2.2.1 i.toInt.toNat x k = g.2.2.2.1 k := by
          simp only [upd]
          rw [if_neg hk2]
        show jR3 k (upd f i.toNatClampNeg (jnar 0 x) k) ∧ (k < 435 ∨ upd f i.toNatClampNeg (jnar 0 x) k = upd g.2.2.2.1 i.toInt.toNat x k)
        rw [z1, z2]
        exact e2k
    · rw [if_neg hq]
      have hc : c ≠ 21 := fun q => hq (hu b a 21 (by decide) (by rw [hb, q]) ha)
      rw [jKd_C hc]
      exact (w b c hb).2
/-- what a code does to the height -/
def jst (x : Int32) (t : Nat) : Option Nat := if x.toInt ≤ 11 then some (t + 1) else if x.toInt = 15 then (if 1 ≤ t then some t else none) else (if 2 ≤ t then some (t - 1) else none)
theorem T_X12_emits {g : jGh} {Γ : Nat → Option Nat} {n a0 : Nat} {C0 : Nat → Int32} {s t t2 : Nat} {d b p : Int} {x1 x2 : Int32} {h : jH} (hu : ∀ a b c, 9 ≤ c → Γ a = some c → Γ b = some c → a = b) (ta0 : Γ a0 = some 20) (hd : 0 ≤ d) (hx : jst x1 t = some t2) (a : jls g Γ a0 C0 s t (d + 1) b p h) : jok (F_X12_emits n a0 x1 x2 h) (fun q => jls g Γ a0 C0 s t2 d b p q) := by
  obtain ⟨C, hC, w, st, u, dp, e16, e10, e13, ep, hs, hd1, hb, hh⟩ := a
  have em : (1333 : Int32).toInt = 1333 := rfl
  have e1 : (1 : Int32).toInt = 1 := rfl
  have e2 : (2 : Int32).toInt = 2 := rfl
  obtain ⟨u9, eu9, lu⟩ := t_gI (k := 10) w ta0 rfl rfl
  have lu : 0 ≤ u9.toInt ∧ u9.toInt ≤ 400 := lu
  have qz : u9 = u := Option.some.inj (eu9.symm.trans e10)
  subst qz
  have h2 : ((2 : Int32) * st).toInt = 2 * st.toInt := jmulL e2 (by omega) (by omega)
  have h3 : ((1333 : Int32) + ((2 : Int32) * st)).toInt = 1333 + 2 * st.toInt := by rw [jadd (by omega) (by omega), h2, em]
  have h4 : (((1333 : Int32) + ((2 : Int32) * st)) + (1 : Int32)).toInt = 1334 + 2 * st.toInt := by rw [jadd (by omega) (by omega), h3, e1]; omega
  have h5 : (st + (1 : Int32)).toInt = st.toInt + 1 := by rw [jadd (by omega) (by omega), e1]
  unfold F_X12_emits
  refine jok_b (t_gR w ta0 rfl rfl) (fun p1 t1 => ?_)
  refine jok_r e16 (jok_b (t_asC w hu t1 (by omega) (by omega)) (fun h15 w15 => ?_))
  obtain ⟨w15, f15⟩ := w15
  refine jok_b (t_gR w15 ta0 rfl rfl) (fun p17 t17 => ?_)
  have e16b := fI (f15 10 a0 16) e16
  refine jok_r e16b (jok_b (t_asC w15 hu t17 (by omega) (by omega)) (fun h33 w33 => ?_))
  obtain ⟨w33, f33⟩ := w33
  have e16c := fI (f33 10 a0 16) e16b
  refine jok_r e16c (jok_b (t_pI w33 ta0 rfl rfl (show jI 0 400 _ from ⟨by omega, by omega⟩)) (fun h41 w41 => ?_))
  obtain ⟨w41, q41, f41⟩ := w41
  refine jok_s ⟨_, ?_, w41, st + 1, u9, dp, fJ q41, ?_, ?_, ep, by omega, by omega, hb, ?_⟩
  · intro k hk
    simp only [upd]
    rw [if_neg (by omega), if_neg (by omega)]
    exact hC k hk
  · exact fI (f41 10 a0 10 (Or.inr (by decide))) (fI (f33 10 a0 10) (fI (f15 10 a0 10) e10))
  · exact fI (f41 10 a0 13 (Or.inr (by decide))) (fI (f33 10 a0 13) (fI (f15 10 a0 13) e13))
  · have hl : (st + (1 : Int32)).toInt.toNat - s = (st.toInt.toNat - s) + 1 := by omega
    rw [hl]
    have hk9 : s + (st.toInt.toNat - s) = st.toInt.toNat := by omega
    show (jhgt _ s (st.toInt.toNat - s)).bind _ = some t2
    rw [jhgt_eq (d := jdr C) (st.toInt.toNat - s) (fun k a b => by
      show upd (upd C _ x1) _ x2 (484 + 2 * k + 849) = C (484 + 2 * k + 849)
      simp only [upd]
      rw [if_neg (by omega), if_neg (by omega)]), hh, hk9]
    have hc : jdr (upd (upd C ((1333 : Int32) + ((2 : Int32) * st)).toInt.toNat x1) (((1333 : Int32) + ((2 : Int32) * st)) + (1 : Int32)).toInt.toNat x2) (484 + 2 * st.toInt.toNat) = x1 := by
      show upd (upd C _ x1) _ x2 (484 + 2 * st.toInt.toNat + 849) = x1
      simp only [upd]
      rw [if_neg (by omega), if_pos (by omega)]
    show (if (jdr _ (484 + 2 * st.toInt.toNat)).toInt ≤ 11 then some (t + 1) else if (jdr _ (484 + 2 * st.toInt.toNat)).toInt = 15 then (if 1 ≤ t then some t else none) else (if 2 ≤ t then some (t - 1) else none)) = some t2
    have hx2 : (if x1.toInt ≤ 11 then some (t + 1) else if x1.toInt = 15 then (if 1 ≤ t then some t else none) else (if 2 ≤ t then some (t - 1) else none)) = some t2 := hx
    rw [hc]
    exact hx2
end
section
theorem L_letters {g : jGh} {Γ : Nat → Option Nat} {n a0 : Nat} {C0 : Nat → Int32} {s t : Nat} {d b p : Int} {h : jH} (hn : 6000 ≤ n) (ta0 : Γ a0 = some 20) (a : jls g Γ a0 C0 s t d b p h) : jok (F_X12_letters n a0 h) (fun q => jls g Γ a0 C0 s t d b p q ∧ ∃ w v, jgI 10 q a0 12 = some w ∧ jgI 10 q a0 10 = some v ∧ w.toInt ≤ v.toInt ∧ (¬ v.toInt = w.toInt → jls g Γ a0 C0 s t (d + 1) (b + 1) p q) ∧ ∀ q2, jpf 10 q a0 10 (.int w) = some q2 → jls g Γ a0 C0 s t d b p q2) := by
  obtain ⟨C, hC, w, st, u, dp, e1, e2, e3, e4, e5, e6, e8, e7⟩ := a
  have hA : ∃ st u dp : Int32, jgI 10 h a0 16 = some st ∧ jgI 10 h a0 10 = some u ∧ jgI 10 h a0 13 = some dp ∧ dp.toInt = p ∧ (s : Int) ≤ st.toInt ∧ st.toInt + d ≤ u.toInt ∧ b ≤ u.toInt ∧ jhgt (jdr C) s (st.toInt.toNat - s) = some t := ⟨st, u, dp, e1, e2, e3, e4, e5, e6, e8, e7⟩
  refine jok_w (T_X12_letters hn w ta0 e2) (fun q wq => ?_)
  obtain ⟨wq, z, v, ez, ev, l1, l2⟩ := wq
  have hm : ∀ e : Int, u.toInt + e ≤ v.toInt → jmo a0 e h q := fun e he u9 e99 => by
    have qz : u = u9 := Option.some.inj (e2.symm.trans e99)
    subst qz
    exact ⟨v, ev, he⟩
  have j0 := jls_mo hC wq (hm 0 (by omega)) hA
  have z0 : d + 0 = d := by omega
  have z1 : b + 0 = b := by omega
  rw [z0, z1] at j0
  refine ⟨j0, z, v, ez, ev, l2, fun hne => jls_mo hC wq (hm 1 (by omega)) hA, fun q2 eq2 => ?_⟩
  obtain ⟨v12, e12, l12⟩ := t_gI (k := 12) wq.1 ta0 rfl rfl
  have qz : v12 = z := Option.some.inj (e12.symm.trans ez)
  subst qz
  obtain ⟨q3, e3q, w3⟩ := t_rw wq.1 ta0 (Or.inl rfl) l12.1 l12.2
  cases eq2.symm.trans e3q
  have j2 := jls_mo (d := d) (b := b) hC (jrw_tr wq w3.1) (e := 0) (fun u9 e99 => by
    have qz : u = u9 := Option.some.inj (e2.symm.trans e99)
    subst qz
    exact ⟨v12, fJ w3.2.1, by omega⟩) hA
  rw [z0, z1] at j2
  exact j2
theorem L_passes {g : jGh} {Γ : Nat → Option Nat} {n a0 t1 : Nat} {C0 : Nat → Int32} {s t : Nat} {d b p : Int} {h : jH} (hn : 6000 ≤ n) (ta0 : Γ a0 = some 20) (ht : t1 < 36) (hl : 1 ≤ (jtb t1).length) (a : jls g Γ a0 C0 s t d b p h) : jok (F_X12_passes n a0 t1 h) (fun q => (q.1 = 0 ∧ jls g Γ a0 C0 s t d b p q.2) ∨ (q.1 = 1 ∧ jls g Γ a0 C0 s t (d + 1) (b + 1) p q.2)) := by
  obtain ⟨C, hC, w, hA⟩ := a
  refine jok_w (T_X12_passes hn w ta0 ht) (fun q wq => ?_)
  obtain ⟨wq, z | z⟩ := wq
  · have j := jls_mo hC wq z.2 hA
    rw [show d + 0 = d by omega, show b + 0 = b by omega] at j
    exact Or.inl ⟨z.1, j⟩
  · exact Or.inr ⟨z.1, jls_mo hC wq (jmo_le z.2 (by omega)) hA⟩
theorem L_sign {g : jGh} {Γ : Nat → Option Nat} {n a0 : Nat} {C0 : Nat → Int32} {s t : Nat} {d b p : Int} {x1 : Int32} {h : jH} (hn : 6000 ≤ n) (ta0 : Γ a0 = some 20) (a : jls g Γ a0 C0 s t d b p h) : jok (F_X12_sign n a0 x1 h) (fun q => (q.1 = 0 ∧ jls g Γ a0 C0 s t d b p q.2) ∨ (q.1 = 1 ∧ jls g Γ a0 C0 s t (d + 1) (b + 1) p q.2)) := by
  obtain ⟨C, hC, w, hA⟩ := a
  refine jok_w (T_X12_sign hn w ta0) (fun q wq => ?_)
  obtain ⟨wq, z | z⟩ := wq
  · have j := jls_mo hC wq z.2 hA
    rw [show d + 0 = d by omega, show b + 0 = b by omega] at j
    exact Or.inl ⟨z.1, j⟩
  · exact Or.inr ⟨z.1, jls_mo hC wq z.2 hA⟩
theorem L_number {g : jGh} {Γ : Nat → Option Nat} {n a0 : Nat} {C0 : Nat → Int32} {s t : Nat} {d b p : Int} {x1 x2 : Int32} {h : jH} (hn : 6000 ≤ n) (ta0 : Γ a0 = some 20) (a : jls g Γ a0 C0 s t d b p h) : jok (F_X12_number n a0 x1 x2 h) (fun q => (q.1 = -1 ∧ jls g Γ a0 C0 s t d b p q.2) ∨ (x1.toInt ≤ q.1.toInt ∧ q.1.toInt ≤ x2.toInt ∧ jls g Γ a0 C0 s t (d + 1) (b + 1) p q.2)) := by
  obtain ⟨C, hC, w, hA⟩ := a
  refine jok_w (T_X12_number hn w ta0) (fun q wq => ?_)
  obtain ⟨wq, m0, z | z⟩ := wq
  · have j := jls_mo hC wq m0 hA
    rw [show d + 0 = d by omega, show b + 0 = b by omega] at j
    exact Or.inl ⟨z, j⟩
  · exact Or.inr ⟨z.1, z.2.1, jls_mo hC wq z.2.2 hA⟩
/-- read, one higher, or not to be read -/
def jrr (g : jGh) (Γ : Nat → Option Nat) (a0 : Nat) (C0 : Nat → Int32) (s t : Nat) (d b p : Int) (q : Int32 × jH) : Prop := (q.1 = 0 ∧ jlf g Γ C0 s q.2) ∨ (q.1 = 1 ∧ jls g Γ a0 C0 s t d b p q.2)
theorem jst_lo {x : Int32} {t : Nat} (h : x.toInt ≤ 11) : jst x t = some (t + 1) := by
  unfold jst
  rw [if_pos h]
theorem L_wordOfPart {g : jGh} {Γ : Nat → Option Nat} {n a0 : Nat} {h : jH} (hn : 6000 ≤ n) (w : jW (jKd g) Γ h) (ta0 : Γ a0 = some 20) : jok (F_X12_wordOfPart n a0 h) (fun v => v.toInt ≤ 6) := by
  unfold F_X12_wordOfPart
  rw [t_cv w ta0 rfl]
  refine jok_b (S_X12_isWord hn w ta0 (by decide)) (fun _ _ => jok_if (fun _ => ?_) (fun _ => jok_s (by decide)))
  rw [t_cv w ta0 rfl]
  refine jok_b (S_X12_isWord hn w ta0 (by decide)) (fun _ _ => jok_if (fun _ => ?_) (fun _ => jok_s (by decide)))
  rw [t_cv w ta0 rfl]
  refine jok_b (S_X12_isWord hn w ta0 (by decide)) (fun _ _ => jok_if (fun _ => ?_) (fun _ => jok_s (by decide)))
  rw [t_cv w ta0 rfl]
  refine jok_b (S_X12_isWord hn w ta0 (by decide)) (fun _ _ => jok_if (fun _ => ?_) (fun _ => jok_s (by decide)))
  rw [t_cv w ta0 rfl]
  refine jok_b (S_X12_isWord hn w ta0 (by decide)) (fun _ _ => jok_if (fun _ => ?_) (fun _ => jok_s (by decide)))
  rw [t_cv w ta0 rfl]
  refine jok_b (S_X12_isWord hn w ta0 (by decide)) (fun _ _ => jok_if (fun _ => ?_) (fun _ => jok_s (by decide)))
  rw [t_cv w ta0 rfl]
  refine jok_b (S_X12_isWord hn w ta0 (by decide)) (fun _ _ => jok_if (fun _ => jok_s (by decide)) (fun _ => jok_s (by decide)))
theorem jls_w {g : jGh} {Γ : Nat → Option Nat} {a0 : Nat} {C0 : Nat → Int32} {s t : Nat} {d b p : Int} {h : jH} (a : jls g Γ a0 C0 s t d b p h) : ∃ C : Nat → Int32, jW (jKd (g.1, g.2.1, g.2.2.1, C, g.2.2.2.2)) Γ h := by
  obtain ⟨C, -, w, -⟩ := a
  exact ⟨C, w⟩
theorem L_readPart_61 {g : jGh} {Γ : Nat → Option Nat} {n a0 : Nat} {C0 : Nat → Int32} {s t : Nat} {d b p : Int} {x2 s1 s2 : Int32} {h : jH} (hu : ∀ a b c, 9 ≤ c → Γ a = some c → Γ b = some c → a = b) (ta0 : Γ a0 = some 20) (hd : 1 ≤ d) (h1 : s1.toInt ≤ 11) (a : jls g Γ a0 C0 s t d b p h) (hx : x2 < 0 ∨ jls g Γ a0 C0 s t (d + 1) b p h) : jok (F_X12_readPart_61 n x2 a0 s1 s2 h) (fun q => jrr g Γ a0 C0 s (t + 1) d b p q) := by
  unfold F_X12_readPart_61
  obtain ⟨C, w⟩ := jls_w a
  rw [t_cv w ta0 rfl]
  rcases hx with hx | hx
  · have a2 : jls g Γ a0 C0 s t ((d - 1) + 1) b p h := jls_le a (by omega)
    refine jok_b (T_X12_emits hu ta0 (by omega) (jst_lo h1) a2) (fun q wq => ?_)
    rw [if_pos hx]
    exact jok_s (Or.inl ⟨rfl, jls_f wq⟩)
  · refine jok_b (T_X12_emits hu ta0 (by omega) (jst_lo h1) hx) (fun q wq => ?_)
    exact jok_if (fun _ => jok_s (Or.inl ⟨rfl, jls_f wq⟩)) (fun _ => jok_s (Or.inr ⟨rfl, wq⟩))
theorem L_readPart {g : jGh} {Γ : Nat → Option Nat} {n a0 : Nat} {C0 : Nat → Int32} {s t : Nat} {d b p : Int} {h : jH} (hn : 6000 ≤ n) (hu : ∀ a b c, 9 ≤ c → Γ a = some c → Γ b = some c → a = b) (ta0 : Γ a0 = some 20) (hd : 1 ≤ d) (a : jls g Γ a0 C0 s t d b p h) : jok (F_X12_readPart n a0 h) (fun q => jrr g Γ a0 C0 s (t + 1) d b p q) := by
  unfold F_X12_readPart
  obtain ⟨C, w⟩ := jls_w a
  rw [t_cv w ta0 rfl]
  refine jok_b (L_letters hn ta0 a) (fun h1 w1 => ?_)
  obtain ⟨j1, z, v, ez, ev, lz, jn, -⟩ := w1
  refine jok_r ev (jok_r ez (jok_eq (fun _ _ => ?_) (fun c => ?_)))
  · unfold F_X12_readPart_20
    obtain ⟨C, w⟩ := jls_w j1
    rw [if_neg (by decide), t_cv w ta0 rfl]
    refine jok_b (L_number hn ta0 j1) (fun q30 w30 => ?_)
    unfold F_X12_readPart_40
    rw [if_neg (by decide), if_neg (by decide)]
    rcases w30 with ⟨e, j⟩ | ⟨l1, -, j⟩
    · exact L_readPart_61 hu ta0 hd (by decide) j (Or.inl (by rw [e]; decide))
    · have j9 : jls g Γ a0 C0 s t (d + 1) b p q30.2 := by
        obtain ⟨C, a1, a2, st, u, dp, e1, e2, e3, e4, e5, e6, e8, e7⟩ := j
        exact ⟨C, a1, a2, st, u, dp, e1, e2, e3, e4, e5, e6, by omega, e7⟩
      exact L_readPart_61 hu ta0 hd (by decide) (jls_le j9 (by omega)) (Or.inr j9)
  · have j := jn c
    have j9 : jls g Γ a0 C0 s t (d + 1) b p h1 := by
      obtain ⟨C, a1, a2, st, u, dp, e1, e2, e3, e4, e5, e6, e8, e7⟩ := j
      exact ⟨C, a1, a2, st, u, dp, e1, e2, e3, e4, e5, e6, by omega, e7⟩
    unfold F_X12_readPart_20
    obtain ⟨C, w⟩ := jls_w j1
    rw [if_pos rfl, t_cv w ta0 rfl]
    refine jok_b (L_wordOfPart hn w ta0) (fun v37 l37 => ?_)
    unfold F_X12_readPart_40
    rw [if_pos rfl, if_pos rfl]
    exact L_readPart_61 hu ta0 hd (by omega) j1 (Or.inr j9)
end
section
theorem jls_lb {g : jGh} {Γ : Nat → Option Nat} {a0 : Nat} {C0 : Nat → Int32} {s t : Nat} {d b e c p : Int} {h : jH} (a : jls g Γ a0 C0 s t d b p h) (he : e ≤ d) (hc : c ≤ b) : jls g Γ a0 C0 s t e c p h := by
  obtain ⟨C, a1, a2, st, u, dp, e1, e2, e3, e4, e5, e6, e8, e7⟩ := a
  exact ⟨C, a1, a2, st, u, dp, e1, e2, e3, e4, e5, by omega, by omega, e7⟩
theorem jrr_lb {g : jGh} {Γ : Nat → Option Nat} {a0 : Nat} {C0 : Nat → Int32} {s t : Nat} {d b e c p : Int} {q : Int32 × jH} (a : jrr g Γ a0 C0 s t d b p q) (he : e ≤ d) (hc : c ≤ b) : jrr g Γ a0 C0 s t e c p q := by
  rcases a with a | a
  · exact Or.inl a
  · exact Or.inr ⟨a.1, jls_lb a.2 he hc⟩
theorem L_readTag {g : jGh} {Γ : Nat → Option Nat} {n a0 : Nat} {C0 : Nat → Int32} {s t : Nat} {d b p : Int} {h : jH} (hn : 6000 ≤ n) (hu : ∀ a b c, 9 ≤ c → Γ a = some c → Γ b = some c → a = b) (ta0 : Γ a0 = some 20) (hd : 0 ≤ d) (a : jls g Γ a0 C0 s t d b p h) : jok (F_X12_readTag n a0 h) (fun q => (q.1 = 0 ∧ jls g Γ a0 C0 s t d b p q.2) ∨ (q.1 = 1 ∧ jls g Γ a0 C0 s (t + 1) d b p q.2)) := by
  unfold F_X12_readTag
  obtain ⟨C, w⟩ := jls_w a
  rw [t_cv w ta0 rfl]
  refine jok_b (L_letters hn ta0 a) (fun h1 w1 => ?_)
  obtain ⟨j1, z, v, ez, ev, lz, jn, jb⟩ := w1
  obtain ⟨C1, w1⟩ := jls_w j1
  have hit : ∀ {x : Int32}, 0 ≤ x.toInt → x.toInt ≤ 11 → ¬ v.toInt = z.toInt → jok (F_X12_readTag_61 n a0 x h1) (fun q => (q.1 = 0 ∧ jls g Γ a0 C0 s t d b p q.2) ∨ (q.1 = 1 ∧ jls g Γ a0 C0 s (t + 1) d b p q.2)) := by
    intro x h0 h9 hne
    have hx : ¬ x < 0 := fun q => by
      have := Int32.lt_iff_toInt_lt.mp q
      have z0 : (0 : Int32).toInt = 0 := rfl
      omega
    unfold F_X12_readTag_61
    rw [if_neg hx, t_cv w1 ta0 rfl]
    refine jok_b (T_X12_emits hu ta0 hd (jst_lo h9) (jn hne)) (fun q wq => ?_)
    rw [if_neg hx]
    exact jok_s (Or.inr ⟨rfl, jls_lb wq (by omega) (by omega)⟩)
  have l17 : 1 ≤ (jtb 17).length := by decide +kernel
  have l16 : 1 ≤ (jtb 16).length := by decide +kernel
  have l30 : 1 ≤ (jtb 30).length := by decide +kernel
  have l31 : 1 ≤ (jtb 31).length := by decide +kernel
  rw [t_cv w1 ta0 rfl]
  refine jok_b (T_X12_isWord hn w1 ta0 (by decide) ev ez) (fun v7 l7 => ?_)
  rcases l7 with rfl | ⟨rfl, l7⟩
  · rw [if_pos rfl, t_cv w1 ta0 rfl]
    refine jok_b (T_X12_isWord hn w1 ta0 (by decide) ev ez) (fun v21 l21 => ?_)
    rcases l21 with rfl | ⟨rfl, l21⟩
    · rw [if_pos rfl, t_cv w1 ta0 rfl]
      refine jok_b (T_X12_isWord hn w1 ta0 (by decide) ev ez) (fun v35 l35 => ?_)
      rcases l35 with rfl | ⟨rfl, l35⟩
      · rw [if_pos rfl, t_cv w1 ta0 rfl]
        refine jok_b (T_X12_isWord hn w1 ta0 (by decide) ev ez) (fun v49 l49 => ?_)
        rcases l49 with rfl | ⟨rfl, l49⟩
        · rw [if_pos rfl]
          unfold F_X12_readTag_61
          rw [if_pos (by decide)]
          obtain ⟨z2, ez2, lz2⟩ := t_gI (k := 12) w1 ta0 rfl rfl
          have qz : z2 = z := Option.some.inj (ez2.symm.trans ez)
          subst qz
          refine jok_r ez2 (jok_b2 (t_rw w1 ta0 (Or.inl rfl) lz2.1 lz2.2) (fun h80 e80 _ => ?_))
          rw [if_pos (by decide)]
          exact jok_s (Or.inl ⟨rfl, jb h80 e80⟩)
        · rw [if_neg (by decide)]
          exact hit (by decide) (by decide) (by omega)
      · rw [if_neg (by decide)]
        exact hit (by decide) (by decide) (by omega)
    · rw [if_neg (by decide)]
      exact hit (by decide) (by decide) (by omega)
  · rw [if_neg (by decide)]
    exact hit (by decide) (by decide) (by omega)
theorem jst_hi {x : Int32} {t : Nat} (h : 11 < x.toInt) (h2 : x.toInt ≠ 15) : jst x (t + 1 + 1) = some (t + 1) := by
  unfold jst
  rw [if_neg (by omega), if_neg h2, if_pos (by omega)]
  rfl
theorem jls_b4 {g : jGh} {Γ : Nat → Option Nat} {a0 : Nat} {C0 : Nat → Int32} {s t : Nat} {d b p : Int} {h : jH} (ta0 : Γ a0 = some 20) (a : jls g Γ a0 C0 s t d b p h) : b ≤ 400 := by
  obtain ⟨C, a1, w, st, u, dp, e1, e2, e3, e4, e5, e6, e8, e7⟩ := a
  obtain ⟨v, ev, lv⟩ := t_gI (k := 10) w ta0 rfl rfl
  have lv : 0 ≤ v.toInt ∧ v.toInt ≤ 400 := lv
  have qz : v = u := Option.some.inj (ev.symm.trans e2)
  subst qz
  omega
theorem L_readSum_9 {g : jGh} {Γ : Nat → Option Nat} {n a0 : Nat} {C0 : Nat → Int32} {s t : Nat} {d p : Int} (hn : 6000 ≤ n) (hu : ∀ a b c, 9 ≤ c → Γ a = some c → Γ b = some c → a = b) (ta0 : Γ a0 = some 20) (hd : 1 ≤ d) : ∀ (k : Nat) {b : Int} {h : jH}, jls g Γ a0 C0 s (t + 1) d b p h → 400 - b < k → jok (F_X12_readSum_9 n k a0 h) (fun q => jrr g Γ a0 C0 s (t + 1) d b p q)
  | 0, b, h, a, hk => by
    have := jls_b4 ta0 a
    omega
  | k + 1, b, h, a, hk => by
    show jok (F_X12_readSum_9_b n (F_X12_readSum_9 n k) a0 h) _
    unfold F_X12_readSum_9_b
    obtain ⟨C, w⟩ := jls_w a
    rw [t_cv w ta0 rfl]
    refine jok_b (L_sign hn ta0 a) (fun q12 w12 => ?_)
    rcases w12 with ⟨e, j⟩ | ⟨e, j⟩
    · rw [if_pos e]
      exact jok_s (Or.inr ⟨rfl, j⟩)
    · rw [if_neg (by rw [e]; decide)]
      obtain ⟨C, w⟩ := jls_w j
      rw [t_cv w ta0 rfl]
      refine jok_b (L_readPart hn hu ta0 (by omega) j) (fun q19 w19 => ?_)
      rcases w19 with ⟨e, j⟩ | ⟨e, j⟩
      · rw [if_pos e]
        exact jok_s (Or.inl ⟨rfl, j⟩)
      · rw [if_neg (by rw [e]; decide)]
        obtain ⟨C, w⟩ := jls_w j
        rw [t_cv w ta0 rfl]
        refine jok_b (T_X12_emits hu ta0 (by omega) (jst_hi (by decide) (by decide)) j) (fun h31 w31 => ?_)
        exact jok_w (L_readSum_9 hn hu ta0 hd k w31 (by omega)) (fun q wq => jrr_lb wq (by omega) (by omega))
theorem L_readSum {g : jGh} {Γ : Nat → Option Nat} {n a0 : Nat} {C0 : Nat → Int32} {s t : Nat} {d b p : Int} {h : jH} (hn : 6000 ≤ n) (hu : ∀ a b c, 9 ≤ c → Γ a = some c → Γ b = some c → a = b) (ta0 : Γ a0 = some 20) (hd : 1 ≤ d) (hb : 0 ≤ b) (a : jls g Γ a0 C0 s t d b p h) : jok (F_X12_readSum n a0 h) (fun q => jrr g Γ a0 C0 s (t + 1) d b p q) := by
  unfold F_X12_readSum
  obtain ⟨C, w⟩ := jls_w a
  rw [t_cv w ta0 rfl]
  refine jok_b (L_readPart hn hu ta0 hd a) (fun q1 w1 => ?_)
  rcases w1 with ⟨e, j⟩ | ⟨e, j⟩
  · rw [if_pos e]
    exact jok_s (Or.inl ⟨rfl, j⟩)
  · rw [if_neg (by rw [e]; decide)]
    exact L_readSum_9 hn hu ta0 hd n j (by omega)
end
section
/-- a reader of a condition, at depth p -/
def jgq (g : jGh) (Γ : Nat → Option Nat) (a0 : Nat) (C0 : Nat → Int32) (s : Nat) (p : Int) (f : Nat → jH → Option (Int32 × jH)) : Prop := ∀ (t : Nat) (d b : Int) (h : jH), 1 ≤ d → 0 ≤ b → jls g Γ a0 C0 s t d b p h → jok (f a0 h) (fun q => jrr g Γ a0 C0 s (t + 1) d b p q)
/-- the depth anew -/
theorem L_deep {g : jGh} {Γ : Nat → Option Nat} {a0 : Nat} {C0 : Nat → Int32} {s t : Nat} {d b p : Int} {x : Int32} {h : jH} (ta0 : Γ a0 = some 20) (a : jls g Γ a0 C0 s t d b p h) : jok (jpf 10 h a0 13 (.int x)) (fun q => jls g Γ a0 C0 s t d b x.toInt q) := by
  obtain ⟨C, a1, w, st, u, dp, e1, e2, e3, e4, e5, e6, e8, e7⟩ := a
  refine jok_w (t_pI (k := 13) w ta0 rfl rfl trivial) (fun q wq => ?_)
  obtain ⟨wq, eq, fq⟩ := wq
  exact ⟨C, a1, wq, st, u, x, fI (fq 10 a0 16 (Or.inr (by decide))) e1, fI (fq 10 a0 10 (Or.inr (by decide))) e2, fJ eq, rfl, e5, e6, e8, e7⟩
theorem jls_p {g : jGh} {Γ : Nat → Option Nat} {a0 : Nat} {C0 : Nat → Int32} {s t : Nat} {d b p : Int} {h : jH} (a : jls g Γ a0 C0 s t d b p h) : ∃ dp : Int32, jgI 10 h a0 13 = some dp ∧ dp.toInt = p := by
  obtain ⟨C, a1, w, st, u, dp, e1, e2, e3, e4, e5, e6, e8, e7⟩ := a
  exact ⟨dp, e3, e4⟩
theorem L_readAtom_152 {g : jGh} {Γ : Nat → Option Nat} {n a0 : Nat} {C0 : Nat → Int32} {s t : Nat} {d b p : Int} {x1 : Int32} {h : jH} {g0 g1 g2 : Nat → jH → Option (Int32 × jH)} (hn : 6000 ≤ n) (hu : ∀ a b c, 9 ≤ c → Γ a = some c → Γ b = some c → a = b) (ta0 : Γ a0 = some 20) (hd : 1 ≤ d) (hb : 0 ≤ b) (a : jls g Γ a0 C0 s (t + 1) (d + 1) b p h) : jok (F_X12_readAtom_152 n g0 g1 g2 a0 x1 h) (fun q => jrr g Γ a0 C0 s (t + 1) d b p q) := by
  unfold F_X12_readAtom_152
  obtain ⟨C, w⟩ := jls_w a
  rw [t_cv w ta0 rfl]
  refine jok_b (L_readSum hn hu ta0 (by omega) hb a) (fun q w1 => ?_)
  rcases w1 with ⟨e, j⟩ | ⟨e, j⟩
  · rw [if_pos e]
    exact jok_s (Or.inl ⟨rfl, j⟩)
  · rw [if_neg (by rw [e]; decide)]
    obtain ⟨C, w⟩ := jls_w j
    unfold F_X12_readAtom_173
    rw [t_cv w ta0 rfl, t_cv w ta0 rfl]
    exact jok_if (fun _ => jok_b (T_X12_emits hu ta0 (by omega) (jst_hi (by decide) (by decide)) j) (fun h w9 => jok_s (Or.inr ⟨rfl, w9⟩))) (fun _ => jok_b (T_X12_emits hu ta0 (by omega) (jst_hi (by decide) (by decide)) j) (fun h w9 => jok_s (Or.inr ⟨rfl, w9⟩)))
theorem L_readAtom {g : jGh} {Γ : Nat → Option Nat} {n a0 : Nat} {C0 : Nat → Int32} {s : Nat} {p : Int} {g0 g1 g2 : Nat → jH → Option (Int32 × jH)} (hn : 6000 ≤ n) (hu : ∀ a b c, 9 ≤ c → Γ a = some c → Γ b = some c → a = b) (ta0 : Γ a0 = some 20) (hp0 : 0 ≤ p) (hp6 : p ≤ 6) (hg0 : p ≤ 5 → jgq g Γ a0 C0 s (p + 1) g0) (hg1 : p ≤ 5 → jgq g Γ a0 C0 s (p + 1) g1) : jgq g Γ a0 C0 s p (F_X12_readAtom n g0 g1 g2) := by
  intro t d b h hd hb a
  have e6 : (6 : Int32).toInt = 6 := rfl
  have eo : (1 : Int32).toInt = 1 := rfl
  unfold F_X12_readAtom
  obtain ⟨C, w⟩ := jls_w a
  rw [t_cv w ta0 rfl]
  refine jok_b (L_sign hn ta0 a) (fun q3 w3 => ?_)
  rcases w3 with ⟨e, j3⟩ | ⟨e, j3⟩
  · rw [if_pos e]
    obtain ⟨C, w⟩ := jls_w j3
    rw [t_cv w ta0 rfl]
    refine jok_b (L_passes hn ta0 (by decide) (by decide +kernel) j3) (fun q59 w59 => ?_)
    rcases w59 with ⟨e, j59⟩ | ⟨e, j59⟩
    · rw [if_pos e]
      obtain ⟨C, w⟩ := jls_w j59
      rw [t_cv w ta0 rfl]
      refine jok_b (L_readTag hn hu ta0 (by omega) j59) (fun q115 w115 => ?_)
      rcases w115 with ⟨e, j115⟩ | ⟨e, j115⟩
      · rw [if_pos e]
        obtain ⟨C, w⟩ := jls_w j115
        rw [t_cv w ta0 rfl]
        refine jok_b (L_readSum hn hu ta0 hd hb j115) (fun q124 w124 => ?_)
        rcases w124 with ⟨e, j124⟩ | ⟨e, j124⟩
        · rw [if_pos e]
          exact jok_s (Or.inl ⟨rfl, j124⟩)
        · rw [if_neg (by rw [e]; decide)]
          obtain ⟨C, w⟩ := jls_w j124
          rw [t_cv w ta0 rfl]
          refine jok_b (L_sign hn ta0 j124) (fun q135 w135 => ?_)
          rcases w135 with ⟨e, j135⟩ | ⟨e, j135⟩
          · rw [if_pos e]
            obtain ⟨C, w⟩ := jls_w j135
            rw [t_cv w ta0 rfl]
            refine jok_b (L_sign hn ta0 j135) (fun q146 w146 => ?_)
            rcases w146 with ⟨e, j146⟩ | ⟨e, j146⟩
            · rw [if_pos e]
              exact jok_s (Or.inl ⟨rfl, jls_f j146⟩)
            · rw [if_neg (by rw [e]; decide)]
              exact L_readAtom_152 hn hu ta0 hd hb (jls_lb j146 (by omega) (by omega))
          · rw [if_neg (by rw [e]; decide)]
            exact L_readAtom_152 hn hu ta0 hd hb (jls_lb j135 (by omega) (by omega))
      · rw [if_neg (by rw [e]; decide)]
        exact jok_s (Or.inr ⟨rfl, j115⟩)
    · rw [if_neg (by rw [e]; decide)]
      obtain ⟨v66, e66, p66⟩ := jls_p j59
      refine jok_r e66 (jok_eq (fun _ _ => jok_s (Or.inl ⟨rfl, jls_f j59⟩)) (fun c => ?_))
      have ea : (v66 + (1 : Int32)).toInt = p + 1 := by rw [jadd (by omega) (by omega), eo, p66]
      refine jok_r e66 (jok_b (L_deep ta0 j59) (fun h83 w83 => ?_))
      rw [ea] at w83
      obtain ⟨C, w⟩ := jls_w w83
      rw [t_cv w ta0 rfl]
      refine jok_b (hg1 (by omega) t (d + 1) (b + 1) h83 (by omega) (by omega) w83) (fun q87 w87 => ?_)
      rcases w87 with ⟨e, j87⟩ | ⟨e, j87⟩
      · rw [if_pos e]
        exact jok_s (Or.inl ⟨rfl, j87⟩)
      · rw [if_neg (by rw [e]; decide)]
        obtain ⟨v97, e97, p97⟩ := jls_p j87
        have es : (v97 - (1 : Int32)).toInt = p := by rw [jsub (by omega) (by omega), eo, p97]; omega
        refine jok_r e97 (jok_b (L_deep ta0 j87) (fun h102 w102 => ?_))
        rw [es] at w102
        obtain ⟨C, w⟩ := jls_w w102
        rw [t_cv w ta0 rfl]
        have hst : jst (15 : Int32) (t + 1) = some (t + 1) := by
          unfold jst
          rw [if_neg (by decide), if_pos (by decide), if_pos (by omega)]
        refine jok_b (T_X12_emits hu ta0 (by omega) hst w102) (fun h109 w109 => ?_)
        exact jok_s (Or.inr ⟨rfl, jls_lb w109 (by omega) (by omega)⟩)
  · rw [if_neg (by rw [e]; decide)]
    obtain ⟨v10, e10, p10⟩ := jls_p j3
    refine jok_r e10 (jok_eq (fun _ _ => jok_s (Or.inl ⟨rfl, jls_f j3⟩)) (fun c => ?_))
    have ea : (v10 + (1 : Int32)).toInt = p + 1 := by rw [jadd (by omega) (by omega), eo, p10]
    refine jok_r e10 (jok_b (L_deep ta0 j3) (fun h27 w27 => ?_))
    rw [ea] at w27
    obtain ⟨C, w⟩ := jls_w w27
    rw [t_cv w ta0 rfl]
    refine jok_b (hg0 (by omega) t (d + 1) (b + 1) h27 (by omega) (by omega) w27) (fun q31 w31 => ?_)
    rcases w31 with ⟨e, j31⟩ | ⟨e, j31⟩
    · rw [if_pos e]
      exact jok_s (Or.inl ⟨rfl, j31⟩)
    · rw [if_neg (by rw [e]; decide)]
      obtain ⟨v41, e41, p41⟩ := jls_p j31
      have es : (v41 - (1 : Int32)).toInt = p := by rw [jsub (by omega) (by omega), eo, p41]; omega
      refine jok_r e41 (jok_b (L_deep ta0 j31) (fun h46 w46 => ?_))
      rw [es] at w46
      obtain ⟨C, w⟩ := jls_w w46
      rw [t_cv w ta0 rfl]
      refine jok_b (L_sign hn ta0 w46) (fun q52 w52 => ?_)
      rcases w52 with ⟨e, j52⟩ | ⟨e, j52⟩
      · rw [if_pos (Or.inl e)]
        exact jok_s (Or.inl ⟨e, jls_f j52⟩)
      · rw [if_pos (Or.inr e)]
        exact jok_s (Or.inr ⟨e, jls_lb j52 (by omega) (by omega)⟩)
end
section
theorem L_readAllOf_9 {g : jGh} {Γ : Nat → Option Nat} {n a0 : Nat} {C0 : Nat → Int32} {s t : Nat} {d p : Int} {g0 g1 g2 : Nat → jH → Option (Int32 × jH)} (hn : 6000 ≤ n) (hu : ∀ a b c, 9 ≤ c → Γ a = some c → Γ b = some c → a = b) (ta0 : Γ a0 = some 20) (hg : jgq g Γ a0 C0 s p g1) (hd : 1 ≤ d) : ∀ (k : Nat) {b : Int} {h : jH}, 0 ≤ b → jls g Γ a0 C0 s (t + 1) d b p h → 400 - b < k → jok (F_X12_readAllOf_9 n g0 g1 g2 k a0 h) (fun q => jrr g Γ a0 C0 s (t + 1) d b p q)
  | 0, b, h, hb, a, hk => by
    have := jls_b4 ta0 a
    omega
  | k + 1, b, h, hb, a, hk => by
    show jok (F_X12_readAllOf_9_b n g0 g1 g2 (F_X12_readAllOf_9 n g0 g1 g2 k) a0 h) _
    unfold F_X12_readAllOf_9_b
    obtain ⟨C, w⟩ := jls_w a
    rw [t_cv w ta0 rfl]
    refine jok_b (L_passes hn ta0 (by decide) (by decide +kernel) a) (fun q12 w12 => ?_)
    rcases w12 with ⟨e, j⟩ | ⟨e, j⟩
    · rw [if_pos e]
      exact jok_s (Or.inr ⟨rfl, j⟩)
    · rw [if_neg (by rw [e]; decide)]
      obtain ⟨C, w⟩ := jls_w j
      rw [t_cv w ta0 rfl]
      refine jok_b (hg (t + 1) (d + 1) (b + 1) q12.2 (by omega) (by omega) j) (fun q19 w19 => ?_)
      rcases w19 with ⟨e, j⟩ | ⟨e, j⟩
      · rw [if_pos e]
        exact jok_s (Or.inl ⟨rfl, j⟩)
      · rw [if_neg (by rw [e]; decide)]
        obtain ⟨C, w⟩ := jls_w j
        rw [t_cv w ta0 rfl]
        refine jok_b (T_X12_emits hu ta0 (by omega) (jst_hi (by decide) (by decide)) j) (fun h31 w31 => ?_)
        exact jok_w (L_readAllOf_9 hn hu ta0 hg hd k (by omega) w31 (by omega)) (fun q wq => jrr_lb wq (by omega) (by omega))
theorem L_readAllOf {g : jGh} {Γ : Nat → Option Nat} {n a0 : Nat} {C0 : Nat → Int32} {s : Nat} {p : Int} {g0 g1 g2 : Nat → jH → Option (Int32 × jH)} (hn : 6000 ≤ n) (hu : ∀ a b c, 9 ≤ c → Γ a = some c → Γ b = some c → a = b) (ta0 : Γ a0 = some 20) (hg : jgq g Γ a0 C0 s p g1) : jgq g Γ a0 C0 s p (F_X12_readAllOf n g0 g1 g2) := by
  intro t d b h hd hb a
  unfold F_X12_readAllOf
  obtain ⟨C, w⟩ := jls_w a
  rw [t_cv w ta0 rfl]
  refine jok_b (hg t d b h hd hb a) (fun q1 w1 => ?_)
  rcases w1 with ⟨e, j⟩ | ⟨e, j⟩
  · rw [if_pos e]
    exact jok_s (Or.inl ⟨rfl, j⟩)
  · rw [if_neg (by rw [e]; decide)]
    exact L_readAllOf_9 hn hu ta0 hg hd n hb j (by omega)
theorem L_readCond_9 {g : jGh} {Γ : Nat → Option Nat} {n a0 : Nat} {C0 : Nat → Int32} {s t : Nat} {d p : Int} {g0 g1 g2 : Nat → jH → Option (Int32 × jH)} (hn : 6000 ≤ n) (hu : ∀ a b c, 9 ≤ c → Γ a = some c → Γ b = some c → a = b) (ta0 : Γ a0 = some 20) (hg : jgq g Γ a0 C0 s p g2) (hd : 1 ≤ d) : ∀ (k : Nat) {b : Int} {h : jH}, 0 ≤ b → jls g Γ a0 C0 s (t + 1) d b p h → 400 - b < k → jok (F_X12_readCond_9 n g0 g1 g2 k a0 h) (fun q => jrr g Γ a0 C0 s (t + 1) d b p q)
  | 0, b, h, hb, a, hk => by
    have := jls_b4 ta0 a
    omega
  | k + 1, b, h, hb, a, hk => by
    show jok (F_X12_readCond_9_b n g0 g1 g2 (F_X12_readCond_9 n g0 g1 g2 k) a0 h) _
    unfold F_X12_readCond_9_b
    obtain ⟨C, w⟩ := jls_w a
    rw [t_cv w ta0 rfl]
    refine jok_b (L_passes hn ta0 (by decide) (by decide +kernel) a) (fun q12 w12 => ?_)
    rcases w12 with ⟨e, j⟩ | ⟨e, j⟩
    · rw [if_pos e]
      exact jok_s (Or.inr ⟨rfl, j⟩)
    · rw [if_neg (by rw [e]; decide)]
      obtain ⟨C, w⟩ := jls_w j
      rw [t_cv w ta0 rfl]
      refine jok_b (hg (t + 1) (d + 1) (b + 1) q12.2 (by omega) (by omega) j) (fun q19 w19 => ?_)
      rcases w19 with ⟨e, j⟩ | ⟨e, j⟩
      · rw [if_pos e]
        exact jok_s (Or.inl ⟨rfl, j⟩)
      · rw [if_neg (by rw [e]; decide)]
        obtain ⟨C, w⟩ := jls_w j
        rw [t_cv w ta0 rfl]
        refine jok_b (T_X12_emits hu ta0 (by omega) (jst_hi (by decide) (by decide)) j) (fun h31 w31 => ?_)
        exact jok_w (L_readCond_9 hn hu ta0 hg hd k (by omega) w31 (by omega)) (fun q wq => jrr_lb wq (by omega) (by omega))
theorem L_readCond {g : jGh} {Γ : Nat → Option Nat} {n a0 : Nat} {C0 : Nat → Int32} {s : Nat} {p : Int} {g0 g1 g2 : Nat → jH → Option (Int32 × jH)} (hn : 6000 ≤ n) (hu : ∀ a b c, 9 ≤ c → Γ a = some c → Γ b = some c → a = b) (ta0 : Γ a0 = some 20) (hg : jgq g Γ a0 C0 s p g2) : jgq g Γ a0 C0 s p (F_X12_readCond n g0 g1 g2) := by
  intro t d b h hd hb a
  unfold F_X12_readCond
  obtain ⟨C, w⟩ := jls_w a
  rw [t_cv w ta0 rfl]
  refine jok_b (hg t d b h hd hb a) (fun q1 w1 => ?_)
  rcases w1 with ⟨e, j⟩ | ⟨e, j⟩
  · rw [if_pos e]
    exact jok_s (Or.inl ⟨rfl, j⟩)
  · rw [if_neg (by rw [e]; decide)]
    exact L_readCond_9 hn hu ta0 hg hd n hb j (by omega)
theorem L_MC {g : jGh} {Γ : Nat → Option Nat} {n a0 : Nat} {C0 : Nat → Int32} {s : Nat} (hn : 6000 ≤ n) (hu : ∀ a b c, 9 ≤ c → Γ a = some c → Γ b = some c → a = b) (ta0 : Γ a0 = some 20) : ∀ (k : Nat) {p : Int}, 0 ≤ p → p ≤ 6 → (3 * (6 - p) + 3 ≤ k → jgq g Γ a0 C0 s p (FG_MC n k 0)) ∧ (3 * (6 - p) + 1 ≤ k → jgq g Γ a0 C0 s p (FG_MC n k 1)) ∧ (3 * (6 - p) + 2 ≤ k → jgq g Γ a0 C0 s p (FG_MC n k 2))
  | 0, p, hp0, hp6 => ⟨fun h => by omega, fun h => by omega, fun h => by omega⟩
  | k + 1, p, hp0, hp6 => by
    refine ⟨fun hk => ?_, fun hk => ?_, fun hk => ?_⟩
    · exact L_readCond (g0 := FG_MC n k 0) (g1 := FG_MC n k 1) (g2 := FG_MC n k 2) hn hu ta0 ((L_MC hn hu ta0 k hp0 hp6).2.2 (by omega))
    · refine L_readAtom (g0 := FG_MC n k 0) (g1 := FG_MC n k 1) (g2 := FG_MC n k 2) hn hu ta0 hp0 hp6 (fun h5 => ?_) (fun h5 => ?_)
      · exact (L_MC hn hu ta0 k (p := p + 1) (by omega) (by omega)).1 (by omega)
      · exact (L_MC hn hu ta0 k (p := p + 1) (by omega) (by omega)).2.1 (by omega)
    · exact L_readAllOf (g0 := FG_MC n k 0) (g1 := FG_MC n k 1) (g2 := FG_MC n k 2) hn hu ta0 ((L_MC hn hu ta0 k hp0 hp6).2.1 (by omega))
end
section
/-- while a law is read: m lines stand, each with heights -/
def jln (g : jGh) (Γ : Nat → Option Nat) (a0 : Nat) (C0 : Nat → Int32) (m : Nat) (b : Int) (h : jH) : Prop := ∃ C : Nat → Int32, (∀ k, k < 1284 → C k = C0 k) ∧ jW (jKd (g.1, g.2.1, g.2.2.1, C, g.2.2.2.2)) Γ h ∧ (∃ st u : Int32, jgI 10 h a0 16 = some st ∧ jgI 10 h a0 10 = some u ∧ 0 ≤ st.toInt ∧ st.toInt ≤ u.toInt ∧ b ≤ u.toInt ∧ ∀ i : Nat, i < m → 0 ≤ (C (1287 + 4 * i)).toInt ∧ (C (1287 + 4 * i)).toInt ≤ (C (1288 + 4 * i)).toInt ∧ (C (1288 + 4 * i)).toInt ≤ st.toInt ∧ (jhgt (jdr C) (C (1287 + 4 * i)).toInt.toNat ((C (1288 + 4 * i)).toInt.toNat - (C (1287 + 4 * i)).toInt.toNat)).isSome = true)
def jlg (g : jGh) (Γ : Nat → Option Nat) (C0 : Nat → Int32) (h : jH) : Prop := ∃ C : Nat → Int32, (∀ k, k < 1284 → C k = C0 k) ∧ jW (jKd (g.1, g.2.1, g.2.2.1, C, g.2.2.2.2)) Γ h
theorem jlg_f {g : jGh} {Γ : Nat → Option Nat} {C0 C : Nat → Int32} {s : Nat} {h : jH} (hC : ∀ k, k < 1284 → C k = C0 k) (a : jlf g Γ C s h) : jlg g Γ C0 h := by
  obtain ⟨C1, a1, w⟩ := a
  exact ⟨C1, fun k hk => (a1 k (by omega)).trans (hC k hk), w⟩
/-- a place of the world from 435 on holds what the ghost says -/
theorem t_alC {g : jGh} {Γ : Nat → Option Nat} {h : jH} {a : Nat} {i : Int32} (w : jW (jKd g) Γ h) (ha : Γ a = some 21) (h0 : 435 ≤ i.toInt) (h1 : i.toInt < 2133) : jok (jal 0 h a i) (fun x => x = g.2.2.2.1 i.toInt.toNat) := by
  refine jok_w (t_al w ha rfl (by omega) (by omega)) (fun x hx => ?_)
  obtain ⟨-, hx⟩ := hx
  rcases hx with hx | hx
  · omega
  · exact hx
theorem upd_ne {f : Nat → Int32} {i k : Nat} {x : Int32} (h : k ≠ i) : upd f i x k = f k := by
  simp only [upd]
  rw [if_neg h]
theorem upd_eq {f : Nat → Int32} {i : Nat} {x : Int32} : upd f i x i = x := by
  simp only [upd, if_pos]
/-- the line's end is noted -/
theorem L_lineEnd {g : jGh} {Γ : Nat → Option Nat} {a0 : Nat} {C0 C : Nat → Int32} {m : Nat} {b : Int} {x2 s0 : Int32} {t : Nat} {d b2 p2 : Int} {h : jH} (hu : ∀ a b c, 9 ≤ c → Γ a = some c → Γ b = some c → a = b) (ta0 : Γ a0 = some 20) (hm : m < 12) (hx : x2.toInt = 1285 + 4 * (m : Int)) (hC : ∀ k, k < 1284 → C k = C0 k) (hs0 : 0 ≤ s0.toInt) (hs : C (1287 + 4 * m) = s0) (hl : ∀ i : Nat, i < m → 0 ≤ (C (1287 + 4 * i)).toInt ∧ (C (1287 + 4 * i)).toInt ≤ (C (1288 + 4 * i)).toInt ∧ (C (1288 + 4 * i)).toInt ≤ s0.toInt ∧ (jhgt (jdr C) (C (1287 + 4 * i)).toInt.toNat ((C (1288 + 4 * i)).toInt.toNat - (C (1287 + 4 * i)).toInt.toNat)).isSome = true) (hd : 0 ≤ d) (hb : b ≤ b2) (a : jls g Γ a0 C s0.toInt.toNat t d b2 p2 h) : jok ((jgR 10 h a0 1).bind fun p129 => (jgI 10 h a0 16).bind fun v136 => (jas 0 h p129 (x2 + (3 : Int32)) v136).bind fun h139 => some ((1 : Int32), h139)) (fun q => (q.1 = 0 ∧ jlg g Γ C0 q.2) ∨ (q.1 = 1 ∧ jln g Γ a0 C0 (m + 1) b q.2)) := by
  obtain ⟨C1, a1, w, st, u, dp, e1, e2, e3, e4, e5, e6, e8, e7⟩ := a
  have e3' : (3 : Int32).toInt = 3 := rfl
  have ex : (x2 + (3 : Int32)).toInt = 1288 + 4 * (m : Int) := by rw [jadd (by omega) (by omega), hx, e3']; omega
  have exn : (x2 + (3 : Int32)).toInt.toNat = 1288 + 4 * m := by omega
  refine jok_b (t_gR w ta0 rfl rfl) (fun p t => ?_)
  refine jok_r e1 (jok_b (t_asC w hu t (by omega) (by omega)) (fun h139 w139 => ?_))
  obtain ⟨w139, f139⟩ := w139
  rw [exn] at w139
  refine jok_s (Or.inr ⟨rfl, _, ?_, w139, st, u, fI (f139 10 a0 16) e1, fI (f139 10 a0 10) e2, by omega, by omega, by omega, fun i hi => ?_⟩)
  · intro k hk
    show upd C1 (1288 + 4 * m) st k = C0 k
    rw [upd_ne (by omega), a1 k (by omega), hC k hk]
  · show 0 ≤ (upd C1 (1288 + 4 * m) st (1287 + 4 * i)).toInt ∧ (upd C1 (1288 + 4 * m) st (1287 + 4 * i)).toInt ≤ (upd C1 (1288 + 4 * m) st (1288 + 4 * i)).toInt ∧ (upd C1 (1288 + 4 * m) st (1288 + 4 * i)).toInt ≤ st.toInt ∧ (jhgt (jdr (upd C1 (1288 + 4 * m) st)) (upd C1 (1288 + 4 * m) st (1287 + 4 * i)).toInt.toNat ((upd C1 (1288 + 4 * m) st (1288 + 4 * i)).toInt.toNat - (upd C1 (1288 + 4 * m) st (1287 + 4 * i)).toInt.toNat)).isSome = true
    have hj : ∀ s l : Nat, jhgt (jdr (upd C1 (1288 + 4 * m) st)) s l = jhgt (jdr C1) s l := fun s l => jhgt_eq l (fun k _ _ => by
      show upd C1 (1288 + 4 * m) st (484 + 2 * k + 849) = C1 (484 + 2 * k + 849)
      rw [upd_ne (by omega)])
    rw [hj]
    by_cases q : i = m
    · subst q
      rw [upd_ne (by omega), upd_eq, a1 (1287 + 4 * i) (by omega), hs]
      refine ⟨hs0, by omega, Int.le_refl _, ?_⟩
      rw [e7]
      rfl
    · obtain ⟨z1, z2, z3, z4⟩ := hl i (by omega)
      rw [upd_ne (by omega), upd_ne (by omega), a1 (1287 + 4 * i) (by omega), a1 (1288 + 4 * i) (by omega)]
      refine ⟨z1, z2, by omega, ?_⟩
      rw [jhgt_eq (d := jdr C) _ (fun k c1 c2 => by
        show C1 (484 + 2 * k + 849) = C (484 + 2 * k + 849)
        exact a1 _ (by omega))]
      exact z4
end
