/-! the reference reads a pole -/
theorem jneg1 : ¬ (0 : Int32) ≤ -1 := by decide
/-- a write to the world below 435, at a place that is not bound -/
theorem t_asW {g : jGh} {Γ : Nat → Option Nat} {h : jH} {a : Nat} {i x : Int32} (w : jW (jKd g) Γ h) (ha : Γ a = some 21) (h0 : 1 ≤ i.toInt) (h9 : i.toInt ≠ 9) (h1 : i.toInt < 435) (h8 : i.toInt < 11 ∨ 75 ≤ i.toInt ∨ (i.toInt - 11) % 8 ≠ 0) : jok (jas 0 h a i x) (fun h1 => jW (jKd g) Γ h1 ∧ jfa h h1) :=
  t_as w ha rfl (by omega) (by omega) (show jRw g i.toInt.toNat x from ⟨⟨Or.inl (by omega), Or.inl (by omega), by omega⟩, Or.inl (by omega)⟩) (fun q => by cases q)
theorem j01s {g : jGh} {Γ : Nat → Option Nat} {h : jH} (w : jW (jKd g) Γ h) (c : Prop) [Decidable c] : jok (if c then some ((0 : Int32), h) else some ((1 : Int32), h)) (fun q => jW (jKd g) Γ q.2 ∧ (q.1 = 0 ∨ q.1 = 1)) :=
  jok_if (fun _ => jok_s ⟨w, Or.inl rfl⟩) (fun _ => jok_s ⟨w, Or.inr rfl⟩)
theorem S_X12_readNumber {g : jGh} {Γ : Nat → Option Nat} {n a0 : Nat} {x1 x2 x3 : Int32} {h : jH} (hn : 6000 ≤ n) (w : jW (jKd g) Γ h) (ta0 : Γ a0 = some 20) (h0 : 1 ≤ x1.toInt) (h1 : x1.toInt ≤ 8) : jok (F_X12_readNumber n a0 x1 x2 x3 h) (fun q => jW (jKd g) Γ q.2 ∧ (q.1 = 0 ∨ q.1 = 1)) := by
  unfold F_X12_readNumber
  rw [t_cv w ta0 rfl]
  refine jok_b (S_X12_number hn w ta0) (fun q3 w3 => ?_)
  obtain ⟨⟨w3, -⟩, -⟩ := w3
  refine jok_b (t_gR w3 ta0 rfl rfl) (fun p9 t9 => ?_)
  refine jok_if (fun _ => ?_) (fun _ => ?_)
  · refine jok_b (t_asW w3 t9 h0 (by omega) (by omega) (by omega)) (fun h29 w29 => ?_)
    exact j01s w29.1 _
  · refine jok_b (t_gR w3 ta0 rfl rfl) (fun p19 t19 => ?_)
    refine jok_b (t_al w3 t19 rfl (by omega) (by omega)) (fun v23 _ => ?_)
    refine jok_b (t_asW w3 t9 h0 (by omega) (by omega) (by omega)) (fun h29 w29 => ?_)
    exact j01s w29.1 _
theorem S_X12_readRing_171 {g : jGh} {Γ : Nat → Option Nat} {n a0 p : Nat} {x1 x6 x7 s1 s2 : Int32} {h : jH} (hn : 6000 ≤ n) (hg : jgok g) (w : jW (jKd g) Γ h) (ta0 : Γ a0 = some 20) (tp : Γ p = some 21) (l1 : 0 ≤ x1.toInt) (u1 : x1.toInt ≤ 7) (ls : s1.toInt = 11 + 8 * x1.toInt + 3) : jok (F_X12_readRing_171 n a0 x1 x6 x7 p s1 s2 h) (fun q => jW (jKd g) Γ q.2 ∧ (q.1 = 0 ∨ q.1 = 1)) := by
  have e4 : (4 : Int32).toInt = 4 := rfl
  have e5 : (5 : Int32).toInt = 5 := rfl
  unfold F_X12_readRing_171
  refine jok_b (t_asW w tp (by omega) (by omega) (by omega) (by omega)) (fun h171 w171 => ?_)
  obtain ⟨w171, -⟩ := w171
  refine jok_b (t_gR w171 ta0 rfl rfl) (fun p173 t173 => ?_)
  refine jok_b (S_X12_at hn hg w171 l1 (by omega) (by omega) (by omega)) (fun v178 l178 => ?_)
  refine jok_b (t_asW w171 t173 (by omega) (by omega) (by omega) (by omega)) (fun h183 w183 => ?_)
  obtain ⟨w183, -⟩ := w183
  refine jok_b (t_gR w183 ta0 rfl rfl) (fun p185 t185 => ?_)
  refine jok_b (S_X12_at hn hg w183 l1 (by omega) (by omega) (by omega)) (fun v190 l190 => ?_)
  refine jok_b (t_asW w183 t185 (by omega) (by omega) (by omega) (by omega)) (fun h195 w195 => ?_)
  exact jok_s ⟨w195.1, Or.inr rfl⟩
theorem S_X12_readRing_151 {g : jGh} {Γ : Nat → Option Nat} {n a0 p : Nat} {x1 x5 x6 x7 s1 s2 : Int32} {h : jH} (hn : 6000 ≤ n) (hg : jgok g) (w : jW (jKd g) Γ h) (ta0 : Γ a0 = some 20) (tp : Γ p = some 21) (l1 : 0 ≤ x1.toInt) (u1 : x1.toInt ≤ 7) (ls : s1.toInt = 11 + 8 * x1.toInt + 2) : jok (F_X12_readRing_151 n a0 x1 x5 x6 x7 p s1 s2 h) (fun q => jW (jKd g) Γ q.2 ∧ (q.1 = 0 ∨ q.1 = 1)) := by
  have e3 : (3 : Int32).toInt = 3 := rfl
  unfold F_X12_readRing_151
  refine jok_b (t_asW w tp (by omega) (by omega) (by omega) (by omega)) (fun h151 w151 => ?_)
  obtain ⟨w151, -⟩ := w151
  refine jok_b (t_gR w151 ta0 rfl rfl) (fun p153 t153 => ?_)
  refine jok_b (S_X12_at hn hg w151 l1 (by omega) (by omega) (by omega)) (fun v158 l158 => ?_)
  exact jok_if (fun _ => S_X12_readRing_171 hn hg w151 ta0 t153 l1 u1 (by omega)) (fun _ => S_X12_readRing_171 hn hg w151 ta0 t153 l1 u1 (by omega))
theorem S_X12_readRing_117 {g : jGh} {Γ : Nat → Option Nat} {n a0 : Nat} {x1 x2 x3 x4 x5 x6 s0 : Int32} {h : jH} (hn : 6000 ≤ n) (hg : jgok g) (w : jW (jKd g) Γ h) (ta0 : Γ a0 = some 20) (l1 : 0 ≤ x1.toInt) (u1 : x1.toInt ≤ 7) (l2 : 0 ≤ x2.toInt) (u2 : x2.toInt ≤ 31) (hr : ∀ r, F_X12_rings n a0 h = some r → 0 ≤ r.toInt ∧ r.toInt ≤ 7) : jok (F_X12_readRing_117 n a0 x1 x2 x3 x4 x5 x6 s0 h) (fun q => jW (jKd g) Γ q.2 ∧ (q.1 = 0 ∨ q.1 = 1)) := by
  have e2 : (2 : Int32).toInt = 2 := rfl
  unfold F_X12_readRing_117
  refine jok_if (fun _ => ?_) (fun _ => jok_s ⟨w, Or.inl rfl⟩)
  rw [t_cv w ta0 rfl]
  refine jok_b (S_X12_hangs hn hg w ta0 l2 u2 hr) (fun h129 w129 => ?_)
  refine jok_b (t_gR w129 ta0 rfl rfl) (fun p133 t133 => ?_)
  refine jok_b (S_X12_at hn hg w129 l1 (by omega) (by omega) (by omega)) (fun v138 l138 => ?_)
  exact jok_if (fun _ => S_X12_readRing_151 hn hg w129 ta0 t133 l1 u1 (by omega)) (fun _ => S_X12_readRing_151 hn hg w129 ta0 t133 l1 u1 (by omega))
theorem S_X12_readRing_88 {g : jGh} {Γ : Nat → Option Nat} {n a0 : Nat} {x1 x2 x3 x4 x5 s0 : Int32} {h : jH} (hn : 6000 ≤ n) (hg : jgok g) (w : jW (jKd g) Γ h) (ta0 : Γ a0 = some 20) (l1 : 0 ≤ x1.toInt) (u1 : x1.toInt ≤ 7) (l2 : 0 ≤ x2.toInt) (u2 : x2.toInt ≤ 31) (hr : ∀ r, F_X12_rings n a0 h = some r → 0 ≤ r.toInt ∧ r.toInt ≤ 7) : jok (F_X12_readRing_88 n a0 x1 x2 x3 x4 x5 s0 h) (fun q => jW (jKd g) Γ q.2 ∧ (q.1 = 0 ∨ q.1 = 1)) := by
  unfold F_X12_readRing_88
  refine jok_if (fun _ => ?_) (fun _ => jok_s ⟨w, Or.inl rfl⟩)
  rw [t_cv w ta0 rfl]
  refine jok_b (S_X12_passes hn w ta0 (by decide)) (fun q100 w100 => ?_)
  refine jok_if (fun _ => S_X12_readRing_117 hn hg w100.1 ta0 l1 u1 l2 u2 (by rw [w100.2]; exact hr)) (fun _ => ?_)
  rw [t_cv w100.1 ta0 rfl]
  refine jok_b (S_X12_number hn w100.1 ta0) (fun q110 w110 => ?_)
  exact S_X12_readRing_117 hn hg w110.1.1 ta0 l1 u1 l2 u2 (by rw [w110.1.2, w100.2]; exact hr)
theorem S_X12_readRing_45 {g : jGh} {Γ : Nat → Option Nat} {n a0 : Nat} {x1 x2 s0 : Int32} {h : jH} (hn : 6000 ≤ n) (hg : jgok g) (w : jW (jKd g) Γ h) (ta0 : Γ a0 = some 20) (l1 : 0 ≤ x1.toInt) (u1 : x1.toInt ≤ 7) (l2 : (0 : Int32) ≤ s0 → 0 ≤ x2.toInt ∧ x2.toInt ≤ 31) (hr : ∀ r, F_X12_rings n a0 h = some r → 0 ≤ r.toInt ∧ r.toInt ≤ 7) : jok (F_X12_readRing_45 n a0 x1 x2 s0 h) (fun q => jW (jKd g) Γ q.2 ∧ (q.1 = 0 ∨ q.1 = 1)) := by
  unfold F_X12_readRing_45
  refine jok_if (fun c => ?_) (fun _ => jok_s ⟨w, Or.inl rfl⟩)
  obtain ⟨l2, u2⟩ := l2 c
  rw [t_cv w ta0 rfl]
  refine jok_b (S_X12_passes hn w ta0 (by decide)) (fun q55 w55 => ?_)
  rw [t_cv w55.1 ta0 rfl]
  refine jok_b (S_X12_passes hn w55.1 ta0 (by decide)) (fun q63 w63 => ?_)
  rw [t_cv w63.1 ta0 rfl]
  refine jok_b (S_X12_passes hn w63.1 ta0 (by decide)) (fun q71 w71 => ?_)
  refine jok_if (fun _ => S_X12_readRing_88 hn hg w71.1 ta0 l1 u1 l2 u2 (by rw [w71.2, w63.2, w55.2]; exact hr)) (fun _ => ?_)
  rw [t_cv w71.1 ta0 rfl]
  refine jok_b (S_X12_number hn w71.1 ta0) (fun q81 w81 => ?_)
  exact S_X12_readRing_88 hn hg w81.1.1 ta0 l1 u1 l2 u2 (by rw [w81.1.2, w71.2, w63.2, w55.2]; exact hr)
theorem S_X12_readRing {g : jGh} {Γ : Nat → Option Nat} {n a0 : Nat} {h : jH} (hn : 6000 ≤ n) (hg : jgok g) (w : jW (jKd g) Γ h) (ta0 : Γ a0 = some 20) : jok (F_X12_readRing n a0 h) (fun q => jW (jKd g) Γ q.2 ∧ (q.1 = 0 ∨ q.1 = 1)) := by
  have e8 : (8 : Int32).toInt = 8 := rfl
  have e0 : (0 : Int32).toInt = 0 := rfl
  have em : (-1 : Int32).toInt = -1 := rfl
  unfold F_X12_readRing
  rw [t_cv w ta0 rfl]
  refine jok_b2 (S_X12_rings hn hg w ta0) (fun v1 q1 l1 => ?_)
  refine jok_eq (fun _ _ => jok_s ⟨w, Or.inl rfl⟩) (fun c => ?_)
  have hr : ∀ r, F_X12_rings n a0 h = some r → 0 ≤ r.toInt ∧ r.toInt ≤ 7 := fun r er => by
    cases q1.symm.trans er
    omega
  rw [t_cv w ta0 rfl]
  refine jok_b (S_X12_leastPlace hn hg w ta0) (fun v17 l17 => ?_)
  rw [t_cv w ta0 rfl]
  refine jok_b (S_X12_mostPlace hn hg w ta0) (fun v21 l21 => ?_)
  rw [t_cv w ta0 rfl]
  refine jok_b (S_X12_after hn w ta0 (by decide)) (fun q24 w24 => ?_)
  obtain ⟨w24, l24⟩ := w24
  refine jok_le (fun d => ?_) (fun d => ?_)
  · have hb : 0 ≤ q24.1.toInt ∧ q24.1.toInt ≤ 31 := by
      rcases l24 with z | z
      · rw [z, e0, em] at d
        omega
      · omega
    rw [t_cv w24.1 ta0 rfl]
    refine jok_b (S_X12_after hn w24.1 ta0 (by decide)) (fun q42 w42 => ?_)
    exact S_X12_readRing_45 hn hg w42.1.1 ta0 l1.1 (by omega) (fun _ => hb) (by rw [w42.1.2, w24.2]; exact hr)
  · exact S_X12_readRing_45 hn hg w24.1 ta0 l1.1 (by omega) (fun q => absurd q jneg1) (by rw [w24.2]; exact hr)
theorem S_X12_readCaught {g : jGh} {Γ : Nat → Option Nat} {n a0 : Nat} {h : jH} (hn : 6000 ≤ n) (hg : jgok g) (w : jW (jKd g) Γ h) (ta0 : Γ a0 = some 20) : jok (F_X12_readCaught n a0 h) (fun q => jW (jKd g) Γ q.2 ∧ (q.1 = 0 ∨ q.1 = 1)) := by
  have e0 : (0 : Int32).toInt = 0 := rfl
  have e1 : (1 : Int32).toInt = 1 := rfl
  have e7 : (7 : Int32).toInt = 7 := rfl
  have em : (-1 : Int32).toInt = -1 := rfl
  unfold F_X12_readCaught
  rw [t_cv w ta0 rfl]
  refine jok_b (S_X12_lastRing hn hg w ta0) (fun v3 l3 => ?_)
  have es : (v3 - (1 : Int32)).toInt = v3.toInt - 1 := by rw [jsub (by omega) (by omega), e1]
  rw [t_cv w ta0 rfl]
  refine jok_b (S_X12_number hn w ta0) (fun q8 w8 => ?_)
  obtain ⟨⟨w8, -⟩, l8⟩ := w8
  refine jok_le (fun d => ?_) (fun d => jok_s ⟨w8, Or.inl rfl⟩)
  have hb : 0 ≤ q8.1.toInt ∧ q8.1.toInt ≤ 6 := by
    rcases l8 with z | z
    · rw [z, e0, em] at d
      omega
    · omega
  refine jok_b (t_gR w8 ta0 rfl rfl) (fun p19 t19 => ?_)
  refine jok_b (S_X12_at hn hg w8 hb.1 (by omega) (by omega) (by omega)) (fun v25 l25 => ?_)
  refine jok_b (t_asW w8 t19 (by omega) (by omega) (by omega) (by omega)) (fun h29 w29 => ?_)
  exact jok_s ⟨w29.1, Or.inr rfl⟩
theorem S_X12_readChair {g : jGh} {Γ : Nat → Option Nat} {n a0 : Nat} {h : jH} (hn : 6000 ≤ n) (w : jW (jKd g) Γ h) (ta0 : Γ a0 = some 20) : jok (F_X12_readChair n a0 h) (fun q => jW (jKd g) Γ q.2 ∧ (q.1 = 0 ∨ q.1 = 1)) := by
  have e7 : (7 : Int32).toInt = 7 := rfl
  unfold F_X12_readChair
  rw [t_cv w ta0 rfl]
  refine jok_b (S_X12_number hn w ta0) (fun q4 w4 => ?_)
  obtain ⟨⟨w4, -⟩, -⟩ := w4
  refine jok_if (fun d => ?_) (fun d => jok_s ⟨w4, Or.inl rfl⟩)
  refine jok_b (t_gR w4 ta0 rfl rfl) (fun p15 t15 => ?_)
  refine jok_b (t_al w4 t15 rfl (by omega) (by omega)) (fun v21 _ => ?_)
  refine jok_b (t_asW w4 t15 (by omega) (by omega) (by omega) (by omega)) (fun h26 w26 => ?_)
  exact jok_s ⟨w26.1, Or.inr rfl⟩
theorem j01p {g : jGh} {Γ : Nat → Option Nat} {o : Option (Int32 × jH)} (h : jok o (fun q => jW (jKd g) Γ q.2 ∧ (q.1 = 0 ∨ q.1 = 1))) : jok (o.bind fun q => if q.1 = 0 ∨ q.1 = 1 then some (q.1, q.2) else none) (fun q => jW (jKd g) Γ q.2 ∧ (q.1 = 0 ∨ q.1 = 1)) :=
  jok_b h (fun q w => by rw [if_pos w.2]; exact jok_s w)
theorem S_X12_readPoleLine {g : jGh} {Γ : Nat → Option Nat} {n a0 : Nat} {h : jH} (hn : 6000 ≤ n) (hg : jgok g) (w : jW (jKd g) Γ h) (ta0 : Γ a0 = some 20) : jok (F_X12_readPoleLine n a0 h) (fun q => jW (jKd g) Γ q.2 ∧ (q.1 = 0 ∨ q.1 = 1)) := by
  unfold F_X12_readPoleLine
  rw [t_cv w ta0 rfl]
  refine jok_b (S_X12_isWord hn w ta0 (by decide)) (fun v3 _ => jok_if (fun _ => ?_) (fun _ => by rw [t_cv w ta0 rfl]; exact j01p (S_X12_readRing hn hg w ta0)))
  rw [t_cv w ta0 rfl]
  refine jok_b (S_X12_isWord hn w ta0 (by decide)) (fun v17 _ => jok_if (fun _ => ?_) (fun _ => by rw [t_cv w ta0 rfl]; exact j01p (S_X12_readCaught hn hg w ta0)))
  rw [t_cv w ta0 rfl]
  refine jok_b (S_X12_isWord hn w ta0 (by decide)) (fun v31 _ => jok_if (fun _ => ?_) (fun _ => by rw [t_cv w ta0 rfl]; exact j01p (S_X12_readChair hn w ta0)))
  rw [t_cv w ta0 rfl]
  refine jok_b (S_X12_isWord hn w ta0 (by decide)) (fun v45 _ => jok_if (fun _ => ?_) (fun _ => by rw [t_cv w ta0 rfl]; exact j01p (S_X12_readNumber hn w ta0 (by decide) (by decide))))
  rw [t_cv w ta0 rfl]
  refine jok_b (S_X12_isWord hn w ta0 (by decide)) (fun v63 _ => jok_if (fun _ => ?_) (fun _ => by rw [t_cv w ta0 rfl]; exact j01p (S_X12_readNumber hn w ta0 (by decide) (by decide))))
  rw [t_cv w ta0 rfl]
  refine jok_b (S_X12_isWord hn w ta0 (by decide)) (fun v82 _ => jok_if (fun _ => ?_) (fun _ => by rw [t_cv w ta0 rfl]; exact j01p (S_X12_readNumber hn w ta0 (by decide) (by decide))))
  rw [t_cv w ta0 rfl]
  refine jok_b (S_X12_isWord hn w ta0 (by decide)) (fun v100 _ => jok_if (fun _ => jok_s ⟨w, Or.inl rfl⟩) (fun _ => ?_))
  rw [t_cv w ta0 rfl]
  refine jok_b (S_X12_readNumber hn w ta0 (by decide) (by decide)) (fun q112 w112 => j01s w112.1 _)
