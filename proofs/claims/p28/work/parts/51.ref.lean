/-! sewing: the number of rings is not changed by what is remembered -/
theorem rings_as2 {n a0 p p1 t : Nat} {i x : Int32} {h h1 : jH} (ep : jgR 10 h a0 1 = some p1) (hne : p ≠ p1) (e : jas t h p i x = some h1) : F_X12_rings n a0 h1 = F_X12_rings n a0 h := by
  unfold F_X12_rings
  rw [jgR_as e, ep]
  show (jal 0 h1 p1 _).bind _ = (jal 0 h p1 _).bind _
  have e9 : jal 0 h1 p1 (0 : Int32) = jal 0 h p1 (0 : Int32) := by
    obtain ⟨N, f, e1, -, -, rfl⟩ := jas_o e
    unfold jal
    show (match (if p1 = p then some _ else h.2 p1) with | some (.inr (.inl x)) => if x.1 = 0 ∧ ¬ ((0 : Int32) < 0 ∨ x.2.1 ≤ (0 : Int32).toNatClampNeg) then some (x.2.2 (0 : Int32).toNatClampNeg) else none | _ => none) = _
    rw [if_neg (Ne.symm hne)]
    rfl
  rw [e9]
theorem Q_remembers_55 {n a0 p5 p1 : Nat} (hne : p5 ≠ p1) : ∀ (k : Nat) {x1 : Int32} {h q : jH}, F_X12_remembers_55 n k a0 x1 h = some q → jgR 10 h a0 5 = some p5 → jgR 10 h a0 1 = some p1 → F_X12_rings n a0 q = F_X12_rings n a0 h
  | 0, x1, h, q, e, e5, e1 => by cases e
  | k + 1, x1, h, q, e, e5, e1 => by
    have e : F_X12_remembers_55_b n (F_X12_remembers_55 n k) a0 x1 h = some q := e
    unfold F_X12_remembers_55_b at e
    split at e
    · cases e; rfl
    · obtain ⟨p63, q1, e⟩ := jbind e
      cases e5.symm.trans q1
      obtain ⟨v70, q2, e⟩ := jbind e
      obtain ⟨p79, q3, e⟩ := jbind e
      obtain ⟨v83, q4, e⟩ := jbind e
      obtain ⟨h84, q5, e⟩ := jbind e
      rw [Q_remembers_55 hne k e (by rw [jgR_as q5]; exact e5) (by rw [jgR_as q5]; exact e1)]
      exact rings_as2 e1 hne q5
theorem Q_remembers_11 {n a0 p5 p1 : Nat} (hne : p5 ≠ p1) : ∀ (k : Nat) {x1 : Int32} {h q : jH}, F_X12_remembers_11 n k a0 x1 h = some q → jgR 10 h a0 5 = some p5 → jgR 10 h a0 1 = some p1 → F_X12_rings n a0 q = F_X12_rings n a0 h
  | 0, x1, h, q, e, e5, e1 => by cases e
  | k + 1, x1, h, q, e, e5, e1 => by
    have e : F_X12_remembers_11_b n (F_X12_remembers_11 n k) a0 x1 h = some q := e
    unfold F_X12_remembers_11_b at e
    split at e
    · exact Q_remembers_55 hne n e e5 e1
    · obtain ⟨p19, q1, e⟩ := jbind e
      cases e5.symm.trans q1
      obtain ⟨p24, q2, e⟩ := jbind e
      obtain ⟨v32, q3, e⟩ := jbind e
      obtain ⟨h33, q5, e⟩ := jbind e
      rw [Q_remembers_11 hne k e (by rw [jgR_as q5]; exact e5) (by rw [jgR_as q5]; exact e1)]
      exact rings_as2 e1 hne q5
theorem rings_pf2 {n a0 k : Nat} {v : Value} {h h1 : jH} (hk : k ≠ 1) (e : jpf 10 h a0 k v = some h1) : F_X12_rings n a0 h1 = F_X12_rings n a0 h := by
  obtain ⟨fs, e1, -, rfl⟩ := jpf_o e
  unfold F_X12_rings
  have er : jgR 10 (jup h a0 (.inl (10, fs.set k v))) a0 1 = jgR 10 h a0 1 := by
    unfold jgR
    rw [jfr_up e1 10 a0 1 (Or.inr (Ne.symm hk))]
  rw [er]
  congr 1
  funext p
  have e9 : jal 0 (jup h a0 (.inl (10, fs.set k v))) p (0 : Int32) = jal 0 h p (0 : Int32) := by
    unfold jal
    show (match (if p = a0 then some _ else h.2 p) with | some (.inr (.inl x)) => if x.1 = 0 ∧ ¬ ((0 : Int32) < 0 ∨ x.2.1 ≤ (0 : Int32).toNatClampNeg) then some (x.2.2 (0 : Int32).toNatClampNeg) else none | _ => none) = _
    by_cases q : p = a0
    · subst q
      rw [if_pos rfl, e1]
    · rw [if_neg q]
      rfl
  rw [e9]
theorem Q_remembers {g : jGh} {Γ : Nat → Option Nat} {n a0 : Nat} {h q : jH} (w : jW (jKd g) Γ h) (ta0 : Γ a0 = some 20) (e : F_X12_remembers n a0 h = some q) : F_X12_rings n a0 q = F_X12_rings n a0 h := by
  obtain ⟨p5, e5, t5⟩ := t_gR (k := 5) w ta0 rfl rfl
  obtain ⟨p1, e1, t1⟩ := t_gR (k := 1) w ta0 rfl rfl
  have hne : p5 ≠ p1 := jneq t5 t1 (by decide)
  unfold F_X12_remembers at e
  obtain ⟨v1, q1, e⟩ := jbind e
  split at e
  · exact Q_remembers_11 hne n e e5 e1
  · obtain ⟨v45, q2, e⟩ := jbind e
    obtain ⟨h50, q3, e⟩ := jbind e
    have er : ∀ k, k ≠ 7 → jgR 10 h50 a0 k = jgR 10 h a0 k := fun k hk => by
      obtain ⟨fs, z1, -, rfl⟩ := jpf_o q3
      unfold jgR
      rw [jfr_up z1 10 a0 k (Or.inr hk)]
    rw [Q_remembers_55 hne n e (by rw [er 5 (by decide)]; exact e5) (by rw [er 1 (by decide)]; exact e1)]
    exact rings_pf2 (by decide) q3
theorem jat_ne {v : Int32} (h : 11 ≤ v.toInt) : ¬ (0 : Int32).toNatClampNeg = v.toNatClampNeg := by
  have h9 : v.toNatClampNeg = v.toInt.toNat := rfl
  have h8 : (0 : Int32).toNatClampNeg = 0 := rfl
  omega
theorem S_X12_hangs_8 {g : jGh} {Γ : Nat → Option Nat} {n : Nat} (hn : 6000 ≤ n) (hg : jgok g) : ∀ (k : Nat) {a0 : Nat} {x1 x2 x3 x4 : Int32} {h : jH}, jW (jKd g) Γ h → Γ a0 = some 20 → 0 ≤ x1.toInt → x1.toInt ≤ 31 → 0 ≤ x3.toInt → x3.toInt ≤ 7 → 0 ≤ x4.toInt → x4.toInt ≤ 8 → 8 - x4.toInt < k → (∀ r, F_X12_rings n a0 h = some r → 0 ≤ r.toInt ∧ r.toInt ≤ 7) → jok (F_X12_hangs_8 n k a0 x1 x2 x3 x4 h) (fun q => jW (jKd g) Γ q)
  | 0, a0, x1, x2, x3, x4, h, w, ta, l1, u1, l3, u3, l4, u4, hk, hr => by omega
  | k + 1, a0, x1, x2, x3, x4, h, w, ta, l1, u1, l3, u3, l4, u4, hk, hr => by
    show jok (F_X12_hangs_8_b n (F_X12_hangs_8 n k) a0 x1 x2 x3 x4 h) _
    unfold F_X12_hangs_8_b
    have e0 : (0 : Int32).toInt = 0 := rfl
    have e1 : (1 : Int32).toInt = 1 := rfl
    have e6 : (6 : Int32).toInt = 6 := rfl
    have e8 : (8 : Int32).toInt = 8 := rfl
    obtain ⟨p, ep, tp⟩ := t_gR (k := 1) w ta rfl rfl
    refine jok_le (fun c => ?_) (fun c => ?_)
    · refine jok_r ep ?_
      refine jok_b (S_X12_at hn hg w (by omega) (by omega) (by omega) (by omega)) (fun v39 l39 => ?_)
      refine jok_b2 (t_as w tp rfl (by omega) (by omega) (show jRw g v39.toInt.toNat x1 from ⟨⟨by omega, by omega, by omega⟩, Or.inl (by omega)⟩) (fun q => by cases q)) (fun h43 q43 w43 => ?_)
      obtain ⟨w43, -⟩ := w43
      have r43 := rings_as (n := n) ep q43 (jat_ne (by omega))
      have ep43 : jgR 10 h43 a0 1 = some p := by rw [jgR_as q43]; exact ep
      refine jok_r ep43 ?_
      refine jok_b (S_X12_at hn hg w43 (by omega) (by omega) (by omega) (by omega)) (fun v50 l50 => ?_)
      refine jok_b2 (t_as w43 tp rfl (by omega) (by omega) (show jRw g v50.toInt.toNat x2 from ⟨⟨by omega, by omega, by omega⟩, Or.inl (by omega)⟩) (fun q => by cases q)) (fun h54 q54 w54 => ?_)
      obtain ⟨w54, -⟩ := w54
      have r54 := rings_as (n := n) ep43 q54 (jat_ne (by omega))
      have ep54 : jgR 10 h54 a0 1 = some p := by rw [jgR_as q54]; exact ep43
      refine jok_r ep54 ?_
      refine jok_b (S_X12_at hn hg w54 (by omega) (by omega) (by omega) (by omega)) (fun v62 l62 => ?_)
      refine jok_b2 (t_as w54 tp rfl (by omega) (by omega) (show jRw g v62.toInt.toNat 1 from ⟨⟨by omega, by omega, by omega⟩, Or.inl (by omega)⟩) (fun q => by cases q)) (fun h66 q66 w66 => ?_)
      obtain ⟨w66, -⟩ := w66
      have r66 := rings_as (n := n) ep54 q66 (jat_ne (by omega))
      have ep66 : jgR 10 h66 a0 1 = some p := by rw [jgR_as q66]; exact ep54
      refine jok_r ep66 ?_
      refine jok_b2 (t_al w66 tp rfl (by omega) (by omega)) (fun v73 q73 l73 => ?_)
      have er : F_X12_rings n a0 h66 = some v73 := by
        unfold F_X12_rings
        rw [ep66]
        show (jal 0 h66 p (0 : Int32)).bind _ = _
        rw [q73]
        rfl
      have hb := hr v73 (by rw [← r43, ← r54, ← r66]; exact er)
      have ea : (v73 + (1 : Int32)).toInt = v73.toInt + 1 := by rw [jadd (by omega) (by omega), e1]
      refine jok_b (t_as w66 tp rfl (by omega) (by omega) (show jRw g (0 : Int32).toInt.toNat (v73 + (1 : Int32)) from ⟨⟨by omega, by omega, by omega⟩, Or.inl (by omega)⟩) (fun q => by cases q)) (fun h76 w76 => ?_)
      exact jok_s w76.1
    · refine jok_r ep ?_
      refine jok_b (S_X12_at hn hg w (by omega) (by omega) (by omega) (by omega)) (fun v22 l22 => ?_)
      refine jok_b2 (t_as w tp rfl (by omega) (by omega) (show jRw g v22.toInt.toNat 0 from ⟨⟨by omega, by omega, by omega⟩, Or.inl (by omega)⟩) (fun q => by cases q)) (fun h26 q26 w26 => ?_)
      obtain ⟨w26, -⟩ := w26
      have r26 := rings_as (n := n) ep q26 (jat_ne (by omega))
      have ea : (x4 + (1 : Int32)).toInt = x4.toInt + 1 := by rw [jadd (by omega) (by omega), e1]
      exact S_X12_hangs_8 hn hg k w26 ta l1 u1 l3 u3 (by omega) (by omega) (by omega) (by rw [r26]; exact hr)
theorem S_X12_hangs {g : jGh} {Γ : Nat → Option Nat} {n a0 : Nat} {x1 x2 : Int32} {h : jH} (hn : 6000 ≤ n) (hg : jgok g) (w : jW (jKd g) Γ h) (ta0 : Γ a0 = some 20) (l1 : 0 ≤ x1.toInt) (u1 : x1.toInt ≤ 31) (hr : ∀ r, F_X12_rings n a0 h = some r → 0 ≤ r.toInt ∧ r.toInt ≤ 7) : jok (F_X12_hangs n a0 x1 x2 h) (fun q => jW (jKd g) Γ q) := by
  unfold F_X12_hangs
  rw [t_cv w ta0 rfl]
  refine jok_b2 (S_X12_rings hn hg w ta0) (fun v1 q1 _ => ?_)
  obtain ⟨l, u⟩ := hr v1 q1
  exact S_X12_hangs_8 hn hg n w ta0 l1 u1 l u (by decide) (by decide) (by show 8 - (0 : Int) < _; omega) hr
theorem jthr0 {n a0 : Nat} {x2 : Int32} {h : jH} {q : Int32 × jH} (e : F_X12_throwsIf n a0 0 x2 h = some q) : q.2 = h := by
  unfold F_X12_throwsIf at e
  rw [if_pos rfl, if_pos (Or.inl rfl)] at e
  cases e
  rfl
theorem jthr1 {n a0 : Nat} {x2 : Int32} {h : jH} {q : Int32 × jH} (e : F_X12_throwsIf n a0 1 x2 h = some q) : q.1 = 1 := by
  unfold F_X12_throwsIf at e
  rw [if_neg (by decide)] at e
  obtain ⟨h6, -, e⟩ := jbind e
  rw [if_pos (Or.inr rfl)] at e
  cases e
  rfl
theorem S_X12_sew_70 {g : jGh} {Γ : Nat → Option Nat} {n a0 : Nat} {x1 x2 s1 : Int32} {h : jH} (hn : 6000 ≤ n) (hg : jgok g) (w : jW (jKd g) Γ h) (ta0 : Γ a0 = some 20) (hs : s1 = 1 ∨ (s1 = 0 ∧ 0 ≤ x1.toInt ∧ x1.toInt ≤ 31 ∧ ∀ r, F_X12_rings n a0 h = some r → 0 ≤ r.toInt ∧ r.toInt ≤ 7)) : jok (F_X12_sew_70 n a0 x1 x2 a0 s1 h) (fun q => jW (jKd g) Γ q.2) := by
  unfold F_X12_sew_70
  rw [t_cv w ta0 rfl]
  have hb : 0 ≤ s1.toInt ∧ s1.toInt ≤ 1 := by rcases hs with rfl | ⟨rfl, -⟩ <;> decide
  refine jok_b2 (S_X12_throwsIf hn hg w ta0 hb.1 hb.2) (fun q71 e71 w71 => ?_)
  obtain ⟨w71, -⟩ := w71
  rcases hs with rfl | ⟨rfl, l1, u1, hr⟩
  · rw [if_neg (by rw [jthr1 e71]; decide)]
    exact jok_s w71
  · have eh := jthr0 e71
    obtain ⟨r71, h71⟩ := q71
    have eh : h71 = h := eh
    subst eh
    dsimp only
    by_cases c : r71 = 0
    · rw [if_pos c, t_cv w71 ta0 rfl]
      refine jok_b2 (S_X12_remembers hn hg w71 ta0) (fun h80 e80 w80 => ?_)
      have r80 := Q_remembers w71 ta0 e80
      rw [t_cv w80 ta0 rfl]
      refine jok_b (S_X12_hangs hn hg w80 ta0 l1 u1 (by rw [r80]; exact hr)) (fun h86 w86 => ?_)
      rw [t_cv w86 ta0 rfl]
      refine jok_b (S_X12_lastRing hn hg w86 ta0) (fun v90 _ => ?_)
      exact jok_s w86
    · rw [if_neg c]
      exact jok_s w71
theorem S_X12_sew_33 {g : jGh} {Γ : Nat → Option Nat} {n a0 : Nat} {x1 x2 s1 : Int32} {h : jH} (hn : 6000 ≤ n) (hg : jgok g) (w : jW (jKd g) Γ h) (ta0 : Γ a0 = some 20) (hs : s1 = 0 ∨ s1 = 1) (l1 : 0 ≤ x1.toInt) (u1 : x1.toInt ≤ 31) : jok (F_X12_sew_33 n a0 x1 x2 a0 s1 h) (fun q => jW (jKd g) Γ q.2) := by
  unfold F_X12_sew_33
  rw [t_cv w ta0 rfl]
  have hb : 0 ≤ s1.toInt ∧ s1.toInt ≤ 1 := by rcases hs with rfl | rfl <;> decide
  have e8 : (8 : Int32).toInt = 8 := rfl
  refine jok_b (S_X12_throwsIf hn hg w ta0 hb.1 hb.2) (fun q34 w34 => ?_)
  obtain ⟨w34, -⟩ := w34
  refine jok_eq (fun _ _ => ?_) (fun _ => jok_s w34)
  rw [t_cv w34 ta0 rfl]
  refine jok_b2 (S_X12_rings hn hg w34 ta0) (fun v42 e42 l42 => ?_)
  refine jok_eq (fun _ _ => S_X12_sew_70 hn hg w34 ta0 (Or.inl rfl)) (fun c => ?_)
  have hr : ∀ r, F_X12_rings n a0 q34.2 = some r → 0 ≤ r.toInt ∧ r.toInt ≤ 7 := fun r er => by
    cases e42.symm.trans er
    omega
  rw [t_cv w34 ta0 rfl]
  refine jok_b (S_X12_leastPlace hn hg w34 ta0) (fun v52 _ => ?_)
  rw [t_cv w34 ta0 rfl]
  refine jok_b (S_X12_mostPlace hn hg w34 ta0) (fun v56 _ => ?_)
  refine jok_b (S_X12_in hn hg w34) (fun v59 _ => ?_)
  exact jok_eq (fun _ _ => S_X12_sew_70 hn hg w34 ta0 (Or.inl rfl)) (fun _ => S_X12_sew_70 hn hg w34 ta0 (Or.inr ⟨rfl, l1, u1, hr⟩))
theorem S_X12_sew {g : jGh} {Γ : Nat → Option Nat} {n a0 : Nat} {x1 x2 : Int32} {h : jH} (hn : 6000 ≤ n) (hg : jgok g) (w : jW (jKd g) Γ h) (ta0 : Γ a0 = some 20) : jok (F_X12_sew n a0 x1 x2 h) (fun q => jW (jKd g) Γ q.2) := by
  have ez : (0 : Int32).toInt = 0 := rfl
  unfold F_X12_sew
  refine jok_b (t_pI w ta0 rfl rfl trivial) (fun h2 w2 => ?_)
  obtain ⟨w2, -, -⟩ := w2
  refine jok_b (S_X12_noPlace hn hg w2) (fun v7 l7 => ?_)
  rw [t_cv w2 ta0 rfl]
  refine jok_b (S_X12_throwsIf hn hg w2 ta0 (by omega) (by omega)) (fun q11 w11 => ?_)
  obtain ⟨w11, l11⟩ := w11
  have l11 : q11.1.toInt = v7.toInt := l11
  refine jok_eq (fun c _ => ?_) (fun _ => jok_s w11)
  rw [ez] at c
  refine jok_b (S_X12_in hn hg w11) (fun v22 _ => ?_)
  exact jok_eq (fun _ _ => S_X12_sew_33 hn hg w11 ta0 (Or.inr rfl) (by omega) (by omega)) (fun _ => S_X12_sew_33 hn hg w11 ta0 (Or.inl rfl) (by omega) (by omega))
