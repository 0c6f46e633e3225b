section
/-! the first heap is of its kinds -/
theorem jR3_0 {k : Nat} : jR3 k 0 := ⟨Or.inr ⟨by decide, by decide⟩, Or.inr ⟨by decide, by decide⟩, Or.inr (Or.inr (Or.inr ⟨by decide, by decide⟩))⟩
theorem jR_w0 {g : jGh} {k : Nat} (hlw : ∀ k, g.2.2.2.1 k = 0) : jRw g k (upd (upd (upd (fun _ => 0) (5 : Int32).toNatClampNeg 16) (6 : Int32).toNatClampNeg 8) (10 : Int32).toNatClampNeg 1 k) := by
  have e5 : (5 : Int32).toNatClampNeg = 5 := rfl
  have e6 : (6 : Int32).toNatClampNeg = 6 := rfl
  have e10 : (10 : Int32).toNatClampNeg = 10 := rfl
  rw [e5, e6, e10]
  by_cases q : k = 5 ∨ k = 6 ∨ k = 10
  · rcases q with rfl | rfl | rfl <;> exact ⟨⟨Or.inl (by omega), Or.inl (by omega), Or.inl (by omega)⟩, Or.inl (by omega)⟩
  · have e : upd (upd (upd (fun _ => (0 : Int32)) 5 16) 6 8) 10 1 k = 0 := by
      simp only [upd]
      rw [if_neg (by omega), if_neg (by omega), if_neg (by omega)]
    rw [e]
    exact ⟨jR3_0, Or.inr (hlw k).symm⟩
/-- entries from z on, of the kinds ks -/
def jchk (g : jGh) (Γ : Nat → Option Nat) (Es : List jE) (ks : List Nat) : Prop := ks.length = Es.length ∧ ∀ (i : Nat) (e : jE) (c : Nat), Es[i]? = some e → ks[i]? = some c → okE Γ (jKd g c) (some e)
theorem jchk_app {g : jGh} {Γ : Nat → Option Nat} {Es Fs : List jE} {ks ls : List Nat} (a : jchk g Γ Es ks) (b : jchk g Γ Fs ls) : jchk g Γ (Es ++ Fs) (ks ++ ls) := by
  obtain ⟨a1, a2⟩ := a
  obtain ⟨b1, b2⟩ := b
  refine ⟨by rw [List.length_append, List.length_append, a1, b1], fun i e c he hc => ?_⟩
  by_cases q : i < Es.length
  · rw [List.getElem?_append_left q] at he
    rw [List.getElem?_append_left (by omega)] at hc
    exact a2 i e c he hc
  · rw [List.getElem?_append_right (by omega)] at he
    rw [List.getElem?_append_right (by omega), a1] at hc
    exact b2 _ e c he hc
theorem jchk_cons {g : jGh} {Γ : Nat → Option Nat} {e : jE} {c : Nat} {Fs : List jE} {ls : List Nat} (a : okE Γ (jKd g c) (some e)) (b : jchk g Γ Fs ls) : jchk g Γ (e :: Fs) (c :: ls) := by
  refine ⟨by rw [List.length_cons, List.length_cons, b.1], fun i e2 c2 he hc => ?_⟩
  cases i with
  | zero => cases he; cases hc; exact a
  | succ i => exact b.2 i e2 c2 he hc
/-- the kinds of the addresses: those from z on by the list -/
def jext (Γ : Nat → Option Nat) (z : Nat) (ks : List Nat) : Nat → Option Nat := fun q => if q < z then Γ q else ks[q - z]?
theorem jext_at {Γ : Nat → Option Nat} {z i c : Nat} {ks : List Nat} (h : ks[i]? = some c) : jext Γ z ks (z + i) = some c := by
  unfold jext
  rw [if_neg (by omega), show z + i - z = i by omega]
  exact h
theorem okV_mono {Γ Γ2 : Nat → Option Nat} {F : jF} {v : Value} (hm : ∀ a c, Γ a = some c → Γ2 a = some c) (h : okV Γ F v) : okV Γ2 F v := by
  rcases F with P | c | c
  · exact h
  · obtain ⟨a, e, ha⟩ := h
    exact ⟨a, e, hm a c ha⟩
  · rcases h with h | ⟨a, e, ha⟩
    · exact Or.inl h
    · exact Or.inr ⟨a, e, hm a c ha⟩
theorem okE_mono {Γ Γ2 : Nat → Option Nat} {D : jD} {e : Option jE} (hm : ∀ a c, Γ a = some c → Γ2 a = some c) (h : okE Γ D e) : okE Γ2 D e := by
  rcases D with q | q | q
  · exact h
  · show (if q.2 = 1000 then _ else _)
    have h2 : (if q.2 = 1000 then ∃ f : Nat → Int64, e = some (.inr (.inr (.inr (q.1, f)))) else ∃ f : Nat → Option Nat, e = some (.inr (.inr (.inl (q.1, f)))) ∧ ∀ k a, f k = some a → Γ a = some q.2) := h
    by_cases hq : q.2 = 1000
    · rw [if_pos hq] at h2 ⊢
      exact h2
    · rw [if_neg hq] at h2 ⊢
      obtain ⟨f, e1, e2⟩ := h2
      exact ⟨f, e1, fun k a hk => hm a _ (e2 k a hk)⟩
  · obtain ⟨vs, e1, e2, e3⟩ := h
    refine ⟨vs, e1, e2, fun k F hk => ?_⟩
    obtain ⟨v, f1, f2⟩ := e3 k F hk
    exact ⟨v, f1, okV_mono hm f2⟩
theorem okE_q {Γ : Nat → Option Nat} {n c : Nat} {f : Nat → Option Nat} (hc : c ≠ 1000) (h : ∀ k a, f k = some a → Γ a = some c) : okE Γ (.inr (.inl (n, c))) (some (.inr (.inr (.inl (n, f))))) := by
  show (if c = 1000 then ∃ f9 : Nat → Int64, (some (.inr (.inr (.inl (n, f)))) : Option jE) = some (.inr (.inr (.inr (n, f9)))) else ∃ f9 : Nat → Option Nat, (some (.inr (.inr (.inl (n, f)))) : Option jE) = some (.inr (.inr (.inl (n, f9)))) ∧ ∀ k a, f9 k = some a → Γ a = some c)
  rw [if_neg hc]
  exact ⟨f, rfl, h⟩
/-- a heap that grew by entries of their kinds -/
theorem jx_jW {g : jGh} {Γ : Nat → Option Nat} {z : Nat} {Es : List jE} {ks : List Nat} {h0 h : jH} (j : jx z Es h0 h) (hz : h0.1 = z) (w : jW (jKd g) Γ h0) (hc : jchk g (jext Γ z ks) Es ks) : jW (jKd g) (jext Γ z ks) h ∧ (∀ a c, Γ a = some c → jext Γ z ks a = some c) := by
  obtain ⟨j1, j2, j3⟩ := j
  have hm : ∀ a c, Γ a = some c → jext Γ z ks a = some c := by
    intro a c ha
    have := (w a c ha).1
    unfold jext
    rw [if_pos (by omega)]
    exact ha
  refine ⟨fun a c ha => ?_, hm⟩
  by_cases q : a < z
  · have ha2 : Γ a = some c := by
      unfold jext at ha
      rw [if_pos q] at ha
      exact ha
    refine ⟨by omega, ?_⟩
    rw [j2 a q]
    exact okE_mono hm (w a c ha2).2
  · unfold jext at ha
    rw [if_neg q] at ha
    have hlt : a - z < ks.length := (List.getElem?_eq_some_iff.mp ha).1
    have hlt2 : a - z < Es.length := by rw [← hc.1]; exact hlt
    refine ⟨by omega, ?_⟩
    have e := j3 (a - z) _ (List.getElem?_eq_getElem hlt2)
    rw [show z + (a - z) = a by omega] at e
    rw [e]
    exact hc.2 (a - z) _ c (List.getElem?_eq_getElem hlt2) ha
def kX10_init : List Nat := [10, 9, 6, 6, 6]
theorem chkX10_init {g : jGh} {Γ : Nat → Option Nat} {z : Nat}  (hL : g.1 = 0) (hb : ∀ k, g.2.1 k = 0) (hΓ : ∀ i c, kX10_init[i]? = some c → Γ (z + i) = some c)  : jchk g Γ (eX10_init z ) kX10_init := by
  refine ⟨rfl, fun i e c he hc => ?_⟩
  match i, he, hc with
  | 0, he, hc =>
    cases he; cases hc
    refine ⟨_, rfl, rfl, fun k F hk => ?_⟩
    match k, hk with
    | 0, hk => cases hk; exact ⟨_, rfl, _, rfl, hΓ 1 _ rfl⟩
    | 1, hk => cases hk; exact ⟨_, rfl, _, rfl, hΓ 2 _ rfl⟩
    | 2, hk => cases hk; exact ⟨_, rfl, _, rfl, hΓ 3 _ rfl⟩
    | 3, hk => cases hk; exact ⟨_, rfl, _, rfl, hΓ 4 _ rfl⟩
    | 4, hk => cases hk; exact ⟨_, rfl, _, rfl, ⟨by decide, by decide⟩⟩
    | 5, hk => cases hk; exact ⟨_, rfl, _, rfl, ⟨by decide, by decide⟩⟩
    | 6, hk => cases hk; exact ⟨_, rfl, _, rfl, (show (0 : Int32).toInt = g.1 from by rw [hL]; rfl)⟩
    | k + 7, hk => cases hk
  | 1, he, hc =>
    cases he; cases hc
    exact ⟨_, rfl, fun k hk => (show (0 : Int32) = g.2.1 k from (hb k).symm)⟩
  | 2, he, hc =>
    cases he; cases hc
    exact ⟨_, rfl, fun k hk => trivial⟩
  | 3, he, hc =>
    cases he; cases hc
    exact ⟨_, rfl, fun k hk => trivial⟩
  | 4, he, hc =>
    cases he; cases hc
    exact ⟨_, rfl, fun k hk => trivial⟩
  | i + 5, he, hc => cases he
def kX8_init : List Nat := [3, 0, 0, 0, 0, 2, 1]
theorem chkX8_init {g : jGh} {Γ : Nat → Option Nat} {z : Nat}  (hΓ : ∀ i c, kX8_init[i]? = some c → Γ (z + i) = some c)  : jchk g Γ (eX8_init z ) kX8_init := by
  refine ⟨rfl, fun i e c he hc => ?_⟩
  match i, he, hc with
  | 0, he, hc =>
    cases he; cases hc
    refine ⟨_, rfl, rfl, fun k F hk => ?_⟩
    match k, hk with
    | 0, hk => cases hk; exact ⟨_, rfl, _, rfl, hΓ 1 _ rfl⟩
    | 1, hk => cases hk; exact ⟨_, rfl, _, rfl, hΓ 2 _ rfl⟩
    | 2, hk => cases hk; exact ⟨_, rfl, _, rfl, hΓ 3 _ rfl⟩
    | 3, hk => cases hk; exact ⟨_, rfl, _, rfl, hΓ 4 _ rfl⟩
    | 4, hk => cases hk; exact ⟨_, rfl, _, rfl, hΓ 5 _ rfl⟩
    | 5, hk => cases hk; exact ⟨_, rfl, _, rfl, ⟨by decide, by decide⟩⟩
    | 6, hk => cases hk; exact ⟨_, rfl, _, rfl, trivial⟩
    | 7, hk => cases hk; exact ⟨_, rfl, _, rfl, trivial⟩
    | 8, hk => cases hk; exact ⟨_, rfl, _, rfl, trivial⟩
    | 9, hk => cases hk; exact ⟨_, rfl, _, rfl, trivial⟩
    | 10, hk => cases hk; exact ⟨_, rfl, _, rfl, trivial⟩
    | 11, hk => cases hk; exact ⟨_, rfl, _, rfl, trivial⟩
    | 12, hk => cases hk; exact ⟨_, rfl, _, rfl, trivial⟩
    | 13, hk => cases hk; exact ⟨_, rfl, _, rfl, trivial⟩
    | 14, hk => cases hk; exact ⟨_, rfl, _, rfl, trivial⟩
    | 15, hk => cases hk; exact ⟨_, rfl, _, rfl, trivial⟩
    | 16, hk => cases hk; exact ⟨_, rfl, _, rfl, trivial⟩
    | 17, hk => cases hk; exact ⟨_, rfl, _, rfl, trivial⟩
    | k + 18, hk => cases hk
  | 1, he, hc =>
    cases he; cases hc
    exact ⟨_, rfl, fun k hk => trivial⟩
  | 2, he, hc =>
    cases he; cases hc
    exact ⟨_, rfl, fun k hk => trivial⟩
  | 3, he, hc =>
    cases he; cases hc
    exact ⟨_, rfl, fun k hk => trivial⟩
  | 4, he, hc =>
    cases he; cases hc
    exact ⟨_, rfl, fun k hk => trivial⟩
  | 5, he, hc =>
    cases he; cases hc
    refine ⟨_, rfl, rfl, fun k F hk => ?_⟩
    match k, hk with
    | 0, hk => cases hk; exact ⟨_, rfl, _, rfl, hΓ 6 _ rfl⟩
    | 1, hk => cases hk; exact ⟨_, rfl, _, rfl, ⟨by decide, by decide⟩⟩
    | 2, hk => cases hk; exact ⟨_, rfl, _, rfl, ⟨by decide, by decide⟩⟩
    | k + 3, hk => cases hk
  | 6, he, hc =>
    cases he; cases hc
    exact ⟨_, rfl, fun k hk => trivial⟩
  | i + 7, he, hc => cases he
def kX2_init : List Nat := [8, 4, 4, 5, 6, 7]
theorem chkX2_init {g : jGh} {Γ : Nat → Option Nat} {z : Nat}  (hΓ : ∀ i c, kX2_init[i]? = some c → Γ (z + i) = some c)  : jchk g Γ (eX2_init z ) kX2_init := by
  refine ⟨rfl, fun i e c he hc => ?_⟩
  match i, he, hc with
  | 0, he, hc =>
    cases he; cases hc
    refine ⟨_, rfl, rfl, fun k F hk => ?_⟩
    match k, hk with
    | 0, hk => cases hk; exact ⟨_, rfl, _, rfl, hΓ 1 _ rfl⟩
    | 1, hk => cases hk; exact ⟨_, rfl, _, rfl, hΓ 2 _ rfl⟩
    | 2, hk => cases hk; exact ⟨_, rfl, _, rfl, hΓ 3 _ rfl⟩
    | 3, hk => cases hk; exact ⟨_, rfl, _, rfl, hΓ 4 _ rfl⟩
    | 4, hk => cases hk; exact ⟨_, rfl, _, rfl, hΓ 5 _ rfl⟩
    | 5, hk => cases hk; exact ⟨_, rfl, _, rfl, ⟨by decide, by decide⟩⟩
    | 6, hk => cases hk; exact ⟨_, rfl, _, rfl, ⟨by decide, by decide⟩⟩
    | 7, hk => cases hk; exact ⟨_, rfl, _, rfl, ⟨by decide, by decide⟩⟩
    | 8, hk => cases hk; exact ⟨_, rfl, _, rfl, ⟨by decide, by decide⟩⟩
    | k + 9, hk => cases hk
  | 1, he, hc =>
    cases he; cases hc
    exact ⟨_, rfl, fun k hk => trivial⟩
  | 2, he, hc =>
    cases he; cases hc
    exact ⟨_, rfl, fun k hk => trivial⟩
  | 3, he, hc =>
    cases he; cases hc
    exact ⟨_, rfl, fun k hk => ⟨by decide, by decide⟩⟩
  | 4, he, hc =>
    cases he; cases hc
    exact ⟨_, rfl, fun k hk => trivial⟩
  | 5, he, hc =>
    cases he; cases hc
    exact ⟨_, rfl, fun k hk => trivial⟩
  | i + 6, he, hc => cases he
def kX0_init : List Nat := [12, 11]
theorem chkX0_init {g : jGh} {Γ : Nat → Option Nat} {z : Nat}  (hΓ : ∀ i c, kX0_init[i]? = some c → Γ (z + i) = some c)  : jchk g Γ (eX0_init z ) kX0_init := by
  refine ⟨rfl, fun i e c he hc => ?_⟩
  match i, he, hc with
  | 0, he, hc =>
    cases he; cases hc
    refine ⟨_, rfl, rfl, fun k F hk => ?_⟩
    match k, hk with
    | 0, hk => cases hk; exact ⟨_, rfl, _, rfl, hΓ 1 _ rfl⟩
    | 1, hk => cases hk; exact ⟨_, rfl, _, rfl, ⟨by decide, by decide⟩⟩
    | 2, hk => cases hk; exact ⟨_, rfl, _, rfl, ⟨by decide, by decide⟩⟩
    | k + 3, hk => cases hk
  | 1, he, hc =>
    cases he; cases hc
    exact okE_q (by decide) (fun k a h => by cases h)
  | i + 2, he, hc => cases he
def kX9_init : List Nat := [13]
theorem chkX9_init {g : jGh} {Γ : Nat → Option Nat} {z : Nat} {a1 : Nat} {a2 : Nat} (hΓ : ∀ i c, kX9_init[i]? = some c → Γ (z + i) = some c) (ha1 : Γ a1 = some 10) (ha2 : Γ a2 = some 3) : jchk g Γ (eX9_init z a1 a2) kX9_init := by
  refine ⟨rfl, fun i e c he hc => ?_⟩
  match i, he, hc with
  | 0, he, hc =>
    cases he; cases hc
    refine ⟨_, rfl, rfl, fun k F hk => ?_⟩
    match k, hk with
    | 0, hk => cases hk; exact ⟨_, rfl, _, rfl, ha1⟩
    | 1, hk => cases hk; exact ⟨_, rfl, _, rfl, ⟨by decide, by decide⟩⟩
    | 2, hk => cases hk; exact ⟨_, rfl, _, rfl, ha2⟩
    | k + 3, hk => cases hk
  | i + 1, he, hc => cases he
def kX3_init : List Nat := [14]
theorem chkX3_init {g : jGh} {Γ : Nat → Option Nat} {z : Nat} {a1 : Nat} {a2 : Nat} (hΓ : ∀ i c, kX3_init[i]? = some c → Γ (z + i) = some c) (ha1 : Γ a1 = some 10) (ha2 : Γ a2 = some 8) : jchk g Γ (eX3_init z a1 a2) kX3_init := by
  refine ⟨rfl, fun i e c he hc => ?_⟩
  match i, he, hc with
  | 0, he, hc =>
    cases he; cases hc
    refine ⟨_, rfl, rfl, fun k F hk => ?_⟩
    match k, hk with
    | 0, hk => cases hk; exact ⟨_, rfl, _, rfl, ha1⟩
    | 1, hk => cases hk; exact ⟨_, rfl, _, rfl, ⟨by decide, by decide⟩⟩
    | 2, hk => cases hk; exact ⟨_, rfl, _, rfl, ha2⟩
    | k + 3, hk => cases hk
  | i + 1, he, hc => cases he
def kX1_init : List Nat := [15]
theorem chkX1_init {g : jGh} {Γ : Nat → Option Nat} {z : Nat} {a1 : Nat} {a2 : Nat} (hΓ : ∀ i c, kX1_init[i]? = some c → Γ (z + i) = some c) (ha1 : Γ a1 = some 8) (ha2 : Γ a2 = some 3) : jchk g Γ (eX1_init z a1 a2) kX1_init := by
  refine ⟨rfl, fun i e c he hc => ?_⟩
  match i, he, hc with
  | 0, he, hc =>
    cases he; cases hc
    refine ⟨_, rfl, rfl, fun k F hk => ?_⟩
    match k, hk with
    | 0, hk => cases hk; exact ⟨_, rfl, _, rfl, ha1⟩
    | 1, hk => cases hk; exact ⟨_, rfl, _, rfl, ha2⟩
    | k + 2, hk => cases hk
  | i + 1, he, hc => cases he
def kX7_init : List Nat := [18, 16, 17]
theorem chkX7_init {g : jGh} {Γ : Nat → Option Nat} {z : Nat} {a1 : Nat} {a2 : Nat} (hΓ : ∀ i c, kX7_init[i]? = some c → Γ (z + i) = some c) (ha1 : Γ a1 = some 10) (ha2 : Γ a2 = some 3) : jchk g Γ (eX7_init z a1 a2) kX7_init := by
  refine ⟨rfl, fun i e c he hc => ?_⟩
  match i, he, hc with
  | 0, he, hc =>
    cases he; cases hc
    refine ⟨_, rfl, rfl, fun k F hk => ?_⟩
    match k, hk with
    | 0, hk => cases hk; exact ⟨_, rfl, _, rfl, ha1⟩
    | 1, hk => cases hk; exact ⟨_, rfl, _, rfl, ha2⟩
    | 2, hk => cases hk; exact ⟨_, rfl, _, rfl, hΓ 1 _ rfl⟩
    | 3, hk => cases hk; exact ⟨_, rfl, _, rfl, hΓ 2 _ rfl⟩
    | 4, hk => cases hk; exact ⟨_, rfl, _, rfl, ⟨by decide, by decide⟩⟩
    | 5, hk => cases hk; exact ⟨_, rfl, _, rfl, trivial⟩
    | 6, hk => cases hk; exact ⟨_, rfl, _, rfl, trivial⟩
    | k + 7, hk => cases hk
  | 1, he, hc =>
    cases he; cases hc
    exact ⟨_, rfl, fun k hk => trivial⟩
  | 2, he, hc =>
    cases he; cases hc
    exact ⟨_, rfl, fun k hk => trivial⟩
  | i + 3, he, hc => cases he
def kX12_init : List Nat := [20, 21, 22, 23, 24, 25, 26, 27, 28, 29, 30, 31]
theorem chkX12_init {g : jGh} {Γ : Nat → Option Nat} {z : Nat}  (hL2 : g.2.2.1 = 0) (hlw : ∀ k, g.2.2.2.1 k = 0) (h4 : ∀ k, g.2.2.2.2.1 k = 0) (h5 : ∀ k, g.2.2.2.2.2.1 k = 0) (h6 : g.2.2.2.2.2.2.2.2 = 0) (hΓ : ∀ i c, kX12_init[i]? = some c → Γ (z + i) = some c)  : jchk g Γ (eX12_init z ) kX12_init := by
  refine ⟨rfl, fun i e c he hc => ?_⟩
  match i, he, hc with
  | 0, he, hc =>
    cases he; cases hc
    refine ⟨_, rfl, rfl, fun k F hk => ?_⟩
    match k, hk with
    | 0, hk => cases hk; exact ⟨_, rfl, _, rfl, trivial⟩
    | 1, hk => cases hk; exact ⟨_, rfl, _, rfl, hΓ 1 _ rfl⟩
    | 2, hk => cases hk; exact ⟨_, rfl, _, rfl, hΓ 2 _ rfl⟩
    | 3, hk => cases hk; exact ⟨_, rfl, _, rfl, hΓ 3 _ rfl⟩
    | 4, hk => cases hk; exact ⟨_, rfl, _, rfl, hΓ 4 _ rfl⟩
    | 5, hk => cases hk; exact ⟨_, rfl, _, rfl, hΓ 5 _ rfl⟩
    | 6, hk => cases hk; exact ⟨_, rfl, _, rfl, ⟨h6.symm, Or.inl rfl⟩⟩
    | 7, hk => cases hk; exact ⟨_, rfl, _, rfl, ⟨by decide, by decide⟩⟩
    | 8, hk => cases hk; exact ⟨_, rfl, _, rfl, hΓ 6 _ rfl⟩
    | 9, hk => cases hk; exact ⟨_, rfl, _, rfl, (show (0 : Int32).toInt = g.2.2.1 from by rw [hL2]; rfl)⟩
    | 10, hk => cases hk; exact ⟨_, rfl, _, rfl, ⟨by decide, by decide⟩⟩
    | 11, hk => cases hk; exact ⟨_, rfl, _, rfl, ⟨by decide, by decide⟩⟩
    | 12, hk => cases hk; exact ⟨_, rfl, _, rfl, ⟨by decide, by decide⟩⟩
    | 13, hk => cases hk; exact ⟨_, rfl, _, rfl, trivial⟩
    | 14, hk => cases hk; exact ⟨_, rfl, _, rfl, trivial⟩
    | 15, hk => cases hk; exact ⟨_, rfl, _, rfl, hΓ 7 _ rfl⟩
    | 16, hk => cases hk; exact ⟨_, rfl, _, rfl, ⟨by decide, by decide⟩⟩
    | 17, hk => cases hk; exact ⟨_, rfl, _, rfl, hΓ 8 _ rfl⟩
    | 18, hk => cases hk; exact ⟨_, rfl, _, rfl, trivial⟩
    | 19, hk => cases hk; exact ⟨_, rfl, _, rfl, hΓ 9 _ rfl⟩
    | 20, hk => cases hk; exact ⟨_, rfl, _, rfl, hΓ 10 _ rfl⟩
    | 21, hk => cases hk; exact ⟨_, rfl, _, rfl, hΓ 11 _ rfl⟩
    | k + 22, hk => cases hk
  | 1, he, hc =>
    cases he; cases hc
    exact ⟨_, rfl, fun k hk => jR_w0 hlw⟩
  | 2, he, hc =>
    cases he; cases hc
    exact ⟨_, rfl, fun k hk => ⟨jR3_0, Or.inr (h5 k).symm⟩⟩
  | 3, he, hc =>
    cases he; cases hc
    exact ⟨_, rfl, fun k hk => ⟨jR3_0, Or.inr (h4 k).symm⟩⟩
  | 4, he, hc =>
    cases he; cases hc
    exact ⟨_, rfl, fun k hk => jR3_0⟩
  | 5, he, hc =>
    cases he; cases hc
    exact ⟨_, rfl, fun k hk => jR3_0⟩
  | 6, he, hc =>
    cases he; cases hc
    exact ⟨_, rfl, fun k hk => ⟨by decide, by decide⟩⟩
  | 7, he, hc =>
    cases he; cases hc
    exact ⟨_, rfl, fun k hk => trivial⟩
  | 8, he, hc =>
    cases he; cases hc
    exact ⟨_, rfl, fun k hk => trivial⟩
  | 9, he, hc =>
    cases he; cases hc
    exact ⟨_, rfl, fun k hk => trivial⟩
  | 10, he, hc =>
    cases he; cases hc
    exact ⟨_, rfl, fun k hk => trivial⟩
  | 11, he, hc =>
    cases he; cases hc
    exact ⟨_, rfl, fun k hk => trivial⟩
  | i + 12, he, hc => cases he
/-! the first heap -/
def kX11_init : List Nat := 19 :: ((((((((((kX10_init) ++ kX8_init) ++ kX2_init) ++ kX0_init) ++ kX8_init) ++ kX2_init) ++ kX9_init) ++ kX3_init) ++ kX1_init) ++ kX7_init)
theorem jbeg_sub {Γ : Nat → Option Nat} {z b : Nat} {ks ls : List Nat} (hΓ : ∀ i c, ks[i]? = some c → Γ (z + i) = some c) (hs : ∀ i c, ls[i]? = some c → ks[b + i]? = some c) : ∀ i c, ls[i]? = some c → Γ (z + b + i) = some c := fun i c h => by
  rw [Nat.add_assoc]
  exact hΓ (b + i) c (hs i c h)
theorem jsubl {ks ls : List Nat} {b : Nat} (h : (ks.drop b).take ls.length = ls) : ∀ i c, ls[i]? = some c → ks[b + i]? = some c := fun i c hi => by
  have hlt : i < ls.length := (List.getElem?_eq_some_iff.mp hi).1
  rw [← h, List.getElem?_take_of_lt hlt, List.getElem?_drop] at hi
  exact hi
theorem chkX11_init {g : jGh} {Γ : Nat → Option Nat} {z : Nat} (hL : g.1 = 0) (hb : ∀ k, g.2.1 k = 0) (hu0 : g.2.2.2.2.2.2.1 = 0) (hv0 : g.2.2.2.2.2.2.2.1 = 0) (hΓ : ∀ i c, kX11_init[i]? = some c → Γ (z + i) = some c) : jchk g Γ (eX11_init z) kX11_init := by
  have s1 := jbeg_sub (b := 1) hΓ (jsubl (ls := kX10_init) (by decide))
  have s6 := jbeg_sub (b := 6) hΓ (jsubl (ls := kX8_init) (by decide))
  have s13 := jbeg_sub (b := 13) hΓ (jsubl (ls := kX2_init) (by decide))
  have s19 := jbeg_sub (b := 19) hΓ (jsubl (ls := kX0_init) (by decide))
  have s21 := jbeg_sub (b := 21) hΓ (jsubl (ls := kX8_init) (by decide))
  have s28 := jbeg_sub (b := 28) hΓ (jsubl (ls := kX2_init) (by decide))
  have s34 := jbeg_sub (b := 34) hΓ (jsubl (ls := kX9_init) (by decide))
  have s35 := jbeg_sub (b := 35) hΓ (jsubl (ls := kX3_init) (by decide))
  have s36 := jbeg_sub (b := 36) hΓ (jsubl (ls := kX1_init) (by decide))
  have s37 := jbeg_sub (b := 37) hΓ (jsubl (ls := kX7_init) (by decide))
  have a1 : Γ (z + 1) = some 10 := s1 0 _ rfl
  have a13 : Γ (z + 13) = some 8 := s13 0 _ rfl
  have a21 : Γ (z + 21) = some 3 := s21 0 _ rfl
  have a28 : Γ (z + 28) = some 8 := s28 0 _ rfl
  refine jchk_cons ?_ (jchk_app (jchk_app (jchk_app (jchk_app (jchk_app (jchk_app (jchk_app (jchk_app (jchk_app (chkX10_init hL hb s1) (chkX8_init s6)) (chkX2_init s13)) (chkX0_init s19)) (chkX8_init s21)) (chkX2_init s28)) (chkX9_init s34 a1 a21)) (chkX3_init s35 a1 a28)) (chkX1_init s36 a13 a21)) (chkX7_init s37 a1 a21))
  refine ⟨_, rfl, rfl, fun k F hk => ?_⟩
  match k, hk with
  | 0, hk => cases hk; exact ⟨_, rfl, _, rfl, a1⟩
  | 1, hk => cases hk; exact ⟨_, rfl, _, rfl, hΓ 6 _ rfl⟩
  | 2, hk => cases hk; exact ⟨_, rfl, _, rfl, a13⟩
  | 3, hk => cases hk; exact ⟨_, rfl, _, rfl, hΓ 19 _ rfl⟩
  | 4, hk => cases hk; exact ⟨_, rfl, _, rfl, a21⟩
  | 5, hk => cases hk; exact ⟨_, rfl, _, rfl, a28⟩
  | 6, hk => cases hk; exact ⟨_, rfl, _, rfl, hΓ 34 _ rfl⟩
  | 7, hk => cases hk; exact ⟨_, rfl, _, rfl, hΓ 35 _ rfl⟩
  | 8, hk => cases hk; exact ⟨_, rfl, _, rfl, hΓ 36 _ rfl⟩
  | 9, hk => cases hk; exact ⟨_, rfl, _, rfl, hΓ 37 _ rfl⟩
  | 10, hk => cases hk; exact ⟨_, rfl, by rw [if_pos hu0]; exact Or.inl rfl⟩
  | 11, hk => cases hk; exact ⟨_, rfl, by rw [if_pos hv0]; exact Or.inl rfl⟩
  | 12, hk => cases hk; exact ⟨_, rfl, _, rfl, trivial⟩
  | k + 13, hk => cases hk
theorem okE_l {Γ : Nat → Option Nat} {n : Nat} {f : Nat → Int64} : okE Γ (.inr (.inl (n, 1000))) (some (.inr (.inr (.inr (n, f))))) := by
  show (if (1000 : Nat) = 1000 then ∃ f9 : Nat → Int64, (some (.inr (.inr (.inr (n, f)))) : Option jE) = some (.inr (.inr (.inr (n, f9)))) else ∃ f9 : Nat → Option Nat, (some (.inr (.inr (.inr (n, f)))) : Option jE) = some (.inr (.inr (.inl (n, f9)))) ∧ ∀ k a, f9 k = some a → Γ a = some 1000)
  rw [if_pos rfl]
  exact ⟨f, rfl⟩
/-- an image is kept by both sides, or by neither -/
def jIm (g : jGh) : Prop := (g.2.2.2.2.2.2.1 = 0 ↔ g.2.2.2.2.2.2.2.2 = 0) ∧ (g.2.2.2.2.2.2.2.1 = 0 ↔ g.2.2.2.2.2.2.2.2 = 0)
/-- the invariant of the law's loop: both sides' heaps of their kinds, both tapes of one length -/
def jInv (x m out : Nat) (h : jH) : Prop := ∃ (g : jGh) (Γ : Nat → Option Nat), jgok g ∧ jW (jKd g) Γ h ∧ Γ x = some 19 ∧ Γ m = some 20 ∧ Γ out = some 40 ∧ (∀ a b c : Nat, 9 ≤ c → Γ a = some c → Γ b = some c → a = b) ∧ (∀ b, Γ b ≠ some 41) ∧ g.1 = g.2.2.1 ∧ jIm g
def jg0 : jGh := (0, fun _ => 0, 0, fun _ => 0, fun _ => 0, fun _ => 0, 0, 0, 0)
theorem jlaw0 : jlawOK (fun _ => 0) := by
  refine ⟨by show (0 : Int) ≤ (0 : Int32).toInt; decide, by show (0 : Int32).toInt ≤ 12; decide, fun i hi => ?_⟩
  have hi : (i : Int) < (0 : Int32).toInt := hi
  have e : (0 : Int32).toInt = 0 := rfl
  omega
theorem jg0_ok : jgok jg0 := ⟨⟨by decide, by decide⟩, by decide, by decide, jlaw0⟩
def jks : List Nat := kX11_init ++ (kX12_init ++ [40])
theorem juniq : ∀ i j c : Nat, 9 ≤ c → jks[i]? = some c → jks[j]? = some c → i = j := by
  have h : ∀ i, i < jks.length → ∀ j, j < jks.length → 9 ≤ jks.getD i 0 → jks.getD i 0 = jks.getD j 0 → i = j := by decide +kernel
  intro i j c hc hi hj
  have h1 := (List.getElem?_eq_some_iff.mp hi).1
  have h2 := (List.getElem?_eq_some_iff.mp hj).1
  have e1 : jks.getD i 0 = c := by rw [List.getD_eq_getElem?_getD, hi]; rfl
  have e2 : jks.getD j 0 = c := by rw [List.getD_eq_getElem?_getD, hj]; rfl
  exact h i h1 j h2 (by rw [e1]; exact hc) (by rw [e1, e2])
theorem jbegin_ok {n z : Nat} : jBegin n (z, fun _ => none) jInv := by
  obtain ⟨h1, e1, j1⟩ := I_X11_init (n := n) (h := (z, fun _ => none))
  obtain ⟨h2, e2, j2⟩ := I_X12_init (n := n) (h := h1)
  refine ⟨h1, e1, h2, e2, jg0, jext (fun _ => none) z jks, jg0_ok, ?_, ?_, ?_, ?_, ?_, ?_, rfl, Iff.rfl, Iff.rfl⟩
  · have hz : h1.1 = z + (eX11_init z).length := j1.1
    have j2' : jx (z + (eX11_init z).length) (eX12_init (z + 40)) h1 h2 := by
      have j3 := j2
      rw [hz] at j3
      exact j3
    have j4 := jx_nw (jx_cat j1 j2') (.inr (.inr (.inr (1, fun _ => 0))))
    rw [List.append_assoc] at j4
    refine (jx_jW (ks := jks) j4 rfl (fun a c h => by cases h) ?_).1
    have hΓ : ∀ i c, jks[i]? = some c → jext (fun _ => none) z jks (z + i) = some c := fun i c h => jext_at h
    refine jchk_app (chkX11_init rfl (fun _ => rfl) rfl rfl (fun i c h => hΓ i c (by unfold jks; rw [List.getElem?_append_left (List.getElem?_eq_some_iff.mp h).1]; exact h))) (jchk_app (chkX12_init rfl (fun _ => rfl) (fun _ => rfl) (fun _ => rfl) rfl (jbeg_sub (b := 40) hΓ (jsubl (by decide)))) ?_)
    refine jchk_cons ?_ ⟨rfl, fun i e c he _ => by cases he⟩
    exact okE_l
  · exact jext_at (i := 0) rfl
  · have hz : h1.1 = z + 40 := j1.1
    rw [hz]
    exact jext_at (i := 40) rfl
  · have hz : h1.1 = z + 40 := j1.1
    have hz2 : h2.1 = z + 52 := by rw [j2.1, hz]; rfl
    rw [hz2]
    exact jext_at (i := 52) rfl
  · intro a b c hc ha hb
    unfold jext at ha hb
    by_cases qa : a < z
    · rw [if_pos qa] at ha; cases ha
    · by_cases qb : b < z
      · rw [if_pos qb] at hb; cases hb
      · rw [if_neg qa] at ha
        rw [if_neg qb] at hb
        have := juniq _ _ c hc ha hb
        omega
  · intro b q
    unfold jext at q
    by_cases qb : b < z
    · rw [if_pos qb] at q; cases q
    · rw [if_neg qb] at q
      have h9 : ∀ i, i < jks.length → jks.getD i 0 ≠ 41 := by decide +kernel
      have h1 := (List.getElem?_eq_some_iff.mp q).1
      exact h9 _ h1 (by rw [List.getD_eq_getElem?_getD, q]; rfl)
end
section
theorem jKd_B {g : jGh} {B : Nat → Int32} {c : Nat} (hc : c ≠ 9) : jKd (g.1, B, g.2.2) c = jKd g c := by
  unfold jKd
  split <;> first | rfl | exact absurd rfl hc
theorem t_pB {g : jGh} {Γ : Nat → Option Nat} {h : jH} {a : Nat} {i x : Int32} (w : jW (jKd g) Γ h) (hu : ∀ a b, Γ a = some 9 → Γ b = some 9 → a = b) (ha : Γ a = some 9) (h0 : 0 ≤ i.toInt) (h1 : i.toInt < 400) : jok (jas 1 h a i x) (fun h1 => ∃ B : Nat → Int32, jW (jKd (g.1, B, g.2.2)) Γ h1 ∧ jfa h h1) := by
  obtain ⟨f, e1, e2⟩ := t_arr w ha rfl
  refine ⟨jup h a (.inr (.inl (1, 400, upd f i.toNatClampNeg (jnar 1 x)))), ?_, upd f i.toNatClampNeg (jnar 1 x), ?_, jfa_up e1⟩
  · unfold jas
    rw [e1]
    dsimp only
    rw [if_pos ⟨rfl, jnoob h0 h1, fun q => by cases q⟩]
  · intro b c hb
    refine ⟨(w b c hb).1, ?_⟩
    show okE Γ (jKd (g.1, upd f i.toNatClampNeg (jnar 1 x), g.2.2) c) (if b = a then some _ else h.2 b)
    by_cases hq : b = a
    · subst hq
      cases ha.symm.trans hb
      rw [if_pos rfl]
      exact ⟨_, rfl, fun k _ => rfl⟩
    · rw [if_neg hq]
      have hc : c ≠ 9 := fun q => hq (hu b a (by rw [hb, q]) ha)
      rw [jKd_B hc]
      exact (w b c hb).2
theorem S_X10_put_3 {Γ : Nat → Option Nat} {n : Nat} (hu : ∀ a b c, 9 ≤ c → Γ a = some c → Γ b = some c → a = b) : ∀ (j k : Nat) {g : jGh} {a0 : Nat} {x1 x2 : Int32} {h : jH}, jW (jKd g) Γ h → Γ a0 = some 10 → j < k → j < 6 → x2.toInt = 8 * (j : Int) - 8 → 0 ≤ g.1 → g.1 + j ≤ 400 → jok (F_X10_put_3 n k a0 x1 x2 h) (fun h1 => ∃ B : Nat → Int32, jW (jKd (g.1 + j, B, g.2.2)) Γ h1)
  | 0, k + 1, g, a0, x1, x2, h, w, ta, _, _, hx, h0, h4 => by
    show jok (F_X10_put_3_b n (F_X10_put_3 n k) a0 x1 x2 h) _
    unfold F_X10_put_3_b
    have e : x2 < 0 := Int32.lt_iff_toInt_lt.mpr (by rw [hx]; show (8 * ((0 : Nat) : Int) - 8 : Int) < 0; decide)
    rw [if_pos e]
    refine jok_s ⟨g.2.1, ?_⟩
    have e2 : g.1 + ((0 : Nat) : Int) = g.1 := Int.add_zero _
    rw [e2]
    exact w
  | j + 1, k + 1, g, a0, x1, x2, h, w, ta, hk, hj, hx, h0, h4 => by
    show jok (F_X10_put_3_b n (F_X10_put_3 n k) a0 x1 x2 h) _
    unfold F_X10_put_3_b
    have ez : (0 : Int32).toInt = 0 := rfl
    have e4 : (400 : Int32).toInt = 400 := rfl
    have e8 : (-8 : Int32).toInt = -8 := rfl
    have e1 : (1 : Int32).toInt = 1 := rfl
    refine jok_lt (fun c => absurd c (by rw [hx, ez]; omega)) (fun _ => ?_)
    refine jok_b (t_gI w ta rfl rfl) (fun v8 l8 => ?_)
    have l8 : v8.toInt = g.1 := l8
    refine jok_le (fun c => absurd c (by rw [l8, e4]; omega)) (fun _ => ?_)
    refine jok_b (t_gR w ta rfl rfl) (fun p18 t18 => ?_)
    refine jok_b (t_gI w ta rfl rfl) (fun v22 l22 => ?_)
    have l22 : v22.toInt = g.1 := l22
    refine jok_b (t_pB w (fun a b => hu a b 9 (by decide)) t18 (by omega) (by omega)) (fun h29 w29 => ?_)
    obtain ⟨B, w29, -⟩ := w29
    refine jok_b (t_gI w29 ta rfl rfl) (fun v32 l32 => ?_)
    have l32 : v32.toInt = g.1 := l32
    refine jok_b (t_pL w29 (fun a b => hu a b 10 (by decide)) ta) (fun h37 w37 => ?_)
    have e5 : (v32 + (1 : Int32)).toInt = g.1 + 1 := by rw [jadd (by omega) (by omega), l32, e1]
    have w37 := w37.1
    rw [e5] at w37
    have e6 : (x2 + (-8 : Int32)).toInt = 8 * (j : Int) - 8 := by rw [jadd (by omega) (by omega), hx, e8]; omega
    refine jok_w (S_X10_put_3 hu j k w37 ta (by omega) (by omega) e6 (by show 0 ≤ g.1 + 1; omega) (by show g.1 + 1 + (j : Int) ≤ 400; omega)) (fun h1 q => ?_)
    obtain ⟨B2, q⟩ := q
    have q : jW (jKd (g.1 + 1 + (j : Int), B2, g.2.2)) Γ h1 := q
    refine ⟨B2, ?_⟩
    have e7 : g.1 + 1 + (j : Int) = g.1 + ((j + 1 : Nat) : Int) := by omega
    rw [e7] at q
    exact q
theorem S_X10_put {g : jGh} {Γ : Nat → Option Nat} {n a0 : Nat} {x1 : Int32} {h : jH} (hn : 6000 ≤ n) (w : jW (jKd g) Γ h) (ta0 : Γ a0 = some 10) (hu : ∀ a b c, 9 ≤ c → Γ a = some c → Γ b = some c → a = b) (h0 : 0 ≤ g.1) (h4 : g.1 ≤ 396) : jok (F_X10_put n a0 x1 h) (fun h1 => ∃ B : Nat → Int32, jW (jKd (g.1 + 4, B, g.2.2)) Γ h1) := by
  unfold F_X10_put
  exact S_X10_put_3 hu 4 n w ta0 (by omega) (by omega) rfl h0 (by omega)
theorem S_X11_feed {g : jGh} {Γ : Nat → Option Nat} {n a0 : Nat} {x1 x2 x3 x4 x5 : Int32} {h : jH} (hn : 6000 ≤ n) (hg : jgok g) (w : jW (jKd g) Γ h) (ta0 : Γ a0 = some 19) (hu : ∀ a b c, 9 ≤ c → Γ a = some c → Γ b = some c → a = b) : jok (F_X11_feed n a0 x1 x2 x3 x4 x5 h) (fun q => (∃ B : Nat → Int32, jW (jKd (if 380 < g.1 then g.1 else g.1 + 20, B, g.2.2)) Γ q.2) ∧ q.1.toInt = (if 380 < g.1 then -1 else g.1 + 20)) := by
  obtain ⟨⟨g0, g4⟩, -⟩ := id hg
  have ez : (0 : Int32).toInt = 0 := rfl
  unfold F_X11_feed
  refine jok_b (t_gR w ta0 rfl rfl) (fun p1 t1 => ?_)
  rw [t_cv w t1 rfl]
  refine jok_b (S_X10_hasRoom hn hg w t1) (fun v4 l4 => ?_)
  refine jok_eq (fun c _ => ?_) (fun c => ?_)
  · rw [ez] at c
    refine jok_s ⟨⟨g.2.1, ?_⟩, ?_⟩
    · rw [if_pos (by omega)]
      exact w
    · rw [if_pos (by omega)]
      rfl
  · rw [ez] at c
    have k4 : g.1 ≤ 380 := by omega
    rw [if_neg (show ¬ 380 < g.1 by omega), if_neg (show ¬ 380 < g.1 by omega)]
    refine jok_b (t_gR w ta0 rfl rfl) (fun p13 t13 => ?_)
    rw [t_cv w t13 rfl]
    refine jok_b (S_X10_put hn w t13 hu g0 (by omega)) (fun h17 w17 => ?_)
    obtain ⟨B1, w17⟩ := w17
    refine jok_b (t_gR w17 ta0 rfl rfl) (fun p21 t21 => ?_)
    rw [t_cv w17 t21 rfl]
    refine jok_b (S_X10_put hn w17 t21 hu (by show 0 ≤ g.1 + 4; omega) (by show g.1 + 4 ≤ 396; omega)) (fun h25 w25 => ?_)
    obtain ⟨B2, w25⟩ := w25
    refine jok_b (t_gR w25 ta0 rfl rfl) (fun p29 t29 => ?_)
    rw [t_cv w25 t29 rfl]
    refine jok_b (S_X10_put hn w25 t29 hu (by show 0 ≤ g.1 + 4 + 4; omega) (by show g.1 + 4 + 4 ≤ 396; omega)) (fun h33 w33 => ?_)
    obtain ⟨B3, w33⟩ := w33
    refine jok_b (t_gR w33 ta0 rfl rfl) (fun p37 t37 => ?_)
    rw [t_cv w33 t37 rfl]
    refine jok_b (S_X10_put hn w33 t37 hu (by show 0 ≤ g.1 + 4 + 4 + 4; omega) (by show g.1 + 4 + 4 + 4 ≤ 396; omega)) (fun h42 w42 => ?_)
    obtain ⟨B4, w42⟩ := w42
    refine jok_b (t_gR w42 ta0 rfl rfl) (fun p46 t46 => ?_)
    rw [t_cv w42 t46 rfl]
    refine jok_b (S_X10_put hn w42 t46 hu (by show 0 ≤ g.1 + 4 + 4 + 4 + 4; omega) (by show g.1 + 4 + 4 + 4 + 4 ≤ 396; omega)) (fun h51 w51 => ?_)
    obtain ⟨B5, w51⟩ := w51
    refine jok_b (t_gR w51 ta0 rfl rfl) (fun p55 t55 => ?_)
    refine jok_b (t_gI w51 t55 rfl rfl) (fun v58 l58 => ?_)
    have l58 : v58.toInt = g.1 + 4 + 4 + 4 + 4 + 4 := l58
    refine jok_s ⟨⟨B5, ?_⟩, (show v58.toInt = g.1 + 20 by omega)⟩
    have e : g.1 + 4 + 4 + 4 + 4 + 4 = g.1 + 20 := by omega
    have w51 : jW (jKd (g.1 + 4 + 4 + 4 + 4 + 4, B5, g.2.2)) Γ h51 := w51
    rw [e] at w51
    exact w51
theorem S_X11_end {g : jGh} {Γ : Nat → Option Nat} {n a0 : Nat} {x1 : Int32} {h : jH} (w : jW (jKd g) Γ h) (ta0 : Γ a0 = some 19) (hu : ∀ a b c, 9 ≤ c → Γ a = some c → Γ b = some c → a = b) : jok (F_X11_end n a0 x1 h) (fun q => jW (jKd (if 0 ≤ x1.toInt ∧ x1.toInt ≤ g.1 then x1.toInt else g.1, g.2)) Γ q.2 ∧ q.1 = (if 0 ≤ x1.toInt ∧ x1.toInt ≤ g.1 then 1 else 0)) := by
  have ez : (0 : Int32).toInt = 0 := rfl
  unfold F_X11_end
  refine jok_lt (fun c => ?_) (fun c => ?_)
  · rw [if_neg (by omega), if_neg (by omega)]
    exact jok_s ⟨w, rfl⟩
  refine jok_b (t_gR w ta0 rfl rfl) (fun p6 t6 => ?_)
  refine jok_b (t_gI w t6 rfl rfl) (fun v9 l9 => ?_)
  have l9 : v9.toInt = g.1 := l9
  refine jok_le (fun d => ?_) (fun d => ?_)
  · rw [if_pos (by omega), if_pos (by omega)]
    refine jok_b (t_gR w ta0 rfl rfl) (fun p18 t18 => ?_)
    refine jok_b (t_pL w (fun a b => hu a b 10 (by decide)) t18) (fun h22 w22 => ?_)
    exact jok_s ⟨w22.1, rfl⟩
  · rw [if_neg (by omega), if_neg (by omega)]
    exact jok_s ⟨w, rfl⟩
end
section
/-- fields of classes other than 4 and 6 are left alone -/
def jf0 (h h1 : jH) : Prop := ∀ c b k : Nat, c ≠ 4 → c ≠ 6 → jgf c h1 b k = jgf c h b k
theorem jf0_rfl {h : jH} : jf0 h h := fun _ _ _ _ _ => rfl
theorem jf0_tr {h h1 h2 : jH} (a : jf0 h h1) (b : jf0 h1 h2) : jf0 h h2 := fun c x k h4 h6 => (b c x k h4 h6).trans (a c x k h4 h6)
theorem f0_pf {h h1 : jH} {a k c : Nat} {v : Value} (hc : c = 4 ∨ c = 6) (e : jpf c h a k v = some h1) : jf0 h h1 := by
  obtain ⟨fs, e1, -, rfl⟩ := jpf_o e
  intro c2 b k2 h4 h6
  have hn : c ≠ c2 := by omega
  unfold jgf
  show (match (if b = a then some _ else h.2 b) with | some (.inl o) => if o.1 = c2 then o.2[k2]? else none | _ => none) = _
  by_cases hb : b = a
  · subst hb
    rw [if_pos rfl, e1]
    dsimp only
    rw [if_neg hn, if_neg hn]
  · rw [if_neg hb]
    rfl
theorem f0_as {t a : Nat} {i x : Int32} {h h1 : jH} (e : jas t h a i x = some h1) : jf0 h h1 := by
  obtain ⟨n, f, e1, -, -, rfl⟩ := jas_o e
  exact fun c b k _ _ => jfa_up e1 c b k
theorem f0_cp {a0 a : Nat} {sp dp n : Int32} {h h1 : jH} (e : jcp h a0 sp a dp n = some h1) : jf0 h h1 := by
  obtain ⟨n0, f, n1, g, e0, e1, -, -, -, -, -, rfl⟩ := jcp_o e
  exact fun c b k _ _ => jfa_up e1 c b k
theorem F0_X8_hangAs {n : Nat} {a0 : Nat} {a1 : Nat} {h : jH} {q : jH} (hf : F_X8_hangAs n a0 a1 h = some q) : jf0 h q := by
  unfold F_X8_hangAs at hf
  obtain ⟨p1, e1, hf⟩ := jbind hf
  obtain ⟨p6, e2, hf⟩ := jbind hf
  obtain ⟨h12, e3, hf⟩ := jbind hf
  obtain ⟨v17, e4, hf⟩ := jbind hf
  obtain ⟨h20, e5, hf⟩ := jbind hf
  obtain ⟨v25, e6, hf⟩ := jbind hf
  obtain ⟨h28, e7, hf⟩ := jbind hf
  cases hf
  have z9 := (jf0_tr (jf0_tr (f0_cp e3) (f0_pf (by decide) e5)) (f0_pf (by decide) e7))
  exact z9
theorem F0_X5_copyFrom {n : Nat} {a0 : Nat} {a1 : Nat} {h : jH} {q : jH} (hf : F_X5_copyFrom n a0 a1 h = some q) : jf0 h q := by
  unfold F_X5_copyFrom at hf
  obtain ⟨p1, e1, hf⟩ := jbind hf
  obtain ⟨p6, e2, hf⟩ := jbind hf
  obtain ⟨h12, e3, hf⟩ := jbind hf
  obtain ⟨v17, e4, hf⟩ := jbind hf
  obtain ⟨h20, e5, hf⟩ := jbind hf
  obtain ⟨v25, e6, hf⟩ := jbind hf
  obtain ⟨h28, e7, hf⟩ := jbind hf
  cases hf
  have z9 := (jf0_tr (jf0_tr (f0_cp e3) (f0_pf (by decide) e5)) (f0_pf (by decide) e7))
  exact z9
theorem F0_X8_copyFrom {n : Nat} {a0 : Nat} {a1 : Nat} {h : jH} {q : jH} (hf : F_X8_copyFrom n a0 a1 h = some q) : jf0 h q := by
  unfold F_X8_copyFrom at hf
  obtain ⟨p1, e1, hf⟩ := jbind hf
  obtain ⟨p6, e2, hf⟩ := jbind hf
  obtain ⟨h12, e3, hf⟩ := jbind hf
  obtain ⟨p16, e4, hf⟩ := jbind hf
  obtain ⟨p21, e5, hf⟩ := jbind hf
  obtain ⟨h27, e6, hf⟩ := jbind hf
  obtain ⟨p31, e7, hf⟩ := jbind hf
  obtain ⟨p36, e8, hf⟩ := jbind hf
  obtain ⟨h42, e9, hf⟩ := jbind hf
  obtain ⟨p46, e10, hf⟩ := jbind hf
  obtain ⟨p50, e11, hf⟩ := jbind hf
  obtain ⟨h53, e12, hf⟩ := jbind hf
  obtain ⟨-, e12⟩ := jcv_o e12
  obtain ⟨v58, e13, hf⟩ := jbind hf
  obtain ⟨h61, e14, hf⟩ := jbind hf
  obtain ⟨v66, e15, hf⟩ := jbind hf
  obtain ⟨h69, e16, hf⟩ := jbind hf
  obtain ⟨v74, e17, hf⟩ := jbind hf
  obtain ⟨h77, e18, hf⟩ := jbind hf
  obtain ⟨v82, e19, hf⟩ := jbind hf
  obtain ⟨h85, e20, hf⟩ := jbind hf
  obtain ⟨v90, e21, hf⟩ := jbind hf
  obtain ⟨h93, e22, hf⟩ := jbind hf
  obtain ⟨v98, e23, hf⟩ := jbind hf
  obtain ⟨h101, e24, hf⟩ := jbind hf
  obtain ⟨v106, e25, hf⟩ := jbind hf
  obtain ⟨h109, e26, hf⟩ := jbind hf
  obtain ⟨v114, e27, hf⟩ := jbind hf
  obtain ⟨h117, e28, hf⟩ := jbind hf
  obtain ⟨v122, e29, hf⟩ := jbind hf
  obtain ⟨h125, e30, hf⟩ := jbind hf
  obtain ⟨v130, e31, hf⟩ := jbind hf
  obtain ⟨h133, e32, hf⟩ := jbind hf
  obtain ⟨v138, e33, hf⟩ := jbind hf
  obtain ⟨h141, e34, hf⟩ := jbind hf
  obtain ⟨h146, e35, hf⟩ := jbind hf
  obtain ⟨-, e35⟩ := jcv_o e35
  cases hf
  have z9 := (jf0_tr (jf0_tr (jf0_tr (jf0_tr (jf0_tr (jf0_tr (jf0_tr (jf0_tr (jf0_tr (jf0_tr (jf0_tr (jf0_tr (jf0_tr (jf0_tr (jf0_tr (f0_cp e3) (f0_cp e6)) (f0_cp e9)) (F0_X5_copyFrom e12)) (f0_pf (by decide) e14)) (f0_pf (by decide) e16)) (f0_pf (by decide) e18)) (f0_pf (by decide) e20)) (f0_pf (by decide) e22)) (f0_pf (by decide) e24)) (f0_pf (by decide) e26)) (f0_pf (by decide) e28)) (f0_pf (by decide) e30)) (f0_pf (by decide) e32)) (f0_pf (by decide) e34)) (F0_X8_hangAs e35))
  exact z9
theorem t_rod {g : jGh} {Γ : Nat → Option Nat} {n : Nat} {h : jH} (w : jW (jKd g) Γ h) : jok (F_X8_init n h.1 (jnew h (.inl (6, [.null, .null, .null, .null, .null, .int 0, .int 0, .int 0, .int 0, .int 0, .int 0, .int 0, .int 0, .int 0, .int 0, .int 0, .int 0, .int 0])))) (fun h2 => ∃ G2, jle Γ G2 ∧ jW (jKd g) G2 h2 ∧ G2 h.1 = some 3 ∧ ∀ b, b < h.1 → h2.2 b = h.2 b) := by
  refine jok_w (I_X8_init (n := n) (h := h)) (fun h2 j => ?_)
  obtain ⟨w2, hm⟩ := jx_jW (ks := kX8_init) j rfl w (chkX8_init (fun i c q => jext_at q))
  refine ⟨_, ⟨hm, fun a c hc ha => ?_⟩, w2, jext_at (i := 0) rfl, j.2.1⟩
  unfold jext at ha
  by_cases q : a < h.1
  · rw [if_pos q] at ha; exact ha
  · rw [if_neg q] at ha
    have hl : ∀ c ∈ kX8_init, c < 9 := by decide
    have := hl c (List.mem_of_getElem? ha)
    omega
theorem t_law {g : jGh} {Γ : Nat → Option Nat} {n : Nat} {h : jH} (w : jW (jKd g) Γ h) : jok (F_X2_init n h.1 (jnew h (.inl (2, [.null, .null, .null, .null, .null, .int 0, .int 0, .int 0, .int 0])))) (fun h2 => ∃ G2, jle Γ G2 ∧ jW (jKd g) G2 h2 ∧ G2 h.1 = some 8 ∧ ∀ b, b < h.1 → h2.2 b = h.2 b) := by
  refine jok_w (I_X2_init (n := n) (h := h)) (fun h2 j => ?_)
  obtain ⟨w2, hm⟩ := jx_jW (ks := kX2_init) j rfl w (chkX2_init (fun i c q => jext_at q))
  refine ⟨_, ⟨hm, fun a c hc ha => ?_⟩, w2, jext_at (i := 0) rfl, j.2.1⟩
  unfold jext at ha
  by_cases q : a < h.1
  · rw [if_pos q] at ha; exact ha
  · rw [if_neg q] at ha
    have hl : ∀ c ∈ kX2_init, c < 9 := by decide
    have := hl c (List.mem_of_getElem? ha)
    omega
theorem fR {h h1 : jH} {ci b k : Nat} {v : Nat} (e : jgf ci h1 b k = jgf ci h b k) (q : jgR ci h b k = some v) : jgR ci h1 b k = some v := by
  unfold jgR at q ⊢
  rw [e]
  exact q
theorem fQ {h h1 : jH} {ci b k : Nat} {v : Option Nat} (e : jgf ci h1 b k = jgf ci h b k) (q : jgQ ci h b k = some v) : jgQ ci h1 b k = some v := by
  unfold jgQ at q ⊢
  rw [e]
  exact q
theorem S_X0_remember_63 {g : jGh} {Γ : Nat → Option Nat} {n a0 : Nat} {s1 : Int32} {h : jH} (w : jW (jKd g) Γ h) (ta0 : Γ a0 = some 12) (l0 : 0 ≤ s1.toInt) (l1 : s1.toInt ≤ 11) : jok (F_X0_remember_63 n a0 a0 s1 h) (fun q => jW (jKd g) Γ q) := by
  have e1 : (1 : Int32).toInt = 1 := rfl
  have e12 : (12 : Int32).toInt = 12 := rfl
  unfold F_X0_remember_63
  refine jok_b (t_pI w ta0 rfl rfl ⟨l0, l1⟩) (fun h63 w63 => ?_)
  obtain ⟨w63, -, -⟩ := w63
  refine jok_b (t_gI w63 ta0 rfl rfl) (fun v70 l70 => ?_)
  have l70 : 0 ≤ v70.toInt ∧ v70.toInt ≤ 12 := l70
  have ea : (v70 + (1 : Int32)).toInt = v70.toInt + 1 := by rw [jadd (by omega) (by omega), e1]
  refine jok_b (t_pI w63 ta0 rfl rfl (jif_lt (fun _ => by omega) (fun _ => by omega))) (fun h78 w78 => ?_)
  exact jok_s w78.1
theorem S_X0_remember_28 {g : jGh} {Γ : Nat → Option Nat} {n a0 a1 p b : Nat} {v : Int32} {h : jH} (hn : 6000 ≤ n) (hg : jgok g) (w : jW (jKd g) Γ h) (ta0 : Γ a0 = some 12) (ta1 : Γ a1 = some 3) (hp : jgR 0 h a0 0 = some p) (hv : jgI 0 h a0 1 = some v) (hb : jalq h p v = some (some b)) (tb : Γ b = some 3) : jok (F_X0_remember_28 n a0 a1 h) (fun q => jW (jKd g) Γ q) := by
  have e1 : (1 : Int32).toInt = 1 := rfl
  have e12 : (12 : Int32).toInt = 12 := rfl
  unfold F_X0_remember_28
  refine jok_r hp (jok_r hv (jok_r hb ?_))
  dsimp only
  rw [t_cv w tb rfl]
  refine jok_b (S_X8_copyFrom hn hg w tb ta1) (fun h38 w38 => ?_)
  obtain ⟨v43, e43, l43⟩ := t_gI (k := 1) w38 ta0 rfl rfl
  have l43 : 0 ≤ v43.toInt ∧ v43.toInt ≤ 11 := l43
  have ea : (v43 + (1 : Int32)).toInt = v43.toInt + 1 := by rw [jadd (by omega) (by omega), e1]
  refine jok_r e43 ?_
  refine jok_le (fun _ => S_X0_remember_63 w38 ta0 (by decide) (by decide)) (fun d => ?_)
  exact jok_r e43 (S_X0_remember_63 w38 ta0 (by omega) (by omega))
theorem S_X0_remember {g : jGh} {Γ : Nat → Option Nat} {n a0 a1 : Nat} {h : jH} (hn : 6000 ≤ n) (hg : jgok g) (w : jW (jKd g) Γ h) (ta0 : Γ a0 = some 12) (ta1 : Γ a1 = some 3) : jok (F_X0_remember n a0 a1 h) (fun q => ∃ G2, jle Γ G2 ∧ jW (jKd g) G2 q) := by
  unfold F_X0_remember
  obtain ⟨p1, e1, t1⟩ := t_gR (k := 0) w ta0 rfl rfl
  obtain ⟨v5, e5, l5⟩ := t_gI (k := 1) w ta0 rfl rfl
  have l5 : 0 ≤ v5.toInt ∧ v5.toInt ≤ 11 := l5
  obtain ⟨o8, e8, t8⟩ := t_alq w t1 rfl (by decide) l5.1 (by omega)
  refine jok_r e1 (jok_r e5 (jok_r e8 ?_))
  cases o8 with
  | some p9 => exact jok_w (S_X0_remember_28 hn hg w ta0 ta1 e1 e5 e8 (t8 p9 rfl)) (fun q wq => ⟨Γ, jle_rfl, wq⟩)
  | none =>
    dsimp only
    refine jok_r e1 (jok_r e5 ?_)
    refine jok_r (show jnw h _ = some _ from rfl) ?_
    refine jok_b (t_rod w) (fun h24 w24 => ?_)
    obtain ⟨G2, hle, w24, tz, hs⟩ := w24
    have ta2 := hle.1 a0 12 ta0
    have t12 := hle.1 p1 11 t1
    have eo : ∀ k2 : Nat, jgf 0 h24 a0 k2 = jgf 0 h a0 k2 := fun k2 => by
      unfold jgf
      rw [hs a0 (w a0 12 ta0).1]
    refine jok_b (t_asq w24 t12 rfl (by decide) tz rfl l5.1 (by omega)) (fun h27 w27 => ?_)
    obtain ⟨w27, f27, b27⟩ := w27
    exact jok_w (S_X0_remember_28 hn hg w27 ta2 (hle.1 a1 3 ta1) (fR ((f27 0 a0 0).trans (eo 0)) e1) (fI ((f27 0 a0 1).trans (eo 1)) e5) b27 tz) (fun q wq => ⟨G2, hle, wq⟩)
theorem S_X0_takeBack_18 {g : jGh} {Γ : Nat → Option Nat} {n a0 a1 : Nat} {s0 : Int32} {h : jH} (hn : 6000 ≤ n) (hg : jgok g) (w : jW (jKd g) Γ h) (ta0 : Γ a0 = some 12) (ta1 : Γ a1 = some 3) (l0 : 0 ≤ s0.toInt) (l1 : s0.toInt ≤ 11) : jok (F_X0_takeBack_18 n a0 a1 s0 h) (fun q => jW (jKd g) Γ q.2 ∧ (q.1 = 0 ∨ q.1 = 1)) := by
  have ez : (0 : Int32).toInt = 0 := rfl
  have e1 : (1 : Int32).toInt = 1 := rfl
  unfold F_X0_takeBack_18
  obtain ⟨v20, e20, l20⟩ := t_gI (k := 2) w ta0 rfl rfl
  refine jok_r e20 (jok_eq (fun _ _ => jok_s ⟨w, Or.inl rfl⟩) (fun n20 => ?_))
  obtain ⟨p27, e27, t27⟩ := t_gR (k := 0) w ta0 rfl rfl
  obtain ⟨o31, e31, t31⟩ := t_alq w t27 rfl (by decide) l0 (by omega)
  refine jok_r e27 (jok_r e31 ?_)
  cases o31 with
  | none => exact jok_s ⟨w, Or.inl rfl⟩
  | some p32 =>
    dsimp only
    refine jok_r e27 (jok_r e31 ?_)
    dsimp only
    rw [t_cv w ta1 rfl]
    refine jok_b2 (S_X8_copyFrom hn hg w ta1 (t31 p32 rfl)) (fun h44 e44 w44 => ?_)
    have f44 := F0_X8_copyFrom e44
    refine jok_b (t_pI w44 ta0 rfl rfl ⟨l0, l1⟩) (fun h49 w49 => ?_)
    obtain ⟨w49, -, f49⟩ := w49
    have q54 := fI (f49 0 a0 2 (Or.inr (by decide))) (fI (f44 0 a0 2 (by decide) (by decide)) e20)
    refine jok_r q54 ?_
    have l20 : 0 ≤ v20.toInt ∧ v20.toInt ≤ 12 := l20
    rw [ez] at n20
    have es : (v20 - (1 : Int32)).toInt = v20.toInt - 1 := by rw [jsub (by omega) (by omega), e1]
    refine jok_b (t_pI w49 ta0 rfl rfl (by constructor <;> omega)) (fun h59 w59 => ?_)
    exact jok_s ⟨w59.1, Or.inr rfl⟩
theorem S_X0_takeBack {g : jGh} {Γ : Nat → Option Nat} {n a0 a1 : Nat} {h : jH} (hn : 6000 ≤ n) (hg : jgok g) (w : jW (jKd g) Γ h) (ta0 : Γ a0 = some 12) (ta1 : Γ a1 = some 3) : jok (F_X0_takeBack n a0 a1 h) (fun q => jW (jKd g) Γ q.2 ∧ (q.1 = 0 ∨ q.1 = 1)) := by
  have ez : (0 : Int32).toInt = 0 := rfl
  have eo : (1 : Int32).toInt = 1 := rfl
  unfold F_X0_takeBack
  obtain ⟨v1, e1, l1⟩ := t_gI (k := 1) w ta0 rfl rfl
  have l1 : 0 ≤ v1.toInt ∧ v1.toInt ≤ 11 := l1
  refine jok_r e1 (jok_le (fun _ => S_X0_takeBack_18 hn hg w ta0 ta1 (by decide) (by decide)) (fun d => ?_))
  refine jok_r e1 ?_
  rw [ez] at d
  have es : (v1 - (1 : Int32)).toInt = v1.toInt - 1 := by rw [jsub (by omega) (by omega), eo]
  exact S_X0_takeBack_18 hn hg w ta0 ta1 (by omega) (by omega)
theorem S_X11_undo {g : jGh} {Γ : Nat → Option Nat} {n a0 : Nat} {h : jH} (hn : 6000 ≤ n) (hg : jgok g) (w : jW (jKd g) Γ h) (ta0 : Γ a0 = some 19) : jok (F_X11_undo n a0 h) (fun q => jW (jKd g) Γ q.2) := by
  unfold F_X11_undo
  refine jok_b (t_gR w ta0 rfl rfl) (fun p1 t1 => ?_)
  refine jok_b (t_gR w ta0 rfl rfl) (fun p5 t5 => ?_)
  rw [t_cv w t1 rfl]
  refine jok_b (S_X0_takeBack hn hg w t1 t5) (fun q8 w8 => ?_)
  rw [if_pos w8.2]
  exact jok_s w8.1
/-! the image of the class: two fields that are null, or not, by the ghosts -/
abbrev jghF (g : jGh) (u v : Int32) : jGh := (g.1, g.2.1, g.2.2.1, g.2.2.2.1, g.2.2.2.2.1, g.2.2.2.2.2.1, u, v, g.2.2.2.2.2.2.2.2)
theorem jKd_F {g : jGh} {u v : Int32} {c : Nat} (hc : c ≠ 19) : jKd (jghF g u v) c = jKd g c := by
  unfold jKd
  split <;> first | rfl | exact absurd rfl hc
theorem t_k10 {g : jGh} {Γ : Nat → Option Nat} {h : jH} {a : Nat} (w : jW (jKd g) Γ h) (ha : Γ a = some 19) (h41 : ∀ b, Γ b ≠ some 41) : (g.2.2.2.2.2.2.1 = 0 ∧ jgQ 9 h a 10 = some none) ∨ (g.2.2.2.2.2.2.1 ≠ 0 ∧ ∃ b, jgQ 9 h a 10 = some (some b) ∧ Γ b = some 3) := by
  obtain ⟨v, e, hv⟩ := t_gf (k := 10) w ha rfl rfl
  by_cases q : g.2.2.2.2.2.2.1 = 0
  · left
    rw [if_pos q] at hv
    rcases hv with rfl | ⟨b, rfl, hb⟩
    · exact ⟨q, by unfold jgQ; rw [e]⟩
    · exact absurd hb (h41 b)
  · right
    rw [if_neg q] at hv
    obtain ⟨b, rfl, hb⟩ := hv
    exact ⟨q, b, by unfold jgQ; rw [e], hb⟩
theorem t_k11 {g : jGh} {Γ : Nat → Option Nat} {h : jH} {a : Nat} (w : jW (jKd g) Γ h) (ha : Γ a = some 19) (h41 : ∀ b, Γ b ≠ some 41) : (g.2.2.2.2.2.2.2.1 = 0 ∧ jgQ 9 h a 11 = some none) ∨ (g.2.2.2.2.2.2.2.1 ≠ 0 ∧ ∃ b, jgQ 9 h a 11 = some (some b) ∧ Γ b = some 8) := by
  obtain ⟨v, e, hv⟩ := t_gf (k := 11) w ha rfl rfl
  by_cases q : g.2.2.2.2.2.2.2.1 = 0
  · left
    rw [if_pos q] at hv
    rcases hv with rfl | ⟨b, rfl, hb⟩
    · exact ⟨q, by unfold jgQ; rw [e]⟩
    · exact absurd hb (h41 b)
  · right
    rw [if_neg q] at hv
    obtain ⟨b, rfl, hb⟩ := hv
    exact ⟨q, b, by unfold jgQ; rw [e], hb⟩
theorem t_p10 {g : jGh} {Γ : Nat → Option Nat} {h : jH} {a b : Nat} (w : jW (jKd g) Γ h) (hu : ∀ a b c, 9 ≤ c → Γ a = some c → Γ b = some c → a = b) (ha : Γ a = some 19) (hb : Γ b = some 3) : jok (jpf 9 h a 10 (.ref b)) (fun h1 => jW (jKd (jghF g 1 g.2.2.2.2.2.2.2.1)) Γ h1 ∧ jgf 9 h1 a 10 = some (.ref b) ∧ jfr h h1 a 10) := by
  obtain ⟨vs, e1, e2, e3⟩ := t_obj w ha rfl
  have hlt : 10 < vs.length := by rw [e2]; exact Nat.le_of_ble_eq_true rfl
  refine ⟨jup h a (.inl (9, vs.set 10 (.ref b))), ?_, ?_, ?_, jfr_up e1⟩
  · unfold jpf
    rw [e1]
    dsimp only
    rw [if_pos ⟨rfl, hlt⟩]
  · intro b9 c hb9
    refine ⟨(w b9 c hb9).1, ?_⟩
    show okE Γ (jKd (jghF g 1 g.2.2.2.2.2.2.2.1) c) (if b9 = a then some _ else h.2 b9)
    by_cases hq : b9 = a
    · subst hq
      cases ha.symm.trans hb9
      rw [if_pos rfl]
      refine ⟨_, rfl, by rw [List.length_set]; exact e2, fun j F9 hj => ?_⟩
      by_cases hq : j = 10
      · subst hq
        cases hj
        exact ⟨.ref b, by rw [List.getElem?_set_self hlt], by rw [if_neg (show ¬ (1 : Int32) = 0 by decide)]; exact ⟨b, rfl, hb⟩⟩
      · have hj2 : (match jKd g 19 with | .inr (.inr q) => q.2 | _ => [])[j]? = some F9 := by
          match j, hq, hj with
          | 0, _, hj => exact hj
          | 1, _, hj => exact hj
          | 2, _, hj => exact hj
          | 3, _, hj => exact hj
          | 4, _, hj => exact hj
          | 5, _, hj => exact hj
          | 6, _, hj => exact hj
          | 7, _, hj => exact hj
          | 8, _, hj => exact hj
          | 9, _, hj => exact hj
          | 11, _, hj => exact hj
          | 12, _, hj => exact hj
          | j + 13, _, hj => cases hj
        obtain ⟨v9, f1, f2⟩ := e3 j F9 hj2
        exact ⟨v9, by rw [List.getElem?_set_ne (Ne.symm hq)]; exact f1, f2⟩
    · rw [if_neg hq]
      have hc : c ≠ 19 := fun q => hq (hu b9 a 19 (by decide) (by rw [hb9, q]) ha)
      rw [jKd_F hc]
      exact (w b9 c hb9).2
  · unfold jgf
    show (match (if a = a then some _ else h.2 a) with | some (.inl o) => if o.1 = 9 then o.2[10]? else none | _ => none) = _
    rw [if_pos rfl]
    dsimp only
    rw [if_pos rfl, List.getElem?_set_self hlt]
theorem t_p11 {g : jGh} {Γ : Nat → Option Nat} {h : jH} {a b : Nat} (w : jW (jKd g) Γ h) (hu : ∀ a b c, 9 ≤ c → Γ a = some c → Γ b = some c → a = b) (ha : Γ a = some 19) (hb : Γ b = some 8) : jok (jpf 9 h a 11 (.ref b)) (fun h1 => jW (jKd (jghF g g.2.2.2.2.2.2.1 1)) Γ h1 ∧ jgf 9 h1 a 11 = some (.ref b) ∧ jfr h h1 a 11) := by
  obtain ⟨vs, e1, e2, e3⟩ := t_obj w ha rfl
  have hlt : 11 < vs.length := by rw [e2]; exact Nat.le_of_ble_eq_true rfl
  refine ⟨jup h a (.inl (9, vs.set 11 (.ref b))), ?_, ?_, ?_, jfr_up e1⟩
  · unfold jpf
    rw [e1]
    dsimp only
    rw [if_pos ⟨rfl, hlt⟩]
  · intro b9 c hb9
    refine ⟨(w b9 c hb9).1, ?_⟩
    show okE Γ (jKd (jghF g g.2.2.2.2.2.2.1 1) c) (if b9 = a then some _ else h.2 b9)
    by_cases hq : b9 = a
    · subst hq
      cases ha.symm.trans hb9
      rw [if_pos rfl]
      refine ⟨_, rfl, by rw [List.length_set]; exact e2, fun j F9 hj => ?_⟩
      by_cases hq : j = 11
      · subst hq
        cases hj
        exact ⟨.ref b, by rw [List.getElem?_set_self hlt], by rw [if_neg (show ¬ (1 : Int32) = 0 by decide)]; exact ⟨b, rfl, hb⟩⟩
      · have hj2 : (match jKd g 19 with | .inr (.inr q) => q.2 | _ => [])[j]? = some F9 := by
          match j, hq, hj with
          | 0, _, hj => exact hj
          | 1, _, hj => exact hj
          | 2, _, hj => exact hj
          | 3, _, hj => exact hj
          | 4, _, hj => exact hj
          | 5, _, hj => exact hj
          | 6, _, hj => exact hj
          | 7, _, hj => exact hj
          | 8, _, hj => exact hj
          | 9, _, hj => exact hj
          | 10, _, hj => exact hj
          | 12, _, hj => exact hj
          | j + 13, _, hj => cases hj
        obtain ⟨v9, f1, f2⟩ := e3 j F9 hj2
        exact ⟨v9, by rw [List.getElem?_set_ne (Ne.symm hq)]; exact f1, f2⟩
    · rw [if_neg hq]
      have hc : c ≠ 19 := fun q => hq (hu b9 a 19 (by decide) (by rw [hb9, q]) ha)
      rw [jKd_F hc]
      exact (w b9 c hb9).2
  · unfold jgf
    show (match (if a = a then some _ else h.2 a) with | some (.inl o) => if o.1 = 9 then o.2[11]? else none | _ => none) = _
    rw [if_pos rfl]
    dsimp only
    rw [if_pos rfl, List.getElem?_set_self hlt]
theorem S_X11_image_36 {g : jGh} {Γ : Nat → Option Nat} {n a0 p q : Nat} {h : jH} (hn : 6000 ≤ n) (hg : jgok g) (w : jW (jKd g) Γ h) (ta0 : Γ a0 = some 19) (e10 : jgQ 9 h a0 10 = some (some p)) (tp : Γ p = some 3) (e11 : jgQ 9 h a0 11 = some (some q)) (tq : Γ q = some 8) : jok (F_X11_image_36 n a0 h) (fun q => jW (jKd g) Γ q) := by
  unfold F_X11_image_36
  refine jok_r e10 ?_
  refine jok_b (t_gR w ta0 rfl rfl) (fun p41 t41 => ?_)
  dsimp only
  rw [t_cv w tp rfl]
  refine jok_b2 (S_X8_copyFrom hn hg w tp t41) (fun h44 e44 w44 => ?_)
  have f44 := F0_X8_copyFrom e44
  refine jok_r (fQ (f44 9 a0 11 (by decide) (by decide)) e11) ?_
  refine jok_b (t_gR w44 ta0 rfl rfl) (fun p52 t52 => ?_)
  dsimp only
  rw [t_cv w44 tq rfl]
  refine jok_b (S_X2_copyFrom hn hg w44 tq t52) (fun h55 w55 => ?_)
  exact jok_s w55
theorem S_X11_image_18 {g : jGh} {Γ : Nat → Option Nat} {n a0 p : Nat} {h : jH} (hn : 6000 ≤ n) (hg : jgok g) (w : jW (jKd g) Γ h) (ta0 : Γ a0 = some 19) (hu : ∀ a b c, 9 ≤ c → Γ a = some c → Γ b = some c → a = b) (h41 : ∀ b, Γ b ≠ some 41) (e10 : jgQ 9 h a0 10 = some (some p)) (tp : Γ p = some 3) : jok (F_X11_image_18 n a0 h) (fun q => ∃ (G2 : Nat → Option Nat) (v : Int32), jle Γ G2 ∧ v ≠ 0 ∧ jW (jKd (jghF g g.2.2.2.2.2.2.1 v)) G2 q) := by
  unfold F_X11_image_18
  rcases t_k11 w ta0 h41 with ⟨-, eo⟩ | ⟨z9, p22, eo, to⟩
  · refine jok_r eo ?_
    dsimp only
    refine jok_r (show jnw h _ = some _ from rfl) ?_
    refine jok_b (t_law w) (fun h30 w30 => ?_)
    obtain ⟨G2, hle, w30, tz, hs⟩ := w30
    have ta2 := hle.1 a0 19 ta0
    have hu2 : ∀ a b c, 9 ≤ c → G2 a = some c → G2 b = some c → a = b := fun a b c k p q => hu a b c k (hle.2 a c k p) (hle.2 b c k q)
    have eo2 : ∀ k2 : Nat, jgf 9 h30 a0 k2 = jgf 9 h a0 k2 := fun k2 => by
      unfold jgf
      rw [hs a0 (w a0 19 ta0).1]
    refine jok_b (t_p11 w30 hu2 ta2 tz) (fun h33 w33 => ?_)
    obtain ⟨w33, q33, f33⟩ := w33
    have e11 : jgQ 9 h33 a0 11 = some (some h.1) := by unfold jgQ; rw [q33]
    have e10b := fQ ((f33 9 a0 10 (Or.inr (by decide))).trans (eo2 10)) e10
    exact jok_w (S_X11_image_36 hn (show jgok (jghF g g.2.2.2.2.2.2.1 1) from hg) w33 ta2 e10b (hle.1 _ _ tp) e11 tz) (fun q wq => ⟨G2, 1, hle, by decide, wq⟩)
  · refine jok_r eo ?_
    dsimp only
    exact jok_w (S_X11_image_36 hn hg w ta0 e10 tp eo to) (fun q wq => ⟨Γ, g.2.2.2.2.2.2.2.1, jle_rfl, z9, wq⟩)
theorem S_X11_image {g : jGh} {Γ : Nat → Option Nat} {n a0 : Nat} {h : jH} (hn : 6000 ≤ n) (hg : jgok g) (w : jW (jKd g) Γ h) (ta0 : Γ a0 = some 19) (hu : ∀ a b c, 9 ≤ c → Γ a = some c → Γ b = some c → a = b) (h41 : ∀ b, Γ b ≠ some 41) : jok (F_X11_image n a0 h) (fun q => ∃ (G2 : Nat → Option Nat) (u v : Int32), jle Γ G2 ∧ u ≠ 0 ∧ v ≠ 0 ∧ jW (jKd (jghF g u v)) G2 q) := by
  unfold F_X11_image
  rcases t_k10 w ta0 h41 with ⟨-, eo⟩ | ⟨z9, p4, eo, to⟩
  · refine jok_r eo ?_
    dsimp only
    refine jok_r (show jnw h _ = some _ from rfl) ?_
    refine jok_b (t_rod w) (fun h12 w12 => ?_)
    obtain ⟨G2, hle, w12, tz, hs⟩ := w12
    have ta2 := hle.1 a0 19 ta0
    have hu2 : ∀ a b c, 9 ≤ c → G2 a = some c → G2 b = some c → a = b := fun a b c k p q => hu a b c k (hle.2 a c k p) (hle.2 b c k q)
    have h412 : ∀ b, G2 b ≠ some 41 := fun b q => h41 b (hle.2 b 41 (by decide) q)
    refine jok_b (t_p10 w12 hu2 ta2 tz) (fun h15 w15 => ?_)
    obtain ⟨w15, q15, f15⟩ := w15
    have e10 : jgQ 9 h15 a0 10 = some (some h.1) := by unfold jgQ; rw [q15]
    refine jok_w (S_X11_image_18 hn (show jgok (jghF g 1 g.2.2.2.2.2.2.2.1) from hg) w15 ta2 hu2 h412 e10 tz) (fun q wq => ?_)
    obtain ⟨G3, v, hle3, hv, wq⟩ := wq
    exact ⟨G3, 1, v, jle_tr hle hle3, by decide, hv, wq⟩
  · refine jok_r eo ?_
    dsimp only
    refine jok_w (S_X11_image_18 hn hg w ta0 hu h41 eo to) (fun q wq => ?_)
    obtain ⟨G3, v, hle3, hv, wq⟩ := wq
    exact ⟨G3, _, v, hle3, z9, hv, wq⟩
theorem S_X11_back {g : jGh} {Γ : Nat → Option Nat} {n a0 : Nat} {h : jH} (hn : 6000 ≤ n) (hg : jgok g) (w : jW (jKd g) Γ h) (ta0 : Γ a0 = some 19) (h41 : ∀ b, Γ b ≠ some 41) : jok (F_X11_back n a0 h) (fun q => jW (jKd g) Γ q.2 ∧ q.1 = (if g.2.2.2.2.2.2.1 = 0 ∨ g.2.2.2.2.2.2.2.1 = 0 then 0 else 1)) := by
  unfold F_X11_back
  rcases t_k10 w ta0 h41 with ⟨z1, e1⟩ | ⟨z1, p4, e1, t4⟩
  · refine jok_r e1 ?_
    exact jok_s ⟨w, by rw [if_pos (Or.inl z1)]⟩
  refine jok_r e1 ?_
  dsimp only
  rcases t_k11 w ta0 h41 with ⟨z8, e8⟩ | ⟨z8, p11, e8, t11⟩
  · refine jok_r e8 ?_
    exact jok_s ⟨w, by rw [if_pos (Or.inr z8)]⟩
  refine jok_r e8 ?_
  dsimp only
  refine jok_b (t_gR w ta0 rfl rfl) (fun p17 t17 => ?_)
  refine jok_r e1 ?_
  dsimp only
  rw [t_cv w t17 rfl]
  refine jok_b2 (S_X8_copyFrom hn hg w t17 t4) (fun h24 e24 w24 => ?_)
  have f24 := F0_X8_copyFrom e24
  refine jok_b (t_gR w24 ta0 rfl rfl) (fun p28 t28 => ?_)
  refine jok_r (fQ (f24 9 a0 11 (by decide) (by decide)) e8) ?_
  dsimp only
  rw [t_cv w24 t28 rfl]
  refine jok_b (S_X2_copyFrom hn hg w24 t28 t11) (fun h35 w35 => ?_)
  refine jok_b (t_gR w35 ta0 rfl rfl) (fun p39 t39 => ?_)
  rw [t_cv w35 t39 rfl]
  refine jok_b (S_X0_forget hn hg w35 t39) (fun h42 w42 => ?_)
  exact jok_s ⟨w42, by rw [if_neg (fun q => q.elim z1 z8)]⟩
end
