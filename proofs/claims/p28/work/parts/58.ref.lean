theorem L_letters {g : jGh} {Γ : Nat → Option Nat} {n a0 : Nat} {C0 : Nat → Int32} {s t : Nat} {d b p : Int} {h : jH} (hn : 6000 ≤ n) (ta0 : Γ a0 = some 20) (a : jls g Γ a0 C0 s t d b p h) : jok (F_X12_letters n a0 h) (fun q => jls g Γ a0 C0 s t d b p q ∧ ∃ w v, jgI 10 q a0 12 = some w ∧ jgI 10 q a0 10 = some v ∧ w.toInt ≤ v.toInt ∧ (¬ v.toInt = w.toInt → jls g Γ a0 C0 s t (d + 1) (b + 1) p q) ∧ ∀ q2, jpf 10 q a0 10 (.int w) = some q2 → jls g Γ a0 C0 s t d b p q2) := by
  obtain ⟨C, hC, w, st, u, dp, e1, e2, e3, e4, e5, e6, e8, e7⟩ := a
  have hA : ∃ st u dp : Int32, jgI 10 h a0 16 = some st ∧ jgI 10 h a0 10 = some u ∧ jgI 10 h a0 13 = some dp ∧ dp.toInt = p ∧ (s : Int) ≤ st.toInt ∧ st.toInt + d ≤ u.toInt ∧ b ≤ u.toInt ∧ jhgt (jdr C) s (st.toInt.toNat - s) = some t := ⟨st, u, dp, e1, e2, e3, e4, e5, e6, e8, e7⟩
  refine jok_w (T_X12_letters hn w ta0 e2) (fun q wq => ?_)
  obtain ⟨wq, z, v, ez, ev, l1, l2⟩ := wq
  have hm : ∀ e : Int, u.toInt + e ≤ v.toInt → jmo a0 e h q := fun e he u9 e99 => by
    have qz : u = u9 := Option.some.inj (e2.symm.trans e99)
    subst qz
    exact ⟨v, ev, he⟩
  have j0 := jls_mo hC wq (hm 0 (by omega)) hA
  have z0 : d + 0 = d := by omega
  have z1 : b + 0 = b := by omega
  rw [z0, z1] at j0
  refine ⟨j0, z, v, ez, ev, l2, fun hne => jls_mo hC wq (hm 1 (by omega)) hA, fun q2 eq2 => ?_⟩
  obtain ⟨v12, e12, l12⟩ := t_gI (k := 12) wq.1 ta0 rfl rfl
  have qz : v12 = z := Option.some.inj (e12.symm.trans ez)
  subst qz
  obtain ⟨q3, e3q, w3⟩ := t_rw wq.1 ta0 (Or.inl rfl) l12.1 l12.2
  cases eq2.symm.trans e3q
  have j2 := jls_mo (d := d) (b := b) hC (jrw_tr wq w3.1) (e := 0) (fun u9 e99 => by
    have qz : u = u9 := Option.some.inj (e2.symm.trans e99)
    subst qz
    exact ⟨v12, fJ w3.2.1, by omega⟩) hA
  rw [z0, z1] at j2
  exact j2
theorem L_passes {g : jGh} {Γ : Nat → Option Nat} {n a0 t1 : Nat} {C0 : Nat → Int32} {s t : Nat} {d b p : Int} {h : jH} (hn : 6000 ≤ n) (ta0 : Γ a0 = some 20) (ht : t1 < 36) (hl : 1 ≤ (jtb t1).length) (a : jls g Γ a0 C0 s t d b p h) : jok (F_X12_passes n a0 t1 h) (fun q => (q.1 = 0 ∧ jls g Γ a0 C0 s t d b p q.2) ∨ (q.1 = 1 ∧ jls g Γ a0 C0 s t (d + 1) (b + 1) p q.2)) := by
  obtain ⟨C, hC, w, hA⟩ := a
  refine jok_w (T_X12_passes hn w ta0 ht) (fun q wq => ?_)
  obtain ⟨wq, z | z⟩ := wq
  · have j := jls_mo hC wq z.2 hA
    rw [show d + 0 = d by omega, show b + 0 = b by omega] at j
    exact Or.inl ⟨z.1, j⟩
  · exact Or.inr ⟨z.1, jls_mo hC wq (jmo_le z.2 (by omega)) hA⟩
theorem L_sign {g : jGh} {Γ : Nat → Option Nat} {n a0 : Nat} {C0 : Nat → Int32} {s t : Nat} {d b p : Int} {x1 : Int32} {h : jH} (hn : 6000 ≤ n) (ta0 : Γ a0 = some 20) (a : jls g Γ a0 C0 s t d b p h) : jok (F_X12_sign n a0 x1 h) (fun q => (q.1 = 0 ∧ jls g Γ a0 C0 s t d b p q.2) ∨ (q.1 = 1 ∧ jls g Γ a0 C0 s t (d + 1) (b + 1) p q.2)) := by
  obtain ⟨C, hC, w, hA⟩ := a
  refine jok_w (T_X12_sign hn w ta0) (fun q wq => ?_)
  obtain ⟨wq, z | z⟩ := wq
  · have j := jls_mo hC wq z.2 hA
    rw [show d + 0 = d by omega, show b + 0 = b by omega] at j
    exact Or.inl ⟨z.1, j⟩
  · exact Or.inr ⟨z.1, jls_mo hC wq z.2 hA⟩
theorem L_number {g : jGh} {Γ : Nat → Option Nat} {n a0 : Nat} {C0 : Nat → Int32} {s t : Nat} {d b p : Int} {x1 x2 : Int32} {h : jH} (hn : 6000 ≤ n) (ta0 : Γ a0 = some 20) (a : jls g Γ a0 C0 s t d b p h) : jok (F_X12_number n a0 x1 x2 h) (fun q => (q.1 = -1 ∧ jls g Γ a0 C0 s t d b p q.2) ∨ (x1.toInt ≤ q.1.toInt ∧ q.1.toInt ≤ x2.toInt ∧ jls g Γ a0 C0 s t (d + 1) (b + 1) p q.2)) := by
  obtain ⟨C, hC, w, hA⟩ := a
  refine jok_w (T_X12_number hn w ta0) (fun q wq => ?_)
  obtain ⟨wq, m0, z | z⟩ := wq
  · have j := jls_mo hC wq m0 hA
    rw [show d + 0 = d by omega, show b + 0 = b by omega] at j
    exact Or.inl ⟨z, j⟩
  · exact Or.inr ⟨z.1, z.2.1, jls_mo hC wq z.2.2 hA⟩
/-- read, one higher, or not to be read -/
def jrr (g : jGh) (Γ : Nat → Option Nat) (a0 : Nat) (C0 : Nat → Int32) (s t : Nat) (d b p : Int) (q : Int32 × jH) : Prop := (q.1 = 0 ∧ jlf g Γ C0 s q.2) ∨ (q.1 = 1 ∧ jls g Γ a0 C0 s t d b p q.2)
theorem jst_lo {x : Int32} {t : Nat} (h : x.toInt ≤ 11) : jst x t = some (t + 1) := by
  unfold jst
  rw [if_pos h]
theorem L_wordOfPart {g : jGh} {Γ : Nat → Option Nat} {n a0 : Nat} {h : jH} (hn : 6000 ≤ n) (w : jW (jKd g) Γ h) (ta0 : Γ a0 = some 20) : jok (F_X12_wordOfPart n a0 h) (fun v => v.toInt ≤ 6) := by
  unfold F_X12_wordOfPart
  rw [t_cv w ta0 rfl]
  refine jok_b (S_X12_isWord hn w ta0 (by decide)) (fun _ _ => jok_if (fun _ => ?_) (fun _ => jok_s (by decide)))
  rw [t_cv w ta0 rfl]
  refine jok_b (S_X12_isWord hn w ta0 (by decide)) (fun _ _ => jok_if (fun _ => ?_) (fun _ => jok_s (by decide)))
  rw [t_cv w ta0 rfl]
  refine jok_b (S_X12_isWord hn w ta0 (by decide)) (fun _ _ => jok_if (fun _ => ?_) (fun _ => jok_s (by decide)))
  rw [t_cv w ta0 rfl]
  refine jok_b (S_X12_isWord hn w ta0 (by decide)) (fun _ _ => jok_if (fun _ => ?_) (fun _ => jok_s (by decide)))
  rw [t_cv w ta0 rfl]
  refine jok_b (S_X12_isWord hn w ta0 (by decide)) (fun _ _ => jok_if (fun _ => ?_) (fun _ => jok_s (by decide)))
  rw [t_cv w ta0 rfl]
  refine jok_b (S_X12_isWord hn w ta0 (by decide)) (fun _ _ => jok_if (fun _ => ?_) (fun _ => jok_s (by decide)))
  rw [t_cv w ta0 rfl]
  refine jok_b (S_X12_isWord hn w ta0 (by decide)) (fun _ _ => jok_if (fun _ => jok_s (by decide)) (fun _ => jok_s (by decide)))
theorem jls_w {g : jGh} {Γ : Nat → Option Nat} {a0 : Nat} {C0 : Nat → Int32} {s t : Nat} {d b p : Int} {h : jH} (a : jls g Γ a0 C0 s t d b p h) : ∃ C : Nat → Int32, jW (jKd (g.1, g.2.1, g.2.2.1, C, g.2.2.2.2)) Γ h := by
  obtain ⟨C, -, w, -⟩ := a
  exact ⟨C, w⟩
theorem L_readPart_61 {g : jGh} {Γ : Nat → Option Nat} {n a0 : Nat} {C0 : Nat → Int32} {s t : Nat} {d b p : Int} {x2 s1 s2 : Int32} {h : jH} (hu : ∀ a b c, 9 ≤ c → Γ a = some c → Γ b = some c → a = b) (ta0 : Γ a0 = some 20) (hd : 1 ≤ d) (h1 : s1.toInt ≤ 11) (a : jls g Γ a0 C0 s t d b p h) (hx : x2 < 0 ∨ jls g Γ a0 C0 s t (d + 1) b p h) : jok (F_X12_readPart_61 n x2 a0 s1 s2 h) (fun q => jrr g Γ a0 C0 s (t + 1) d b p q) := by
  unfold F_X12_readPart_61
  obtain ⟨C, w⟩ := jls_w a
  rw [t_cv w ta0 rfl]
  rcases hx with hx | hx
  · have a2 : jls g Γ a0 C0 s t ((d - 1) + 1) b p h := jls_le a (by omega)
    refine jok_b (T_X12_emits hu ta0 (by omega) (jst_lo h1) a2) (fun q wq => ?_)
    rw [if_pos hx]
    exact jok_s (Or.inl ⟨rfl, jls_f wq⟩)
  · refine jok_b (T_X12_emits hu ta0 (by omega) (jst_lo h1) hx) (fun q wq => ?_)
    exact jok_if (fun _ => jok_s (Or.inl ⟨rfl, jls_f wq⟩)) (fun _ => jok_s (Or.inr ⟨rfl, wq⟩))
theorem L_readPart {g : jGh} {Γ : Nat → Option Nat} {n a0 : Nat} {C0 : Nat → Int32} {s t : Nat} {d b p : Int} {h : jH} (hn : 6000 ≤ n) (hu : ∀ a b c, 9 ≤ c → Γ a = some c → Γ b = some c → a = b) (ta0 : Γ a0 = some 20) (hd : 1 ≤ d) (a : jls g Γ a0 C0 s t d b p h) : jok (F_X12_readPart n a0 h) (fun q => jrr g Γ a0 C0 s (t + 1) d b p q) := by
  unfold F_X12_readPart
  obtain ⟨C, w⟩ := jls_w a
  rw [t_cv w ta0 rfl]
  refine jok_b (L_letters hn ta0 a) (fun h1 w1 => ?_)
  obtain ⟨j1, z, v, ez, ev, lz, jn, -⟩ := w1
  refine jok_r ev (jok_r ez (jok_eq (fun _ _ => ?_) (fun c => ?_)))
  · unfold F_X12_readPart_20
    obtain ⟨C, w⟩ := jls_w j1
    rw [if_neg (by decide), t_cv w ta0 rfl]
    refine jok_b (L_number hn ta0 j1) (fun q30 w30 => ?_)
    unfold F_X12_readPart_40
    rw [if_neg (by decide), if_neg (by decide)]
    rcases w30 with ⟨e, j⟩ | ⟨l1, -, j⟩
    · exact L_readPart_61 hu ta0 hd (by decide) j (Or.inl (by rw [e]; decide))
    · have j9 : jls g Γ a0 C0 s t (d + 1) b p q30.2 := by
        obtain ⟨C, a1, a2, st, u, dp, e1, e2, e3, e4, e5, e6, e8, e7⟩ := j
        exact ⟨C, a1, a2, st, u, dp, e1, e2, e3, e4, e5, e6, by omega, e7⟩
      exact L_readPart_61 hu ta0 hd (by decide) (jls_le j9 (by omega)) (Or.inr j9)
  · have j := jn c
    have j9 : jls g Γ a0 C0 s t (d + 1) b p h1 := by
      obtain ⟨C, a1, a2, st, u, dp, e1, e2, e3, e4, e5, e6, e8, e7⟩ := j
      exact ⟨C, a1, a2, st, u, dp, e1, e2, e3, e4, e5, e6, by omega, e7⟩
    unfold F_X12_readPart_20
    obtain ⟨C, w⟩ := jls_w j1
    rw [if_pos rfl, t_cv w ta0 rfl]
    refine jok_b (L_wordOfPart hn w ta0) (fun v37 l37 => ?_)
    unfold F_X12_readPart_40
    rw [if_pos rfl, if_pos rfl]
    exact L_readPart_61 hu ta0 hd (by omega) j1 (Or.inr j9)
