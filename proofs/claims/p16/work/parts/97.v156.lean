section
/-! the draft of a law and the reference's draft tell the same lines -/
theorem emW_hi : ∀ (l : List (Int32 × Int32)) (W : jWd) (s i : Nat), emW W s l i = if 1333 + 2 * s ≤ i ∧ i < 1333 + 2 * (s + l.length) then (if (i - 1333) % 2 = 0 then (l.getD ((i - 1333) / 2 - s) (0, 0)).1 else (l.getD ((i - 1333) / 2 - s) (0, 0)).2) else W i
  | [], W, s, i => by
    rw [if_neg (by simp)]
    rfl
  | e :: t, W, s, i => by
    show emW (upd (upd W (1333 + 2 * s) e.1) (1334 + 2 * s) e.2) (s + 1) t i = _
    rw [emW_hi t _ (s + 1) i, List.length_cons]
    by_cases y : i = 1333 + 2 * s
    · subst y
      rw [if_neg (by omega), upd_ne (by omega), upd_eq, if_pos (by omega), if_pos (by omega), show (1333 + 2 * s - 1333) / 2 - s = 0 by omega]
      rfl
    · by_cases z : i = 1334 + 2 * s
      · subst z
        rw [if_neg (by omega), upd_eq, if_pos (by omega), if_neg (by omega), show (1334 + 2 * s - 1333) / 2 - s = 0 by omega]
        rfl
      · by_cases u : 1333 + 2 * (s + 1) ≤ i ∧ i < 1333 + 2 * (s + 1 + t.length)
        · rw [if_pos u, if_pos (show 1333 + 2 * s ≤ i ∧ i < 1333 + 2 * (s + (t.length + 1)) by omega), show (i - 1333) / 2 - s = ((i - 1333) / 2 - (s + 1)) + 1 by omega]
          rfl
        · rw [if_neg u, upd_ne (by omega), upd_ne (by omega), if_neg (by omega)]
theorem lnW_at {W : jWd} {n s : Nat} {e : jLn} (hn : n < 12) : lnW W n s e (1285 + 4 * n) = e.1.1 ∧ lnW W n s e (1286 + 4 * n) = e.1.2 ∧ lnW W n s e (1287 + 4 * n) = nI s ∧ lnW W n s e (1288 + 4 * n) = nI (s + e.2.length) := by
  unfold lnW
  refine ⟨?_, ?_, ?_, ?_⟩
  · rw [upd_ne (by omega), emW_lo _ _ _ (by omega), upd_ne (by omega), upd_ne (by omega), upd_eq]
  · rw [upd_ne (by omega), emW_lo _ _ _ (by omega), upd_ne (by omega), upd_eq]
  · rw [upd_ne (by omega), emW_lo _ _ _ (by omega), upd_eq]
  · rw [upd_eq]
theorem lnW_old {W : jWd} {n s i : Nat} {e : jLn} (hn : n < 12) (h : (1285 ≤ i ∧ i < 1285 + 4 * n) ∨ (1333 ≤ i ∧ i < 1333 + 2 * s)) : lnW W n s e i = W i := by
  unfold lnW
  rw [upd_ne (by omega), emW_hi, if_neg (by omega), upd_ne (by omega), upd_ne (by omega), upd_ne (by omega)]
theorem lnW_st {W : jWd} {n s j : Nat} {e : jLn} (hn : n < 12) (h : s ≤ j ∧ j < s + e.2.length) : lnW W n s e (1333 + 2 * j) = (e.2.getD (j - s) (0, 0)).1 ∧ lnW W n s e (1334 + 2 * j) = (e.2.getD (j - s) (0, 0)).2 := by
  unfold lnW
  refine ⟨?_, ?_⟩
  · rw [upd_ne (by omega), emW_hi, if_pos (by omega), if_pos (by omega), show (1333 + 2 * j - 1333) / 2 - s = j - s by omega]
  · rw [upd_ne (by omega), emW_hi, if_pos (by omega), if_neg (by omega), show (1334 + 2 * j - 1333) / 2 - s = j - s by omega]
theorem tyR_L {W : jWd} {s : Nat} {l : List (Int32 × Int32)} (h : ∀ i, i < l.length → W (484 + 2 * (s + i)) = (l.getD i (0, 0)).1) : ∀ k, k ≤ l.length → tyR W s k = tyL (l.take k) []
  | 0, _ => rfl
  | k + 1, hk => by
    unfold tyR
    rw [tyR_L h k (by omega), List.take_add_one, List.getElem?_eq_getElem (by omega)]
    have e : W (484 + 2 * (s + k)) = (l[k]'(by omega)).1 := by rw [h k (by omega), List.getD_eq_getElem?_getD, List.getElem?_eq_getElem (by omega)]; rfl
    rw [e]
    cases hc : tyL (l.take k) [] with
    | none =>
      have : ∀ (u t : List (Int32 × Int32)) (ty : List Bool), tyL u ty = none → tyL (u ++ t) ty = none := by
        intro u
        induction u with
        | nil => intro t ty q; cases q
        | cons a u ih =>
          intro t ty q
          show (tyC a.1 ty).bind (fun v => tyL (u ++ t) v) = none
          replace q : (tyC a.1 ty).bind (fun v => tyL u v) = none := q
          cases ha : tyC a.1 ty with
          | none => rfl
          | some v => rw [ha] at q; exact ih t v q
      rw [this _ _ _ hc]
      rfl
    | some u =>
      show tyC (l[k]'(by omega)).1 u = _
      cases hd : tyC (l[k]'(by omega)).1 u with
      | none =>
        have : ∀ (v : List (Int32 × Int32)) (ty : List Bool) (e : Int32 × Int32), tyL v ty = some u → tyC e.1 u = none → tyL (v ++ [e]) ty = none := by
          intro v
          induction v with
          | nil => intro ty e q r; cases q; show (tyC e.1 _).bind _ = none; rw [r]; rfl
          | cons a v ih =>
            intro ty e q r
            show (tyC a.1 ty).bind (fun w => tyL (v ++ [e]) w) = none
            replace q : (tyC a.1 ty).bind (fun w => tyL v w) = some u := q
            cases ha : tyC a.1 ty with
            | none => rfl
            | some w => rw [ha] at q; exact ih w e q r
        exact (this _ _ _ hc hd).symm
      | some w => exact (tyL_2 hc (tyL_1 hd)).symm
/-- the draft's arrays tell the lines of V (at its draft's places): nl lines, s codes -/
def dE (O : jO) (x : Nat) (V : jWd) (nl s : Nat) : Prop := linE O (x + 28) (fun k => V (k + 849)) nl ∧ (∀ i, i < nl → (V (1288 + 4 * i)).toInt ≤ (s : Int)) ∧ (nl = 0 → s = 0) ∧ (0 < nl → V (1288 + 4 * (nl - 1)) = nI s)
theorem dE_0 {O : jO} {x : Nat} {V : jWd} : dE O x V 0 0 := ⟨fun i hi => by omega, fun i hi => by omega, fun _ => rfl, fun h => by omega⟩
theorem dE_s {O O2 : jO} {x nl s : Nat} {V : jWd} {kd am : Int32} {l : List (Int32 × Int32)} (D : dE O x V nl s) (hn : nl < 12) (hs : s + l.length ≤ 400) (N : dr1 O O2 x nl s kd am l) (ok : okL l) (ty : tyL l [] = some [] ∨ tyL l [] = some [true]) (ha : 0 ≤ am.toInt ∧ am.toInt ≤ 100) : dE O2 x (lnW V nl s ((kd, am), l)) (nl + 1) (s + l.length) := by
  obtain ⟨LE, mono, z0, zl⟩ := D
  obtain ⟨-, n1, n2, n3, n4⟩ := N
  obtain ⟨a1, a2, a3, a4⟩ := lnW_at (W := V) (s := s) (e := ((kd, am), l)) hn
  have old : ∀ i, (1285 ≤ i ∧ i < 1285 + 4 * nl) ∨ (1333 ≤ i ∧ i < 1333 + 2 * s) → lnW V nl s ((kd, am), l) i = V i := fun i h => lnW_old hn h
  refine ⟨fun i hi => ?_, fun i hi => ?_, fun h => by omega, fun _ => ?_⟩
  · by_cases y : i = nl
    · subst y
      show oi O2 (x + 29) i = lnW V i s ((kd, am), l) (436 + 4 * i + 849) ∧ oi O2 (x + 30) i = lnW V i s ((kd, am), l) (437 + 4 * i + 849) ∧ oi O2 (x + 31) i = lnW V i s ((kd, am), l) (439 + 4 * i + 849) ∧ lnW V i s ((kd, am), l) (438 + 4 * i + 849) = (if i = 0 then 0 else lnW V i s ((kd, am), l) (439 + 4 * (i - 1) + 849)) ∧ 0 ≤ (lnW V i s ((kd, am), l) (438 + 4 * i + 849)).toInt ∧ (lnW V i s ((kd, am), l) (438 + 4 * i + 849)).toInt ≤ (lnW V i s ((kd, am), l) (439 + 4 * i + 849)).toInt ∧ (lnW V i s ((kd, am), l) (439 + 4 * i + 849)).toInt ≤ 400 ∧ 0 ≤ (lnW V i s ((kd, am), l) (437 + 4 * i + 849)).toInt ∧ (lnW V i s ((kd, am), l) (437 + 4 * i + 849)).toInt ≤ 100 ∧
        (∀ j : Nat, (lnW V i s ((kd, am), l) (438 + 4 * i + 849)).toInt ≤ (j : Int) → (j : Int) < (lnW V i s ((kd, am), l) (439 + 4 * i + 849)).toInt → codeR (oi O2 (x + 32) j) (lnW V i s ((kd, am), l) (484 + 2 * j + 849)) (lnW V i s ((kd, am), l) (485 + 2 * j + 849))) ∧
        (∃ ty, tyR (fun k => lnW V i s ((kd, am), l) (k + 849)) (lnW V i s ((kd, am), l) (438 + 4 * i + 849)).toInt.toNat ((lnW V i s ((kd, am), l) (439 + 4 * i + 849)).toInt.toNat - (lnW V i s ((kd, am), l) (438 + 4 * i + 849)).toInt.toNat) = some ty ∧ (ty = [] ∨ ty = [true]))
      rw [show 436 + 4 * i + 849 = 1285 + 4 * i by omega, show 437 + 4 * i + 849 = 1286 + 4 * i by omega, show 438 + 4 * i + 849 = 1287 + 4 * i by omega, show 439 + 4 * i + 849 = 1288 + 4 * i by omega, a1, a2, a3, a4, nI_toInt (by omega), nI_toInt (by dsimp only; omega)]
      dsimp only
      refine ⟨by rw [n1 i, if_pos rfl], by rw [n2 i, if_pos rfl], by rw [n3 i, if_pos rfl], ?_, by omega, by omega, by omega, ha.1, ha.2, fun j h1 h2 => ?_, ?_⟩
      · by_cases z : i = 0
        · rw [if_pos z, z0 z]; rfl
        · rw [if_neg z, old _ (by omega), show 439 + 4 * (i - 1) + 849 = 1288 + 4 * (i - 1) by omega, zl (by omega)]
      · obtain ⟨b1, b2⟩ := lnW_st (W := V) (n := i) (s := s) (j := j) (e := ((kd, am), l)) hn (by dsimp only; omega)
        rw [show 484 + 2 * j + 849 = 1333 + 2 * j by omega, show 485 + 2 * j + 849 = 1334 + 2 * j by omega, b1, b2, n4 j, if_pos (by omega)]
        have hj : j - s < l.length := by omega
        have e1 : (l.map cod).getD (j - s) 0 = cod (l.getD (j - s) (0, 0)) := by
          rw [List.getD_eq_getElem?_getD, List.getD_eq_getElem?_getD, List.getElem?_map, List.getElem?_eq_getElem hj]
          rfl
        have e2 : l.getD (j - s) (0, 0) ∈ l := by
          rw [List.getD_eq_getElem?_getD, List.getElem?_eq_getElem hj]
          exact List.getElem_mem hj
        rw [e1]
        exact cod_R (ok _ e2)
      · rw [show ((s : Int)).toNat = s by omega, show ((s + l.length : Nat) : Int).toNat - s = l.length by omega]
        have t := tyR_L (W := fun k => lnW V i s ((kd, am), l) (k + 849)) (s := s) (l := l) (fun q hq => by
          obtain ⟨b1, -⟩ := lnW_st (W := V) (n := i) (s := s) (j := s + q) (e := ((kd, am), l)) hn (by dsimp only; omega)
          try dsimp only at b1
          try dsimp only
          rw [show 484 + 2 * (s + q) + 849 = 1333 + 2 * (s + q) by omega, b1, show s + q - s = q by omega]) l.length (Nat.le_refl _)
        rw [List.take_length] at t
        rw [t]
        rcases ty with q | q
        · exact ⟨[], q, Or.inl rfl⟩
        · exact ⟨[true], q, Or.inr rfl⟩
    · have hi2 : i < nl := by omega
      have m9 := mono i hi2
      obtain ⟨c1, c2, c3, c4, c5, c6, c7, c8, c9, c10, c11⟩ := LE i hi2
      try dsimp only at c1 c2 c3 c4 c5 c6 c7 c8 c9 c10 c11
      try dsimp only
      have m9b : (V (439 + 4 * i + 849)).toInt ≤ (s : Int) := by rw [show 439 + 4 * i + 849 = 1288 + 4 * i by omega]; exact m9
      rw [old (436 + 4 * i + 849) (by omega), old (437 + 4 * i + 849) (by omega), old (438 + 4 * i + 849) (by omega), old (439 + 4 * i + 849) (by omega)]
      refine ⟨?_, ?_, ?_, ?_, c5, c6, c7, c8, c9, fun j h1 h2 => ?_, ?_⟩
      · show oi O2 (x + 29) i = _
        rw [n1 i, if_neg y]; exact c1
      · show oi O2 (x + 30) i = _
        rw [n2 i, if_neg y]; exact c2
      · show oi O2 (x + 31) i = _
        rw [n3 i, if_neg y]; exact c3
      · by_cases z : i = 0
        · rw [if_pos z]; rw [if_pos z] at c4; exact c4
        · rw [if_neg z, old _ (by omega)]; rw [if_neg z] at c4; exact c4
      · rw [old _ (by omega), old _ (by omega)]
        show codeR (oi O2 (x + 32) j) _ _
        rw [n4 j, if_neg (by omega)]
        exact c10 j h1 h2
      · obtain ⟨t, q1, q2⟩ := c11
        refine ⟨t, ?_, q2⟩
        rw [← q1]
        have cg : ∀ k, (V (438 + 4 * i + 849)).toInt.toNat + k ≤ s → tyR (fun k => lnW V nl s ((kd, am), l) (k + 849)) (V (438 + 4 * i + 849)).toInt.toNat k = tyR (fun k => V (k + 849)) (V (438 + 4 * i + 849)).toInt.toNat k := by
          intro k
          induction k with
          | zero => intro _; rfl
          | succ k ih =>
            intro hk
            unfold tyR
            rw [ih (by omega)]
            try dsimp only
            rw [old _ (by omega)]
        exact cg _ (by omega)
  · by_cases y : i = nl
    · subst y
      rw [a4, nI_toInt (by dsimp only; omega)]
      exact Int.le_refl _
    · rw [old _ (by omega)]
      have := mono i (by omega)
      omega
  · rw [show nl + 1 - 1 = nl by omega]
    exact a4
end
section
/-! a law's text, the class -/
theorem dE_fr {O O2 : jO} {x nl s : Nat} {V : jWd} (D : dE O x V nl s) (f : ∀ a k : Nat, x + 29 ≤ a → a ≤ x + 32 → O2 a k = O a k) : dE O2 x V nl s := by
  obtain ⟨L, a, b, c⟩ := D
  have g : ∀ a k : Nat, x + 29 ≤ a → a ≤ x + 32 → oi O2 a k = oi O a k := fun a k h1 h2 => by unfold oi; rw [f a k h1 h2]
  refine ⟨fun i hi => ?_, a, b, c⟩
  obtain ⟨c1, c2, c3, c4, c5, c6, c7, c8, c9, c10, c11⟩ := L i hi
  exact ⟨(g (x + 29) i (by omega) (by omega)).trans c1, (g (x + 30) i (by omega) (by omega)).trans c2, (g (x + 31) i (by omega) (by omega)).trans c3, c4, c5, c6, c7, c8, c9, fun j h1 h2 => by have := c10 j h1 h2; rw [show x + 28 + 4 = x + 32 by omega] at this ⊢; rw [g (x + 32) j (by omega) (by omega)]; exact this, c11⟩
def DL (O : jO) (x : Nat) (b : Nat → Int32) (L m : Nat) (T : Nat → Int32 × Int32) (st : Nat → Nat) (W0 : jWd) (S : List jLn) (k : Nat) : Prop :=
  rlS O x ∧ ck O (x + 1) b L m T st k ∧ dr0 O x (lwS W0 S).2.1 (lwS W0 S).2.2 ∧ dE O x (lwS W0 S).1 (lwS W0 S).2.1 (lwS W0 S).2.2 ∧ (lwS W0 S).2.2 ≤ k
theorem DL_5 {O O2 : jO} {x L m k k2 : Nat} {b : Nat → Int32} {T : Nat → Int32 × Int32} {st : Nat → Nat} {W0 : jWd} {S : List jLn} (D : DL O x b L m T st W0 S k) (K : ck O2 (x + 1) b L m T st k2) (f : ∀ a j : Nat, ¬ (a = x + 1 ∧ j = 5) → O2 a j = O a j) (hk : k ≤ k2) : DL O2 x b L m T st W0 S k2 := by
  obtain ⟨a, -, ⟨d1, d2, d3⟩, e, g⟩ := D
  exact ⟨rlS_J a (frJ_5 f), K, ⟨lawS_J d1 (frJ_5 f), by rw [← d2]; unfold oi; rw [f _ _ (by omega)], by rw [← d3]; unfold oi; rw [f _ _ (by omega)]⟩, dE_fr e (fun a k h1 h2 => f a k (by omega)), by omega⟩
theorem law_lineC {x L m k n : Nat} {b : Nat → Int32} {T : Nat → Int32 × Int32} {st en : Nat → Nat} {W0 : jWd} {S : List jLn} {h : jH} {q : Int32 × jH} (H : tkE b L m T st en) (D : DL (oc h) x b L m T st W0 S k) (hn : (lwS W0 S).2.1 < 12) (e : F_X3_readLine n (x + 35) h = some q) :
    (∀ p, rdLaw T S k = .inl p → q.1 = 1 ∧ DL (oc q.2) x b L m T st W0 p.2 p.1) ∧ (∀ f, rdLaw T S k = .inr f → q.1 = 0 ∧ ck (oc q.2) (x + 1) b L m T st f) ∧ frJ x (oc h) (oc q.2) ∧ q.2.1 = h.1 := by
  obtain ⟨RS, K, d0, DE, sk⟩ := D
  obtain ⟨a1, a2, a3, a4⟩ := E_X3_readLine H rfl RS K d0 hn sk e
  refine ⟨fun p y => ?_, fun f y => ?_, a3, a4⟩
  · unfold rdLaw at y
    split at y
    · rename_i t
      split at y
      · cases y
      · rename_i d hd
        cases y
        obtain ⟨v, K2, s2, D2⟩ := (a1 t).1 d hd
        obtain ⟨t1, t2, t3⟩ := lt_t hd
        obtain ⟨-, t4, t5⟩ := t3
        rw [Int32.le_iff_toInt_le] at t4 t5
        have km := K2.2.2.2.2.1
        have m4 := K2.2.2.1
        refine ⟨v, rlS_J RS a3, K2, ?_, ?_, ?_⟩
        · rw [lwS_app]; exact D2.1
        · rw [lwS_app]; exact dE_s DE hn (by omega) D2 t1 t2 ⟨t4, t5⟩
        · rw [lwS_app]; exact s2
    · cases y
  · unfold rdLaw at y
    split at y
    · rename_i t
      split at y
      · rename_i g hg
        cases y
        exact (a1 t).2 _ hg
      · cases y
    · rename_i t
      cases y
      exact a2 t
def lrL (O : jO) (v : Int32) (x : Nat) (st : Nat → Nat) (W0 : jWd) (r : List jLn ⊕ Nat) : Prop := (∀ S, r = .inl S → v = -1 ∧ dr0 O x (lwS W0 S).2.1 (lwS W0 S).2.2 ∧ dE O x (lwS W0 S).1 (lwS W0 S).2.1 (lwS W0 S).2.2 ∧ (lwS W0 S).2.1 ≤ 12) ∧ (∀ f, r = .inr f → v = nI (st f))
theorem lrL_l {O : jO} {v : Int32} {x : Nat} {st : Nat → Nat} {W0 : jWd} {r : List jLn ⊕ Nat} {S : List jLn} (e : r = .inl S) (h : v = -1 ∧ dr0 O x (lwS W0 S).2.1 (lwS W0 S).2.2 ∧ dE O x (lwS W0 S).1 (lwS W0 S).2.1 (lwS W0 S).2.2 ∧ (lwS W0 S).2.1 ≤ 12) : lrL O v x st W0 r := ⟨fun p z => (by rw [e] at z; cases z; exact h), fun f z => (by rw [e] at z; cases z)⟩
theorem lrL_r {O : jO} {v : Int32} {x k : Nat} {st : Nat → Nat} {W0 : jWd} {r : List jLn ⊕ Nat} (e : r = .inr k) (h : v = nI (st k)) : lrL O v x st W0 r := ⟨fun p z => (by rw [e] at z; cases z), fun f z => (by rw [e] at z; cases z; exact h)⟩
theorem rdLaw_n {T : Nat → Int32 × Int32} {S : List jLn} {k : Nat} {p : Nat × List jLn} {W0 : jWd} (e : rdLaw T S k = .inl p) : (lwS W0 p.2).2.1 = (lwS W0 S).2.1 + 1 := by
  unfold rdLaw at e
  split at e
  · split at e
    · cases e
    · cases e
      rw [lwS_app]
  · cases e
theorem E_X4_read_L_22 {n : Nat} {b : Nat → Int32} {L : Nat} {m : Nat} {T : Nat → Int32 × Int32} {st : Nat → Nat} {en : Nat → Nat} {x : Nat} {W0 : jWd} (H : tkE b L m T st en) : ∀ (k : Nat) {a0 : Nat} {x1 : Int32} {h : jH} {q : Int32 × jH} (kk : Nat) (j : Nat) (S : List jLn) (ha : a0 = x + 35) (D : DL (oc h) x b L m T st W0 S kk) (hn : (lwS W0 S).2.1 = j) (hx : x1 = nI j) (hj : j ≤ 12), F_X4_read_L_22 n k a0 x1 h = some q → lrL (oc q.2) q.1 x st W0 (rdLines (rdLaw T) T (12 - j) S kk) ∧ frJ x (oc h) (oc q.2) ∧ q.2.1 = h.1
  | 0, a0, x1, h, q, kk, j, S, ha, D, hn, hx, hj, hf => by cases hf
  | k + 1, a0, x1, h, q, kk, j, S, ha, D, hn, hx, hj, hf => by
    replace hf : F_X4_read_L_22_b n (F_X4_read_L_22 n k) a0 x1 h = some q := hf
    unfold F_X4_read_L_22_b at hf
    subst ha
    replace hf := jbind hf
    obtain ⟨v24, e1, hf⟩ := hf
    have r1 := oc_gI e1
    subst r1
    clear e1
    replace hf := jite hf
    rcases hf with ⟨c2, hf⟩ | ⟨c2, hf⟩
    · skip
      replace hf := jbind hf
      obtain ⟨p85, e3, hf⟩ := hf
      have r3 := oc_gR e3
      rw [D.1.1] at r3
      cases r3
      clear e3
      replace hf := jbind hf
      obtain ⟨v88, e4, hf⟩ := hf
      replace e4 := (jcv_o e4).2
      have r4 := E_X10_start D.2.1 e4
      cases hf
      -- leaf 0: (v88, h)
      have e12 : oi (oc h) (x + 35) 1 = 12 := by unfold oi; rw [D.1.2.1]; rfl
      rw [e12, hx, Int32.le_iff_toInt_le, nI_toInt (by omega), show (12 : Int32).toInt = 12 from rfl] at c2
      rw [show 12 - j = 0 by omega]
      exact ⟨lrL_r rfl r4, frJ_0, rfl⟩
    · skip
      replace hf := jbind hf
      obtain ⟨q31, e5, hf⟩ := hf
      replace e5 := (jcv_o e5).2
      have e12 : oi (oc h) (x + 35) 1 = 12 := by unfold oi; rw [D.1.2.1]; rfl
      rw [e12, hx, Int32.le_iff_toInt_le, nI_toInt (by omega), show (12 : Int32).toInt = 12 from rfl] at c2
      have ej : 12 - j = 12 - (j + 1) + 1 := by omega
      obtain ⟨a1, a2, f5, z5⟩ := law_lineC H D (by omega) e5
      have S5 : rlS (oc q31.2) x := rlS_J D.1 f5
      replace hf := jite hf
      rcases hf with ⟨c6, hf⟩ | ⟨c6, hf⟩
      · skip
        replace hf := jbind hf
        obtain ⟨p38, e7, hf⟩ := hf
        have r7 := oc_gR e7
        rw [S5.1] at r7
        cases r7
        clear e7
        replace hf := jbind hf
        obtain ⟨v41, e8, hf⟩ := hf
        replace e8 := (jcv_o e8).2
        rcases hR : rdLaw T S kk with d | f
        · exact absurd (c6.symm.trans (a1 d hR).1) (by decide)
        obtain ⟨-, K5⟩ := a2 f hR
        have r8 := E_X10_start K5 e8
        cases hf
        -- leaf 10: (v41, q31.2)
        rw [ej]
        exact ⟨lrL_r (rl_r hR) r8, f5, z5⟩
      · skip
        replace hf := jbind hf
        obtain ⟨p46, e9, hf⟩ := hf
        have r9 := oc_gR e9
        rw [S5.1] at r9
        cases r9
        clear e9
        replace hf := jbind hf
        obtain ⟨v49, e10, hf⟩ := hf
        replace e10 := (jcv_o e10).2
        rcases hR : rdLaw T S kk with d | f
        rotate_left
        · exact absurd (a2 f hR).1 c6
        obtain ⟨-, D5⟩ := a1 d hR
        have dn := rdLaw_n (W0 := W0) hR
        have r10 := E_X10_kind D5.2.1 e10
        replace hf := jite hf
        rcases hf with ⟨c11, hf⟩ | ⟨c11, hf⟩
        · skip
          cases hf
          -- leaf 110: ((- 1 : Int32), q31.2)
          rw [ej]
          rw [r10] at c11
          exact ⟨lrL_l (rl_e hR c11) ⟨rfl, D5.2.2.1, D5.2.2.2.1, by omega⟩, f5, z5⟩
        · skip
          replace hf := jbind hf
          obtain ⟨p59, e12, hf⟩ := hf
          have r12 := oc_gR e12
          rw [S5.1] at r12
          cases r12
          clear e12
          replace hf := jbind hf
          obtain ⟨q64, e13, hf⟩ := hf
          replace e13 := (jcv_o e13).2
          obtain ⟨r13, f13, z13⟩ := E_X10_take D5.2.1 (by decide) e13
          have S13 : rlS (oc q64.2) x := rlS_J S5 (frJ_5 f13)
          replace hf := jite hf
          rcases hf with ⟨c14, hf⟩ | ⟨c14, hf⟩
          · skip
            replace hf := jbind hf
            obtain ⟨p71, e15, hf⟩ := hf
            have r15 := oc_gR e15
            rw [S13.1] at r15
            cases r15
            clear e15
            replace hf := jbind hf
            obtain ⟨v74, e16, hf⟩ := hf
            replace e16 := (jcv_o e16).2
            rcases r13 with ⟨-, w, -⟩ | ⟨y, w⟩
            · exact absurd (c14.symm.trans w) (by decide)
            have r16 := E_X10_start (by rw [w]; exact D5.2.1) e16
            cases hf
            -- leaf 1110: (v74, q64.2)
            rw [r10] at c11
            rw [ej]
            exact ⟨lrL_r (rl_x hR c11 y) r16, frJ_tr f5 (frJ_5 f13), z13.trans z5⟩
          · skip
            -- leaf 1111: rc22 a0 (x1 + (1 : Int32)) q64.2
            rcases r13 with ⟨y, -, K13⟩ | ⟨-, w⟩
            rotate_left
            · exact absurd (by rw [w]) c14
            rw [hx] at hf
            obtain ⟨b1, b2, b3⟩ := E_X4_read_L_22 H k (d.1 + 1) (j + 1) d.2 rfl (DL_5 D5 K13 f13 (Nat.le_succ _)) (by omega) (nI_1 j) (by omega) hf
            rw [ej, rl_s hR y]
            exact ⟨b1, frJ_tr f5 (frJ_tr (frJ_5 f13) b2), b3.trans (z13.trans z5)⟩
theorem E_X4_read_L {b : Nat → Int32} {L : Nat} {x : Nat} {W0 : jWd} {n : Nat} {a0 : Nat} {h : jH} {q : Int32 × jH} (C : ctb (oc h) (x + 1) b L) (ha : a0 = x + 35) (RS : rlS (oc h) x) (D0 : dr0 (oc h) x 0 0) (hf : F_X4_read_L n a0 h = some q) : ∃ (m : Nat) (T : Nat → Int32 × Int32) (st en : Nat → Nat), tkE b L m T st en ∧ m ≤ 400 ∧ lrL (oc q.2) q.1 x st W0 (if (T 0).1 = -1 then .inl [] else rdLines (rdLaw T) T 12 [] 0) ∧ (∀ a j : Nat, ¬ (a = x + 1 ∧ (j = 4 ∨ j = 5)) → ¬ (x + 3 ≤ a ∧ a ≤ x + 5) → ¬ (a = x + 28 ∧ (j = 6 ∨ j = 8)) → ¬ (x + 29 ≤ a ∧ a ≤ x + 32) → oc q.2 a j = oc h a j) ∧ q.2.1 = h.1 := by
  unfold F_X4_read_L at hf
  subst ha
  replace hf := jbind hf
  obtain ⟨p1, e1, hf⟩ := hf
  have r1 := oc_gR e1
  rw [RS.1] at r1
  cases r1
  clear e1
  replace hf := jbind hf
  obtain ⟨h4, e2, hf⟩ := hf
  replace e2 := (jcv_o e2).2
  obtain ⟨m, T, st, en, H, K2, f2, z2⟩ := E_X10_scan C e2
  have S2 : rlS (oc h4) x := ⟨(f2 _ _ (by omega) (by omega)).trans RS.1, (f2 _ _ (by omega) (by omega)).trans RS.2.1, (f2 _ _ (by omega) (by omega)).trans RS.2.2⟩
  have D2 : dr0 (oc h4) x 0 0 := ⟨by obtain ⟨y1, y2, y3, y4, y5⟩ := D0.1; exact ⟨(f2 _ _ (by omega) (by omega)).trans y1, (f2 _ _ (by omega) (by omega)).trans y2, (f2 _ _ (by omega) (by omega)).trans y3, (f2 _ _ (by omega) (by omega)).trans y4, (f2 _ _ (by omega) (by omega)).trans y5⟩, by rw [← D0.2.1]; unfold oi; rw [f2 _ _ (by omega) (by omega)], by rw [← D0.2.2]; unfold oi; rw [f2 _ _ (by omega) (by omega)]⟩
  replace hf := jbind hf
  obtain ⟨p8, e3, hf⟩ := hf
  have r3 := oc_gR e3
  rw [S2.1] at r3
  cases r3
  clear e3
  replace hf := jbind hf
  obtain ⟨v11, e4, hf⟩ := hf
  replace e4 := (jcv_o e4).2
  have r4 := E_X10_kind K2 e4
  replace hf := jite hf
  rcases hf with ⟨c5, hf⟩ | ⟨c5, hf⟩
  · skip
    cases hf
    -- leaf 0: ((- 1 : Int32), h4)
    rw [r4] at c5
    refine ⟨m, T, st, en, H, K2.2.2.1, ?_, fun a j u1 u2 _ _ => f2 a j u1 (by omega), z2⟩
    rw [if_pos c5]
    exact lrL_l rfl ⟨rfl, D2, dE_0, by show 0 ≤ 12; omega⟩
  · skip
    -- leaf 1: F_X4_read_L_22 n n a0 (0 : Int32) h4
    rw [r4] at c5
    obtain ⟨a1, a2, a3⟩ := E_X4_read_L_22 (W0 := W0) H n 0 0 [] rfl ⟨S2, K2, D2, dE_0, Nat.le_refl 0⟩ rfl rfl (by omega) hf
    refine ⟨m, T, st, en, H, K2.2.2.1, ?_, fun a j u1 u2 u3 u4 => (a2 a j (by omega) u3 u4).trans (f2 a j u1 (by omega)), a3.trans z2⟩
    rw [if_neg c5]
    exact a1
end
section
/-! law keeps the relation -/
theorem tyR_cc {W W2 : jWd} (h : ∀ k, 436 ≤ k → k < 1284 → W2 k = W k) (a : Nat) : ∀ k, a + k ≤ 400 → tyR W2 a k = tyR W a k
  | 0, _ => rfl
  | k + 1, hk => by
    unfold tyR
    rw [tyR_cc h a k (by omega), h _ (by omega) (by omega)]
theorem linE_cb {O : jO} {l n : Nat} {W W2 : jWd} (D : linE O l W n) (hn : n ≤ 12) (h : ∀ k, 436 ≤ k → k < 1284 → W2 k = W k) : linE O l W2 n := by
  intro i hi
  obtain ⟨a1, a2, a3, a4, a5, a6, a7, a8, a9, a10, a11⟩ := D i hi
  have h4 : (if i = 0 then 0 else W2 (439 + 4 * (i - 1))) = (if i = 0 then 0 else W (439 + 4 * (i - 1)) : Int32) := by
    split
    · rfl
    · exact h _ (by omega) (by omega)
  rw [h4, h (436 + 4 * i) (by omega) (by omega), h (437 + 4 * i) (by omega) (by omega), h (438 + 4 * i) (by omega) (by omega), h (439 + 4 * i) (by omega) (by omega)]
  refine ⟨a1, a2, a3, a4, a5, a6, a7, a8, a9, fun j u w => ?_, ?_⟩
  · rw [h _ (by omega) (by omega), h _ (by omega) (by omega)]; exact a10 j u w
  · rw [tyR_cc h _ _ (by omega)]; exact a11
theorem lawW_lo {W : jWd} {S : List jLn} {k : Nat} (h : k < 435) (h2 : k ≠ 2) : lawW W S k = W k := by
  unfold lawW
  rw [if_neg h2, if_neg (by omega), if_neg (by omega), if_neg (by omega)]
  exact lwS_lo (by omega)
theorem lawW_E {O : jO} {x : Nat} {W : jWd} {S : List jLn} (LS : lawS O (x + 28)) (g7 : oi O (x + 28) 7 = 1) (g8 : oi O (x + 28) 8 = nI (lwS W S).2.1) (hn : (lwS W S).2.1 ≤ 12) (D : dE O x (lwS W S).1 (lwS W S).2.1 (lwS W S).2.2) : lawE O (x + 28) (lawW W S) := by
  have w2 : lawW W S 2 = 1 := if_pos rfl
  have w435 : lawW W S 435 = nI (lwS W S).2.1 := by
    unfold lawW
    rw [if_neg (by decide), if_pos rfl]
  refine ⟨LS, by rw [w2]; exact g7, Or.inr w2, fun _ => ⟨by rw [w435]; exact g8, by rw [w435, nI_toInt (by omega)]; omega, ?_⟩⟩
  rw [w435, nI_toInt (by omega), show ((lwS W S).2.1 : Int).toNat = (lwS W S).2.1 by omega]
  refine linE_cb D.1 hn fun k h1 h2 => ?_
  unfold lawW
  rw [if_neg (by omega), if_neg (by omega), if_pos (by omega)]
theorem rodE_c2 {O : jO} {b : Nat} {W W2 : jWd} (R : rodE O b W) (K : wOK W) (h : ∀ k, k < 435 → k ≠ 2 → W2 k = W k) : rodE O b W2 := by
  have K0 := K.1
  have k9 := K.2.2.2.2.2.2.2.2.2.1
  obtain ⟨S, I, RB, RC, L1, L2, L3⟩ := R
  unfold rodE
  rw [h 0 (by omega) (by omega), h 7 (by omega) (by omega), h 5 (by omega) (by omega), h 6 (by omega) (by omega), h 3 (by omega) (by omega), h 4 (by omega) (by omega), h 8 (by omega) (by omega), h 10 (by omega) (by omega), h 1 (by omega) (by omega)]
  refine ⟨S, I, fun i hi => ?_, RC, ?_⟩
  · rw [h _ (by omega) (by omega), h _ (by omega) (by omega), h _ (by omega) (by omega), h _ (by omega) (by omega), h _ (by omega) (by omega), h _ (by omega) (by omega), h _ (by omega) (by omega), h _ (by omega) (by omega)]
    exact RB i hi
  · unfold logE
    rw [h 9 (by omega) (by omega)]
    refine ⟨L1, L2, fun a ha => ?_⟩
    rw [h _ (by omega) (by omega), h _ (by omega) (by omega), h _ (by omega) (by omega), h _ (by omega) (by omega), h _ (by omega) (by omega), h _ (by omega) (by omega)]
    exact L3 a ha
theorem wOK_c2 {W W2 : jWd} (K : wOK W) (h : ∀ k, k < 75 → k ≠ 2 → W2 k = W k) : wOK W2 := by
  obtain ⟨k0, k1, k2, k3, k4, k5, k6, k7, k8, k9, k10⟩ := K
  unfold wOK
  rw [h 0 (by omega) (by omega), h 3 (by omega) (by omega), h 4 (by omega) (by omega), h 5 (by omega) (by omega), h 6 (by omega) (by omega), h 8 (by omega) (by omega), h 9 (by omega) (by omega), h 1 (by omega) (by omega)]
  refine ⟨k0, fun i hi => ?_, fun i hi => ?_, fun i hi => ?_, k4, k5, k6, k7, k8, k9, k10⟩
  · rw [h _ (by omega) (by omega), h _ (by omega) (by omega), h _ (by omega) (by omega), h _ (by omega) (by omega), h _ (by omega) (by omega), h _ (by omega) (by omega), h _ (by omega) (by omega), h _ (by omega) (by omega)]
    exact k1 i hi
  · rw [h _ (by omega) (by omega), h _ (by omega) (by omega)]
    exact k2 i hi
  · rw [h _ (by omega) (by omega)]
    exact k3 i hi
theorem E_X11_law {b : Nat → Int32} {L : Nat} {x : Nat} {W : jWd} {n : Nat} {a0 : Nat} {h : jH} {q : jR × jH} (ha : x = a0) (X0 : oc h x 0 = .ref (x + 1)) (X3 : oc h x 3 = .ref (x + 19)) (I : rdrS (oc h) x) (C : ctb (oc h) (x + 1) b L) (SL : lawS (oc h) (x + 13)) (hf : F_X11_law n a0 h = some q) : ∃ (m : Nat) (T : Nat → Int32 × Int32) (st en : Nat → Nat), tkE b L m T st en ∧ m ≤ 400 ∧ (∀ f, (if (T 0).1 = -1 then .inl [] else rdLines (rdLaw T) T 12 [] 0) = .inr f → q.1 = .inr 0 ∧ oi (oc q.2) x 12 = nI (st f) ∧ (∀ a k : Nat, ¬ (a = x ∧ k = 12) → ¬ (a = x + 1 ∧ 4 ≤ k ∧ k ≤ 6) → ¬ (x + 3 ≤ a ∧ a ≤ x + 5) → ¬ (a = x + 28 ∧ 6 ≤ k) → ¬ (x + 29 ≤ a ∧ a ≤ x + 32) → oc q.2 a k = oc h a k)) ∧ (∀ S, (if (T 0).1 = -1 then .inl [] else rdLines (rdLaw T) T 12 [] 0) = .inl S → q.1 = .inl (nI (lwS W S).2.1) ∧ oi (oc q.2) x 12 = -1 ∧ lawE (oc q.2) (x + 13) (lawW W S) ∧ oi (oc q.2) (x + 19) 2 = 0 ∧ (∀ a k : Nat, ¬ (a = x ∧ k = 12) → ¬ (a = x + 1 ∧ 4 ≤ k ∧ k ≤ 6) → ¬ (x + 3 ≤ a ∧ a ≤ x + 5) → ¬ (a = x + 28 ∧ 6 ≤ k) → ¬ (x + 29 ≤ a ∧ a ≤ x + 32) → ¬ (x + 13 ≤ a ∧ a ≤ x + 18) → ¬ (a = x + 19 ∧ k = 2) → oc q.2 a k = oc h a k)) ∧ oi (oc q.2) (x + 1) 6 = 0 ∧ lawS (oc q.2) (x + 28) ∧ q.2.1 = h.1 := by
  unfold F_X11_law at hf
  subst ha
  replace hf := jbind hf
  obtain ⟨p1, e1, hf⟩ := hf
  have r1 := oc_gR e1
  rw [I.1.2.2.1] at r1
  cases r1
  clear e1
  replace hf := jbind hf
  obtain ⟨h4, e2, hf⟩ := hf
  replace e2 := (jcv_o e2).2
  obtain ⟨g7, g8, g6, f2, z2⟩ := E_X2_begin e2
  have C2 : ctb (oc h4) (x + 1) b L := ctb_fr C (fun a k u => f2 _ _ (by omega))
  have S2 : rlS (oc h4) x := ⟨(f2 _ _ (by omega)).trans I.2.2.1.1, (f2 _ _ (by omega)).trans I.2.2.1.2.1, (f2 _ _ (by omega)).trans I.2.2.1.2.2⟩
  have LS2 : lawS (oc h4) (x + 28) := by obtain ⟨y1, y2, y3, y4, y5⟩ := I.2.2.2.2.2; exact ⟨(f2 _ _ (by omega)).trans y1, (f2 _ _ (by omega)).trans y2, (f2 _ _ (by omega)).trans y3, (f2 _ _ (by omega)).trans y4, (f2 _ _ (by omega)).trans y5⟩
  have x7 : oc h4 x 7 = .ref (x + 35) := (f2 _ _ (by omega)).trans I.1.2.2.2.2.1
  replace hf := jbind hf
  obtain ⟨p9, e3, hf⟩ := hf
  have r3 := oc_gR e3
  rw [x7] at r3
  cases r3
  clear e3
  replace hf := jbind hf
  obtain ⟨q12, e4, hf⟩ := hf
  replace e4 := (jcv_o e4).2
  obtain ⟨m, T, st, en, H, hm4, r4, f4, z4⟩ := E_X4_read_L (W0 := W) C2 rfl S2 ⟨LS2, g8, g6⟩ e4
  have g4 : ∀ k, oc q12.2 x k = oc h x k := fun k => (f4 _ _ (by omega) (by omega) (by omega) (by omega)).trans (f2 _ _ (by omega))
  have x0 : oc q12.2 x 0 = .ref (x + 1) := (g4 0).trans X0
  have x2 : oc q12.2 x 2 = .ref (x + 13) := (g4 2).trans I.1.1
  have x3 : oc q12.2 x 3 = .ref (x + 19) := (g4 3).trans X3
  have x5 : oc q12.2 x 5 = .ref (x + 28) := (g4 5).trans I.1.2.2.1
  replace hf := jbind hf
  obtain ⟨h15, e5, hf⟩ := hf
  obtain ⟨o5, z5⟩ := oc_pf e5
  clear e5
  replace hf := jbind hf
  obtain ⟨p19, e6, hf⟩ := hf
  have r6 := oc_gR e6
  rw [o5] at r6
  rw [u2_ne (Or.inr (by decide))] at r6
  rw [x0] at r6
  cases r6
  clear e6
  replace hf := jbind hf
  obtain ⟨h23, e7, hf⟩ := hf
  obtain ⟨o7, z7⟩ := oc_pf e7
  clear e7
  replace hf := jbind hf
  obtain ⟨v27, e8, hf⟩ := hf
  have r8 := oc_gI e8
  rw [o7] at r8
  rw [oi_ne (Or.inl (by omega))] at r8
  rw [o5] at r8
  rw [oi_eq] at r8
  subst r8
  clear e8
  have q23 : ∀ a k : Nat, ¬ (a = x ∧ k = 12) → ¬ (a = x + 1 ∧ k = 6) → oc h23 a k = oc q12.2 a k := fun a k u1 u2 => by rw [o7, u2_ne (by omega), o5, u2_ne (by omega)]
  have f23 : ∀ a k : Nat, ¬ (a = x ∧ k = 12) → ¬ (a = x + 1 ∧ 4 ≤ k ∧ k ≤ 6) → ¬ (x + 3 ≤ a ∧ a ≤ x + 5) → ¬ (a = x + 28 ∧ 6 ≤ k) → ¬ (x + 29 ≤ a ∧ a ≤ x + 32) → oc h23 a k = oc h a k := fun a k u1 u2 u3 u4 u5 => (q23 a k u1 (by omega)).trans ((f4 a k (by omega) (by omega) (by omega) (by omega)).trans (f2 a k (by omega)))
  have g23 : oi (oc h23) (x + 1) 6 = 0 := by rw [o7, oi_eq]
  have n23 : oi (oc h23) x 12 = q12.1 := by rw [o7, oi_ne (Or.inl (by omega)), o5, oi_eq]
  have z23 : h23.1 = h.1 := z7.trans (z5.trans (z4.trans z2))
  have LS23 : lawS (oc h23) (x + 28) := by obtain ⟨y1, y2, y3, y4, y5⟩ := I.2.2.2.2.2; exact ⟨(f23 _ _ (by omega) (by omega) (by omega) (by omega) (by omega)).trans y1, (f23 _ _ (by omega) (by omega) (by omega) (by omega) (by omega)).trans y2, (f23 _ _ (by omega) (by omega) (by omega) (by omega) (by omega)).trans y3, (f23 _ _ (by omega) (by omega) (by omega) (by omega) (by omega)).trans y4, (f23 _ _ (by omega) (by omega) (by omega) (by omega) (by omega)).trans y5⟩
  replace hf := jite hf
  rcases hf with ⟨c9, hf⟩ | ⟨c9, hf⟩
  · skip
    replace hf := jbind hf
    obtain ⟨p45, e10, hf⟩ := hf
    have r10 := oc_gR e10
    rw [o7] at r10
    rw [u2_ne (Or.inl (by omega))] at r10
    rw [o5] at r10
    rw [u2_ne (Or.inr (by decide))] at r10
    rw [x2] at r10
    cases r10
    clear e10
    replace hf := jbind hf
    obtain ⟨p49, e11, hf⟩ := hf
    have r11 := oc_gR e11
    rw [o7] at r11
    rw [u2_ne (Or.inl (by omega))] at r11
    rw [o5] at r11
    rw [u2_ne (Or.inr (by decide))] at r11
    rw [x5] at r11
    cases r11
    clear e11
    replace hf := jbind hf
    obtain ⟨h52, e12, hf⟩ := hf
    replace e12 := (jcv_o e12).2
    rcases hR : (if (T 0).1 = -1 then .inl [] else rdLines (rdLaw T) T 12 [] 0) with S | f
    rotate_left
    · exfalso
      have y := r4.2 f hR
      rw [c9] at y
      have sl := tk_L H f
      have hL := H.1
      exact nI_ng (x := -1) (by omega) (by decide) y
    obtain ⟨-, d0, DE, n12⟩ := r4.1 S hR
    have gi : ∀ a k : Nat, ¬ (a = x ∧ k = 12) → ¬ (a = x + 1 ∧ k = 6) → oi (oc h23) a k = oi (oc q12.2) a k := fun a k u1 u2 => by unfold oi; rw [q23 a k u1 u2]
    have LE : lawE (oc h23) (x + 28) (lawW W S) := lawW_E LS23 (by rw [gi _ _ (by omega) (by omega), ← g7]; unfold oi; rw [f4 _ _ (by omega) (by omega) (by omega) (by omega)]) ((gi _ _ (by omega) (by omega)).trans d0.2.1) n12 (dE_fr DE (fun a k u1 u2 => q23 a k (by omega) (by omega)))
    have L13 : lawS (oc h23) (x + 13) := by obtain ⟨y1, y2, y3, y4, y5⟩ := SL; exact ⟨(f23 _ _ (by omega) (by omega) (by omega) (by omega) (by omega)).trans y1, (f23 _ _ (by omega) (by omega) (by omega) (by omega) (by omega)).trans y2, (f23 _ _ (by omega) (by omega) (by omega) (by omega) (by omega)).trans y3, (f23 _ _ (by omega) (by omega) (by omega) (by omega) (by omega)).trans y4, (f23 _ _ (by omega) (by omega) (by omega) (by omega) (by omega)).trans y5⟩
    obtain ⟨R12, f12, z12⟩ := E_X2_copyFrom (d := x + 13) (r := x + 28) rfl rfl (by omega) L13 LE e12
    have x2c : oc h52 x 2 = .ref (x + 13) := (f12 _ _ (by omega)).trans ((q23 _ _ (by omega) (by omega)).trans x2)
    have x3c : oc h52 x 3 = .ref (x + 19) := (f12 _ _ (by omega)).trans ((q23 _ _ (by omega) (by omega)).trans x3)
    replace hf := jbind hf
    obtain ⟨p56, e13, hf⟩ := hf
    have r13 := oc_gR e13
    rw [x3c] at r13
    cases r13
    clear e13
    replace hf := jbind hf
    obtain ⟨h59, e14, hf⟩ := hf
    replace e14 := (jcv_o e14).2
    obtain ⟨o14, z14⟩ := E_X0_forget e14
    replace hf := jbind hf
    obtain ⟨p63, e15, hf⟩ := hf
    have r15 := oc_gR e15
    rw [o14] at r15
    rw [u2_ne (Or.inl (by omega))] at r15
    rw [x2c] at r15
    cases r15
    clear e15
    replace hf := jbind hf
    obtain ⟨v66, e16, hf⟩ := hf
    have r16 := oc_gI e16
    rw [o14] at r16
    rw [oi_ne (Or.inl (by omega))] at r16
    subst r16
    clear e16
    cases hf
    -- leaf 0: (.inl v66, h59)
    have k59 : ∀ a k : Nat, ¬ (x + 13 ≤ a ∧ a ≤ x + 18) → ¬ (a = x + 19 ∧ k = 2) → oc h59 a k = oc h23 a k := fun a k u1 u2 => by rw [o14, u2_ne (by omega), f12 a k (by omega)]
    have L59 : lawE (oc h59) (x + 13) (lawW W S) := lawE_fr R12 (fun a k u1 u2 _ => by rw [o14, u2_ne (by omega)])
    have a8 : oi (oc h52) (x + 13) 8 = nI (lwS W S).2.1 := by
      have := (R12.2.2.2 (if_pos rfl)).1
      rw [this]
      unfold lawW
      rw [if_neg (by decide), if_pos rfl]
    refine ⟨m, T, st, en, H, hm4, fun f y => (by rw [hR] at y; cases y), fun S3 y => ?_, ?_, ?_, ?_⟩
    · rw [hR] at y
      cases y
      refine ⟨by rw [a8], ?_, L59, ?_, fun a k u1 u2 u3 u4 u5 u6 u7 => (k59 a k u6 u7).trans (f23 a k u1 u2 u3 u4 u5)⟩
      · show oi (oc h59) x 12 = -1
        unfold oi
        rw [k59 _ _ (by omega) (by omega)]
        exact n23.trans c9
      · show oi (oc h59) (x + 19) 2 = 0
        rw [o14, oi_eq]
    · show oi (oc h59) (x + 1) 6 = 0
      unfold oi
      rw [k59 _ _ (by omega) (by omega)]
      exact g23
    · obtain ⟨y1, y2, y3, y4, y5⟩ := LS23
      exact ⟨(k59 _ _ (by omega) (by omega)).trans y1, (k59 _ _ (by omega) (by omega)).trans y2, (k59 _ _ (by omega) (by omega)).trans y3, (k59 _ _ (by omega) (by omega)).trans y4, (k59 _ _ (by omega) (by omega)).trans y5⟩
    · exact z14.trans (z12.trans z23)
  · skip
    cases hf
    -- leaf 1: (.inr 0, h23)
    rcases hR : (if (T 0).1 = -1 then .inl [] else rdLines (rdLaw T) T 12 [] 0) with S | f
    · exact absurd (r4.1 S hR).1 c9
    have v5 := r4.2 f hR
    refine ⟨m, T, st, en, H, hm4, fun f2 y => ?_, fun W3 y => (by rw [hR] at y; cases y), g23, LS23, z23⟩
    rw [hR] at y
    cases y
    exact ⟨rfl, n23.trans v5, f23⟩
theorem eq_law {x nx r L n : Nat} {W : jWd} {h : jH} {q : jR × jH} {p : Int32 × jH} (E : eqS x nx r L W h) (hB : ∀ i, i < 400 → -128 ≤ (oi (oc h) (x + 46) i).toInt ∧ (oi (oc h) (x + 46) i).toInt ≤ 127) (e1 : F_X11_law n x h = some q) (e2 : F_X12_law n (x + 40) q.2 = some p) :
    (∃ r2 W2, eqS x nx r2 0 W2 p.2) ∧ ansE [(0, 1)] q.1 p.1 (oi (oc p.2) (x + 40) 0) := by
  obtain ⟨⟨x0, x1, x3, -, -, -, ts, M⟩, ⟨n1, n2, n3, n4, n5, n6, -, -, -⟩, ⟨R, hw, K, LE, LK, LB⟩, ⟨l1, l2, l3, l4, I⟩⟩ := id E
  have C : ctb (oc h) (x + 1) (fun i => oi (oc h) (x + 46) i) L := ⟨ts, l1, l3, fun i hi => l4 i hi, hB⟩
  obtain ⟨m, T, st, en, H, hm4, a1, a2, a3, a4, a5⟩ := E_X11_law (W := W) rfl x0 x3 I.1 C LE.1 e1
  have FQ : ∀ a k : Nat, ¬ (a = x ∧ k = 12) → ¬ (a = x + 1 ∧ 4 ≤ k ∧ k ≤ 6) → ¬ (x + 3 ≤ a ∧ a ≤ x + 5) → ¬ (a = x + 28 ∧ 6 ≤ k) → ¬ (x + 29 ≤ a ∧ a ≤ x + 32) → ¬ (x + 13 ≤ a ∧ a ≤ x + 18) → ¬ (a = x + 19 ∧ k = 2) → oc q.2 a k = oc h a k := fun a k u1 u2 u3 u4 u5 u6 u7 => by
    rcases hR : (if (T 0).1 = -1 then .inl [] else rdLines (rdLaw T) T 12 [] 0 : List jLn ⊕ Nat) with S | f
    · exact (a2 S hR).2.2.2.2 a k u1 u2 u3 u4 u5 u6 u7
    · exact (a1 f hR).2.2 a k u1 u2 u3 u4 u5
  have k2 : ∀ a k : Nat, x + 33 ≤ a → oc q.2 a k = oc h a k := fun a k z => FQ a k (by omega) (by omega) (by omega) (by omega) (by omega) (by omega) (by omega)
  have ki : ∀ a k : Nat, x + 33 ≤ a → oi (oc q.2) a k = oi (oc h) a k := fun a k z => by unfold oi; rw [k2 a k z]
  have M2 : mS (oc q.2) (x + 40) := by
    obtain ⟨s1, s2, s3, s4, s5, s8, s15, s17, s19, s20, s21⟩ := M
    have k3 : ∀ k, oc q.2 (x + 40) k = oc h (x + 40) k := fun k => k2 _ k (by omega)
    exact ⟨(k3 _).trans s1, (k3 _).trans s2, (k3 _).trans s3, (k3 _).trans s4, (k3 _).trans s5, (k3 _).trans s8, (k3 _).trans s15, (k3 _).trans s17, (k3 _).trans s19, (k3 _).trans s20, (k3 _).trans s21⟩
  have w2 : wl (oc q.2) (x + 40) = W := by rw [← hw]; funext k; exact ki (x + 41) k (by omega)
  obtain ⟨b1, b2, b3, b4, b5⟩ := E_X12_law H M2 w2 ((ki _ _ (by omega)).trans l2) (fun i => ki (x + 46) i (by omega)) hm4 e2
  have fp : ∀ a k : Nat, a ≠ x + 41 → ¬ (a = x + 40 ∧ (k = 0 ∨ k = 7 ∨ (9 ≤ k ∧ k ≤ 14) ∨ k = 16)) → oc p.2 a k = oc q.2 a k := fun a k u1 u3 => b4 a k (fun c hc z => by simp at hc; omega) (fun z y => u3 ⟨z, by simp at y; omega⟩)
  have fpi : ∀ a k : Nat, a ≤ x + 39 → oi (oc p.2) a k = oi (oc q.2) a k := fun a k z => by unfold oi; rw [fp a k (by omega) (by omega)]
  have F : ∀ a k : Nat, ¬ txc x a k → oc p.2 a k = oc h a k := fun a k z => by
    unfold txc at z
    exact (fp a k (by omega) (by omega)).trans (FQ a k (by omega) (by omega) (by omega) (by omega) (by omega) (by omega) (by omega))
  have T2 : oi (oc p.2) (x + 1) 6 = nI 0 ∧ oi (oc p.2) (x + 40) 9 = nI 0 ∧ 0 ≤ 400 := ⟨(fpi _ _ (by omega)).trans a3, b3, by omega⟩
  have D2 : rodS (oc p.2) (x + 21) ∧ lawS (oc p.2) (x + 28) := ⟨rodS_fr I.1.2.2.2.2.1 (fun k => (fp _ _ (by omega) (by omega)).trans (FQ _ _ (by omega) (by omega) (by omega) (by omega) (by omega) (by omega) (by omega))) ((fp _ _ (by omega) (by omega)).trans (FQ _ _ (by omega) (by omega) (by omega) (by omega) (by omega) (by omega) (by omega))), by
    obtain ⟨g1, g2, g3, g4, g5⟩ := a4
    exact ⟨(fp _ _ (by omega) (by omega)).trans g1, (fp _ _ (by omega) (by omega)).trans g2, (fp _ _ (by omega) (by omega)).trans g3, (fp _ _ (by omega) (by omega)).trans g4, (fp _ _ (by omega) (by omega)).trans g5⟩⟩
  have fR : ∀ a k : Nat, x + 6 ≤ a → a ≤ x + 12 → oc p.2 a k = oc h a k := fun a k z1 z2 => (fp a k (by omega) (by omega)).trans (FQ a k (by omega) (by omega) (by omega) (by omega) (by omega) (by omega) (by omega))
  rcases hR : (if (T 0).1 = -1 then .inl [] else rdLines (rdLaw T) T 12 [] 0 : List jLn ⊕ Nat) with S | f
  · obtain ⟨v, n12, LL, s0, G⟩ := a2 S hR
    obtain ⟨v2, -, y0, c14, y7, yw⟩ := b2 S hR
    have L3 : lawE (oc p.2) (x + 13) (lawW W S) := lawE_fr LL (fun a k z1 z2 _ => fp a k (by omega) (by omega))
    exact ⟨⟨0, _, eq_bld E F (b5.trans a5) (Or.inl ⟨rfl, (fpi _ _ (by omega)).trans s0, y7⟩) ⟨rodE_c2 (rodE_fr R (fun a k z1 z2 => fR a k z1 (by omega))) K (fun k h1 h2 => lawW_lo h1 h2), yw, wOK_c2 K (fun k h1 h2 => lawW_lo (by omega) h2), L3, lawK_of L3, lawB_of L3⟩ T2 D2 (((fpi _ _ (by omega)).trans n12).trans c14.symm)⟩, Or.inl ⟨by rw [v, v2], y0⟩⟩
  · obtain ⟨v, n12, G⟩ := a1 f hR
    obtain ⟨v2, y0, c14, y7, yW⟩ := b1 f hR
    have fL : ∀ a k : Nat, x + 13 ≤ a → a ≤ x + 18 → oc p.2 a k = oc h a k := fun a k z1 z2 => (fp a k (by omega) (by omega)).trans (G a k (by omega) (by omega) (by omega) (by omega) (by omega))
    obtain ⟨q1, q2, q3, q4, q5⟩ := wd_cb R K LE yW (fun a k z1 z2 => fR a k z1 (by omega)) (fun a k z1 z2 _ => fL a k z1 (by omega))
    have g19 : oi (oc p.2) (x + 19) 2 = oi (oc h) (x + 19) 2 := by unfold oi; rw [fp _ _ (by omega) (by omega), G _ _ (by omega) (by omega) (by omega) (by omega) (by omega)]
    have f13 : oi (oc p.2) (x + 13) 7 = oi (oc h) (x + 13) 7 := by unfold oi; rw [fL _ _ (by omega) (by omega)]
    exact ⟨⟨r, _, eq_bld E F (b5.trans a5) (Or.inr ⟨rfl, g19, y7.trans (ki _ _ (by omega)), f13⟩) ⟨q1, rfl, q2, q3, q4, q5⟩ T2 D2 (((fpi _ _ (by omega)).trans n12).trans c14.symm)⟩, Or.inr ⟨(0, 1), by simp, v, v2, y0⟩⟩
end
