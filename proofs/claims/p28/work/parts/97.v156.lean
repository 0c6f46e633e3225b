/-! the draft of a law and the reference's draft tell the same lines -/
theorem emW_hi : ∀ (l : List (Int32 × Int32)) (W : jWd) (s i : Nat), emW W s l i = if 1333 + 2 * s ≤ i ∧ i < 1333 + 2 * (s + l.length) then (if (i - 1333) % 2 = 0 then (l.getD ((i - 1333) / 2 - s) (0, 0)).1 else (l.getD ((i - 1333) / 2 - s) (0, 0)).2) else W i
  | [], W, s, i => by
    rw [if_neg (by simp)]
    rfl
  | e :: t, W, s, i => by
    show emW (upd (upd W (1333 + 2 * s) e.1) (1334 + 2 * s) e.2) (s + 1) t i = _
    rw [emW_hi t _ (s + 1) i, List.length_cons]
    by_cases y : i = 1333 + 2 * s
    · subst y
      rw [if_neg (by omega), upd_ne (by omega), upd_eq, if_pos (by omega), if_pos (by omega), show (1333 + 2 * s - 1333) / 2 - s = 0 by omega]
      rfl
    · by_cases z : i = 1334 + 2 * s
      · subst z
        rw [if_neg (by omega), upd_eq, if_pos (by omega), if_neg (by omega), show (1334 + 2 * s - 1333) / 2 - s = 0 by omega]
        rfl
      · by_cases u : 1333 + 2 * (s + 1) ≤ i ∧ i < 1333 + 2 * (s + 1 + t.length)
        · rw [if_pos u, if_pos (show 1333 + 2 * s ≤ i ∧ i < 1333 + 2 * (s + (t.length + 1)) by omega), show (i - 1333) / 2 - s = ((i - 1333) / 2 - (s + 1)) + 1 by omega]
          rfl
        · rw [if_neg u, upd_ne (by omega), upd_ne (by omega), if_neg (by omega)]
theorem lnW_at {W : jWd} {n s : Nat} {e : jLn} (hn : n < 12) : lnW W n s e (1285 + 4 * n) = e.1.1 ∧ lnW W n s e (1286 + 4 * n) = e.1.2 ∧ lnW W n s e (1287 + 4 * n) = nI s ∧ lnW W n s e (1288 + 4 * n) = nI (s + e.2.length) := by
  unfold lnW
  refine ⟨?_, ?_, ?_, ?_⟩
  · rw [upd_ne (by omega), emW_lo _ _ _ (by omega), upd_ne (by omega), upd_ne (by omega), upd_eq]
  · rw [upd_ne (by omega), emW_lo _ _ _ (by omega), upd_ne (by omega), upd_eq]
  · rw [upd_ne (by omega), emW_lo _ _ _ (by omega), upd_eq]
  · rw [upd_eq]
theorem lnW_old {W : jWd} {n s i : Nat} {e : jLn} (hn : n < 12) (h : (1285 ≤ i ∧ i < 1285 + 4 * n) ∨ (1333 ≤ i ∧ i < 1333 + 2 * s)) : lnW W n s e i = W i := by
  unfold lnW
  rw [upd_ne (by omega), emW_hi, if_neg (by omega), upd_ne (by omega), upd_ne (by omega), upd_ne (by omega)]
theorem lnW_st {W : jWd} {n s j : Nat} {e : jLn} (hn : n < 12) (h : s ≤ j ∧ j < s + e.2.length) : lnW W n s e (1333 + 2 * j) = (e.2.getD (j - s) (0, 0)).1 ∧ lnW W n s e (1334 + 2 * j) = (e.2.getD (j - s) (0, 0)).2 := by
  unfold lnW
  refine ⟨?_, ?_⟩
  · rw [upd_ne (by omega), emW_hi, if_pos (by omega), if_pos (by omega), show (1333 + 2 * j - 1333) / 2 - s = j - s by omega]
  · rw [upd_ne (by omega), emW_hi, if_pos (by omega), if_neg (by omega), show (1334 + 2 * j - 1333) / 2 - s = j - s by omega]
theorem tyR_L {W : jWd} {s : Nat} {l : List (Int32 × Int32)} (h : ∀ i, i < l.length → W (484 + 2 * (s + i)) = (l.getD i (0, 0)).1) : ∀ k, k ≤ l.length → tyR W s k = tyL (l.take k) []
  | 0, _ => rfl
  | k + 1, hk => by
    unfold tyR
    rw [tyR_L h k (by omega), List.take_add_one, List.getElem?_eq_getElem (by omega)]
    have e : W (484 + 2 * (s + k)) = (l[k]'(by omega)).1 := by rw [h k (by omega), List.getD_eq_getElem?_getD, List.getElem?_eq_getElem (by omega)]; rfl
    rw [e]
    cases hc : tyL (l.take k) [] with
    | none =>
      have : ∀ (u t : List (Int32 × Int32)) (ty : List Bool), tyL u ty = none → tyL (u ++ t) ty = none := by
        intro u
        induction u with
        | nil => intro t ty q; cases q
        | cons a u ih =>
          intro t ty q
          show (tyC a.1 ty).bind (fun v => tyL (u ++ t) v) = none
          replace q : (tyC a.1 ty).bind (fun v => tyL u v) = none := q
          cases ha : tyC a.1 ty with
          | none => rfl
          | some v => rw [ha] at q; exact ih t v q
      rw [this _ _ _ hc]
      rfl
    | some u =>
      show tyC (l[k]'(by omega)).1 u = _
      cases hd : tyC (l[k]'(by omega)).1 u with
      | none =>
        have : ∀ (v : List (Int32 × Int32)) (ty : List Bool) (e : Int32 × Int32), tyL v ty = some u → tyC e.1 u = none → tyL (v ++ [e]) ty = none := by
          intro v
          induction v with
          | nil => intro ty e q r; cases q; show (tyC e.1 _).bind _ = none; rw [r]; rfl
          | cons a v ih =>
            intro ty e q r
            show (tyC a.1 ty).bind (fun w => tyL (v ++ [e]) w) = none
            replace q : (tyC a.1 ty).bind (fun w => tyL v w) = some u := q
            cases ha : tyC a.1 ty with
            | none => rfl
            | some w => rw [ha] at q; exact ih w e q r
        exact (this _ _ _ hc hd).symm
      | some w => exact (tyL_2 hc (tyL_1 hd)).symm
/-- the draft's arrays tell the lines of V (at its draft's places): nl lines, s codes -/
def dE (O : jO) (x : Nat) (V : jWd) (nl s : Nat) : Prop := linE O (x + 28) (fun k => V (k + 849)) nl ∧ (∀ i, i < nl → (V (1288 + 4 * i)).toInt ≤ (s : Int)) ∧ (nl = 0 → s = 0) ∧ (0 < nl → V (1288 + 4 * (nl - 1)) = nI s)
theorem dE_0 {O : jO} {x : Nat} {V : jWd} : dE O x V 0 0 := ⟨fun i hi => by omega, fun i hi => by omega, fun _ => rfl, fun h => by omega⟩
theorem dE_s {O O2 : jO} {x nl s : Nat} {V : jWd} {kd am : Int32} {l : List (Int32 × Int32)} (D : dE O x V nl s) (hn : nl < 12) (hs : s + l.length ≤ 400) (N : dr1 O O2 x nl s kd am l) (ok : okL l) (ty : tyL l [] = some [] ∨ tyL l [] = some [true]) (ha : 0 ≤ am.toInt ∧ am.toInt ≤ 100) : dE O2 x (lnW V nl s ((kd, am), l)) (nl + 1) (s + l.length) := by
  obtain ⟨LE, mono, z0, zl⟩ := D
  obtain ⟨-, n1, n2, n3, n4⟩ := N
  obtain ⟨a1, a2, a3, a4⟩ := lnW_at (W := V) (s := s) (e := ((kd, am), l)) hn
  have old : ∀ i, (1285 ≤ i ∧ i < 1285 + 4 * nl) ∨ (1333 ≤ i ∧ i < 1333 + 2 * s) → lnW V nl s ((kd, am), l) i = V i := fun i h => lnW_old hn h
  refine ⟨fun i hi => ?_, fun i hi => ?_, fun h => by omega, fun _ => ?_⟩
  · by_cases y : i = nl
    · subst y
      show oi O2 (x + 29) i = lnW V i s ((kd, am), l) (436 + 4 * i + 849) ∧ oi O2 (x + 30) i = lnW V i s ((kd, am), l) (437 + 4 * i + 849) ∧ oi O2 (x + 31) i = lnW V i s ((kd, am), l) (439 + 4 * i + 849) ∧ lnW V i s ((kd, am), l) (438 + 4 * i + 849) = (if i = 0 then 0 else lnW V i s ((kd, am), l) (439 + 4 * (i - 1) + 849)) ∧ 0 ≤ (lnW V i s ((kd, am), l) (438 + 4 * i + 849)).toInt ∧ (lnW V i s ((kd, am), l) (438 + 4 * i + 849)).toInt ≤ (lnW V i s ((kd, am), l) (439 + 4 * i + 849)).toInt ∧ (lnW V i s ((kd, am), l) (439 + 4 * i + 849)).toInt ≤ 400 ∧ 0 ≤ (lnW V i s ((kd, am), l) (437 + 4 * i + 849)).toInt ∧ (lnW V i s ((kd, am), l) (437 + 4 * i + 849)).toInt ≤ 100 ∧
        (∀ j : Nat, (lnW V i s ((kd, am), l) (438 + 4 * i + 849)).toInt ≤ (j : Int) → (j : Int) < (lnW V i s ((kd, am), l) (439 + 4 * i + 849)).toInt → codeR (oi O2 (x + 32) j) (lnW V i s ((kd, am), l) (484 + 2 * j + 849)) (lnW V i s ((kd, am), l) (485 + 2 * j + 849))) ∧
        (∃ ty, tyR (fun k => lnW V i s ((kd, am), l) (k + 849)) (lnW V i s ((kd, am), l) (438 + 4 * i + 849)).toInt.toNat ((lnW V i s ((kd, am), l) (439 + 4 * i + 849)).toInt.toNat - (lnW V i s ((kd, am), l) (438 + 4 * i + 849)).toInt.toNat) = some ty ∧ (ty = [] ∨ ty = [true]))
      rw [show 436 + 4 * i + 849 = 1285 + 4 * i by omega, show 437 + 4 * i + 849 = 1286 + 4 * i by omega, show 438 + 4 * i + 849 = 1287 + 4 * i by omega, show 439 + 4 * i + 849 = 1288 + 4 * i by omega, a1, a2, a3, a4, nI_toInt (by omega), nI_toInt (by dsimp only; omega)]
      dsimp only
      refine ⟨by rw [n1 i, if_pos rfl], by rw [n2 i, if_pos rfl], by rw [n3 i, if_pos rfl], ?_, by omega, by omega, by omega, ha.1, ha.2, fun j h1 h2 => ?_, ?_⟩
      · by_cases z : i = 0
        · rw [if_pos z, z0 z]; rfl
        · rw [if_neg z, old _ (by omega), show 439 + 4 * (i - 1) + 849 = 1288 + 4 * (i - 1) by omega, zl (by omega)]
      · obtain ⟨b1, b2⟩ := lnW_st (W := V) (n := i) (s := s) (j := j) (e := ((kd, am), l)) hn (by dsimp only; omega)
        rw [show 484 + 2 * j + 849 = 1333 + 2 * j by omega, show 485 + 2 * j + 849 = 1334 + 2 * j by omega, b1, b2, n4 j, if_pos (by omega)]
        have hj : j - s < l.length := by omega
        have e1 : (l.map cod).getD (j - s) 0 = cod (l.getD (j - s) (0, 0)) := by
          rw [List.getD_eq_getElem?_getD, List.getD_eq_getElem?_getD, List.getElem?_map, List.getElem?_eq_getElem hj]
          rfl
        have e2 : l.getD (j - s) (0, 0) ∈ l := by
          rw [List.getD_eq_getElem?_getD, List.getElem?_eq_getElem hj]
          exact List.getElem_mem hj
        rw [e1]
        exact cod_R (ok _ e2)
      · rw [show ((s : Int)).toNat = s by omega, show ((s + l.length : Nat) : Int).toNat - s = l.length by omega]
        have t := tyR_L (W := fun k => lnW V i s ((kd, am), l) (k + 849)) (s := s) (l := l) (fun q hq => by
          obtain ⟨b1, -⟩ := lnW_st (W := V) (n := i) (s := s) (j := s + q) (e := ((kd, am), l)) hn (by dsimp only; omega)
          try dsimp only at b1
          try dsimp only
          rw [show 484 + 2 * (s + q) + 849 = 1333 + 2 * (s + q) by omega, b1, show s + q - s = q by omega]) l.length (Nat.le_refl _)
        rw [List.take_length] at t
        rw [t]
        rcases ty with q | q
        · exact ⟨[], q, Or.inl rfl⟩
        · exact ⟨[true], q, Or.inr rfl⟩
    · have hi2 : i < nl := by omega
      have m9 := mono i hi2
      obtain ⟨c1, c2, c3, c4, c5, c6, c7, c8, c9, c10, c11⟩ := LE i hi2
      try dsimp only at c1 c2 c3 c4 c5 c6 c7 c8 c9 c10 c11
      try dsimp only
      have m9b : (V (439 + 4 * i + 849)).toInt ≤ (s : Int) := by rw [show 439 + 4 * i + 849 = 1288 + 4 * i by omega]; exact m9
      rw [old (436 + 4 * i + 849) (by omega), old (437 + 4 * i + 849) (by omega), old (438 + 4 * i + 849) (by omega), old (439 + 4 * i + 849) (by omega)]
      refine ⟨?_, ?_, ?_, ?_, c5, c6, c7, c8, c9, fun j h1 h2 => ?_, ?_⟩
      · show oi O2 (x + 29) i = _
        rw [n1 i, if_neg y]; exact c1
      · show oi O2 (x + 30) i = _
        rw [n2 i, if_neg y]; exact c2
      · show oi O2 (x + 31) i = _
        rw [n3 i, if_neg y]; exact c3
      · by_cases z : i = 0
        · rw [if_pos z]; rw [if_pos z] at c4; exact c4
        · rw [if_neg z, old _ (by omega)]; rw [if_neg z] at c4; exact c4
      · rw [old _ (by omega), old _ (by omega)]
        show codeR (oi O2 (x + 32) j) _ _
        rw [n4 j, if_neg (by omega)]
        exact c10 j h1 h2
      · obtain ⟨t, q1, q2⟩ := c11
        refine ⟨t, ?_, q2⟩
        rw [← q1]
        have cg : ∀ k, (V (438 + 4 * i + 849)).toInt.toNat + k ≤ s → tyR (fun k => lnW V nl s ((kd, am), l) (k + 849)) (V (438 + 4 * i + 849)).toInt.toNat k = tyR (fun k => V (k + 849)) (V (438 + 4 * i + 849)).toInt.toNat k := by
          intro k
          induction k with
          | zero => intro _; rfl
          | succ k ih =>
            intro hk
            unfold tyR
            rw [ih (by omega)]
            try dsimp only
            rw [old _ (by omega)]
        exact cg _ (by omega)
  · by_cases y : i = nl
    · subst y
      rw [a4, nI_toInt (by dsimp only; omega)]
      exact Int.le_refl _
    · rw [old _ (by omega)]
      have := mono i (by omega)
      omega
  · rw [show nl + 1 - 1 = nl by omega]
    exact a4
