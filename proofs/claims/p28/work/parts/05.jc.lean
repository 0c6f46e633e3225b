/-! more rows over pure heaps: stores of bytes, booleans, longs, references; what is made; static rows; Math; arraycopy; ends; calls; throws -/
section JC
variable {G : jG} {l : Launch} {M : jM} {dep : Nat} {X : jX} {h h1 : jH} {kc ks pc : Nat} {L : List (Option Value)} {st : List Value} {a k i0 : Nat} {x i : Int32}
theorem jr_bast (K : jOK G l M dep X) (hd : decode M.2.1 pc = .ok (.bastore, 1)) (hg : jas 1 h a i x = some h1) (kk : jJ G X h1 kc ks (pc + 1) L st) : jJ G X h kc ks pc L (.int x :: .int i :: .ref a :: st) := by
  obtain ⟨p, l9, e, R, s, m, args, below, meth, c, mc, ms, Q⟩ := X
  obtain ⟨hx, hb, hml, hr, hown, hts, hlk, hin, hE, hbs, hd1, hd2, hd3, hd4, rfl, hxt⟩ := K
  intro H locs cells slots ls hR hS hc1 hc2 hc hl
  obtain ⟨n, f, g1, g2, -, rfl⟩ := jas_o hg
  have g3 : H[a]? = some (vp_cell (G.2.1 1) (n, .inl f)) := (hR.2 a _ g1).2
  refine W.bast hx hb g3 ((hE.1.2 1 _ rfl).1 n (fun j => .int (f j))) (fun q => by cases q) (by show ¬ (i < 0 ∨ (arrV _ _ _).slots.size ≤ _); rw [arrV_size]; exact g2) rfl rfl hd fun H1 e z oq => ?_
  refine kk H1 _ cells slots ls (hR.put g1 ?_ z oq) (hS.put z oq (hR.2 a _ g1).1) hc1 hc2 hc hl
  show H1[a]? = some (vp_cell (G.2.1 1) (n, .inl (upd f i.toNatClampNeg (jnar 1 x))))
  rw [e]
  rw [vp_cell_i, vp_cell_i, arrV_store]
  congr 2
  funext q
  by_cases hq : q = i.toNatClampNeg
  · subst hq
    simp [updV, upd, jnar]
    try rfl
  · simp [updV, upd, hq]
theorem jr_zast (K : jOK G l M dep X) (hd : decode M.2.1 pc = .ok (.bastore, 1)) (hg : jas 2 h a i x = some h1) (kk : jJ G X h1 kc ks (pc + 1) L st) : jJ G X h kc ks pc L (.int x :: .int i :: .ref a :: st) := by
  obtain ⟨p, l9, e, R, s, m, args, below, meth, c, mc, ms, Q⟩ := X
  obtain ⟨hx, hb, hml, hr, hown, hts, hlk, hin, hE, hbs, hd1, hd2, hd3, hd4, rfl, hxt⟩ := K
  intro H locs cells slots ls hR hS hc1 hc2 hc hl
  obtain ⟨n, f, g1, g2, gz, rfl⟩ := jas_o hg
  have g3 : H[a]? = some (vp_cell (G.2.1 2) (n, .inl f)) := (hR.2 a _ g1).2
  refine W.zast hx hb g3 ((hE.1.2 2 _ rfl).1 n (fun j => .int (f j))) (fun q => by cases q) (by show ¬ (i < 0 ∨ (arrV _ _ _).slots.size ≤ _); rw [arrV_size]; exact g2) rfl rfl hd fun H1 e z oq => ?_
  refine kk H1 _ cells slots ls (hR.put g1 ?_ z oq) (hS.put z oq (hR.2 a _ g1).1) hc1 hc2 hc hl
  show H1[a]? = some (vp_cell (G.2.1 2) (n, .inl (upd f i.toNatClampNeg (jnar 2 x))))
  rw [e]
  rw [vp_cell_i, vp_cell_i, arrV_store]
  congr 2
  funext q
  have hnz : narrow .boolean (.int x) = .int x := by rcases gz rfl with rfl | rfl <;> rfl
  by_cases hq : q = i.toNatClampNeg
  · subst hq
    simp [updV, upd, jnar, hnz]
  · simp [updV, upd, hq]
theorem jr_last (K : jOK G l M dep X) {v : Int64} (hd : decode M.2.1 pc = .ok (.lastore, 1)) (hg : jasl h a i v = some h1) (kk : jJ G X h1 kc ks (pc + 1) L st) : jJ G X h kc ks pc L (.long v :: .int i :: .ref a :: st) := by
  obtain ⟨p, l9, e, R, s, m, args, below, meth, c, mc, ms, Q⟩ := X
  obtain ⟨hx, hb, hml, hr, hown, hts, hlk, hin, hE, hbs, hd1, hd2, hd3, hd4, rfl, hxt⟩ := K
  intro H locs cells slots ls hR hS hc1 hc2 hc hl
  obtain ⟨n, f, g1, g2, rfl⟩ := jasl_o hg
  have g3 : H[a]? = some (vp_cell (G.2.1 3) (n, .inr (.inl f))) := (hR.2 a _ g1).2
  refine W.last hx hb g3 ((hE.1.2 3 _ rfl).1 n (fun j => .long (f j))) (fun q => by cases q) (by show ¬ (i < 0 ∨ (arrV _ _ _).slots.size ≤ _); rw [arrV_size]; exact g2) rfl rfl hd fun H1 e z oq => ?_
  refine kk H1 _ cells slots ls (hR.put g1 ?_ z oq) (hS.put z oq (hR.2 a _ g1).1) hc1 hc2 hc hl
  show H1[a]? = some (vp_cell (G.2.1 3) (n, .inr (.inl (vp_updL f i.toNatClampNeg v))))
  rw [e]
  rw [vp_cell_l, vp_cell_l, arrV_store]
  congr 2
  funext q
  by_cases hq : q = i.toNatClampNeg
  · subst hq
    simp [updV, vp_updL]
  · simp [updV, vp_updL, hq]
theorem jr_aast (K : jOK G l M dep X) {v : Nat} (hd : decode M.2.1 pc = .ok (.aastore, 1)) (hg : jasq 6 h a i v = some h1) (kk : jJ G X h1 kc ks (pc + 1) L st) : jJ G X h kc ks pc L (.ref v :: .int i :: .ref a :: st) := by
  obtain ⟨p, l9, e, R, s, m, args, below, meth, c, mc, ms, Q⟩ := X
  obtain ⟨hx, hb, hml, hr, hown, hts, hlk, hin, hE, hbs, hd1, hd2, hd3, hd4, rfl, hxt⟩ := K
  intro H locs cells slots ls hR hS hc1 hc2 hc hl
  obtain ⟨n, f, fs, g1, gv, g2, rfl⟩ := jasq_o hg
  have g3 : H[a]? = some (vp_cell (G.2.1 4) (n, .inr (.inr (.inr (.inr f))))) := (hR.2 a _ g1).2
  have hlt : i.toNatClampNeg < n := Nat.not_le.mp fun q => g2 (Or.inr q)
  have h0 : ¬ i < 0 := fun q => g2 (Or.inl q)
  obtain ⟨r', hr', cellV, q1, q2, q3, -⟩ := (hR.2 v _ gv).2
  have hcr : r' = (RX8, TX8, 18) := (Option.some.inj hr').symm
  subst hcr
  have hcls := (hE.1.1 6 _ rfl).2
  obtain ⟨kA, comp, k1, k2, k3, -⟩ := (hE.1.2 4 _ rfl).2
  have hcomp : comp = G.1.1 6 := Option.some.inj (k3.symm.trans hcls.1)
  subst hcomp
  obtain ⟨kC, hkC, -⟩ := hcls.2
  refine W.aast hx hb g3 (fun q h => by cases h) (fun h => by cases h) k1 k2 rfl hkC ⟨h0, by show _ < (arrV _ _ _).slots.size; rw [arrV_size]; exact hlt⟩ q1 (fun q h => by rw [q3] at h; cases h) (by rw [q2]; exact hkC) (by rw [q2]; exact va_assign hcls) rfl rfl hd fun H1 e z oq => ?_
  refine kk H1 _ cells slots ls (hR.put g1 ?_ z oq) (hS.put z oq (hR.2 a _ g1).1) hc1 hc2 hc hl
  show H1[a]? = some (vp_cell (G.2.1 4) (n, .inr (.inr (.inr (.inr (va_up f i.toNatClampNeg (some v)))))))
  rw [e]
  rw [vp_cell_q, vp_cell_q, arrV_store]
  congr 2
  funext q
  by_cases hq : q = i.toNatClampNeg
  · subst hq
    simp [updV, va_up, va_rf]
  · simp [updV, va_up, hq]
theorem va_S.push9 {A : Nat → Prop} {H0 H H1 : Heap} {locs : List Loc} (h : va_S A H0 H locs) (z : H1.size = H.size + 1) (oq : ∀ q : Nat, q < H.size → H1[q]? = H[q]?) : va_S A H0 H1 locs :=
  ⟨Nat.le_trans h.1 (by omega), fun q h1 h2 => (oq q (Nat.lt_of_lt_of_le h1 h.1)).trans (h.2.1 q h1 h2), h.2.2⟩
/-- new C: the cell of the next number -/
theorem jr_new (K : jOK G l M dep X) {index ci N : Nat} {fs : List Value} (hd : decode M.2.1 pc = .ok (.new index, 3)) (hf : jFn M.1.cls index ci N fs) (kk : jJ G X (jnew h (.inl (ci, fs))) kc ks (pc + 3) L (.ref h.1 :: st)) : jJ G X h (kc + 1) (ks + N) pc L st := by
  obtain ⟨p, l9, e, R, s, m, args, below, meth, c, mc, ms, Q⟩ := X
  obtain ⟨hx, hb, hml, hr, hown, hts, hlk, hin, hE, hbs, hd1, hd2, hd3, hd4, rfl, hxt⟩ := K
  intro H locs cells slots ls hR hS hc1 hc2 hc hl
  obtain ⟨C, T, ty0, f1, f2, f3, f4, f5, f6, f7⟩ := hf
  have hKn := hE.1.1 ci _ f1
  refine W.newcK hx hb hown (hts _ f4) (hts _ f5) (hts _ f6) rfl hd (by omega) (by omega) hKn.2.1 rfl fun H1 kC hkC e1 z1 o1 => ?_
  have key := kk H1 locs (cells + 1) (slots + N) ls (hR.mk (Nat.le_trans hbs hS.1) ⟨_, f1, (u_born ty0 hts (u_ws_all f2) hKn hkC e1 f3).to f7⟩ z1 o1) (hS.push9 z1 o1) (by omega) (by omega) hc hl
  rw [hR.1]
  exact key
/-- new int[n], byte[n], boolean[n], long[n] -/
theorem jr_newI (K : jOK G l M dep X) {N : Nat} {n : Int32} (hd : decode M.2.1 pc = .ok (.newarray .int, 2)) (hw : Cond.arrayClass .int ∈ jall) (hn : ¬ n < 0) (hN : n.toNatClampNeg = N) (hN2 : N * 4 ≤ 536870912) (kk : jJ G X (jnew h (.inr (.inl (0, N, fun _ => 0)))) kc ks (pc + 2) L (.ref h.1 :: st)) : jJ G X h (kc + 1) (ks + N) pc L (.int n :: st) := by
  obtain ⟨p, l9, e, R, s, m, args, below, meth, c, mc, ms, Q⟩ := X
  obtain ⟨hx, hb, hml, hr, hown, hts, hlk, hin, hE, hbs, hd1, hd2, hd3, hd4, rfl, hxt⟩ := K
  intro H locs cells slots ls hR hS hc1 hc2 hc hl
  refine va_newaK (atype := .int) hx hb (hts _ hw) rfl hd rfl hn hN hN2 (by omega) (by omega) rfl fun H1 cA e1 z1 o1 hAr hNm => ?_
  have hcA : cA = G.2.1 0 := Option.some.inj (hNm.symm.trans (hE.1.2 0 _ rfl).2)
  subst hcA
  have key := kk H1 locs (cells + 1) (slots + N) ls (hR.mk (Nat.le_trans hbs hS.1) (by show H1[H.size]? = some (vp_cell _ _); rw [vp_cell_i]; exact e1) z1 o1) (hS.push9 z1 o1) (by omega) (by omega) hc hl
  rw [hR.1]
  exact key
theorem jr_newB (K : jOK G l M dep X) {N : Nat} {n : Int32} (hd : decode M.2.1 pc = .ok (.newarray .byte, 2)) (hw : Cond.arrayClass .byte ∈ jall) (hn : ¬ n < 0) (hN : n.toNatClampNeg = N) (hN2 : N * 1 ≤ 536870912) (kk : jJ G X (jnew h (.inr (.inl (1, N, fun _ => 0)))) kc ks (pc + 2) L (.ref h.1 :: st)) : jJ G X h (kc + 1) (ks + N) pc L (.int n :: st) := by
  obtain ⟨p, l9, e, R, s, m, args, below, meth, c, mc, ms, Q⟩ := X
  obtain ⟨hx, hb, hml, hr, hown, hts, hlk, hin, hE, hbs, hd1, hd2, hd3, hd4, rfl, hxt⟩ := K
  intro H locs cells slots ls hR hS hc1 hc2 hc hl
  refine va_newaK (atype := .byte) hx hb (hts _ hw) rfl hd rfl hn hN hN2 (by omega) (by omega) rfl fun H1 cA e1 z1 o1 hAr hNm => ?_
  have hcA : cA = G.2.1 1 := Option.some.inj (hNm.symm.trans (hE.1.2 1 _ rfl).2)
  subst hcA
  have key := kk H1 locs (cells + 1) (slots + N) ls (hR.mk (Nat.le_trans hbs hS.1) (by show H1[H.size]? = some (vp_cell _ _); rw [vp_cell_i]; exact e1) z1 o1) (hS.push9 z1 o1) (by omega) (by omega) hc hl
  rw [hR.1]
  exact key
theorem jr_newZ (K : jOK G l M dep X) {N : Nat} {n : Int32} (hd : decode M.2.1 pc = .ok (.newarray .boolean, 2)) (hw : Cond.arrayClass .boolean ∈ jall) (hn : ¬ n < 0) (hN : n.toNatClampNeg = N) (hN2 : N * 1 ≤ 536870912) (kk : jJ G X (jnew h (.inr (.inl (2, N, fun _ => 0)))) kc ks (pc + 2) L (.ref h.1 :: st)) : jJ G X h (kc + 1) (ks + N) pc L (.int n :: st) := by
  obtain ⟨p, l9, e, R, s, m, args, below, meth, c, mc, ms, Q⟩ := X
  obtain ⟨hx, hb, hml, hr, hown, hts, hlk, hin, hE, hbs, hd1, hd2, hd3, hd4, rfl, hxt⟩ := K
  intro H locs cells slots ls hR hS hc1 hc2 hc hl
  refine va_newaK (atype := .boolean) hx hb (hts _ hw) rfl hd rfl hn hN hN2 (by omega) (by omega) rfl fun H1 cA e1 z1 o1 hAr hNm => ?_
  have hcA : cA = G.2.1 2 := Option.some.inj (hNm.symm.trans (hE.1.2 2 _ rfl).2)
  subst hcA
  have key := kk H1 locs (cells + 1) (slots + N) ls (hR.mk (Nat.le_trans hbs hS.1) (by show H1[H.size]? = some (vp_cell _ _); rw [vp_cell_i]; exact e1) z1 o1) (hS.push9 z1 o1) (by omega) (by omega) hc hl
  rw [hR.1]
  exact key
theorem jr_newL (K : jOK G l M dep X) {N : Nat} {n : Int32} (hd : decode M.2.1 pc = .ok (.newarray .long, 2)) (hw : Cond.arrayClass .long ∈ jall) (hn : ¬ n < 0) (hN : n.toNatClampNeg = N) (hN2 : N * 8 ≤ 536870912) (kk : jJ G X (jnew h (.inr (.inr (.inr (N, fun _ => 0))))) kc ks (pc + 2) L (.ref h.1 :: st)) : jJ G X h (kc + 1) (ks + N) pc L (.int n :: st) := by
  obtain ⟨p, l9, e, R, s, m, args, below, meth, c, mc, ms, Q⟩ := X
  obtain ⟨hx, hb, hml, hr, hown, hts, hlk, hin, hE, hbs, hd1, hd2, hd3, hd4, rfl, hxt⟩ := K
  intro H locs cells slots ls hR hS hc1 hc2 hc hl
  refine va_newaK (atype := .long) hx hb (hts _ hw) rfl hd rfl hn hN hN2 (by omega) (by omega) rfl fun H1 cA e1 z1 o1 hAr hNm => ?_
  have hcA : cA = G.2.1 3 := Option.some.inj (hNm.symm.trans (hE.1.2 3 _ rfl).2)
  subst hcA
  have key := kk H1 locs (cells + 1) (slots + N) ls (hR.mk (Nat.le_trans hbs hS.1) (by show H1[H.size]? = some (vp_cell _ _); rw [vp_cell_l]; exact e1) z1 o1) (hS.push9 z1 o1) (by omega) (by omega) hc hl
  rw [hR.1]
  exact key
/-- new Rod[n] -/
theorem jr_newQ (K : jOK G l M dep X) {N index : Nat} {n : Int32} (hd : decode M.2.1 pc = .ok (.anewarray index, 3)) (hw : Cond.classLink M.1.cls index "RodRings$Rod" ∈ jall) (hn : ¬ n < 0) (hN : n.toNatClampNeg = N) (hN2 : N * 4 ≤ 536870912) (kk : jJ G X (jnew h (.inr (.inr (.inl (N, fun _ => none))))) kc ks (pc + 3) L (.ref h.1 :: st)) : jJ G X h (kc + 1) (ks + N) pc L (.int n :: st) := by
  obtain ⟨p, l9, e, R, s, m, args, below, meth, c, mc, ms, Q⟩ := X
  obtain ⟨hx, hb, hml, hr, hown, hts, hlk, hin, hE, hbs, hd1, hd2, hd3, hd4, rfl, hxt⟩ := K
  intro H locs cells slots ls hR hS hc1 hc2 hc hl
  subst hN
  refine W.anew hx hb hown (hts _ hw) (va_AO.use hE.2.2.2.2.2.2.2.2.2.1.1) rfl hd rfl hn hN2 (by omega) (by omega) fun cA kA comp f1 f2 f3 f4 => ?_
  have hcA : cA = G.2.1 4 := by
    obtain ⟨kA9, comp9, _, _, _, j4⟩ := (hE.1.2 4 _ rfl).2
    exact Option.some.inj (f1.symm.trans j4)
  subst hcA
  generalize hH1 : H.push ({ cls := G.2.1 4, slots := Array.replicate n.toNatClampNeg .null, vm := .none } : Cell) = H1
  have z1 : H1.size = H.size + 1 := by rw [← hH1, Array.size_push]
  have e1 : H1[H.size]? = some (arrV (G.2.1 4) n.toNatClampNeg (fun _ => .null)) := by rw [← hH1, Array.getElem?_push_size, ← arrV_new]
  have o1 : ∀ q : Nat, q < H.size → H1[q]? = H[q]? := fun q hq => by rw [← hH1, Array.getElem?_push, if_neg (Nat.ne_of_lt hq)]
  have key := kk H1 locs (cells + 1) (slots + n.toNatClampNeg) ls (hR.mk (Nat.le_trans hbs hS.1) (by show H1[H.size]? = some (vp_cell _ _); rw [vp_cell_q]; exact e1) z1 o1) (hS.push9 z1 o1) (by omega) (by omega) hc hl
  rw [hR.1]
  exact key
/-- Log's two static rows: the reference, and a place read -/
theorem jr_shf (K : jOK G l M dep X) {index : Nat} (hd : decode M.2.1 pc = .ok (.getstatic index, 3)) (hw : Cond.fieldLink M.1.cls index "RodRings$Log" "SHIFTS" "[I" ∈ jall) (kk : jJ G X h kc ks (pc + 3) L (.ref (G.2.2.2 0) :: st)) : jJ G X h kc ks pc L st := by
  obtain ⟨p, l9, e, R, s, m, args, below, meth, c, mc, ms, Q⟩ := X
  obtain ⟨hx, hb, hml, hr, hown, hts, hlk, hin, hE, hbs, hd1, hd2, hd3, hd4, rfl, hxt⟩ := K
  intro H locs cells slots ls hR hS hc1 hc2 hc hl
  exact va_gets hx hb hE.2.2.2.1 hS hown (hts _ hw) (fun _ q => q) hd (kk H locs cells slots ls hR hS hc1 hc2 hc hl)
theorem jr_msk (K : jOK G l M dep X) {index : Nat} (hd : decode M.2.1 pc = .ok (.getstatic index, 3)) (hw : Cond.fieldLink M.1.cls index "RodRings$Log" "MASKS" "[I" ∈ jall) (kk : jJ G X h kc ks (pc + 3) L (.ref (G.2.2.2 1) :: st)) : jJ G X h kc ks pc L st := by
  obtain ⟨p, l9, e, R, s, m, args, below, meth, c, mc, ms, Q⟩ := X
  obtain ⟨hx, hb, hml, hr, hown, hts, hlk, hin, hE, hbs, hd1, hd2, hd3, hd4, rfl, hxt⟩ := K
  intro H locs cells slots ls hR hS hc1 hc2 hc hl
  exact va_gets hx hb hE.2.2.2.2.2.1 hS hown (hts _ hw) (fun _ q => q) hd (kk H locs cells slots ls hR hS hc1 hc2 hc hl)
theorem jr_stald {f : Nat → Int32} {t n : Nat} (K : jOK G l M dep X) (hT : ∀ U H, jSt G U H → va_T .int t n (fun j => .int (f j)) (jA G) U H) (hd : decode M.2.1 pc = .ok (.iaload, 1)) (hi : ¬ (i < 0 ∨ n ≤ i.toNatClampNeg)) (kk : jJ G X h kc ks (pc + 1) L (.int (f i.toNatClampNeg) :: st)) : jJ G X h kc ks pc L (.int i :: .ref t :: st) := by
  obtain ⟨p, l9, e, R, s, m, args, below, meth, c, mc, ms, Q⟩ := X
  obtain ⟨hx, hb, hml, hr, hown, hts, hlk, hin, hE, hbs, hd1, hd2, hd3, hd4, rfl, hxt⟩ := K
  intro H locs cells slots ls hR hS hc1 hc2 hc hl
  obtain ⟨cell, q1, q2, q3, q4, q5, q6, q7⟩ := hT s s.heap hE.2
  have hlt : i.toNatClampNeg < n := Nat.not_le.mp fun q => hi (Or.inr q)
  exact W.iald (v := .int (f i.toNatClampNeg)) hx hb (by rw [hS.2.1 t (Array.getElem?_eq_some_iff.mp q1).1 q7]; exact q1) q2 q3 (fun q => q.elim (fun q => hi (Or.inl q)) (fun q => by omega)) (q6 _ hlt) rfl rfl hd (kk H locs cells slots ls hR hS hc1 hc2 hc hl)
theorem jT_shf : ∀ U H, jSt G U H → va_T .int (G.2.2.2 0) 6 (fun j => .int (jshf.getD j 0)) (jA G) U H := fun _ _ q => q.2.2.2.1
theorem jT_msk : ∀ U H, jSt G U H → va_T .int (G.2.2.2 1) 6 (fun j => .int (jmsk.getD j 0)) (jA G) U H := fun _ _ q => q.2.2.2.2.2.1
/-- a text -/
theorem jr_ldcS (K : jOK G l M dep X) {index i : Nat} {tx : String} {bs : List Int32} (hd : decode M.2.1 pc = .ok (.ldc index, 2)) (hx9 : jtxt[i]? = some (M.1.cls, index, tx, bs)) (kk : jJ G X h kc ks (pc + 2) L (.ref (G.2.2.2 (10 + 2 * i)) :: st)) : jJ G X h kc ks pc L st := by
  obtain ⟨p, l9, e, R, s, m, args, below, meth, c, mc, ms, Q⟩ := X
  obtain ⟨hx, hb, hml, hr, hown, hts, hlk, hin, hE, hbs, hd1, hd2, hd3, hd4, rfl, hxt⟩ := K
  intro H locs cells slots ls hR hS hc1 hc2 hc hl
  exact va_ldcS hx hb hown (hE.2.2.2.2.2.2.2.2.2.2 i _ hx9).1 hd (kk H locs cells slots ls hR hS hc1 hc2 hc hl)
theorem jr_min (K : jOK G l M (dep + 1) X) {index : Nat} {x y : Int32} (hd : decode M.2.1 pc = .ok (.invokestatic index, 3)) (hw : Cond.methodLink M.1.cls index Lib.Math.min.name ∈ jall ∧ Cond.static Lib.Math.min.name ∈ jall ∧ Cond.initialized "java/lang/Math" ∈ jall ∧ Cond.code Lib.Math.min.name Lib.Math.min.code 2 (some .int) ∈ jall) (hrm : (st.map fun v => v.category).sum ≤ 8) (kk : jJ G X h kc ks (pc + 3) L (.int (if y < x then y else x) :: st)) : jJ G X h kc ks pc L (.int y :: .int x :: st) := by
  obtain ⟨p, l9, e, R, s, m, args, below, meth, c, mc, ms, Q⟩ := X
  obtain ⟨hx, hb, hml, hr, hown, hts, hlk, hin, hE, hbs, hd1, hd2, hd3, hd4, rfl, hxt⟩ := K
  intro H locs cells slots ls hR hS hc1 hc2 hc hl
  exact va_mmin hx hb hl.1.symm hown (hts _ hw.1) (hts _ hw.2.1) (hts _ hw.2.2.1) (hts _ hw.2.2.2) (by omega) (by omega) (by omega) (by omega) hd (kk H locs cells slots ls hR hS hc1 hc2 hc hl)
theorem jr_max (K : jOK G l M (dep + 1) X) {index : Nat} {x y : Int32} (hd : decode M.2.1 pc = .ok (.invokestatic index, 3)) (hw : Cond.methodLink M.1.cls index Lib.Math.max.name ∈ jall ∧ Cond.static Lib.Math.max.name ∈ jall ∧ Cond.initialized "java/lang/Math" ∈ jall ∧ Cond.code Lib.Math.max.name Lib.Math.max.code 2 (some .int) ∈ jall) (hrm : (st.map fun v => v.category).sum ≤ 8) (kk : jJ G X h kc ks (pc + 3) L (.int (if x < y then y else x) :: st)) : jJ G X h kc ks pc L (.int y :: .int x :: st) := by
  obtain ⟨p, l9, e, R, s, m, args, below, meth, c, mc, ms, Q⟩ := X
  obtain ⟨hx, hb, hml, hr, hown, hts, hlk, hin, hE, hbs, hd1, hd2, hd3, hd4, rfl, hxt⟩ := K
  intro H locs cells slots ls hR hS hc1 hc2 hc hl
  exact va_mmax hx hb hl.1.symm hown (hts _ hw.1) (hts _ hw.2.1) (hts _ hw.2.2.1) (hts _ hw.2.2.2) (by omega) (by omega) (by omega) (by omega) hd (kk H locs cells slots ls hR hS hc1 hc2 hc hl)
theorem jr_abs (K : jOK G l M (dep + 1) X) {index : Nat} {x : Int32} (hd : decode M.2.1 pc = .ok (.invokestatic index, 3)) (hw : Cond.methodLink M.1.cls index Lib.Math.abs.name ∈ jall ∧ Cond.static Lib.Math.abs.name ∈ jall ∧ Cond.initialized "java/lang/Math" ∈ jall ∧ Cond.code Lib.Math.abs.name Lib.Math.abs.code 1 (some .int) ∈ jall) (hrm : (st.map fun v => v.category).sum ≤ 8) (kk : jJ G X h kc ks (pc + 3) L (.int (if 0 ≤ x then x else 0 - x) :: st)) : jJ G X h kc ks pc L (.int x :: st) := by
  obtain ⟨p, l9, e, R, s, m, args, below, meth, c, mc, ms, Q⟩ := X
  obtain ⟨hx, hb, hml, hr, hown, hts, hlk, hin, hE, hbs, hd1, hd2, hd3, hd4, rfl, hxt⟩ := K
  intro H locs cells slots ls hR hS hc1 hc2 hc hl
  exact va_mabs hx hb hl.1.symm hown (hts _ hw.1) (hts _ hw.2.1) (hts _ hw.2.2.1) (hts _ hw.2.2.2) (by omega) (by omega) (by omega) (by omega) hd (kk H locs cells slots ls hR hS hc1 hc2 hc hl)
theorem jr_objInit (K : jOK G l M (dep + 1) X) {index : Nat} {a : Nat} (hd : decode M.2.1 pc = .ok (.invokespecial index, 3)) (hw : Cond.methodLink M.1.cls index Lib.objectInit ∈ jall ∧ Cond.instanceMethod Lib.objectInit ∈ jall ∧ Cond.code Lib.objectInit ⟨#[0xb1]⟩ 1 none ∈ jall) (hrm : (st.map fun v => v.category).sum ≤ 8) (kk : jJ G X h kc ks (pc + 3) L st) : jJ G X h kc ks pc L (.ref a :: st) := by
  obtain ⟨p, l9, e, R, s, m, args, below, meth, c, mc, ms, Q⟩ := X
  obtain ⟨hx, hb, hml, hr, hown, hts, hlk, hin, hE, hbs, hd1, hd2, hd3, hd4, rfl, hxt⟩ := K
  intro H locs cells slots ls hR hS hc1 hc2 hc hl
  exact W.objInit hx hb hown (hts _ hw.1) (hts _ hw.2.1) (hts _ hw.2.2) rfl hl.1 rfl hd (by omega) (by show 2 * 0 + _ + 12 ≤ _; omega) (kk H locs cells slots ls hR hS hc1 hc2 hc hl)
end JC
