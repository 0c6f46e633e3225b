/-! throws and catches -/
def jnms : List String := ["java/lang/RuntimeException", "java/lang/Exception"]
def jTh (own : String) (ik ic : Nat) (E : String) : Prop := Cond.classLink own ik E ∈ jall ∧ Cond.initialized E ∈ jall ∧ (∀ w ∈ vx_atS own ic E jnms, w ∈ jall ∨ w ∈ jnest) ∧ (∀ w ∈ Cond.classLink own ik E :: Cond.initialized E :: vx_atS own ic E jnms, vx_ot w = true) ∧ Bundle.fit E = true
section JF
variable {G : jG} {l : Launch} {M : jM} {dep : Nat} {X : jX} {h : jH} {kc ks pc : Nat} {L : List (Option Value)} {st : List Value} {P : jR → jH → Prop}
theorem jtab {G : jG} {s : State} {args : Array Value} {w : Cond} (hts : ∀ w ∈ jall, w.before args s = true) (hE : jEF G s s.heap) (h : w ∈ jall ∨ w ∈ jnest) : w.before args s = true := by
  rcases h with h | h
  · exact hts w h
  · exact va_Nw.use (jnest_on h) (hE.2.2.2.2.2.2.2.2.2.1.2.1 w h)
theorem jthrown {G : jG} {P : jR → jH → Prop} {s : State} {H : Heap} {locs : List Loc} {h : jH} {k : Nat} {E : String} (hR : jRep G h H) (hS : va_S (jA G) s.heap H locs) (hk : jexn[k]? = some E) (hP : P (.inr k) h) : ∀ t : State, s.vm.Alike t.vm → H.size ≤ t.heap.size → (∀ q : Nat, q < H.size → t.heap[q]? = H[q]?) → jXC G P E s t := by
  intro t _ hz hq
  refine ⟨⟨k, t.heap.size, h, hk, by rw [← hR.1]; exact hz, hP, rfl, fun a e he => ⟨(hR.2 a e he).1, (hR.2 a e he).2.kept (hq a (hR.2 a e he).2.lt)⟩⟩, Nat.le_trans hS.1 hz, fun q h1 h2 => (hq q (Nat.lt_of_lt_of_le h1 hS.1)).trans (hS.2.1 q h1 h2)⟩
/-- throw new E("text") -/
theorem jr_throw (hst : l.stackTraces = false) (K : jOK G l M (dep + 6) X) (En : jEnd G M P X) {ik is ic i k : Nat} {E tx : String} {bs : List Int32} (d0 : decode M.2.1 pc = .ok (.new ik, 3)) (d3 : decode M.2.1 (pc + 3) = .ok (.dup, 1)) (d4 : decode M.2.1 (pc + 4) = .ok (.ldc is, 2)) (d6 : decode M.2.1 (pc + 6) = .ok (.invokespecial ic, 3)) (d9 : decode M.2.1 (pc + 9) = .ok (.athrow, 1))
    (hT : jTh M.1.cls ik ic E) (hx9 : jtxt[i]? = some (M.1.cls, is, tx, bs)) (hh : M.2.2.2.2 = []) (hk : jexn[k]? = some E) (hrm : (st.map fun v => v.category).sum ≤ 8) (hkc : 1 ≤ kc) (hks : 6 ≤ ks) (hP : P (.inr k) h) : jJ G X h kc ks pc L st := by
  obtain ⟨p, l9, e, R, s, m, args, below, meth, c, mc, ms, Q⟩ := X
  obtain ⟨hx, hb, hml, hr, hown, hts, hlk, hin, hE, hbs, hd1, hd2, hd3, hd4, rfl, hxt⟩ := K
  subst En
  intro H locs cells slots ls hR hS hc1 hc2 hc hl
  obtain ⟨t1, t2, t3, t4, t5⟩ := hT
  have hn2 : jnms.length = 2 := rfl
  exact vx_throwS (names := jnms) (A := jA G) hx hb hst hown t5 (by decide) (hts _ t1) (hts _ t2) (hE.2.2.2.2.2.2.2.2.2.2 i _ hx9).1 (fun w hw => jtab hts hE (t3 w hw)) t4 hE.2.1 hE.2.2.1 hS hl.1 d0 d3 d4 d6 d9 (by rw [hxt, hh]; intro x hx; cases hx) (by rw [hn2]; omega) (by rw [hn2]; omega) (by omega) (by omega) hlk (jthrown hR hS hk hP) hS.2.2 (by omega) (by omega)
theorem jr_throwW (hst : l.stackTraces = false) (K : jOK G l M (dep + 6) X) (En : jEnd G M P X) {ik is ic i k : Nat} {E tx : String} {bs : List Int32} (d0 : decode M.2.1 pc = .ok (.new ik, 3)) (d3 : decode M.2.1 (pc + 3) = .ok (.dup, 1)) (d4 : decode M.2.1 (pc + 4) = .ok (.ldc_w is, 3)) (d6 : decode M.2.1 (pc + 7) = .ok (.invokespecial ic, 3)) (d9 : decode M.2.1 (pc + 10) = .ok (.athrow, 1))
    (hT : jTh M.1.cls ik ic E) (hx9 : jtxt[i]? = some (M.1.cls, is, tx, bs)) (hh : M.2.2.2.2 = []) (hk : jexn[k]? = some E) (hrm : (st.map fun v => v.category).sum ≤ 8) (hkc : 1 ≤ kc) (hks : 6 ≤ ks) (hP : P (.inr k) h) : jJ G X h kc ks pc L st := by
  obtain ⟨p, l9, e, R, s, m, args, below, meth, c, mc, ms, Q⟩ := X
  obtain ⟨hx, hb, hml, hr, hown, hts, hlk, hin, hE, hbs, hd1, hd2, hd3, hd4, rfl, hxt⟩ := K
  subst En
  intro H locs cells slots ls hR hS hc1 hc2 hc hl
  obtain ⟨t1, t2, t3, t4, t5⟩ := hT
  have hn2 : jnms.length = 2 := rfl
  exact vx_throwSW (names := jnms) (A := jA G) hx hb hst hown t5 (by decide) (hts _ t1) (hts _ t2) (hE.2.2.2.2.2.2.2.2.2.2 i _ hx9).1 (fun w hw => jtab hts hE (t3 w hw)) t4 hE.2.1 hE.2.2.1 hS hl.1 d0 d3 d4 d6 d9 (by rw [hxt, hh]; intro x hx; cases hx) (by rw [hn2]; omega) (by rw [hn2]; omega) (by omega) (by omega) hlk (jthrown hR hS hk hP) hS.2.2 (by omega) (by omega)
/-- caught by the row x of this method's table; the rows ahead don't take it -/
theorem jr_catch (K : jOK G l M dep X) {k : Nat} {E nm : String} (pre : List ExceptionTableEntry) (x : ExceptionTableEntry) (suf : List ExceptionTableEntry) (hsplit : tableOf M.2.2.2.2 = pre ++ x :: suf) (hpass : ∀ z ∈ pre, covers z pc = false ∨ (z.catchType ≠ 0 ∧ ∃ nm : String, Cond.classLink M.1.cls z.catchType nm ∈ jall ∧ (E, nm) ∈ jncs)) (hx : covers x pc = true) (h0 : x.catchType ≠ 0) (hlink : Cond.classLink M.1.cls x.catchType nm ∈ jall) (hcast : Cond.castable E nm ∈ jnest) (hk : jexn[k]? = some E) (kk : ∀ q : Nat, jJ G X h kc ks x.handlerPc L [.ref q]) : jJx G X h kc ks pc L k := by
  obtain ⟨p, l9, e, R, s, m, args, below, meth, c, mc, ms, Q⟩ := X
  obtain ⟨hx9, hb, hml, hr, hown, hts, hlk, hin, hE, hbs, hd1, hd2, hd3, hd4, rfl, hxt⟩ := K
  intro H locs cells slots ls st q ce E9 hR hS hc1 hc2 hc hl hk9 g6 g7 g8
  cases Option.some.inj (hk.symm.trans hk9)
  refine vx_catch (name := nm) hown pre x suf (hxt.trans hsplit) (fun z hz => ?_) hx h0 (hts _ hlink) (jtab hts hE (Or.inr hcast)) g6 g7 g8 (kk q H locs cells slots ls hR hS hc1 hc2 hc hl)
  rcases hpass z hz with g | ⟨g1, nm9, g2, g3⟩
  · exact Or.inl g
  · exact Or.inr ⟨g1, nm9, hts _ g2, hE.2.2.2.2.2.2.2.2.2.1.2.2 _ g3⟩
end JF
