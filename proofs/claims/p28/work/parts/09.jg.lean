theorem jin_1 {w : Cond} (h : w ∈ tables_1_1) : w ∈ lw_tbl := List.mem_append_right _ (List.mem_append_left _ h)
theorem jw_1 {w : Cond} (j : Nat) (hj : tables_1_1[j]? = some w) (g : goodWord w = true) : w ∈ jall := jall_in (jin_1 (List.mem_of_getElem? hj)) g
theorem jn_1 {w : Cond} (j : Nat) (hj : tables_1_1[j]? = some w) (g : jnk w = true) : w ∈ jnest := List.mem_filter.mpr ⟨jin_1 (List.mem_of_getElem? hj), g⟩
theorem jin_2 {w : Cond} (h : w ∈ tables_1_2) : w ∈ lw_tbl := List.mem_append_right _ (List.mem_append_right _ (List.mem_append_left _ h))
theorem jw_2 {w : Cond} (j : Nat) (hj : tables_1_2[j]? = some w) (g : goodWord w = true) : w ∈ jall := jall_in (jin_2 (List.mem_of_getElem? hj)) g
theorem jn_2 {w : Cond} (j : Nat) (hj : tables_1_2[j]? = some w) (g : jnk w = true) : w ∈ jnest := List.mem_filter.mpr ⟨jin_2 (List.mem_of_getElem? hj), g⟩
theorem jin_3 {w : Cond} (h : w ∈ tables_1_3) : w ∈ lw_tbl := List.mem_append_right _ (List.mem_append_right _ (List.mem_append_right _ (List.mem_append_left _ h)))
theorem jw_3 {w : Cond} (j : Nat) (hj : tables_1_3[j]? = some w) (g : goodWord w = true) : w ∈ jall := jall_in (jin_3 (List.mem_of_getElem? hj)) g
theorem jn_3 {w : Cond} (j : Nat) (hj : tables_1_3[j]? = some w) (g : jnk w = true) : w ∈ jnest := List.mem_filter.mpr ⟨jin_3 (List.mem_of_getElem? hj), g⟩
theorem jin_4 {w : Cond} (h : w ∈ tables_1_4) : w ∈ lw_tbl := List.mem_append_right _ (List.mem_append_right _ (List.mem_append_right _ (List.mem_append_right _ (List.mem_append_left _ h))))
theorem jw_4 {w : Cond} (j : Nat) (hj : tables_1_4[j]? = some w) (g : goodWord w = true) : w ∈ jall := jall_in (jin_4 (List.mem_of_getElem? hj)) g
theorem jn_4 {w : Cond} (j : Nat) (hj : tables_1_4[j]? = some w) (g : jnk w = true) : w ∈ jnest := List.mem_filter.mpr ⟨jin_4 (List.mem_of_getElem? hj), g⟩
theorem jin_5 {w : Cond} (h : w ∈ tables_1_5) : w ∈ lw_tbl := List.mem_append_right _ (List.mem_append_right _ (List.mem_append_right _ (List.mem_append_right _ (List.mem_append_right _ (List.mem_append_left _ h)))))
theorem jw_5 {w : Cond} (j : Nat) (hj : tables_1_5[j]? = some w) (g : goodWord w = true) : w ∈ jall := jall_in (jin_5 (List.mem_of_getElem? hj)) g
theorem jn_5 {w : Cond} (j : Nat) (hj : tables_1_5[j]? = some w) (g : jnk w = true) : w ∈ jnest := List.mem_filter.mpr ⟨jin_5 (List.mem_of_getElem? hj), g⟩
theorem jin_6 {w : Cond} (h : w ∈ tables_1_6) : w ∈ lw_tbl := List.mem_append_right _ (List.mem_append_right _ (List.mem_append_right _ (List.mem_append_right _ (List.mem_append_right _ (List.mem_append_right _ (List.mem_append_left _ h))))))
theorem jw_6 {w : Cond} (j : Nat) (hj : tables_1_6[j]? = some w) (g : goodWord w = true) : w ∈ jall := jall_in (jin_6 (List.mem_of_getElem? hj)) g
theorem jn_6 {w : Cond} (j : Nat) (hj : tables_1_6[j]? = some w) (g : jnk w = true) : w ∈ jnest := List.mem_filter.mpr ⟨jin_6 (List.mem_of_getElem? hj), g⟩
theorem jin_7 {w : Cond} (h : w ∈ tables_1_7) : w ∈ lw_tbl := List.mem_append_right _ (List.mem_append_right _ (List.mem_append_right _ (List.mem_append_right _ (List.mem_append_right _ (List.mem_append_right _ (List.mem_append_right _ (List.mem_append_left _ h)))))))
theorem jw_7 {w : Cond} (j : Nat) (hj : tables_1_7[j]? = some w) (g : goodWord w = true) : w ∈ jall := jall_in (jin_7 (List.mem_of_getElem? hj)) g
theorem jn_7 {w : Cond} (j : Nat) (hj : tables_1_7[j]? = some w) (g : jnk w = true) : w ∈ jnest := List.mem_filter.mpr ⟨jin_7 (List.mem_of_getElem? hj), g⟩
theorem jin_8 {w : Cond} (h : w ∈ tables_1_8) : w ∈ lw_tbl := List.mem_append_right _ (List.mem_append_right _ (List.mem_append_right _ (List.mem_append_right _ (List.mem_append_right _ (List.mem_append_right _ (List.mem_append_right _ (List.mem_append_right _ (List.mem_append_left _ h))))))))
theorem jw_8 {w : Cond} (j : Nat) (hj : tables_1_8[j]? = some w) (g : goodWord w = true) : w ∈ jall := jall_in (jin_8 (List.mem_of_getElem? hj)) g
theorem jn_8 {w : Cond} (j : Nat) (hj : tables_1_8[j]? = some w) (g : jnk w = true) : w ∈ jnest := List.mem_filter.mpr ⟨jin_8 (List.mem_of_getElem? hj), g⟩
theorem jin_9 {w : Cond} (h : w ∈ tables_1_9) : w ∈ lw_tbl := List.mem_append_right _ (List.mem_append_right _ (List.mem_append_right _ (List.mem_append_right _ (List.mem_append_right _ (List.mem_append_right _ (List.mem_append_right _ (List.mem_append_right _ (List.mem_append_right _ (h)))))))))
theorem jw_9 {w : Cond} (j : Nat) (hj : tables_1_9[j]? = some w) (g : goodWord w = true) : w ∈ jall := jall_in (jin_9 (List.mem_of_getElem? hj)) g
theorem jn_9 {w : Cond} (j : Nat) (hj : tables_1_9[j]? = some w) (g : jnk w = true) : w ∈ jnest := List.mem_filter.mpr ⟨jin_9 (List.mem_of_getElem? hj), g⟩
theorem js_1 {q : MethodName × Nat} (j : Nat) (hj : lw_privs_1[j]? = some q) : Cond.selects q.1.cls q.1 q.1 ∈ jall := by
  have h := List.mem_of_getElem? hj
  have h2 : q ∈ lw_privs := List.mem_append_left _ h
  exact jall_in (List.mem_append_left _ (List.mem_map.mpr ⟨q, h2, rfl⟩)) rfl
theorem js_2 {q : MethodName × Nat} (j : Nat) (hj : lw_privs_2[j]? = some q) : Cond.selects q.1.cls q.1 q.1 ∈ jall := by
  have h := List.mem_of_getElem? hj
  have h2 : q ∈ lw_privs := List.mem_append_right _ (List.mem_append_left _ h)
  exact jall_in (List.mem_append_left _ (List.mem_map.mpr ⟨q, h2, rfl⟩)) rfl
theorem js_3 {q : MethodName × Nat} (j : Nat) (hj : lw_privs_3[j]? = some q) : Cond.selects q.1.cls q.1 q.1 ∈ jall := by
  have h := List.mem_of_getElem? hj
  have h2 : q ∈ lw_privs := List.mem_append_right _ (List.mem_append_right _ (List.mem_append_left _ h))
  exact jall_in (List.mem_append_left _ (List.mem_map.mpr ⟨q, h2, rfl⟩)) rfl
theorem js_4 {q : MethodName × Nat} (j : Nat) (hj : lw_privs_4[j]? = some q) : Cond.selects q.1.cls q.1 q.1 ∈ jall := by
  have h := List.mem_of_getElem? hj
  have h2 : q ∈ lw_privs := List.mem_append_right _ (List.mem_append_right _ (List.mem_append_right _ (List.mem_append_left _ h)))
  exact jall_in (List.mem_append_left _ (List.mem_map.mpr ⟨q, h2, rfl⟩)) rfl
theorem js_5 {q : MethodName × Nat} (j : Nat) (hj : lw_privs_5[j]? = some q) : Cond.selects q.1.cls q.1 q.1 ∈ jall := by
  have h := List.mem_of_getElem? hj
  have h2 : q ∈ lw_privs := List.mem_append_right _ (List.mem_append_right _ (List.mem_append_right _ (List.mem_append_right _ (List.mem_append_left _ h))))
  exact jall_in (List.mem_append_left _ (List.mem_map.mpr ⟨q, h2, rfl⟩)) rfl
theorem js_6 {q : MethodName × Nat} (j : Nat) (hj : lw_privs_6[j]? = some q) : Cond.selects q.1.cls q.1 q.1 ∈ jall := by
  have h := List.mem_of_getElem? hj
  have h2 : q ∈ lw_privs := List.mem_append_right _ (List.mem_append_right _ (List.mem_append_right _ (List.mem_append_right _ (List.mem_append_right _ (List.mem_append_left _ h)))))
  exact jall_in (List.mem_append_left _ (List.mem_map.mpr ⟨q, h2, rfl⟩)) rfl
theorem js_7 {q : MethodName × Nat} (j : Nat) (hj : lw_privs_7[j]? = some q) : Cond.selects q.1.cls q.1 q.1 ∈ jall := by
  have h := List.mem_of_getElem? hj
  have h2 : q ∈ lw_privs := List.mem_append_right _ (List.mem_append_right _ (List.mem_append_right _ (List.mem_append_right _ (List.mem_append_right _ (List.mem_append_right _ (h))))))
  exact jall_in (List.mem_append_left _ (List.mem_map.mpr ⟨q, h2, rfl⟩)) rfl
def jtabs : Nat → List Cond
  | 1 => tables_1_1
  | 2 => tables_1_2
  | 3 => tables_1_3
  | 4 => tables_1_4
  | 5 => tables_1_5
  | 6 => tables_1_6
  | 7 => tables_1_7
  | 8 => tables_1_8
  | _ => tables_1_9
def jtw (q : Nat × Nat) : Option Cond := (jtabs q.1)[q.2]?
theorem jtw_in {js : List (Nat × Nat)} : ∀ w ∈ js.filterMap jtw, w ∈ lw_tbl := by
  intro w hw
  obtain ⟨q, -, hq⟩ := List.mem_filterMap.mp hw
  have h := List.mem_of_getElem? hq
  unfold jtabs at h
  split at h
  · exact jin_1 h
  · exact jin_2 h
  · exact jin_3 h
  · exact jin_4 h
  · exact jin_5 h
  · exact jin_6 h
  · exact jin_7 h
  · exact jin_8 h
  · exact jin_9 h
/-! what the printed functions and proofs stand on -/
theorem jcats {av : List Value} (h : av.all (fun v => v.category == 1) = true) : ∀ v ∈ av, v.category = 1 := fun v hv => by
  have := List.all_eq_true.mp h v hv
  simpa using this
theorem jno {α : Type} {P : Prop} {r : α} (h : (none : Option α) = some r) : P := by cases h
def jPR (h : jH) (v : Int32) : jR → jH → Prop := fun r h1 => r = .inl v ∧ h1 = h
def jPW (q : Int32 × jH) : jR → jH → Prop := fun r h1 => r = .inl q.1 ∧ h1 = q.2
def jPV (q : jH) : jR → jH → Prop := fun r h1 => r = .inl 0 ∧ h1 = q
def jPX (q : jR × jH) : jR → jH → Prop := fun r h1 => r = q.1 ∧ h1 = q.2
theorem jthen_r {q : jR × jH} {k : Int32 → jH → Option (jR × jH)} {e : Nat} (h : q.1 = .inr e) : jthen q k = some (.inr e, q.2) := by unfold jthen; rw [h]
theorem jthen_l {q : jR × jH} {k : Int32 → jH → Option (jR × jH)} {r : Int32} (h : q.1 = .inl r) : jthen q k = k r q.2 := by unfold jthen; rw [h]
theorem jinc {x a b : Int32} (h : a = b) : x + a = x + b := by rw [h]
def jushr (x y : Int32) : Int32 := (x.toUInt32 >>> (y.toUInt32 &&& Int32.toUInt32 31)).toInt32
def jnw (h : jH) (e : jE) : Option jH := some (jnew h e)
theorem jC_le {G : jG} {l : Launch} {M : jM} {D k mc ms : Nat} {av : List Value} {h : jH} {P : jR → jH → Prop} (hk : k ≤ D) (f : ∀ d, jC G l M (d + k) mc ms av h P) : jC G l M D mc ms av h P := by
  have := f (D - k)
  rwa [Nat.sub_add_cancel hk] at this
theorem jTh_of {own E : String} {ik ic : Nat} {js : List (Nat × Nat)} (h1 : vx_atS own ic E jnms = js.filterMap jtw) (h2 : Cond.classLink own ik E ∈ jall) (h3 : Cond.initialized E ∈ jall) (h4 : (vx_atS own ic E jnms).all (fun w => goodWord w || jnk w) = true ∧ (Cond.classLink own ik E :: Cond.initialized E :: vx_atS own ic E jnms).all vx_ot = true) (h5 : Bundle.fit E = true) : jTh own ik ic E := by
  refine ⟨h2, h3, fun w hw => ?_, List.all_eq_true.mp h4.2, h5⟩
  have h := List.all_eq_true.mp h4.1 w hw
  rw [h1] at hw
  rcases Bool.or_eq_true_iff.mp h with g | g
  · exact Or.inl (jall_in (jtw_in w hw) g)
  · exact Or.inr (List.mem_filter.mpr ⟨jtw_in w hw, g⟩)
/-- NoSuchElementException's own constructor names Throwable's chain by another entry -/
def jnsi : ByteArray := ⟨#[0x2a, 0x2b, 0xb7, 0x00, 0x0d, 0xb1]⟩
def jatN0 (own : String) (ic : Nat) (E : String) : List Cond :=
  Bundle.throwableAtoms ++ Bundle.throwableSAtoms ++ (Bundle.passSAtoms E "java/lang/RuntimeException" 13 jnsi ++ Bundle.chainSAtoms "java/lang/RuntimeException" ["java/lang/Exception"]) ++
  [.methodLink own ic (Bundle.initS E), .instantiable E 6, .castable E E, .selects E Bundle.tFill0 Bundle.tFill0, .selects E Bundle.tFill Bundle.tFill,
   .lays E Bundle.tN "cause" "Ljava/lang/Throwable;", .lays E Bundle.tN "stackTrace" Bundle.steD, .lays E Bundle.tN "suppressedExceptions" Bundle.listD, .lays E Bundle.tN "detailMessage" "Ljava/lang/String;",
   .isRef (.static Bundle.tN "UNASSIGNED_STACK" Bundle.steD), .isRef (.static Bundle.tN "SUPPRESSED_SENTINEL" Bundle.listD),
   .fieldLink Bundle.tN 198 Bundle.tN "backtrace" "Ljava/lang/Object;", .lays Bundle.tN Bundle.tN "backtrace" "Ljava/lang/Object;", .lays E Bundle.tN "backtrace" "Ljava/lang/Object;"]
def jatN (own : String) (ic : Nat) (E : String) : List Cond := (jatN0 own ic E).filter vx_no
def jThN (own : String) (ik ic : Nat) (E : String) : Prop := Cond.classLink own ik E ∈ jall ∧ Cond.initialized E ∈ jall ∧ (∀ w ∈ jatN own ic E, w ∈ jall ∨ w ∈ jnest) ∧ (∀ w ∈ Cond.classLink own ik E :: Cond.initialized E :: jatN own ic E, vx_ot w = true) ∧ Bundle.fit E = true
theorem jThN_of {own E : String} {ik ic : Nat} {js : List (Nat × Nat)} (h1 : jatN own ic E = js.filterMap jtw) (h2 : Cond.classLink own ik E ∈ jall) (h3 : Cond.initialized E ∈ jall) (h4 : (jatN own ic E).all (fun w => goodWord w || jnk w) = true ∧ (Cond.classLink own ik E :: Cond.initialized E :: jatN own ic E).all vx_ot = true) (h5 : Bundle.fit E = true) : jThN own ik ic E := by
  refine ⟨h2, h3, fun w hw => ?_, List.all_eq_true.mp h4.2, h5⟩
  have h := List.all_eq_true.mp h4.1 w hw
  rw [h1] at hw
  rcases Bool.or_eq_true_iff.mp h with g | g
  · exact Or.inl (jall_in (jtw_in w hw) g)
  · exact Or.inr (List.mem_filter.mpr ⟨jtw_in w hw, g⟩)
/-! texts: length() and charAt -/
def jtb (t : Nat) : List Int32 := (jtxt.getD t ("", 0, "", [])).2.2.2
def jtl (t : Nat) : Option Int32 := if t < 36 then some (nI (jtb t).length) else none
def jtc (t : Nat) (i : Int32) : Option Int32 := if i < 0 ∨ (jtb t).length ≤ i.toNatClampNeg then none else some ((jtb t).getD i.toNatClampNeg 0)
section JG
variable {G : jG} {l : Launch} {M : jM} {dep : Nat} {X : jX} {h h1 : jH} {kc ks pc : Nat} {L : List (Option Value)} {st : List Value}
theorem jr_newE (K : jOK G l M dep X) {index ci N : Nat} {fs : List Value} (hd : decode M.2.1 pc = .ok (.new index, 3)) (hf : jFn M.1.cls index ci N fs) (e : jnw h (.inl (ci, fs)) = some h1) (kk : jJ G X h1 kc ks (pc + 3) L (.ref h.1 :: st)) : jJ G X h (kc + 1) (ks + N) pc L st := by
  cases e
  exact jr_new K hd hf kk
theorem jr_newIE (K : jOK G l M dep X) {N : Nat} {n : Int32} (hd : decode M.2.1 pc = .ok (.newarray .int, 2)) (hw : Cond.arrayClass .int ∈ jall) (hn : ¬ n < 0) (hN : n.toNatClampNeg = N) (hN2 : N * 4 ≤ 536870912) (e : jnw h (.inr (.inl (0, N, fun _ => 0))) = some h1) (kk : jJ G X h1 kc ks (pc + 2) L (.ref h.1 :: st)) : jJ G X h (kc + 1) (ks + N) pc L (.int n :: st) := by
  cases e
  exact jr_newI K hd hw hn hN hN2 kk
theorem jr_newBE (K : jOK G l M dep X) {N : Nat} {n : Int32} (hd : decode M.2.1 pc = .ok (.newarray .byte, 2)) (hw : Cond.arrayClass .byte ∈ jall) (hn : ¬ n < 0) (hN : n.toNatClampNeg = N) (hN2 : N * 1 ≤ 536870912) (e : jnw h (.inr (.inl (1, N, fun _ => 0))) = some h1) (kk : jJ G X h1 kc ks (pc + 2) L (.ref h.1 :: st)) : jJ G X h (kc + 1) (ks + N) pc L (.int n :: st) := by
  cases e
  exact jr_newB K hd hw hn hN hN2 kk
theorem jr_newZE (K : jOK G l M dep X) {N : Nat} {n : Int32} (hd : decode M.2.1 pc = .ok (.newarray .boolean, 2)) (hw : Cond.arrayClass .boolean ∈ jall) (hn : ¬ n < 0) (hN : n.toNatClampNeg = N) (hN2 : N * 1 ≤ 536870912) (e : jnw h (.inr (.inl (2, N, fun _ => 0))) = some h1) (kk : jJ G X h1 kc ks (pc + 2) L (.ref h.1 :: st)) : jJ G X h (kc + 1) (ks + N) pc L (.int n :: st) := by
  cases e
  exact jr_newZ K hd hw hn hN hN2 kk
theorem jr_newQE (K : jOK G l M dep X) {N index : Nat} {n : Int32} (hd : decode M.2.1 pc = .ok (.anewarray index, 3)) (hw : Cond.classLink M.1.cls index "RodRings$Rod" ∈ jall) (hn : ¬ n < 0) (hN : n.toNatClampNeg = N) (hN2 : N * 4 ≤ 536870912) (e : jnw h (.inr (.inr (.inl (N, fun _ => none)))) = some h1) (kk : jJ G X h1 kc ks (pc + 3) L (.ref h.1 :: st)) : jJ G X h (kc + 1) (ks + N) pc L (.int n :: st) := by
  cases e
  exact jr_newQ K hd hw hn hN hN2 kk
end JG
