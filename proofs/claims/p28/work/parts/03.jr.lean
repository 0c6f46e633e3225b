/-! PURE HEAPS: what lies in the cells, by address: an object (number of its class in vwCl, its fields), an array of ints, bytes or booleans (kind 0, 1, 2), of Rods, of longs -/
abbrev jE : Type := (Nat × List Value) ⊕ (Nat × Nat × (Nat → Int32)) ⊕ (Nat × (Nat → Option Nat)) ⊕ (Nat × (Nat → Int64))
/-- how many cells there are, and what those hold that count -/
abbrev jH : Type := Nat × (Nat → Option jE)
/-- class numbers and slots, array classes, the first address of what was made since the law began, addresses of texts and static rows -/
abbrev jG : Type := va_G × (Nat → ClassId) × Nat × (Nat → Nat)
def jtr (ca : Nat → ClassId) : jE → va_E
  | .inl o => .inr o
  | .inr (.inl a) => .inl (ca a.1, a.2.1, .inl a.2.2)
  | .inr (.inr (.inl a)) => .inl (ca 4, a.1, .inr (.inr (.inr (.inr a.2))))
  | .inr (.inr (.inr a)) => .inl (ca 3, a.1, .inr (.inl a.2))
def jup (h : jH) (a : Nat) (e : jE) : jH := (h.1, fun q => if q = a then some e else h.2 q)
def jnew (h : jH) (e : jE) : jH := (h.1 + 1, fun q => if q = h.1 then some e else h.2 q)
abbrev jA (G : jG) : Nat → Prop := fun q => G.2.2.1 ≤ q
def jRep (G : jG) (h : jH) (H : Heap) : Prop := H.size = h.1 ∧ ∀ a e, h.2 a = some e → G.2.2.1 ≤ a ∧ va_at G.1 vwCl (a, jtr G.2.1 e) H
def jtys (G : jG) : List (ClassId × FieldType) := [(G.2.1 0, .int), (G.2.1 1, .byte), (G.2.1 2, .boolean), (G.2.1 3, .long), (G.2.1 4, .object "RodRings$Rod")]
theorem jRep.put {G : jG} {h : jH} {H H1 : Heap} {a : Nat} {e0 e : jE} (hR : jRep G h H) (h0 : h.2 a = some e0) (he : va_at G.1 vwCl (a, jtr G.2.1 e) H1) (z : H1.size = H.size) (oq : ∀ q : Nat, q ≠ a → H1[q]? = H[q]?) : jRep G (jup h a e) H1 := by
  refine ⟨z.trans hR.1, fun q x hq => ?_⟩
  show _ ∧ _
  by_cases hqa : q = a
  · subst hqa
    have : some e = some x := by rw [← hq]; simp [jup]
    cases this
    exact ⟨(hR.2 q e0 h0).1, he⟩
  · have hq' : h.2 q = some x := by rw [← hq]; simp [jup, hqa]
    exact ⟨(hR.2 q x hq').1, (hR.2 q x hq').2.kept (oq q hqa)⟩
theorem jRep.mk {G : jG} {h : jH} {H H1 : Heap} {e : jE} (hR : jRep G h H) (hb : G.2.2.1 ≤ H.size) (he : va_at G.1 vwCl (H.size, jtr G.2.1 e) H1) (z : H1.size = H.size + 1) (oq : ∀ q : Nat, q < H.size → H1[q]? = H[q]?) : jRep G (jnew h e) H1 := by
  obtain ⟨hz, hR⟩ := hR
  refine ⟨by show H1.size = h.1 + 1; omega, fun q x hq => ?_⟩
  by_cases hqa : q = h.1
  · subst hqa
    have : some e = some x := by rw [← hq]; simp [jnew]
    cases this
    rw [← hz]
    exact ⟨hb, he⟩
  · have hq' : h.2 q = some x := by rw [← hq]; simp [jnew, hqa]
    exact ⟨(hR q x hq').1, (hR q x hq').2.kept (oq q (hR q x hq').2.lt)⟩
/-! the words that every method has: those of the tables that stay -/
def jall : List Cond := lw_tbl.filter goodWord
theorem jall_of {w : Cond} {i : Nat} (h : lw_tbl[i]? = some w) (g : goodWord w = true) : w ∈ jall := List.mem_filter.mpr ⟨List.mem_of_getElem? h, g⟩
theorem jall_in {w : Cond} (h : w ∈ lw_tbl) (g : goodWord w = true) : w ∈ jall := List.mem_filter.mpr ⟨h, g⟩
theorem jall_good {ws : List Cond} (h : ∀ w ∈ ws, w ∈ jall) : GoodIn jall ws := fun w hw => ⟨h w hw, good_of_word (List.mem_filter.mp (h w hw)).2⟩
/-- a method: its name, bytes, locals, what it returns, its handlers -/
abbrev jM : Type := MethodName × ByteArray × Nat × Option FieldType × List (Nat × Nat × Nat × Nat)
def jcode (M : jM) : Cond := match M.2.2.2.2 with
  | [] => .code M.1 M.2.1 M.2.2.1 M.2.2.2.1
  | hh => .codeWith M.1 M.2.1 M.2.2.1 M.2.2.2.1 hh
def jws (M : jM) : List Cond := jcode M :: jall
def jshf : List Int32 := [18, 15, 12, 10, 5, 0]
def jmsk : List Int32 := [16383, 7, 7, 3, 31, 31]
/-- the texts: class, entry, text, and of those that are read the bytes -/
def jtxt : List (String × Nat × String × List Int32) := [("RodRings$Tape", 53, "ring place gap fade long hour day wood thick lit hooked not and or if catch fall at cloth caught chair join wide ", [114, 105, 110, 103, 32, 112, 108, 97, 99, 101, 32, 103, 97, 112, 32, 102, 97, 100, 101, 32, 108, 111, 110, 103, 32, 104, 111, 117, 114, 32, 100, 97, 121, 32, 119, 111, 111, 100, 32, 116, 104, 105, 99, 107, 32, 108, 105, 116, 32, 104, 111, 111, 107, 101, 100, 32, 110, 111, 116, 32, 97, 110, 100, 32, 111, 114, 32, 105, 102, 32, 99, 97, 116, 99, 104, 32, 102, 97, 108, 108, 32, 97, 116, 32, 99, 108, 111, 116, 104, 32, 99, 97, 117, 103, 104, 116, 32, 99, 104, 97, 105, 114, 32, 106, 111, 105, 110, 32, 119, 105, 100, 101, 32]), ("RodRings", 102, "the text is wrong", [116, 104, 101, 32, 116, 101, 120, 116, 32, 105, 115, 32, 119, 114, 111, 110, 103]), ("RodRings", 112, "there are as many texts as can be", [116, 104, 101, 114, 101, 32, 97, 114, 101, 32, 97, 115, 32, 109, 97, 110, 121, 32, 116, 101, 120, 116, 115, 32, 97, 115, 32, 99, 97, 110, 32, 98, 101]), ("RodRings", 388, "there is no such ring", [116, 104, 101, 114, 101, 32, 105, 115, 32, 110, 111, 32, 115, 117, 99, 104, 32, 114, 105, 110, 103]), ("RodRings", 177, "a ring has nothing of that number", [97, 32, 114, 105, 110, 103, 32, 104, 97, 115, 32, 110, 111, 116, 104, 105, 110, 103, 32, 111, 102, 32, 116, 104, 97, 116, 32, 110, 117, 109, 98, 101, 114]), ("RodRings", 392, "the number is out of its bounds", [116, 104, 101, 32, 110, 117, 109, 98, 101, 114, 32, 105, 115, 32, 111, 117, 116, 32, 111, 102, 32, 105, 116, 115, 32, 98, 111, 117, 110, 100, 115]), ("RodRings", 203, "the ring is not caught", [116, 104, 101, 32, 114, 105, 110, 103, 32, 105, 115, 32, 110, 111, 116, 32, 99, 97, 117, 103, 104, 116]), ("RodRings", 213, "the ring is the last one, or caught", [116, 104, 101, 32, 114, 105, 110, 103, 32, 105, 115, 32, 116, 104, 101, 32, 108, 97, 115, 116, 32, 111, 110, 101, 44, 32, 111, 114, 32, 99, 97, 117, 103, 104, 116]), ("RodRings", 390, "there is no such place", [116, 104, 101, 114, 101, 32, 105, 115, 32, 110, 111, 32, 115, 117, 99, 104, 32, 112, 108, 97, 99, 101]), ("RodRings", 224, "no ring can be sewn on there", [110, 111, 32, 114, 105, 110, 103, 32, 99, 97, 110, 32, 98, 101, 32, 115, 101, 119, 110, 32, 111, 110, 32, 116, 104, 101, 114, 101]), ("RodRings", 401, "the tape holds no such rows", [116, 104, 101, 32, 116, 97, 112, 101, 32, 104, 111, 108, 100, 115, 32, 110, 111, 32, 115, 117, 99, 104, 32, 114, 111, 119, 115]), ("RodRings", 292, "there is no such hour", [116, 104, 101, 114, 101, 32, 105, 115, 32, 110, 111, 32, 115, 117, 99, 104, 32, 104, 111, 117, 114]), ("RodRings", 354, "a row has nothing of that number", [97, 32, 114, 111, 119, 32, 104, 97, 115, 32, 110, 111, 116, 104, 105, 110, 103, 32, 111, 102, 32, 116, 104, 97, 116, 32, 110, 117, 109, 98, 101, 114]), ("RodRingsModel", 152, "ring", [114, 105, 110, 103]), ("RodRingsModel", 124, "at", [97, 116]), ("RodRingsModel", 135, "cloth", [99, 108, 111, 116, 104]), ("RodRingsModel", 137, "thick", [116, 104, 105, 99, 107]), ("RodRingsModel", 142, "wood", [119, 111, 111, 100]), ("RodRingsModel", 144, "fade", [102, 97, 100, 101]), ("RodRingsModel", 146, "long", [108, 111, 110, 103]), ("RodRingsModel", 158, "caught", [99, 97, 117, 103, 104, 116]), ("RodRingsModel", 163, "chair", [99, 104, 97, 105, 114]), ("RodRingsModel", 168, "join", [106, 111, 105, 110]), ("RodRingsModel", 173, "wide", [119, 105, 100, 101]), ("RodRingsModel", 175, "hour", [104, 111, 117, 114]), ("RodRingsModel", 177, "day", [100, 97, 121]), ("RodRingsModel", 227, "catch", [99, 97, 116, 99, 104]), ("RodRingsModel", 229, "fall", [102, 97, 108, 108]), ("RodRingsModel", 231, "if", [105, 102]), ("RodRingsModel", 209, "not", [110, 111, 116]), ("RodRingsModel", 199, "lit", [108, 105, 116]), ("RodRingsModel", 201, "hooked", [104, 111, 111, 107, 101, 100]), ("RodRingsModel", 182, "place", [112, 108, 97, 99, 101]), ("RodRingsModel", 184, "gap", [103, 97, 112]), ("RodRingsModel", 220, "and", [97, 110, 100]), ("RodRingsModel", 225, "or", [111, 114])]
/-- words of the tables that stay, but not by the rule of the good ones -/
def jnk : Cond → Bool
  | .methodLinkNest .. => true
  | .declares _ => true
  | .castable .. => true
  | _ => false
def jnest : List Cond := lw_tbl.filter jnk
theorem jnest_of {w : Cond} {i : Nat} (h : lw_tbl[i]? = some w) (g : jnk w = true) : w ∈ jnest := List.mem_filter.mpr ⟨List.mem_of_getElem? h, g⟩
def jncs : List (String × String) := (["java/lang/IllegalArgumentException", "java/lang/IllegalStateException", "java/lang/IndexOutOfBoundsException", "java/lang/UnsupportedOperationException", "java/util/NoSuchElementException"].flatMap fun a => ["java/lang/IllegalArgumentException", "java/lang/IllegalStateException", "java/lang/IndexOutOfBoundsException", "java/lang/UnsupportedOperationException", "java/util/NoSuchElementException"].map fun b => (a, b)).filter fun x => x.1 != x.2
theorem jnest_warm {s U : State} {w : Cond} (hw : w ∈ jnest) (hW : s.WarmedH U.vm) (h : va_Nw w s) : va_Nw w U := by
  have hk := (List.mem_filter.mp hw).2
  cases w <;> first | (simp [jnk] at hk; done) | exact va_Nw.warmM hW h | exact va_Nw.warmD hW h | exact va_Nw.warmC hW h
theorem jnest_on {w : Cond} (hw : w ∈ jnest) : w.onTables = true := by
  have hk := (List.mem_filter.mp hw).2
  cases w <;> first | (simp [jnk] at hk; done) | rfl
/-- what the law's start says of static rows and texts, at a state and a heap -/
def jSt (G : jG) (U : State) (H : Heap) : Prop :=
  vx_Zq Bundle.tN "UNASSIGNED_STACK" Bundle.steD (jA G) U H ∧ vx_Zq Bundle.tN "SUPPRESSED_SENTINEL" Bundle.listD (jA G) U H ∧
  va_Z "RodRings$Log" "SHIFTS" "[I" (.ref (G.2.2.2 0)) (jA G) U H ∧ va_T .int (G.2.2.2 0) 6 (fun j => .int (jshf.getD j 0)) (jA G) U H ∧
  va_Z "RodRings$Log" "MASKS" "[I" (.ref (G.2.2.2 1)) (jA G) U H ∧ va_T .int (G.2.2.2 1) 6 (fun j => .int (jmsk.getD j 0)) (jA G) U H ∧
  va_Z "java/lang/String" "COMPACT_STRINGS" "Z" (.int 1) (jA G) U H ∧ va_Zq "jdk/internal/util/Preconditions" "SIOOBE_FORMATTER" "Ljava/util/function/BiFunction;" (jA G) U H ∧
  (va_AO "RodRings$Rod" U ∧ (∀ w ∈ jnest, va_Nw w U) ∧ ∀ x ∈ jncs, va_Nc x.1 x.2 U) ∧
  ∀ (i : Nat) (x : String × Nat × String × List Int32), jtxt[i]? = some x → vk_R x.1 x.2.1 x.2.2.1 (G.2.2.2 (10 + 2 * i)) U ∧ vk_S 1 [x.2.2.2.length] [x.2.2.2] (fun _ => G.2.2.2 (10 + 2 * i)) (fun _ => G.2.2.2 (11 + 2 * i)) (jA G) U H
def jEF (G : jG) (U : State) (H : Heap) : Prop := va_K G.1 vwCl (jtys G) U ∧ jSt G U H
theorem jSt.kept {G : jG} {U : State} {H H1 : Heap} (h : jSt G U H) (hq : ∀ a : Nat, a < H.size → ¬ jA G a → H1[a]? = H[a]?) : jSt G U H1 := by
  obtain ⟨h1, h2, h3, h4, h5, h6, h7, h8, h0, h9⟩ := h
  exact ⟨h1.kept hq, h2.kept hq, h3.kept hq, h4.kept hq, h5.kept hq, h6.kept hq, h7.kept hq, h8.kept hq, h0, fun i x hx => ⟨(h9 i x hx).1, (h9 i x hx).2.kept hq⟩⟩
theorem jSt.warm {G : jG} {s U : State} {H : Heap} (hW : s.WarmedH U.vm) (h : jSt G s H) : jSt G U H := by
  obtain ⟨h1, h2, h3, h4, h5, h6, h7, h8, ⟨h01, h02, h03⟩, h9⟩ := h
  have hv := hW.alike
  exact ⟨vx_Zq.moved hv h1, vx_Zq.moved hv h2, va_Z.moved hv h3, va_T.moved hv h4, va_Z.moved hv h5, va_T.moved hv h6, va_Z.moved hv h7, va_Zq.moved hv h8, ⟨h01.moved hv, fun w hw => jnest_warm hw hW (h02 w hw), fun x hx => (h03 x hx).moved hv⟩, fun i x hx => ⟨(h9 i x hx).1.warm hW, vk_S.moved hv (h9 i x hx).2⟩⟩
theorem jSt.same {G : jG} {s U : State} {H : Heap} (hv : U.vm = s.vm) (h : jSt G s H) : jSt G U H := by
  obtain ⟨h1, h2, h3, h4, h5, h6, h7, h8, ⟨h01, h02, h03⟩, h9⟩ := h
  have ha : s.vm.Alike U.vm := by rw [hv]; exact Vm.Alike.refl _
  exact ⟨vx_Zq.moved ha h1, vx_Zq.moved ha h2, va_Z.moved ha h3, va_T.moved ha h4, va_Z.moved ha h5, va_T.moved ha h6, va_Z.moved ha h7, va_Zq.moved ha h8, ⟨h01.moved ha, fun w hw => va_Nw.same (jnest_on hw) hv.symm (h02 w hw), fun x hx => (h03 x hx).moved ha⟩, fun i x hx => ⟨(h9 i x hx).1.same hv, vk_S.moved ha (h9 i x hx).2⟩⟩
theorem jEF.same {G : jG} {s U : State} {H : Heap} (hv : U.vm = s.vm) (h : jEF G s H) : jEF G U H := ⟨va_K.moved (by rw [hv]; exact Vm.Alike.refl _) h.1, h.2.same hv⟩
theorem jEF.warm {G : jG} {s U : State} {H : Heap} (hW : s.WarmedH U.vm) (h : jEF G s H) : jEF G U H := ⟨va_K.moved hW.alike h.1, h.2.warm hW⟩
theorem jEF.kept {G : jG} {U : State} {H H1 : Heap} (h : jEF G U H) (hq : ∀ a : Nat, a < H.size → ¬ jA G a → H1[a]? = H[a]?) : jEF G U H1 := ⟨h.1, h.2.kept hq⟩
/-! ends and contracts: an end is .inl r (returned r; 0 of void) or .inr k (threw the k-th class of jexn) -/
abbrev jR : Type := Int32 ⊕ Nat
def jexn : List String := ["java/lang/IllegalArgumentException", "java/lang/IllegalStateException", "java/lang/IndexOutOfBoundsException", "java/lang/UnsupportedOperationException", "java/util/NoSuchElementException"]
def jval (ret : Option FieldType) (r : Int32) : Option Value := match ret with
  | none => none
  | some _ => some (.int r)
def jQc (G : jG) (ret : Option FieldType) (P : jR → jH → Prop) : Array Value → State → Outcome → State → Prop := fun _ st o t => (∃ (r : Int32) (h1 : jH), o = .returned (jval ret r) ∧ P (.inl r) h1 ∧ jRep G h1 t.heap) ∧ va_F (jA G) st t
def jXC (G : jG) (P : jR → jH → Prop) : String → State → State → Prop := fun E st t => (∃ (k z : Nat) (h1 : jH), jexn[k]? = some E ∧ h1.1 ≤ z ∧ P (.inr k) h1 ∧ jRep G (z, h1.2) t.heap) ∧ va_F (jA G) st t
abbrev jrm (dep mc ms : Nat) : Room := { frames := dep, cells := mc, slots := ms, locals := 80 * dep }
def jC (G : jG) (l : Launch) (M : jM) (dep mc ms : Nat) (av : List Value) (h : jH) (P : jR → jH → Prop) : Prop :=
  vx_Met l M.1 (jws M) (jrm dep mc ms) (va_Pc av (fun U => jRep G h U.heap ∧ jEF G U U.heap ∧ G.2.2.1 ≤ U.heap.size)) (jQc G M.2.2.2.1 P) (jXC G P) mc ms (jA G)
/-! the judgement -/
abbrev jX : Type := Program × Launch × Env × Room × State × MethodId × Array Value × List Frame × Method × Code × Nat × Nat × (State → Prop)
def jlv : Nat → List (Option Value) → List (Nat × Value)
  | _, [] => []
  | i, none :: l => jlv (i + 1) l
  | i, some v :: l => (i, v) :: jlv (i + 1) l
def jcat (L : List (Option Value)) : Prop := ∀ (i : Nat) (v : Value), L[i]? = some (some v) → v.category = 1
theorem jlv_mem : ∀ (L : List (Option Value)) (k : Nat) (q : Nat × Value), q ∈ jlv k L ↔ ∃ i, q.1 = k + i ∧ L[i]? = some (some q.2) := by
  intro L
  induction L with
  | nil => intro k q; simp [jlv]
  | cons x l ih =>
    intro k q
    cases x with
    | none =>
      rw [show jlv k (none :: l) = jlv (k + 1) l from rfl, ih]
      constructor
      · rintro ⟨i, h1, h2⟩
        exact ⟨i + 1, by omega, by simpa using h2⟩
      · rintro ⟨i, h1, h2⟩
        cases i with
        | zero => simp at h2
        | succ i => exact ⟨i, by omega, by simpa using h2⟩
    | some v =>
      rw [show jlv k (some v :: l) = (k, v) :: jlv (k + 1) l from rfl, List.mem_cons, ih]
      constructor
      · rintro (rfl | ⟨i, h1, h2⟩)
        · exact ⟨0, rfl, rfl⟩
        · exact ⟨i + 1, by omega, by simpa using h2⟩
      · rintro ⟨i, h1, h2⟩
        cases i with
        | zero =>
          left
          have : v = q.2 := by simpa using h2
          rw [this]
          exact Prod.ext (by omega) rfl
        | succ i => exact Or.inr ⟨i, by omega, by simpa using h2⟩
theorem jlv_get {ls : Array Slot} {nL i : Nat} {L : List (Option Value)} {v : Value} (h : lv_has ls nL (jlv 0 L)) (hi : L[i]? = some (some v)) : ls[i]? = some (.val v) := h.2.2 (i, v) ((jlv_mem L 0 (i, v)).mpr ⟨i, by omega, hi⟩)
theorem jlv_sub {ls : Array Slot} {nL : Nat} {l l' : List (Nat × Value)} (h : lv_has ls nL l) (hs : ∀ q ∈ l', q ∈ l) : lv_has ls nL l' := ⟨h.1, h.2.1, fun q hq => h.2.2 q (hs q hq)⟩
theorem jlv_set {ls : Array Slot} {nL i : Nat} {L : List (Option Value)} {v : Value} (hc : jcat L) (h : lv_has ls nL ((i, v) :: (jlv 0 L).filter (fun q => !(q.1 == i) && !(q.1 + 1 == i && q.2.category == 2)))) : lv_has ls nL (jlv 0 (L.set i (some v))) := by
  refine jlv_sub h fun q hq => ?_
  obtain ⟨j, h1, h2⟩ := (jlv_mem _ _ _).mp hq
  rw [Nat.zero_add] at h1
  by_cases hj : j = i
  · subst hj
    have hlt : j < (L.set j (some v)).length := (List.getElem?_eq_some_iff.mp h2).1
    rw [List.getElem?_set_self (by simpa using hlt)] at h2
    have h3 : v = q.2 := by simpa using h2
    rw [h3, ← h1]
    exact List.mem_cons_self
  · rw [List.getElem?_set_ne (Ne.symm hj)] at h2
    refine List.mem_cons_of_mem _ (List.mem_filter.mpr ⟨(jlv_mem _ _ _).mpr ⟨j, by omega, h2⟩, ?_⟩)
    have hcq := hc j q.2 h2
    simp [h1, hj, hcq]
theorem jcat_set {i : Nat} {L : List (Option Value)} {v : Value} (hc : jcat L) (hv : v.category = 1) : jcat (L.set i (some v)) := by
  intro j w hw
  by_cases hj : j = i
  · subst hj
    have hlt : j < (L.set j (some v)).length := (List.getElem?_eq_some_iff.mp hw).1
    rw [List.getElem?_set_self (by simpa using hlt)] at hw
    have : v = w := by simpa using hw
    rw [← this]; exact hv
  · rw [List.getElem?_set_ne (Ne.symm hj)] at hw
    exact hc j w hw
/-- from here on: kc cells of ks slots may still be made; behind it X's own end -/
def jJ (G : jG) : jX → jH → Nat → Nat → Nat → List (Option Value) → List Value → Prop
  | (p, l, e, R, s, m, args, below, meth, c, mc, ms, Q), h, kc, ks, pc, L, st =>
    ∀ (H : Heap) (locs : List Loc) (cells slots : Nat) (ls : Array Slot), jRep G h H → va_S (jA G) s.heap H locs → cells + kc ≤ mc → slots + ks ≤ ms → jcat L → lv_has ls c.maxLocals (jlv 0 L) →
      W p l e R s m args below meth c H locs cells slots Q (F0 m pc ls st)
/-- what holds of a method's run: the machine, the method, the words, the room for 'dep' calls, what lies around -/
def jOK (G : jG) (l0 : Launch) (M : jM) (dep : Nat) : jX → Prop
  | (p, l, _, R, s, m, args, _, meth, c, mc, ms, _) =>
    p.tables.exec = Jvm.exec ∧ c.code = M.2.1 ∧ c.maxLocals = M.2.2.1 ∧ meth.sig.returnType = M.2.2.2.1 ∧ s.vm.findClass M.1.cls = some m.cls ∧ (∀ w ∈ jall, w.before args s = true) ∧ meth.locks = false ∧
    meth.name = M.1.name ∧ jEF G s s.heap ∧ G.2.2.1 ≤ s.heap.size ∧ dep ≤ R.frames ∧ 80 * dep ≤ R.locals ∧ mc ≤ R.cells ∧ ms ≤ R.slots ∧ l = l0 ∧ c.exceptionTable.toList = tableOf M.2.2.2.2
section JR
variable {G : jG} {l : Launch} {M : jM} {dep : Nat} {X : jX} {h : jH} {kc ks pc : Nat} {L : List (Option Value)} {st : List Value}
theorem jr_h {h' : jH} (e : h = h') (k : jJ G X h' kc ks pc L st) : jJ G X h kc ks pc L st := e ▸ k
theorem jr_credit {kc' ks' : Nat} (h1 : kc' ≤ kc) (h2 : ks' ≤ ks) (k : jJ G X h kc' ks' pc L st) : jJ G X h kc ks pc L st := by
  obtain ⟨p, l, e, R, s, m, args, below, meth, c, mc, ms, Q⟩ := X
  intro H locs cells slots ls hR hS hc1 hc2 hc hl
  exact k H locs cells slots ls hR hS (by omega) (by omega) hc hl
theorem jr_iconst (K : jOK G l M dep X) {n : Int} {v : Int32} (hd : decode M.2.1 pc = .ok (.iconst n, 1)) (hv : Int32.ofInt n = v) (k : jJ G X h kc ks (pc + 1) L (.int v :: st)) : jJ G X h kc ks (pc) L (st) := by
  obtain ⟨p, l9, e, R, s, m, args, below, meth, c, mc, ms, Q⟩ := X
  obtain ⟨hx, hb, hml, hr, hown, hts, hlk, hin, hE, hbs, hd1, hd2, hd3, hd4, rfl, hxt⟩ := K
  intro H locs cells slots ls hR hS hc1 hc2 hc hl
  exact lv_iconst hx hb hd hv (k H locs cells slots ls hR hS hc1 hc2 hc hl)
theorem jr_bipush (K : jOK G l M dep X) {n : Int} {v : Int32} (hd : decode M.2.1 pc = .ok (.bipush n, 2)) (hv : (Int8.ofInt n).toInt32 = v) (k : jJ G X h kc ks (pc + 2) L (.int v :: st)) : jJ G X h kc ks (pc) L (st) := by
  obtain ⟨p, l9, e, R, s, m, args, below, meth, c, mc, ms, Q⟩ := X
  obtain ⟨hx, hb, hml, hr, hown, hts, hlk, hin, hE, hbs, hd1, hd2, hd3, hd4, rfl, hxt⟩ := K
  intro H locs cells slots ls hR hS hc1 hc2 hc hl
  exact lv_bipush hx hb hd hv (k H locs cells slots ls hR hS hc1 hc2 hc hl)
theorem jr_sipush (K : jOK G l M dep X) {n : Int} {v : Int32} (hd : decode M.2.1 pc = .ok (.sipush n, 3)) (hv : (Int16.ofInt n).toInt32 = v) (k : jJ G X h kc ks (pc + 3) L (.int v :: st)) : jJ G X h kc ks (pc) L (st) := by
  obtain ⟨p, l9, e, R, s, m, args, below, meth, c, mc, ms, Q⟩ := X
  obtain ⟨hx, hb, hml, hr, hown, hts, hlk, hin, hE, hbs, hd1, hd2, hd3, hd4, rfl, hxt⟩ := K
  intro H locs cells slots ls hR hS hc1 hc2 hc hl
  exact lv_sipush hx hb hd hv (k H locs cells slots ls hR hS hc1 hc2 hc hl)
theorem jr_lconst (K : jOK G l M dep X) {n : Fin 2} {v : Int64} (hd : decode M.2.1 pc = .ok (.lconst n, 1)) (hv : Int64.ofNat (n : Nat) = v) (k : jJ G X h kc ks (pc + 1) L (.long v :: st)) : jJ G X h kc ks (pc) L (st) := by
  obtain ⟨p, l9, e, R, s, m, args, below, meth, c, mc, ms, Q⟩ := X
  obtain ⟨hx, hb, hml, hr, hown, hts, hlk, hin, hE, hbs, hd1, hd2, hd3, hd4, rfl, hxt⟩ := K
  intro H locs cells slots ls hR hS hc1 hc2 hc hl
  exact lv_lconst hx hb hd hv (k H locs cells slots ls hR hS hc1 hc2 hc hl)
theorem jr_null (K : jOK G l M dep X) (hd : decode M.2.1 pc = .ok (.aconst_null, 1)) (k : jJ G X h kc ks (pc + 1) L (.null :: st)) : jJ G X h kc ks (pc) L (st) := by
  obtain ⟨p, l9, e, R, s, m, args, below, meth, c, mc, ms, Q⟩ := X
  obtain ⟨hx, hb, hml, hr, hown, hts, hlk, hin, hE, hbs, hd1, hd2, hd3, hd4, rfl, hxt⟩ := K
  intro H locs cells slots ls hR hS hc1 hc2 hc hl
  exact lv_null hx hb hd (k H locs cells slots ls hR hS hc1 hc2 hc hl)
theorem jr_ldc (K : jOK G l M dep X) {index : Nat} {v : Int32} (hd : decode M.2.1 pc = .ok (.ldc index, 2)) (hw : Cond.constant M.1.cls index v ∈ jall) (k : jJ G X h kc ks (pc + 2) L (.int v :: st)) : jJ G X h kc ks (pc) L (st) := by
  obtain ⟨p, l9, e, R, s, m, args, below, meth, c, mc, ms, Q⟩ := X
  obtain ⟨hx, hb, hml, hr, hown, hts, hlk, hin, hE, hbs, hd1, hd2, hd3, hd4, rfl, hxt⟩ := K
  intro H locs cells slots ls hR hS hc1 hc2 hc hl
  exact lv_ldc hx hb hown (hts _ hw) hd (k H locs cells slots ls hR hS hc1 hc2 hc hl)
theorem jr_ldcw (K : jOK G l M dep X) {index : Nat} {v : Int32} (hd : decode M.2.1 pc = .ok (.ldc_w index, 3)) (hw : Cond.constant M.1.cls index v ∈ jall) (k : jJ G X h kc ks (pc + 3) L (.int v :: st)) : jJ G X h kc ks (pc) L (st) := by
  obtain ⟨p, l9, e, R, s, m, args, below, meth, c, mc, ms, Q⟩ := X
  obtain ⟨hx, hb, hml, hr, hown, hts, hlk, hin, hE, hbs, hd1, hd2, hd3, hd4, rfl, hxt⟩ := K
  intro H locs cells slots ls hR hS hc1 hc2 hc hl
  exact lv_ldcw hx hb hown (hts _ hw) hd (k H locs cells slots ls hR hS hc1 hc2 hc hl)
theorem jr_iload_n (K : jOK G l M dep X) {j : Fin 4} {i : Nat} {x : Int32} (hd : decode M.2.1 pc = .ok (.iload_n j, 1)) (hi : (j : Nat) = i) (hv : L[i]? = some (some (.int x))) (k : jJ G X h kc ks (pc + 1) L (.int x :: st)) : jJ G X h kc ks (pc) L (st) := by
  obtain ⟨p, l9, e, R, s, m, args, below, meth, c, mc, ms, Q⟩ := X
  obtain ⟨hx, hb, hml, hr, hown, hts, hlk, hin, hE, hbs, hd1, hd2, hd3, hd4, rfl, hxt⟩ := K
  intro H locs cells slots ls hR hS hc1 hc2 hc hl
  exact lv_iload_n hx hb hd hi (jlv_get hl hv) (k H locs cells slots ls hR hS hc1 hc2 hc hl)
theorem jr_iload (K : jOK G l M dep X) {i : Nat} {x : Int32} (hd : decode M.2.1 pc = .ok (.iload i, 2)) (hv : L[i]? = some (some (.int x))) (k : jJ G X h kc ks (pc + 2) L (.int x :: st)) : jJ G X h kc ks (pc) L (st) := by
  obtain ⟨p, l9, e, R, s, m, args, below, meth, c, mc, ms, Q⟩ := X
  obtain ⟨hx, hb, hml, hr, hown, hts, hlk, hin, hE, hbs, hd1, hd2, hd3, hd4, rfl, hxt⟩ := K
  intro H locs cells slots ls hR hS hc1 hc2 hc hl
  exact lv_iload hx hb hd (jlv_get hl hv) (k H locs cells slots ls hR hS hc1 hc2 hc hl)
theorem jr_aload_n (K : jOK G l M dep X) {j : Fin 4} {i : Nat} {x : Nat} (hd : decode M.2.1 pc = .ok (.aload_n j, 1)) (hi : (j : Nat) = i) (hv : L[i]? = some (some (.ref x))) (k : jJ G X h kc ks (pc + 1) L (.ref x :: st)) : jJ G X h kc ks (pc) L (st) := by
  obtain ⟨p, l9, e, R, s, m, args, below, meth, c, mc, ms, Q⟩ := X
  obtain ⟨hx, hb, hml, hr, hown, hts, hlk, hin, hE, hbs, hd1, hd2, hd3, hd4, rfl, hxt⟩ := K
  intro H locs cells slots ls hR hS hc1 hc2 hc hl
  exact lv_aload_n hx hb hd hi (jlv_get hl hv) (k H locs cells slots ls hR hS hc1 hc2 hc hl)
theorem jr_aload (K : jOK G l M dep X) {i : Nat} {x : Nat} (hd : decode M.2.1 pc = .ok (.aload i, 2)) (hv : L[i]? = some (some (.ref x))) (k : jJ G X h kc ks (pc + 2) L (.ref x :: st)) : jJ G X h kc ks (pc) L (st) := by
  obtain ⟨p, l9, e, R, s, m, args, below, meth, c, mc, ms, Q⟩ := X
  obtain ⟨hx, hb, hml, hr, hown, hts, hlk, hin, hE, hbs, hd1, hd2, hd3, hd4, rfl, hxt⟩ := K
  intro H locs cells slots ls hR hS hc1 hc2 hc hl
  exact lv_aload hx hb hd (jlv_get hl hv) (k H locs cells slots ls hR hS hc1 hc2 hc hl)
theorem jr_istore_n (K : jOK G l M dep X) {j : Fin 4} {i : Nat} {x : Int32} {L2 : List (Option Value)} (hd : decode M.2.1 pc = .ok (.istore_n j, 1)) (hi : (j : Nat) = i) (hn : i < M.2.2.1) (hL : L.set i (some (.int x)) = L2) (k : jJ G X h kc ks (pc + 1) L2 (st)) : jJ G X h kc ks (pc) L (.int x :: st) := by
  obtain ⟨p, l9, e, R, s, m, args, below, meth, c, mc, ms, Q⟩ := X
  obtain ⟨hx, hb, hml, hr, hown, hts, hlk, hin, hE, hbs, hd1, hd2, hd3, hd4, rfl, hxt⟩ := K
  intro H locs cells slots ls hR hS hc1 hc2 hc hl
  subst hL
  exact lv_istore_n hx hb hd hi hl (by rw [hml]; exact hn) rfl (fun ls2 hl2 => k H locs cells slots ls2 hR hS hc1 hc2 (jcat_set hc rfl) (jlv_set hc hl2))
theorem jr_istore (K : jOK G l M dep X) {i : Nat} {x : Int32} {L2 : List (Option Value)} (hd : decode M.2.1 pc = .ok (.istore i, 2)) (hn : i < M.2.2.1) (hL : L.set i (some (.int x)) = L2) (k : jJ G X h kc ks (pc + 2) L2 (st)) : jJ G X h kc ks (pc) L (.int x :: st) := by
  obtain ⟨p, l9, e, R, s, m, args, below, meth, c, mc, ms, Q⟩ := X
  obtain ⟨hx, hb, hml, hr, hown, hts, hlk, hin, hE, hbs, hd1, hd2, hd3, hd4, rfl, hxt⟩ := K
  intro H locs cells slots ls hR hS hc1 hc2 hc hl
  subst hL
  exact lv_istore hx hb hd hl (by rw [hml]; exact hn) rfl (fun ls2 hl2 => k H locs cells slots ls2 hR hS hc1 hc2 (jcat_set hc rfl) (jlv_set hc hl2))
theorem jr_astore_n (K : jOK G l M dep X) {j : Fin 4} {i : Nat} {x : Nat} {L2 : List (Option Value)} (hd : decode M.2.1 pc = .ok (.astore_n j, 1)) (hi : (j : Nat) = i) (hn : i < M.2.2.1) (hL : L.set i (some (.ref x)) = L2) (k : jJ G X h kc ks (pc + 1) L2 (st)) : jJ G X h kc ks (pc) L (.ref x :: st) := by
  obtain ⟨p, l9, e, R, s, m, args, below, meth, c, mc, ms, Q⟩ := X
  obtain ⟨hx, hb, hml, hr, hown, hts, hlk, hin, hE, hbs, hd1, hd2, hd3, hd4, rfl, hxt⟩ := K
  intro H locs cells slots ls hR hS hc1 hc2 hc hl
  subst hL
  exact lv_astore_n hx hb hd hi hl (by rw [hml]; exact hn) rfl (fun ls2 hl2 => k H locs cells slots ls2 hR hS hc1 hc2 (jcat_set hc rfl) (jlv_set hc hl2))
theorem jr_astore (K : jOK G l M dep X) {i : Nat} {x : Nat} {L2 : List (Option Value)} (hd : decode M.2.1 pc = .ok (.astore i, 2)) (hn : i < M.2.2.1) (hL : L.set i (some (.ref x)) = L2) (k : jJ G X h kc ks (pc + 2) L2 (st)) : jJ G X h kc ks (pc) L (.ref x :: st) := by
  obtain ⟨p, l9, e, R, s, m, args, below, meth, c, mc, ms, Q⟩ := X
  obtain ⟨hx, hb, hml, hr, hown, hts, hlk, hin, hE, hbs, hd1, hd2, hd3, hd4, rfl, hxt⟩ := K
  intro H locs cells slots ls hR hS hc1 hc2 hc hl
  subst hL
  exact lv_astore hx hb hd hl (by rw [hml]; exact hn) rfl (fun ls2 hl2 => k H locs cells slots ls2 hR hS hc1 hc2 (jcat_set hc rfl) (jlv_set hc hl2))
theorem jr_iinc (K : jOK G l M dep X) {i : Nat} {n : Int} {x v : Int32} {L2 : List (Option Value)} (hd : decode M.2.1 pc = .ok (.iinc i n, 3)) (hg : L[i]? = some (some (.int x))) (hv : x + Int32.ofInt n = v) (hn : i < M.2.2.1) (hL : L.set i (some (.int v)) = L2) (k : jJ G X h kc ks (pc + 3) L2 (st)) : jJ G X h kc ks (pc) L (st) := by
  obtain ⟨p, l9, e, R, s, m, args, below, meth, c, mc, ms, Q⟩ := X
  obtain ⟨hx, hb, hml, hr, hown, hts, hlk, hin, hE, hbs, hd1, hd2, hd3, hd4, rfl, hxt⟩ := K
  intro H locs cells slots ls hR hS hc1 hc2 hc hl
  subst hL
  obtain ⟨k9, hk9⟩ := List.getElem?_of_mem ((jlv_mem L 0 (i, .int x)).mpr ⟨i, by omega, hg⟩)
  exact lv_iinc hx hb hd hl hk9 hv (by rw [hml]; exact hn) rfl (fun ls2 hl2 => k H locs cells slots ls2 hR hS hc1 hc2 (jcat_set hc rfl) (jlv_set hc hl2))
theorem jr_iadd (K : jOK G l M dep X) {x y : Int32} (hd : decode M.2.1 pc = .ok (.iadd, 1)) (k : jJ G X h kc ks (pc + 1) L (.int (x + y) :: st)) : jJ G X h kc ks (pc) L (.int y :: .int x :: st) := by
  obtain ⟨p, l9, e, R, s, m, args, below, meth, c, mc, ms, Q⟩ := X
  obtain ⟨hx, hb, hml, hr, hown, hts, hlk, hin, hE, hbs, hd1, hd2, hd3, hd4, rfl, hxt⟩ := K
  intro H locs cells slots ls hR hS hc1 hc2 hc hl
  exact lv_iadd hx hb hd (k H locs cells slots ls hR hS hc1 hc2 hc hl)
theorem jr_isub (K : jOK G l M dep X) {x y : Int32} (hd : decode M.2.1 pc = .ok (.isub, 1)) (k : jJ G X h kc ks (pc + 1) L (.int (x - y) :: st)) : jJ G X h kc ks (pc) L (.int y :: .int x :: st) := by
  obtain ⟨p, l9, e, R, s, m, args, below, meth, c, mc, ms, Q⟩ := X
  obtain ⟨hx, hb, hml, hr, hown, hts, hlk, hin, hE, hbs, hd1, hd2, hd3, hd4, rfl, hxt⟩ := K
  intro H locs cells slots ls hR hS hc1 hc2 hc hl
  exact lv_isub hx hb hd (k H locs cells slots ls hR hS hc1 hc2 hc hl)
theorem jr_imul (K : jOK G l M dep X) {x y : Int32} (hd : decode M.2.1 pc = .ok (.imul, 1)) (k : jJ G X h kc ks (pc + 1) L (.int (x * y) :: st)) : jJ G X h kc ks (pc) L (.int y :: .int x :: st) := by
  obtain ⟨p, l9, e, R, s, m, args, below, meth, c, mc, ms, Q⟩ := X
  obtain ⟨hx, hb, hml, hr, hown, hts, hlk, hin, hE, hbs, hd1, hd2, hd3, hd4, rfl, hxt⟩ := K
  intro H locs cells slots ls hR hS hc1 hc2 hc hl
  exact lv_imul hx hb hd (k H locs cells slots ls hR hS hc1 hc2 hc hl)
theorem jr_iand (K : jOK G l M dep X) {x y : Int32} (hd : decode M.2.1 pc = .ok (.iand, 1)) (k : jJ G X h kc ks (pc + 1) L (.int (x &&& y) :: st)) : jJ G X h kc ks (pc) L (.int y :: .int x :: st) := by
  obtain ⟨p, l9, e, R, s, m, args, below, meth, c, mc, ms, Q⟩ := X
  obtain ⟨hx, hb, hml, hr, hown, hts, hlk, hin, hE, hbs, hd1, hd2, hd3, hd4, rfl, hxt⟩ := K
  intro H locs cells slots ls hR hS hc1 hc2 hc hl
  exact lv_iand hx hb hd (k H locs cells slots ls hR hS hc1 hc2 hc hl)
theorem jr_ior (K : jOK G l M dep X) {x y : Int32} (hd : decode M.2.1 pc = .ok (.ior, 1)) (k : jJ G X h kc ks (pc + 1) L (.int (x ||| y) :: st)) : jJ G X h kc ks (pc) L (.int y :: .int x :: st) := by
  obtain ⟨p, l9, e, R, s, m, args, below, meth, c, mc, ms, Q⟩ := X
  obtain ⟨hx, hb, hml, hr, hown, hts, hlk, hin, hE, hbs, hd1, hd2, hd3, hd4, rfl, hxt⟩ := K
  intro H locs cells slots ls hR hS hc1 hc2 hc hl
  exact lv_ior hx hb hd (k H locs cells slots ls hR hS hc1 hc2 hc hl)
theorem jr_ixor (K : jOK G l M dep X) {x y : Int32} (hd : decode M.2.1 pc = .ok (.ixor, 1)) (k : jJ G X h kc ks (pc + 1) L (.int (x ^^^ y) :: st)) : jJ G X h kc ks (pc) L (.int y :: .int x :: st) := by
  obtain ⟨p, l9, e, R, s, m, args, below, meth, c, mc, ms, Q⟩ := X
  obtain ⟨hx, hb, hml, hr, hown, hts, hlk, hin, hE, hbs, hd1, hd2, hd3, hd4, rfl, hxt⟩ := K
  intro H locs cells slots ls hR hS hc1 hc2 hc hl
  exact lv_ixor hx hb hd (k H locs cells slots ls hR hS hc1 hc2 hc hl)
theorem jr_ishl (K : jOK G l M dep X) {x y : Int32} (hd : decode M.2.1 pc = .ok (.ishl, 1)) (k : jJ G X h kc ks (pc + 1) L (.int (x <<< (y &&& 31)) :: st)) : jJ G X h kc ks (pc) L (.int y :: .int x :: st) := by
  obtain ⟨p, l9, e, R, s, m, args, below, meth, c, mc, ms, Q⟩ := X
  obtain ⟨hx, hb, hml, hr, hown, hts, hlk, hin, hE, hbs, hd1, hd2, hd3, hd4, rfl, hxt⟩ := K
  intro H locs cells slots ls hR hS hc1 hc2 hc hl
  exact lv_ishl hx hb hd (k H locs cells slots ls hR hS hc1 hc2 hc hl)
theorem jr_ishr (K : jOK G l M dep X) {x y : Int32} (hd : decode M.2.1 pc = .ok (.ishr, 1)) (k : jJ G X h kc ks (pc + 1) L (.int (x >>> (y &&& 31)) :: st)) : jJ G X h kc ks (pc) L (.int y :: .int x :: st) := by
  obtain ⟨p, l9, e, R, s, m, args, below, meth, c, mc, ms, Q⟩ := X
  obtain ⟨hx, hb, hml, hr, hown, hts, hlk, hin, hE, hbs, hd1, hd2, hd3, hd4, rfl, hxt⟩ := K
  intro H locs cells slots ls hR hS hc1 hc2 hc hl
  exact lv_ishr hx hb hd (k H locs cells slots ls hR hS hc1 hc2 hc hl)
theorem jr_idiv (K : jOK G l M dep X) {x y : Int32} (hd : decode M.2.1 pc = .ok (.idiv, 1)) (hne : ¬ y = 0) (k : jJ G X h kc ks (pc + 1) L (.int (x / y) :: st)) : jJ G X h kc ks (pc) L (.int y :: .int x :: st) := by
  obtain ⟨p, l9, e, R, s, m, args, below, meth, c, mc, ms, Q⟩ := X
  obtain ⟨hx, hb, hml, hr, hown, hts, hlk, hin, hE, hbs, hd1, hd2, hd3, hd4, rfl, hxt⟩ := K
  intro H locs cells slots ls hR hS hc1 hc2 hc hl
  exact lv_idiv hx hb hd hne (k H locs cells slots ls hR hS hc1 hc2 hc hl)
theorem jr_irem (K : jOK G l M dep X) {x y : Int32} (hd : decode M.2.1 pc = .ok (.irem, 1)) (hne : ¬ y = 0) (k : jJ G X h kc ks (pc + 1) L (.int (x - x / y * y) :: st)) : jJ G X h kc ks (pc) L (.int y :: .int x :: st) := by
  obtain ⟨p, l9, e, R, s, m, args, below, meth, c, mc, ms, Q⟩ := X
  obtain ⟨hx, hb, hml, hr, hown, hts, hlk, hin, hE, hbs, hd1, hd2, hd3, hd4, rfl, hxt⟩ := K
  intro H locs cells slots ls hR hS hc1 hc2 hc hl
  exact lv_irem hx hb hd hne (k H locs cells slots ls hR hS hc1 hc2 hc hl)
theorem jr_ineg (K : jOK G l M dep X) {x : Int32} (hd : decode M.2.1 pc = .ok (.ineg, 1)) (k : jJ G X h kc ks (pc + 1) L (.int (-x) :: st)) : jJ G X h kc ks (pc) L (.int x :: st) := by
  obtain ⟨p, l9, e, R, s, m, args, below, meth, c, mc, ms, Q⟩ := X
  obtain ⟨hx, hb, hml, hr, hown, hts, hlk, hin, hE, hbs, hd1, hd2, hd3, hd4, rfl, hxt⟩ := K
  intro H locs cells slots ls hR hS hc1 hc2 hc hl
  exact lv_ineg hx hb hd (k H locs cells slots ls hR hS hc1 hc2 hc hl)
theorem jr_iushr (K : jOK G l M dep X) {x y v : Int32} (hd : decode M.2.1 pc = .ok (.iushr, 1)) (hv : (x.toUInt32 >>> (y.toUInt32 &&& Int32.toUInt32 31)).toInt32 = v) (k : jJ G X h kc ks (pc + 1) L (.int v :: st)) : jJ G X h kc ks (pc) L (.int y :: .int x :: st) := by
  obtain ⟨p, l9, e, R, s, m, args, below, meth, c, mc, ms, Q⟩ := X
  obtain ⟨hx, hb, hml, hr, hown, hts, hlk, hin, hE, hbs, hd1, hd2, hd3, hd4, rfl, hxt⟩ := K
  intro H locs cells slots ls hR hS hc1 hc2 hc hl
  exact lv_iushr hx hb hd hv (k H locs cells slots ls hR hS hc1 hc2 hc hl)
theorem jr_i2l (K : jOK G l M dep X) {x : Int32} {v : Int64} (hd : decode M.2.1 pc = .ok (.i2l, 1)) (hv : x.toInt64 = v) (k : jJ G X h kc ks (pc + 1) L (.long v :: st)) : jJ G X h kc ks (pc) L (.int x :: st) := by
  obtain ⟨p, l9, e, R, s, m, args, below, meth, c, mc, ms, Q⟩ := X
  obtain ⟨hx, hb, hml, hr, hown, hts, hlk, hin, hE, hbs, hd1, hd2, hd3, hd4, rfl, hxt⟩ := K
  intro H locs cells slots ls hR hS hc1 hc2 hc hl
  exact lv_i2l hx hb hd hv (k H locs cells slots ls hR hS hc1 hc2 hc hl)
theorem jr_i2b (K : jOK G l M dep X) {x v : Int32} (hd : decode M.2.1 pc = .ok (.i2b, 1)) (hv : x.toInt8.toInt32 = v) (k : jJ G X h kc ks (pc + 1) L (.int v :: st)) : jJ G X h kc ks (pc) L (.int x :: st) := by
  obtain ⟨p, l9, e, R, s, m, args, below, meth, c, mc, ms, Q⟩ := X
  obtain ⟨hx, hb, hml, hr, hown, hts, hlk, hin, hE, hbs, hd1, hd2, hd3, hd4, rfl, hxt⟩ := K
  intro H locs cells slots ls hR hS hc1 hc2 hc hl
  exact lv_i2b hx hb hd hv (k H locs cells slots ls hR hS hc1 hc2 hc hl)
theorem jr_i2c (K : jOK G l M dep X) {x v : Int32} (hd : decode M.2.1 pc = .ok (.i2c, 1)) (hv : (x.toUInt32 % 65536).toInt32 = v) (k : jJ G X h kc ks (pc + 1) L (.int v :: st)) : jJ G X h kc ks (pc) L (.int x :: st) := by
  obtain ⟨p, l9, e, R, s, m, args, below, meth, c, mc, ms, Q⟩ := X
  obtain ⟨hx, hb, hml, hr, hown, hts, hlk, hin, hE, hbs, hd1, hd2, hd3, hd4, rfl, hxt⟩ := K
  intro H locs cells slots ls hR hS hc1 hc2 hc hl
  exact lv_i2c hx hb hd hv (k H locs cells slots ls hR hS hc1 hc2 hc hl)
theorem jr_dup (K : jOK G l M dep X) {v : Value} (hd : decode M.2.1 pc = .ok (.dup, 1)) (hv : v.category = 1) (k : jJ G X h kc ks (pc + 1) L (v :: v :: st)) : jJ G X h kc ks (pc) L (v :: st) := by
  obtain ⟨p, l9, e, R, s, m, args, below, meth, c, mc, ms, Q⟩ := X
  obtain ⟨hx, hb, hml, hr, hown, hts, hlk, hin, hE, hbs, hd1, hd2, hd3, hd4, rfl, hxt⟩ := K
  intro H locs cells slots ls hR hS hc1 hc2 hc hl
  exact lv_dup hx hb hd hv (k H locs cells slots ls hR hS hc1 hc2 hc hl)
theorem jr_pop (K : jOK G l M dep X) {v : Value} (hd : decode M.2.1 pc = .ok (.pop, 1)) (hv : v.category = 1) (k : jJ G X h kc ks (pc + 1) L (st)) : jJ G X h kc ks (pc) L (v :: st) := by
  obtain ⟨p, l9, e, R, s, m, args, below, meth, c, mc, ms, Q⟩ := X
  obtain ⟨hx, hb, hml, hr, hown, hts, hlk, hin, hE, hbs, hd1, hd2, hd3, hd4, rfl, hxt⟩ := K
  intro H locs cells slots ls hR hS hc1 hc2 hc hl
  exact lv_pop hx hb hd hv (k H locs cells slots ls hR hS hc1 hc2 hc hl)
theorem jr_dup2 (K : jOK G l M dep X) {v u : Value} (hd : decode M.2.1 pc = .ok (.dup2, 1)) (hv : v.category = 1) (hu : u.category = 1) (k : jJ G X h kc ks (pc + 1) L (v :: u :: v :: u :: st)) : jJ G X h kc ks (pc) L (v :: u :: st) := by
  obtain ⟨p, l9, e, R, s, m, args, below, meth, c, mc, ms, Q⟩ := X
  obtain ⟨hx, hb, hml, hr, hown, hts, hlk, hin, hE, hbs, hd1, hd2, hd3, hd4, rfl, hxt⟩ := K
  intro H locs cells slots ls hR hS hc1 hc2 hc hl
  exact lv_dup2_11 hx hb hd hv hu (k H locs cells slots ls hR hS hc1 hc2 hc hl)
theorem jr_goto (K : jOK G l M dep X) {off : Int} {tgt : Nat} (hd : decode M.2.1 pc = .ok (.goto off, 3)) (ht : (pc : Int) + off = (tgt : Int)) (k : jJ G X h kc ks (tgt) L (st)) : jJ G X h kc ks (pc) L (st) := by
  obtain ⟨p, l9, e, R, s, m, args, below, meth, c, mc, ms, Q⟩ := X
  obtain ⟨hx, hb, hml, hr, hown, hts, hlk, hin, hE, hbs, hd1, hd2, hd3, hd4, rfl, hxt⟩ := K
  intro H locs cells slots ls hR hS hc1 hc2 hc hl
  exact lv_goto hx hb hd ht (k H locs cells slots ls hR hS hc1 hc2 hc hl)
theorem jr_icmp_eq (K : jOK G l M dep X) {x y : Int32} {off : Int} {tgt : Nat} (hd : decode M.2.1 pc = .ok (.if_icmp .eq off, 3)) (ht : (pc : Int) + off = (tgt : Int)) (kt : x = y → jJ G X h kc ks (tgt) L (st)) (kf : ¬ x = y → jJ G X h kc ks (pc + 3) L (st)) : jJ G X h kc ks (pc) L (.int y :: .int x :: st) := by
  obtain ⟨p, l9, e, R, s, m, args, below, meth, c, mc, ms, Q⟩ := X
  obtain ⟨hx, hb, hml, hr, hown, hts, hlk, hin, hE, hbs, hd1, hd2, hd3, hd4, rfl, hxt⟩ := K
  intro H locs cells slots ls hR hS hc1 hc2 hc hl
  exact lv_icmp_eq hx hb hd ht (fun q => kt q H locs cells slots ls hR hS hc1 hc2 hc hl) (fun q => kf q H locs cells slots ls hR hS hc1 hc2 hc hl)
theorem jr_if_eq (K : jOK G l M dep X) {x : Int32} {off : Int} {tgt : Nat} (hd : decode M.2.1 pc = .ok (.ifCond .eq off, 3)) (ht : (pc : Int) + off = (tgt : Int)) (kt : x = 0 → jJ G X h kc ks (tgt) L (st)) (kf : ¬ x = 0 → jJ G X h kc ks (pc + 3) L (st)) : jJ G X h kc ks (pc) L (.int x :: st) := by
  obtain ⟨p, l9, e, R, s, m, args, below, meth, c, mc, ms, Q⟩ := X
  obtain ⟨hx, hb, hml, hr, hown, hts, hlk, hin, hE, hbs, hd1, hd2, hd3, hd4, rfl, hxt⟩ := K
  intro H locs cells slots ls hR hS hc1 hc2 hc hl
  exact lv_if_eq hx hb hd ht (fun q => kt q H locs cells slots ls hR hS hc1 hc2 hc hl) (fun q => kf q H locs cells slots ls hR hS hc1 hc2 hc hl)
theorem jr_icmp_ne (K : jOK G l M dep X) {x y : Int32} {off : Int} {tgt : Nat} (hd : decode M.2.1 pc = .ok (.if_icmp .ne off, 3)) (ht : (pc : Int) + off = (tgt : Int)) (kt : ¬ x = y → jJ G X h kc ks (tgt) L (st)) (kf : x = y → jJ G X h kc ks (pc + 3) L (st)) : jJ G X h kc ks (pc) L (.int y :: .int x :: st) := by
  obtain ⟨p, l9, e, R, s, m, args, below, meth, c, mc, ms, Q⟩ := X
  obtain ⟨hx, hb, hml, hr, hown, hts, hlk, hin, hE, hbs, hd1, hd2, hd3, hd4, rfl, hxt⟩ := K
  intro H locs cells slots ls hR hS hc1 hc2 hc hl
  exact lv_icmp_ne hx hb hd ht (fun q => kt q H locs cells slots ls hR hS hc1 hc2 hc hl) (fun q => kf q H locs cells slots ls hR hS hc1 hc2 hc hl)
theorem jr_if_ne (K : jOK G l M dep X) {x : Int32} {off : Int} {tgt : Nat} (hd : decode M.2.1 pc = .ok (.ifCond .ne off, 3)) (ht : (pc : Int) + off = (tgt : Int)) (kt : ¬ x = 0 → jJ G X h kc ks (tgt) L (st)) (kf : x = 0 → jJ G X h kc ks (pc + 3) L (st)) : jJ G X h kc ks (pc) L (.int x :: st) := by
  obtain ⟨p, l9, e, R, s, m, args, below, meth, c, mc, ms, Q⟩ := X
  obtain ⟨hx, hb, hml, hr, hown, hts, hlk, hin, hE, hbs, hd1, hd2, hd3, hd4, rfl, hxt⟩ := K
  intro H locs cells slots ls hR hS hc1 hc2 hc hl
  exact lv_if_ne hx hb hd ht (fun q => kt q H locs cells slots ls hR hS hc1 hc2 hc hl) (fun q => kf q H locs cells slots ls hR hS hc1 hc2 hc hl)
theorem jr_icmp_lt (K : jOK G l M dep X) {x y : Int32} {off : Int} {tgt : Nat} (hd : decode M.2.1 pc = .ok (.if_icmp .lt off, 3)) (ht : (pc : Int) + off = (tgt : Int)) (kt : x < y → jJ G X h kc ks (tgt) L (st)) (kf : ¬ x < y → jJ G X h kc ks (pc + 3) L (st)) : jJ G X h kc ks (pc) L (.int y :: .int x :: st) := by
  obtain ⟨p, l9, e, R, s, m, args, below, meth, c, mc, ms, Q⟩ := X
  obtain ⟨hx, hb, hml, hr, hown, hts, hlk, hin, hE, hbs, hd1, hd2, hd3, hd4, rfl, hxt⟩ := K
  intro H locs cells slots ls hR hS hc1 hc2 hc hl
  exact lv_icmp_lt hx hb hd ht (fun q => kt q H locs cells slots ls hR hS hc1 hc2 hc hl) (fun q => kf q H locs cells slots ls hR hS hc1 hc2 hc hl)
theorem jr_if_lt (K : jOK G l M dep X) {x : Int32} {off : Int} {tgt : Nat} (hd : decode M.2.1 pc = .ok (.ifCond .lt off, 3)) (ht : (pc : Int) + off = (tgt : Int)) (kt : x < 0 → jJ G X h kc ks (tgt) L (st)) (kf : ¬ x < 0 → jJ G X h kc ks (pc + 3) L (st)) : jJ G X h kc ks (pc) L (.int x :: st) := by
  obtain ⟨p, l9, e, R, s, m, args, below, meth, c, mc, ms, Q⟩ := X
  obtain ⟨hx, hb, hml, hr, hown, hts, hlk, hin, hE, hbs, hd1, hd2, hd3, hd4, rfl, hxt⟩ := K
  intro H locs cells slots ls hR hS hc1 hc2 hc hl
  exact lv_if_lt hx hb hd ht (fun q => kt q H locs cells slots ls hR hS hc1 hc2 hc hl) (fun q => kf q H locs cells slots ls hR hS hc1 hc2 hc hl)
theorem jr_icmp_ge (K : jOK G l M dep X) {x y : Int32} {off : Int} {tgt : Nat} (hd : decode M.2.1 pc = .ok (.if_icmp .ge off, 3)) (ht : (pc : Int) + off = (tgt : Int)) (kt : y ≤ x → jJ G X h kc ks (tgt) L (st)) (kf : ¬ y ≤ x → jJ G X h kc ks (pc + 3) L (st)) : jJ G X h kc ks (pc) L (.int y :: .int x :: st) := by
  obtain ⟨p, l9, e, R, s, m, args, below, meth, c, mc, ms, Q⟩ := X
  obtain ⟨hx, hb, hml, hr, hown, hts, hlk, hin, hE, hbs, hd1, hd2, hd3, hd4, rfl, hxt⟩ := K
  intro H locs cells slots ls hR hS hc1 hc2 hc hl
  exact lv_icmp_ge hx hb hd ht (fun q => kt q H locs cells slots ls hR hS hc1 hc2 hc hl) (fun q => kf q H locs cells slots ls hR hS hc1 hc2 hc hl)
theorem jr_if_ge (K : jOK G l M dep X) {x : Int32} {off : Int} {tgt : Nat} (hd : decode M.2.1 pc = .ok (.ifCond .ge off, 3)) (ht : (pc : Int) + off = (tgt : Int)) (kt : 0 ≤ x → jJ G X h kc ks (tgt) L (st)) (kf : ¬ 0 ≤ x → jJ G X h kc ks (pc + 3) L (st)) : jJ G X h kc ks (pc) L (.int x :: st) := by
  obtain ⟨p, l9, e, R, s, m, args, below, meth, c, mc, ms, Q⟩ := X
  obtain ⟨hx, hb, hml, hr, hown, hts, hlk, hin, hE, hbs, hd1, hd2, hd3, hd4, rfl, hxt⟩ := K
  intro H locs cells slots ls hR hS hc1 hc2 hc hl
  exact lv_if_ge hx hb hd ht (fun q => kt q H locs cells slots ls hR hS hc1 hc2 hc hl) (fun q => kf q H locs cells slots ls hR hS hc1 hc2 hc hl)
theorem jr_icmp_gt (K : jOK G l M dep X) {x y : Int32} {off : Int} {tgt : Nat} (hd : decode M.2.1 pc = .ok (.if_icmp .gt off, 3)) (ht : (pc : Int) + off = (tgt : Int)) (kt : y < x → jJ G X h kc ks (tgt) L (st)) (kf : ¬ y < x → jJ G X h kc ks (pc + 3) L (st)) : jJ G X h kc ks (pc) L (.int y :: .int x :: st) := by
  obtain ⟨p, l9, e, R, s, m, args, below, meth, c, mc, ms, Q⟩ := X
  obtain ⟨hx, hb, hml, hr, hown, hts, hlk, hin, hE, hbs, hd1, hd2, hd3, hd4, rfl, hxt⟩ := K
  intro H locs cells slots ls hR hS hc1 hc2 hc hl
  exact lv_icmp_gt hx hb hd ht (fun q => kt q H locs cells slots ls hR hS hc1 hc2 hc hl) (fun q => kf q H locs cells slots ls hR hS hc1 hc2 hc hl)
theorem jr_if_gt (K : jOK G l M dep X) {x : Int32} {off : Int} {tgt : Nat} (hd : decode M.2.1 pc = .ok (.ifCond .gt off, 3)) (ht : (pc : Int) + off = (tgt : Int)) (kt : 0 < x → jJ G X h kc ks (tgt) L (st)) (kf : ¬ 0 < x → jJ G X h kc ks (pc + 3) L (st)) : jJ G X h kc ks (pc) L (.int x :: st) := by
  obtain ⟨p, l9, e, R, s, m, args, below, meth, c, mc, ms, Q⟩ := X
  obtain ⟨hx, hb, hml, hr, hown, hts, hlk, hin, hE, hbs, hd1, hd2, hd3, hd4, rfl, hxt⟩ := K
  intro H locs cells slots ls hR hS hc1 hc2 hc hl
  exact lv_if_gt hx hb hd ht (fun q => kt q H locs cells slots ls hR hS hc1 hc2 hc hl) (fun q => kf q H locs cells slots ls hR hS hc1 hc2 hc hl)
theorem jr_icmp_le (K : jOK G l M dep X) {x y : Int32} {off : Int} {tgt : Nat} (hd : decode M.2.1 pc = .ok (.if_icmp .le off, 3)) (ht : (pc : Int) + off = (tgt : Int)) (kt : x ≤ y → jJ G X h kc ks (tgt) L (st)) (kf : ¬ x ≤ y → jJ G X h kc ks (pc + 3) L (st)) : jJ G X h kc ks (pc) L (.int y :: .int x :: st) := by
  obtain ⟨p, l9, e, R, s, m, args, below, meth, c, mc, ms, Q⟩ := X
  obtain ⟨hx, hb, hml, hr, hown, hts, hlk, hin, hE, hbs, hd1, hd2, hd3, hd4, rfl, hxt⟩ := K
  intro H locs cells slots ls hR hS hc1 hc2 hc hl
  exact lv_icmp_le hx hb hd ht (fun q => kt q H locs cells slots ls hR hS hc1 hc2 hc hl) (fun q => kf q H locs cells slots ls hR hS hc1 hc2 hc hl)
theorem jr_if_le (K : jOK G l M dep X) {x : Int32} {off : Int} {tgt : Nat} (hd : decode M.2.1 pc = .ok (.ifCond .le off, 3)) (ht : (pc : Int) + off = (tgt : Int)) (kt : x ≤ 0 → jJ G X h kc ks (tgt) L (st)) (kf : ¬ x ≤ 0 → jJ G X h kc ks (pc + 3) L (st)) : jJ G X h kc ks (pc) L (.int x :: st) := by
  obtain ⟨p, l9, e, R, s, m, args, below, meth, c, mc, ms, Q⟩ := X
  obtain ⟨hx, hb, hml, hr, hown, hts, hlk, hin, hE, hbs, hd1, hd2, hd3, hd4, rfl, hxt⟩ := K
  intro H locs cells slots ls hR hS hc1 hc2 hc hl
  exact lv_if_le hx hb hd ht (fun q => kt q H locs cells slots ls hR hS hc1 hc2 hc hl) (fun q => kf q H locs cells slots ls hR hS hc1 hc2 hc hl)
theorem jr_ifnonnull (K : jOK G l M dep X) {x : Nat} {off : Int} {tgt : Nat} (hd : decode M.2.1 pc = .ok (.ifnonnull off, 3)) (ht : (pc : Int) + off = (tgt : Int)) (k : jJ G X h kc ks (tgt) L (st)) : jJ G X h kc ks (pc) L (.ref x :: st) := by
  obtain ⟨p, l9, e, R, s, m, args, below, meth, c, mc, ms, Q⟩ := X
  obtain ⟨hx, hb, hml, hr, hown, hts, hlk, hin, hE, hbs, hd1, hd2, hd3, hd4, rfl, hxt⟩ := K
  intro H locs cells slots ls hR hS hc1 hc2 hc hl
  exact lv_ifnonnull hx hb hd ht (k H locs cells slots ls hR hS hc1 hc2 hc hl)
theorem jr_ifnonnullN (K : jOK G l M dep X) {off : Int} (hd : decode M.2.1 pc = .ok (.ifnonnull off, 3)) (k : jJ G X h kc ks (pc + 3) L (st)) : jJ G X h kc ks (pc) L (.null :: st) := by
  obtain ⟨p, l9, e, R, s, m, args, below, meth, c, mc, ms, Q⟩ := X
  obtain ⟨hx, hb, hml, hr, hown, hts, hlk, hin, hE, hbs, hd1, hd2, hd3, hd4, rfl, hxt⟩ := K
  intro H locs cells slots ls hR hS hc1 hc2 hc hl
  exact lv_ifnonnullN hx hb hd (k H locs cells slots ls hR hS hc1 hc2 hc hl)
theorem jr_ifnull (K : jOK G l M dep X) {x : Nat} {off : Int} (hd : decode M.2.1 pc = .ok (.ifnull off, 3)) (k : jJ G X h kc ks (pc + 3) L (st)) : jJ G X h kc ks (pc) L (.ref x :: st) := by
  obtain ⟨p, l9, e, R, s, m, args, below, meth, c, mc, ms, Q⟩ := X
  obtain ⟨hx, hb, hml, hr, hown, hts, hlk, hin, hE, hbs, hd1, hd2, hd3, hd4, rfl, hxt⟩ := K
  intro H locs cells slots ls hR hS hc1 hc2 hc hl
  exact lv_ifnull hx hb hd (k H locs cells slots ls hR hS hc1 hc2 hc hl)
theorem jr_ifnullN (K : jOK G l M dep X) {off : Int} {tgt : Nat} (hd : decode M.2.1 pc = .ok (.ifnull off, 3)) (ht : (pc : Int) + off = (tgt : Int)) (k : jJ G X h kc ks (tgt) L (st)) : jJ G X h kc ks (pc) L (.null :: st) := by
  obtain ⟨p, l9, e, R, s, m, args, below, meth, c, mc, ms, Q⟩ := X
  obtain ⟨hx, hb, hml, hr, hown, hts, hlk, hin, hE, hbs, hd1, hd2, hd3, hd4, rfl, hxt⟩ := K
  intro H locs cells slots ls hR hS hc1 hc2 hc hl
  exact lv_ifnullN hx hb hd ht (k H locs cells slots ls hR hS hc1 hc2 hc hl)
theorem jr_tableIn (K : jOK G l M dep X) {dflt lo hi : Int} {offs : Array Int} {len : Nat} {x : Int32} {off : Int} {tgt : Nat} (hd : decode M.2.1 pc = .ok (.tableswitch dflt lo hi offs, len)) (h1 : ¬ x.toInt < lo) (h2 : ¬ hi < x.toInt) (ho : offs[(x.toInt - lo).toNat]? = some off) (ht : (pc : Int) + off = (tgt : Int)) (k : jJ G X h kc ks (tgt) L (st)) : jJ G X h kc ks (pc) L (.int x :: st) := by
  obtain ⟨p, l9, e, R, s, m, args, below, meth, c, mc, ms, Q⟩ := X
  obtain ⟨hx, hb, hml, hr, hown, hts, hlk, hin, hE, hbs, hd1, hd2, hd3, hd4, rfl, hxt⟩ := K
  intro H locs cells slots ls hR hS hc1 hc2 hc hl
  exact lv_tableIn hx hb hd h1 h2 ho ht (k H locs cells slots ls hR hS hc1 hc2 hc hl)
theorem jr_tableOut (K : jOK G l M dep X) {dflt lo hi : Int} {offs : Array Int} {len : Nat} {x : Int32} {tgt : Nat} (hd : decode M.2.1 pc = .ok (.tableswitch dflt lo hi offs, len)) (h1 : x.toInt < lo ∨ hi < x.toInt) (ht : (pc : Int) + dflt = (tgt : Int)) (k : jJ G X h kc ks (tgt) L (st)) : jJ G X h kc ks (pc) L (.int x :: st) := by
  obtain ⟨p, l9, e, R, s, m, args, below, meth, c, mc, ms, Q⟩ := X
  obtain ⟨hx, hb, hml, hr, hown, hts, hlk, hin, hE, hbs, hd1, hd2, hd3, hd4, rfl, hxt⟩ := K
  intro H locs cells slots ls hR hS hc1 hc2 hc hl
  exact lv_tableOut hx hb hd h1 ht (k H locs cells slots ls hR hS hc1 hc2 hc hl)
theorem jr_lookup (K : jOK G l M dep X) {dflt : Int} {ps : Array (Int × Int)} {len : Nat} {x : Int32} {off : Int} {tgt : Nat} (hd : decode M.2.1 pc = .ok (.lookupswitch dflt ps, len)) (hp : (ps.toList.zip (ps.toList.drop 1)).all (fun (a, next) => a.1 < next.1) = true) (ho : Op.lookupswitch.offset ps.toList dflt x.toInt = off) (ht : (pc : Int) + off = (tgt : Int)) (k : jJ G X h kc ks (tgt) L (st)) : jJ G X h kc ks (pc) L (.int x :: st) := by
  obtain ⟨p, l9, e, R, s, m, args, below, meth, c, mc, ms, Q⟩ := X
  obtain ⟨hx, hb, hml, hr, hown, hts, hlk, hin, hE, hbs, hd1, hd2, hd3, hd4, rfl, hxt⟩ := K
  intro H locs cells slots ls hR hS hc1 hc2 hc hl
  exact lv_lookup hx hb hd hp ho ht (k H locs cells slots ls hR hS hc1 hc2 hc hl)
end JR
