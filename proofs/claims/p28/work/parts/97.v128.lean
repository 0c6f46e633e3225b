def jlq (h h1 : jH) : Prop := ∀ (b : Nat) (v : Int32), jlen h b = some v → jlen h1 b = some v
theorem jlq_rfl {h : jH} : jlq h h := fun _ _ e => e
theorem jlq_tr {h h1 h2 : jH} (a : jlq h h1) (b : jlq h1 h2) : jlq h h2 := fun x v e => b x v (a x v e)
theorem lm_pf {c : Nat} {h h1 : jH} {a k : Nat} {v : Value} (e : jpf c h a k v = some h1) : jlq h h1 := by
  obtain ⟨fs, e1, -, rfl⟩ := jpf_o e
  intro b w e2
  unfold jlen at e2 ⊢
  show (match (if b = a then some _ else h.2 b) with | some (.inr (.inl x)) => if x.1 < 3 then some (Int32.ofNat x.2.1) else none | _ => none) = _
  by_cases hb : b = a
  · subst hb
    rw [e1] at e2
    cases e2
  · rw [if_neg hb]
    exact e2
theorem lm_as {t a : Nat} {i x : Int32} {h h1 : jH} (e : jas t h a i x = some h1) : jlq h h1 := by
  obtain ⟨n, f, e1, -, -, rfl⟩ := jas_o e
  intro b w e2
  unfold jlen at e2 ⊢
  show (match (if b = a then some _ else h.2 b) with | some (.inr (.inl x)) => if x.1 < 3 then some (Int32.ofNat x.2.1) else none | _ => none) = _
  by_cases hb : b = a
  · subst hb
    rw [if_pos rfl]
    rw [e1] at e2
    exact e2
  · rw [if_neg hb]
    exact e2
theorem lm_cp {a0 a : Nat} {sp dp n : Int32} {h h1 : jH} (e : jcp h a0 sp a dp n = some h1) : jlq h h1 := by
  obtain ⟨n0, f, n1, g, e0, e1, -, -, -, -, -, rfl⟩ := jcp_o e
  intro b w e2
  unfold jlen at e2 ⊢
  show (match (if b = a then some _ else h.2 b) with | some (.inr (.inl x)) => if x.1 < 3 then some (Int32.ofNat x.2.1) else none | _ => none) = _
  by_cases hb : b = a
  · subst hb
    rw [if_pos rfl]
    rw [e1] at e2
    exact e2
  · rw [if_neg hb]
    exact e2
theorem Ln_X10_take {n : Nat} {a0 : Nat} {x1 : Int32} {h : jH} {q : (Int32 × jH)} (hf : F_X10_take n a0 x1 h = some q) : jlq h q.2 := by
  unfold F_X10_take at hf
  obtain ⟨v1, e1, hf⟩ := jbind hf
  obtain ⟨v5, e2, hf⟩ := jbind hf
  split at hf
  · cases hf
    exact jlq_rfl
  · obtain ⟨p12, e4, hf⟩ := jbind hf
    obtain ⟨v16, e5, hf⟩ := jbind hf
    obtain ⟨v19, e6, hf⟩ := jbind hf
    split at hf
    · obtain ⟨v28, e8, hf⟩ := jbind hf
      obtain ⟨h33, e9, hf⟩ := jbind hf
      cases hf
      have z9 := (lm_pf e9)
      exact z9
    · cases hf
      exact jlq_rfl
theorem Ln_X10_takeNumber {n : Nat} {a0 : Nat} {x1 : Int32} {x2 : Int32} {h : jH} {q : (Int32 × jH)} (hf : F_X10_takeNumber n a0 x1 x2 h = some q) : jlq h q.2 := by
  unfold F_X10_takeNumber at hf
  obtain ⟨v1, e1, hf⟩ := jbind hf
  obtain ⟨v5, e2, hf⟩ := jbind hf
  split at hf
  · cases hf
    exact jlq_rfl
  · obtain ⟨p12, e4, hf⟩ := jbind hf
    obtain ⟨v16, e5, hf⟩ := jbind hf
    obtain ⟨v19, e6, hf⟩ := jbind hf
    split at hf
    · obtain ⟨p26, e8, hf⟩ := jbind hf
      obtain ⟨v30, e9, hf⟩ := jbind hf
      obtain ⟨v33, e10, hf⟩ := jbind hf
      split at hf
      · cases hf
        exact jlq_rfl
      · obtain ⟨p39, e12, hf⟩ := jbind hf
        obtain ⟨v43, e13, hf⟩ := jbind hf
        obtain ⟨v46, e14, hf⟩ := jbind hf
        split at hf
        · obtain ⟨v55, e16, hf⟩ := jbind hf
          obtain ⟨h60, e17, hf⟩ := jbind hf
          obtain ⟨p64, e18, hf⟩ := jbind hf
          obtain ⟨v68, e19, hf⟩ := jbind hf
          obtain ⟨v73, e20, hf⟩ := jbind hf
          cases hf
          have z9 := (lm_pf e17)
          exact z9
        · cases hf
          exact jlq_rfl
    · cases hf
      exact jlq_rfl
theorem Ln_X10_skip {n : Nat} {a0 : Nat} {h : jH} {q : jH} (hf : F_X10_skip n a0 h = some q) : jlq h q := by
  unfold F_X10_skip at hf
  obtain ⟨v1, e1, hf⟩ := jbind hf
  obtain ⟨v5, e2, hf⟩ := jbind hf
  split at hf
  · cases hf
    exact jlq_rfl
  · obtain ⟨v13, e4, hf⟩ := jbind hf
    obtain ⟨h18, e5, hf⟩ := jbind hf
    cases hf
    have z9 := (lm_pf e5)
    exact z9
theorem Ln_X8_add {n : Nat} {a0 : Nat} {x1 : Int32} {x2 : Int32} {h : jH} {q : jH} (hf : F_X8_add n a0 x1 x2 h = some q) : jlq h q := by
  unfold F_X8_add at hf
  obtain ⟨v1, e1, hf⟩ := jbind hf
  split at hf
  · obtain ⟨p11, e3, hf⟩ := jbind hf
    obtain ⟨v15, e4, hf⟩ := jbind hf
    obtain ⟨h19, e5, hf⟩ := jbind hf
    obtain ⟨p21, e6, hf⟩ := jbind hf
    obtain ⟨v25, e7, hf⟩ := jbind hf
    obtain ⟨h29, e8, hf⟩ := jbind hf
    obtain ⟨p31, e9, hf⟩ := jbind hf
    obtain ⟨v35, e10, hf⟩ := jbind hf
    obtain ⟨h39, e11, hf⟩ := jbind hf
    obtain ⟨p41, e12, hf⟩ := jbind hf
    obtain ⟨v45, e13, hf⟩ := jbind hf
    obtain ⟨h49, e14, hf⟩ := jbind hf
    obtain ⟨v52, e15, hf⟩ := jbind hf
    obtain ⟨v56, e16, hf⟩ := jbind hf
    obtain ⟨v60, e17, hf⟩ := jbind hf
    obtain ⟨h63, e18, hf⟩ := jbind hf
    obtain ⟨v68, e19, hf⟩ := jbind hf
    obtain ⟨v72, e20, hf⟩ := jbind hf
    obtain ⟨v76, e21, hf⟩ := jbind hf
    obtain ⟨h79, e22, hf⟩ := jbind hf
    obtain ⟨v84, e23, hf⟩ := jbind hf
    obtain ⟨v88, e24, hf⟩ := jbind hf
    obtain ⟨v92, e25, hf⟩ := jbind hf
    obtain ⟨h95, e26, hf⟩ := jbind hf
    obtain ⟨v100, e27, hf⟩ := jbind hf
    obtain ⟨v104, e28, hf⟩ := jbind hf
    obtain ⟨v108, e29, hf⟩ := jbind hf
    obtain ⟨h111, e30, hf⟩ := jbind hf
    obtain ⟨v116, e31, hf⟩ := jbind hf
    obtain ⟨h121, e32, hf⟩ := jbind hf
    cases hf
    have z9 := (jlq_tr (jlq_tr (jlq_tr (jlq_tr (jlq_tr (jlq_tr (jlq_tr (jlq_tr (lm_as e5) (lm_as e8)) (lm_as e11)) (lm_as e14)) (lm_pf e18)) (lm_pf e22)) (lm_pf e26)) (lm_pf e30)) (lm_pf e32))
    exact z9
  · cases hf
    exact jlq_rfl
theorem Ln_X9_readMore {n : Nat} {a0 : Nat} {x1 : Int32} {a2 : Nat} {x3 : Int32} {x4 : Int32} {h : jH} {q : (Int32 × jH)} (hf : F_X9_readMore n a0 x1 a2 x3 x4 h = some q) : jlq h q.2 := by
  unfold F_X9_readMore at hf
  obtain ⟨v2, e1, hf⟩ := jbind hf
  split at hf
  · cases hf
    exact jlq_rfl
  · obtain ⟨p7, e3, hf⟩ := jbind hf
    obtain ⟨q11, e4, hf⟩ := jbind hf
    obtain ⟨-, e4⟩ := jcv_o e4
    split at hf
    · cases hf
      have z9 := (Ln_X10_take e4)
      exact z9
    · obtain ⟨p20, e6, hf⟩ := jbind hf
      obtain ⟨q26, e7, hf⟩ := jbind hf
      obtain ⟨-, e7⟩ := jcv_o e7
      obtain ⟨h35, e8, hf⟩ := jbind hf
      split at hf
      · cases hf
        have z9 := (jlq_tr (jlq_tr (Ln_X10_take e4) (Ln_X10_takeNumber e7)) (lm_as e8))
        exact z9
      · cases hf
        have z9 := (jlq_tr (jlq_tr (Ln_X10_take e4) (Ln_X10_takeNumber e7)) (lm_as e8))
        exact z9
theorem Ln_X9_readRing {n : Nat} {a0 : Nat} {h : jH} {q : (Int32 × jH)} (hf : F_X9_readRing n a0 h = some q) : jlq h q.2 := by
  unfold F_X9_readRing at hf
  obtain ⟨p1, e1, hf⟩ := jbind hf
  obtain ⟨q6, e2, hf⟩ := jbind hf
  obtain ⟨-, e2⟩ := jcv_o e2
  split at hf
  · cases hf
    have z9 := (Ln_X10_take e2)
    exact z9
  · obtain ⟨p15, e4, hf⟩ := jbind hf
    obtain ⟨p19, e5, hf⟩ := jbind hf
    obtain ⟨v22, e6, hf⟩ := jbind hf
    obtain ⟨-, e6⟩ := jcv_o e6
    obtain ⟨p26, e7, hf⟩ := jbind hf
    obtain ⟨v29, e8, hf⟩ := jbind hf
    obtain ⟨-, e8⟩ := jcv_o e8
    obtain ⟨q32, e9, hf⟩ := jbind hf
    obtain ⟨-, e9⟩ := jcv_o e9
    split at hf
    · cases hf
      have z9 := (jlq_tr (Ln_X10_take e2) (Ln_X10_takeNumber e9))
      exact z9
    · obtain ⟨p42, e11, hf⟩ := jbind hf
      obtain ⟨q47, e12, hf⟩ := jbind hf
      obtain ⟨-, e12⟩ := jcv_o e12
      split at hf
      · cases hf
        have z9 := (jlq_tr (jlq_tr (Ln_X10_take e2) (Ln_X10_takeNumber e9)) (Ln_X10_take e12))
        exact z9
      · obtain ⟨p56, e14, hf⟩ := jbind hf
        obtain ⟨q62, e15, hf⟩ := jbind hf
        obtain ⟨-, e15⟩ := jcv_o e15
        split at hf
        · cases hf
          have z9 := (jlq_tr (jlq_tr (jlq_tr (Ln_X10_take e2) (Ln_X10_takeNumber e9)) (Ln_X10_take e12)) (Ln_X10_takeNumber e15))
          exact z9
        · obtain ⟨p74, e17, hf⟩ := jbind hf
          obtain ⟨v77, e18, hf⟩ := jbind hf
          obtain ⟨p82, e19, hf⟩ := jbind hf
          obtain ⟨h87, e20, hf⟩ := jbind hf
          obtain ⟨-, e20⟩ := jcv_o e20
          obtain ⟨p91, e21, hf⟩ := jbind hf
          obtain ⟨p95, e22, hf⟩ := jbind hf
          obtain ⟨v98, e23, hf⟩ := jbind hf
          obtain ⟨p103, e24, hf⟩ := jbind hf
          obtain ⟨q108, e25, hf⟩ := jbind hf
          obtain ⟨-, e25⟩ := jcv_o e25
          obtain ⟨v111, e26, hf⟩ := jbind hf
          obtain ⟨h114, e27, hf⟩ := jbind hf
          obtain ⟨p118, e28, hf⟩ := jbind hf
          obtain ⟨p122, e29, hf⟩ := jbind hf
          obtain ⟨v125, e30, hf⟩ := jbind hf
          obtain ⟨p130, e31, hf⟩ := jbind hf
          obtain ⟨q135, e32, hf⟩ := jbind hf
          obtain ⟨-, e32⟩ := jcv_o e32
          obtain ⟨v138, e33, hf⟩ := jbind hf
          obtain ⟨h141, e34, hf⟩ := jbind hf
          obtain ⟨p147, e35, hf⟩ := jbind hf
          obtain ⟨p150, e36, hf⟩ := jbind hf
          obtain ⟨q156, e37, hf⟩ := jbind hf
          obtain ⟨-, e37⟩ := jcv_o e37
          split at hf
          · cases hf
            have z9 := (jlq_tr (jlq_tr (jlq_tr (jlq_tr (jlq_tr (jlq_tr (jlq_tr (jlq_tr (jlq_tr (Ln_X10_take e2) (Ln_X10_takeNumber e9)) (Ln_X10_take e12)) (Ln_X10_takeNumber e15)) (Ln_X8_add e20)) (Ln_X10_take e25)) (lm_pf e27)) (Ln_X10_take e32)) (lm_pf e34)) (Ln_X9_readMore e37))
            exact z9
          · obtain ⟨p165, e39, hf⟩ := jbind hf
            obtain ⟨p168, e40, hf⟩ := jbind hf
            obtain ⟨q174, e41, hf⟩ := jbind hf
            obtain ⟨-, e41⟩ := jcv_o e41
            split at hf
            · cases hf
              have z9 := (jlq_tr (jlq_tr (jlq_tr (jlq_tr (jlq_tr (jlq_tr (jlq_tr (jlq_tr (jlq_tr (jlq_tr (Ln_X10_take e2) (Ln_X10_takeNumber e9)) (Ln_X10_take e12)) (Ln_X10_takeNumber e15)) (Ln_X8_add e20)) (Ln_X10_take e25)) (lm_pf e27)) (Ln_X10_take e32)) (lm_pf e34)) (Ln_X9_readMore e37)) (Ln_X9_readMore e41))
              exact z9
            · cases hf
              have z9 := (jlq_tr (jlq_tr (jlq_tr (jlq_tr (jlq_tr (jlq_tr (jlq_tr (jlq_tr (jlq_tr (jlq_tr (Ln_X10_take e2) (Ln_X10_takeNumber e9)) (Ln_X10_take e12)) (Ln_X10_takeNumber e15)) (Ln_X8_add e20)) (Ln_X10_take e25)) (lm_pf e27)) (Ln_X10_take e32)) (lm_pf e34)) (Ln_X9_readMore e37)) (Ln_X9_readMore e41))
              exact z9
theorem Ln_X9_keepNumber {n : Nat} {a0 : Nat} {x1 : Int32} {x2 : Int32} {h : jH} {q : jH} (hf : F_X9_keepNumber n a0 x1 x2 h = some q) : jlq h q := by
  unfold F_X9_keepNumber at hf
  split at hf
  · obtain ⟨p119, e2, hf⟩ := jbind hf
    obtain ⟨h123, e3, hf⟩ := jbind hf
    cases hf
    have z9 := (lm_pf e3)
    exact z9
  · split at hf
    · obtain ⟨p53, e5, hf⟩ := jbind hf
      obtain ⟨p57, e6, hf⟩ := jbind hf
      obtain ⟨v60, e7, hf⟩ := jbind hf
      obtain ⟨v65, e8, hf⟩ := jbind hf
      obtain ⟨h68, e9, hf⟩ := jbind hf
      cases hf
      have z9 := (lm_pf e9)
      exact z9
    · split at hf
      · obtain ⟨p75, e11, hf⟩ := jbind hf
        obtain ⟨p79, e12, hf⟩ := jbind hf
        obtain ⟨v82, e13, hf⟩ := jbind hf
        obtain ⟨v87, e14, hf⟩ := jbind hf
        obtain ⟨h90, e15, hf⟩ := jbind hf
        cases hf
        have z9 := (lm_pf e15)
        exact z9
      · split at hf
        · obtain ⟨p97, e17, hf⟩ := jbind hf
          obtain ⟨h101, e18, hf⟩ := jbind hf
          cases hf
          have z9 := (lm_pf e18)
          exact z9
        · split at hf
          · obtain ⟨p108, e20, hf⟩ := jbind hf
            obtain ⟨h112, e21, hf⟩ := jbind hf
            cases hf
            have z9 := (lm_pf e21)
            exact z9
          · obtain ⟨p130, e22, hf⟩ := jbind hf
            obtain ⟨h134, e23, hf⟩ := jbind hf
            cases hf
            have z9 := (lm_pf e23)
            exact z9
theorem Ln_X9_readNumber {n : Nat} {a0 : Nat} {x1 : Int32} {h : jH} {q : (Int32 × jH)} (hf : F_X9_readNumber n a0 x1 h = some q) : jlq h q.2 := by
  unfold F_X9_readNumber at hf
  split at hf
  · obtain ⟨p74, e2, hf⟩ := jbind hf
    obtain ⟨q80, e3, hf⟩ := jbind hf
    obtain ⟨-, e3⟩ := jcv_o e3
    cases hf
    have z9 := (Ln_X10_takeNumber e3)
    exact z9
  · split at hf
    · obtain ⟨p85, e5, hf⟩ := jbind hf
      obtain ⟨q92, e6, hf⟩ := jbind hf
      obtain ⟨-, e6⟩ := jcv_o e6
      cases hf
      have z9 := (Ln_X10_takeNumber e6)
      exact z9
    · split at hf
      · obtain ⟨p45, e8, hf⟩ := jbind hf
        obtain ⟨p50, e9, hf⟩ := jbind hf
        obtain ⟨v53, e10, hf⟩ := jbind hf
        obtain ⟨q58, e11, hf⟩ := jbind hf
        obtain ⟨-, e11⟩ := jcv_o e11
        cases hf
        have z9 := (Ln_X10_takeNumber e11)
        exact z9
      · split at hf
        · obtain ⟨p63, e13, hf⟩ := jbind hf
          obtain ⟨q69, e14, hf⟩ := jbind hf
          obtain ⟨-, e14⟩ := jcv_o e14
          cases hf
          have z9 := (Ln_X10_takeNumber e14)
          exact z9
        · obtain ⟨p97, e15, hf⟩ := jbind hf
          obtain ⟨q103, e16, hf⟩ := jbind hf
          obtain ⟨-, e16⟩ := jcv_o e16
          cases hf
          have z9 := (Ln_X10_takeNumber e16)
          exact z9
theorem Ln_X9_readLine_33 {n : Nat} {a0 : Nat} {x1 : Int32} {h : jH} {q : (Int32 × jH)} (hf : F_X9_readLine_33 n a0 x1 h = some q) : jlq h q.2 := by
  unfold F_X9_readLine_33 at hf
  obtain ⟨p34, e1, hf⟩ := jbind hf
  obtain ⟨h37, e2, hf⟩ := jbind hf
  obtain ⟨-, e2⟩ := jcv_o e2
  split at hf
  · obtain ⟨q45, e4, hf⟩ := jbind hf
    obtain ⟨-, e4⟩ := jcv_o e4
    split at hf
    · cases hf
      have z9 := (jlq_tr (Ln_X10_skip e2) (Ln_X9_readRing e4))
      exact z9
    · cases hf
  · obtain ⟨q51, e6, hf⟩ := jbind hf
    obtain ⟨-, e6⟩ := jcv_o e6
    split at hf
    · cases hf
      have z9 := (jlq_tr (Ln_X10_skip e2) (Ln_X9_readNumber e6))
      exact z9
    · obtain ⟨h65, e8, hf⟩ := jbind hf
      obtain ⟨-, e8⟩ := jcv_o e8
      cases hf
      have z9 := (jlq_tr (jlq_tr (Ln_X10_skip e2) (Ln_X9_readNumber e6)) (Ln_X9_keepNumber e8))
      exact z9
theorem Ln_X9_readLine {n : Nat} {a0 : Nat} {h : jH} {q : (Int32 × jH)} (hf : F_X9_readLine n a0 h = some q) : jlq h q.2 := by
  unfold F_X9_readLine at hf
  obtain ⟨p1, e1, hf⟩ := jbind hf
  obtain ⟨v4, e2, hf⟩ := jbind hf
  obtain ⟨-, e2⟩ := jcv_o e2
  obtain ⟨v9, e3, hf⟩ := jbind hf
  split at hf
  · cases hf
    exact jlq_rfl
  · split at hf
    · obtain ⟨p20, e6, hf⟩ := jbind hf
      obtain ⟨v23, e7, hf⟩ := jbind hf
      split at hf
      · exact (Ln_X9_readLine_33 hf)
      · cases hf
        exact jlq_rfl
    · exact (Ln_X9_readLine_33 hf)
theorem Ln_X10_scanThing {n : Nat} {a0 : Nat} {x1 : Int32} {h : jH} {q : (Int32 × jH)} (hf : F_X10_scanThing n a0 x1 h = some q) : jlq h q.2 := by
  unfold F_X10_scanThing at hf
  obtain ⟨v6, e1, hf⟩ := jbind hf
  obtain ⟨-, e1⟩ := jcv_o e1
  split at hf
  · obtain ⟨v38, e3, hf⟩ := jbind hf
    obtain ⟨-, e3⟩ := jcv_o e3
    split at hf
    · obtain ⟨v77, e5, hf⟩ := jbind hf
      obtain ⟨-, e5⟩ := jcv_o e5
      obtain ⟨p82, e6, hf⟩ := jbind hf
      obtain ⟨v86, e7, hf⟩ := jbind hf
      split at hf
      · obtain ⟨h101, e9, hf⟩ := jbind hf
        cases hf
        have z9 := (lm_as e9)
        exact z9
      · obtain ⟨h101, e10, hf⟩ := jbind hf
        cases hf
        have z9 := (lm_as e10)
        exact z9
    · obtain ⟨p48, e11, hf⟩ := jbind hf
      obtain ⟨v52, e12, hf⟩ := jbind hf
      obtain ⟨h57, e13, hf⟩ := jbind hf
      obtain ⟨p59, e14, hf⟩ := jbind hf
      obtain ⟨v63, e15, hf⟩ := jbind hf
      obtain ⟨v69, e16, hf⟩ := jbind hf
      obtain ⟨-, e16⟩ := jcv_o e16
      obtain ⟨h72, e17, hf⟩ := jbind hf
      cases hf
      have z9 := (jlq_tr (lm_as e13) (lm_as e17))
      exact z9
  · obtain ⟨p16, e18, hf⟩ := jbind hf
    obtain ⟨v20, e19, hf⟩ := jbind hf
    obtain ⟨v26, e20, hf⟩ := jbind hf
    obtain ⟨-, e20⟩ := jcv_o e20
    obtain ⟨h29, e21, hf⟩ := jbind hf
    cases hf
    have z9 := (lm_as e21)
    exact z9
theorem Ln_X10_scan_12 {n : Nat} {k : Nat} : ∀ {a0 : Nat} {x1 : Int32} {h : jH} {q : jH}, F_X10_scan_12 n k a0 x1 h = some q → jlq h q := by
  induction k with
  | zero =>
    intro a0 x1 h q hf
    cases hf
  | succ k ih =>
    intro a0 x1 h q hf
    replace hf : F_X10_scan_12_b n (F_X10_scan_12 n k) a0 x1 h = some q := hf
    unfold F_X10_scan_12_b at hf
    obtain ⟨v14, e1, hf⟩ := jbind hf
    split at hf
    · cases hf
      exact jlq_rfl
    · obtain ⟨v21, e3, hf⟩ := jbind hf
      split at hf
      · cases hf
        exact jlq_rfl
      · obtain ⟨v36, e5, hf⟩ := jbind hf
        obtain ⟨-, e5⟩ := jcv_o e5
        split at hf
        · exact (ih hf)
        · obtain ⟨q46, e7, hf⟩ := jbind hf
          obtain ⟨-, e7⟩ := jcv_o e7
          obtain ⟨p51, e8, hf⟩ := jbind hf
          obtain ⟨v55, e9, hf⟩ := jbind hf
          obtain ⟨h59, e10, hf⟩ := jbind hf
          obtain ⟨v62, e11, hf⟩ := jbind hf
          obtain ⟨h67, e12, hf⟩ := jbind hf
          exact (jlq_tr (jlq_tr (jlq_tr (Ln_X10_scanThing e7) (lm_as e10)) (lm_pf e12)) (ih hf))
theorem Ln_X10_scan {n : Nat} {a0 : Nat} {h : jH} {q : jH} (hf : F_X10_scan n a0 h = some q) : jlq h q := by
  unfold F_X10_scan at hf
  obtain ⟨h2, e1, hf⟩ := jbind hf
  obtain ⟨h7, e2, hf⟩ := jbind hf
  exact (jlq_tr (jlq_tr (lm_pf e1) (lm_pf e2)) (Ln_X10_scan_12 hf))
theorem Ln_X8_hangAs {n : Nat} {a0 : Nat} {a1 : Nat} {h : jH} {q : jH} (hf : F_X8_hangAs n a0 a1 h = some q) : jlq h q := by
  unfold F_X8_hangAs at hf
  obtain ⟨p1, e1, hf⟩ := jbind hf
  obtain ⟨p6, e2, hf⟩ := jbind hf
  obtain ⟨h12, e3, hf⟩ := jbind hf
  obtain ⟨v17, e4, hf⟩ := jbind hf
  obtain ⟨h20, e5, hf⟩ := jbind hf
  obtain ⟨v25, e6, hf⟩ := jbind hf
  obtain ⟨h28, e7, hf⟩ := jbind hf
  cases hf
  have z9 := (jlq_tr (jlq_tr (lm_cp e3) (lm_pf e5)) (lm_pf e7))
  exact z9
theorem Ln_X5_copyFrom {n : Nat} {a0 : Nat} {a1 : Nat} {h : jH} {q : jH} (hf : F_X5_copyFrom n a0 a1 h = some q) : jlq h q := by
  unfold F_X5_copyFrom at hf
  obtain ⟨p1, e1, hf⟩ := jbind hf
  obtain ⟨p6, e2, hf⟩ := jbind hf
  obtain ⟨h12, e3, hf⟩ := jbind hf
  obtain ⟨v17, e4, hf⟩ := jbind hf
  obtain ⟨h20, e5, hf⟩ := jbind hf
  obtain ⟨v25, e6, hf⟩ := jbind hf
  obtain ⟨h28, e7, hf⟩ := jbind hf
  cases hf
  have z9 := (jlq_tr (jlq_tr (lm_cp e3) (lm_pf e5)) (lm_pf e7))
  exact z9
theorem Ln_X8_copyFrom {n : Nat} {a0 : Nat} {a1 : Nat} {h : jH} {q : jH} (hf : F_X8_copyFrom n a0 a1 h = some q) : jlq h q := by
  unfold F_X8_copyFrom at hf
  obtain ⟨p1, e1, hf⟩ := jbind hf
  obtain ⟨p6, e2, hf⟩ := jbind hf
  obtain ⟨h12, e3, hf⟩ := jbind hf
  obtain ⟨p16, e4, hf⟩ := jbind hf
  obtain ⟨p21, e5, hf⟩ := jbind hf
  obtain ⟨h27, e6, hf⟩ := jbind hf
  obtain ⟨p31, e7, hf⟩ := jbind hf
  obtain ⟨p36, e8, hf⟩ := jbind hf
  obtain ⟨h42, e9, hf⟩ := jbind hf
  obtain ⟨p46, e10, hf⟩ := jbind hf
  obtain ⟨p50, e11, hf⟩ := jbind hf
  obtain ⟨h53, e12, hf⟩ := jbind hf
  obtain ⟨-, e12⟩ := jcv_o e12
  obtain ⟨v58, e13, hf⟩ := jbind hf
  obtain ⟨h61, e14, hf⟩ := jbind hf
  obtain ⟨v66, e15, hf⟩ := jbind hf
  obtain ⟨h69, e16, hf⟩ := jbind hf
  obtain ⟨v74, e17, hf⟩ := jbind hf
  obtain ⟨h77, e18, hf⟩ := jbind hf
  obtain ⟨v82, e19, hf⟩ := jbind hf
  obtain ⟨h85, e20, hf⟩ := jbind hf
  obtain ⟨v90, e21, hf⟩ := jbind hf
  obtain ⟨h93, e22, hf⟩ := jbind hf
  obtain ⟨v98, e23, hf⟩ := jbind hf
  obtain ⟨h101, e24, hf⟩ := jbind hf
  obtain ⟨v106, e25, hf⟩ := jbind hf
  obtain ⟨h109, e26, hf⟩ := jbind hf
  obtain ⟨v114, e27, hf⟩ := jbind hf
  obtain ⟨h117, e28, hf⟩ := jbind hf
  obtain ⟨v122, e29, hf⟩ := jbind hf
  obtain ⟨h125, e30, hf⟩ := jbind hf
  obtain ⟨v130, e31, hf⟩ := jbind hf
  obtain ⟨h133, e32, hf⟩ := jbind hf
  obtain ⟨v138, e33, hf⟩ := jbind hf
  obtain ⟨h141, e34, hf⟩ := jbind hf
  obtain ⟨h146, e35, hf⟩ := jbind hf
  obtain ⟨-, e35⟩ := jcv_o e35
  cases hf
  have z9 := (jlq_tr (jlq_tr (jlq_tr (jlq_tr (jlq_tr (jlq_tr (jlq_tr (jlq_tr (jlq_tr (jlq_tr (jlq_tr (jlq_tr (jlq_tr (jlq_tr (jlq_tr (lm_cp e3) (lm_cp e6)) (lm_cp e9)) (Ln_X5_copyFrom e12)) (lm_pf e14)) (lm_pf e16)) (lm_pf e18)) (lm_pf e20)) (lm_pf e22)) (lm_pf e24)) (lm_pf e26)) (lm_pf e28)) (lm_pf e30)) (lm_pf e32)) (lm_pf e34)) (Ln_X8_hangAs e35))
  exact z9
/-! a line of a pole's text, as the class reads it -/
/-- the reader of lines of the class at x + 34: its tape is at x + 1, its draft at x + 21 -/
def rrS (O : jO) (x : Nat) : Prop := O (x + 34) 0 = .ref (x + 1) ∧ O (x + 34) 1 = .int 14 ∧ O (x + 34) 2 = .ref (x + 21)
/-- what is left alone: all but the draft and the tape's place -/
def frD (x : Nat) (O O2 : jO) : Prop := ∀ a j : Nat, ¬ (a = x + 1 ∧ j = 5) → ¬ (x + 21 ≤ a ∧ a ≤ x + 27) → O2 a j = O a j
theorem frD_tr {x : Nat} {O O2 O3 : jO} (a : frD x O O2) (b : frD x O2 O3) : frD x O O3 := fun c k h q => (b c k h q).trans (a c k h q)
theorem frD_5 {x : Nat} {O O2 : jO} (f : ∀ a j : Nat, ¬ (a = x + 1 ∧ j = 5) → O2 a j = O a j) : frD x O O2 := fun a j h _ => f a j h
theorem frD_R {x : Nat} {O O2 : jO} (f : frR (x + 21) O O2) : frD x O O2 := fun a j _ h => f a j (by omega)
theorem frD_0 {x : Nat} {O : jO} : frD x O O := fun _ _ _ _ => rfl
theorem rrS_D {x : Nat} {O O2 : jO} (S : rrS O x) (f : frD x O O2) : rrS O2 x := ⟨(f _ _ (by omega) (by omega)).trans S.1, (f _ _ (by omega) (by omega)).trans S.2.1, (f _ _ (by omega) (by omega)).trans S.2.2⟩
theorem ck_D {O O2 : jO} {x L m k : Nat} {b : Nat → Int32} {T : Nat → Int32 × Int32} {st : Nat → Nat} (C : ck O (x + 1) b L m T st k) (f : frR (x + 21) O O2) : ck O2 (x + 1) b L m T st k := ck_fr C (fun a j h1 h2 => f a j (by omega))
theorem rodE_5 {O O2 : jO} {x : Nat} {W : jWd} (R : rodE O (x + 21) W) (f : ∀ a j : Nat, ¬ (a = x + 1 ∧ j = 5) → O2 a j = O a j) : rodE O2 (x + 21) W := rodE_fr R (fun a k h1 h2 => f a k (by omega))
/-- what the class answers to a line, r telling what is asked -/
def lnC (O : jO) (v : Int32) (x : Nat) (b : Nat → Int32) (L m : Nat) (T : Nat → Int32 × Int32) (st : Nat → Nat) (r : (Nat × jWd) ⊕ Nat) : Prop :=
  (∀ p, r = .inl p → v = 1 ∧ ck O (x + 1) b L m T st p.1 ∧ rodE O (x + 21) p.2) ∧ (∀ f, r = .inr f → v = 0 ∧ ck O (x + 1) b L m T st f ∧ rodS O (x + 21))
theorem lnC_l {O : jO} {v : Int32} {x L m k : Nat} {b : Nat → Int32} {T : Nat → Int32 × Int32} {st : Nat → Nat} {r : (Nat × jWd) ⊕ Nat} {W : jWd} (e : r = .inl (k, W)) (h : v = 1 ∧ ck O (x + 1) b L m T st k ∧ rodE O (x + 21) W) : lnC O v x b L m T st r :=
  ⟨fun p z => (by rw [e] at z; cases z; exact h), fun f z => (by rw [e] at z; cases z)⟩
theorem lnC_r {O : jO} {v : Int32} {x L m k : Nat} {b : Nat → Int32} {T : Nat → Int32 × Int32} {st : Nat → Nat} {r : (Nat × jWd) ⊕ Nat} (e : r = .inr k) (h : v = 0 ∧ ck O (x + 1) b L m T st k ∧ rodS O (x + 21)) : lnC O v x b L m T st r :=
  ⟨fun p z => (by rw [e] at z; cases z), fun f z => (by rw [e] at z; cases z; exact h)⟩
theorem E_X9_readMore {b : Nat → Int32} {L : Nat} {m : Nat} {T : Nat → Int32 × Int32} {st : Nat → Nat} {k : Nat} {x : Nat} {c : Nat} {d : Nat} {n : Nat} {a0 : Nat} {x1 : Int32} {a2 : Nat} {x3 : Int32} {x4 : Int32} {h : jH} {q : Int32 × jH} (K : ck (oc h) (x + 1) b L m T st k) (S : rrS (oc h) x) (ha : a0 = x + 34) (h2 : a2 = x + d) (hd : 24 ≤ d ∧ d ≤ 25) (h3 : x3 = nI c) (hc : c < 8) (hw : x1 ≠ -1) (hl : jlen h (x + d) = some 8) (hf : F_X9_readMore n a0 x1 a2 x3 x4 h = some q) : (((T k).1 ≠ x1 ∧ q = (1, h)) ∨ ((T k).1 = x1 ∧ nOK T (k + 1) 0 x4 ∧ q.1 = 1 ∧ ck (oc q.2) (x + 1) b L m T st (k + 2) ∧ ∃ O1, (∀ a j : Nat, ¬ (a = x + 1 ∧ j = 5) → O1 a j = oc h a j) ∧ oc q.2 = u2 O1 (x + d) c (.int (T (k + 1)).2)) ∨ ((T k).1 = x1 ∧ ¬ nOK T (k + 1) 0 x4 ∧ q.1 = 0 ∧ ck (oc q.2) (x + 1) b L m T st (k + 1) ∧ ∃ O1, (∀ a j : Nat, ¬ (a = x + 1 ∧ j = 5) → O1 a j = oc h a j) ∧ oc q.2 = u2 O1 (x + d) c (.int (-1)))) ∧ q.2.1 = h.1 := by
  unfold F_X9_readMore at hf
  subst ha
  subst h2
  replace hf := jbind hf
  obtain ⟨v2, e1, hf⟩ := hf
  replace hf := jite hf
  rcases hf with ⟨c2, hf⟩ | ⟨c2, hf⟩
  · skip
    cases hf
    -- leaf 0: ((1 : Int32), h)
    have e9 := Option.some.inj (e1.symm.trans hl)
    rw [e9, h3, Int32.le_iff_toInt_le, nI_toInt (by omega), show (8 : Int32).toInt = 8 from rfl] at c2
    omega
  · skip
    replace hf := jbind hf
    obtain ⟨p7, e3, hf⟩ := hf
    have r3 := oc_gR e3
    rw [S.1] at r3
    cases r3
    clear e3
    replace hf := jbind hf
    obtain ⟨q11, e4, hf⟩ := hf
    replace e4 := (jcv_o e4).2
    obtain ⟨r4, f4, z4⟩ := E_X10_take K hw e4
    have S0 : oc q11.2 (x + 34) 0 = .ref (x + 1) := (f4 _ _ (by omega)).trans S.1
    replace hf := jite hf
    rcases hf with ⟨c5, hf⟩ | ⟨c5, hf⟩
    · skip
      cases hf
      -- leaf 10: ((1 : Int32), q11.2)
      rcases r4 with ⟨-, y, -⟩ | ⟨y1, y2⟩
      · exact absurd (c5.symm.trans y) (by decide)
      exact ⟨Or.inl ⟨y1, by rw [y2]⟩, z4⟩
    · skip
      replace hf := jbind hf
      obtain ⟨p20, e6, hf⟩ := hf
      have r6 := oc_gR e6
      rw [S0] at r6
      cases r6
      clear e6
      replace hf := jbind hf
      obtain ⟨q26, e7, hf⟩ := hf
      replace e7 := (jcv_o e7).2
      rcases r4 with ⟨y1, y2, K2⟩ | ⟨-, y⟩
      rotate_left
      · exact absurd (by rw [y]) c5
      obtain ⟨r7, f7, z7⟩ := E_X10_takeNumber K2 e7
      replace hf := jbind hf
      obtain ⟨h35, e8, hf⟩ := hf
      obtain ⟨o8, z8, y8⟩ := oc_as e8
      rw [jnar0] at o8
      clear e8
      replace hf := jite hf
      rcases hf with ⟨c9, hf⟩ | ⟨c9, hf⟩
      · skip
        cases hf
        -- leaf 110: ((0 : Int32), h35)
        rw [h3, nI_cl (by omega)] at o8
        have F : ∀ a j : Nat, ¬ (a = x + 1 ∧ j = 5) → oc q26.2 a j = oc h a j := fun a j u => (f7 a j u).trans (f4 a j u)
        have CK : ∀ k2, ck (oc q26.2) (x + 1) b L m T st k2 → ck (oc h35) (x + 1) b L m T st k2 := fun k2 y => by rw [o8]; exact ck_fr y (fun a j h1 h2 => u2_ne (by omega))
        rcases r7 with ⟨w1, w2, w3⟩ | ⟨w1, w2⟩
        · exfalso
          rw [w2] at c9
          have := w1.2.1
          rw [c9, Int32.le_iff_toInt_le] at this
          exact absurd this (by decide)
        rw [w2] at o8
        exact ⟨Or.inr (Or.inr ⟨y1, w1, rfl, CK _ (by rw [w2]; exact K2), oc q26.2, F, by rw [w2]; exact o8⟩), z8.trans (z7.trans z4)⟩
      · skip
        cases hf
        -- leaf 111: ((1 : Int32), h35)
        rw [h3, nI_cl (by omega)] at o8
        have F : ∀ a j : Nat, ¬ (a = x + 1 ∧ j = 5) → oc q26.2 a j = oc h a j := fun a j u => (f7 a j u).trans (f4 a j u)
        have CK : ∀ k2, ck (oc q26.2) (x + 1) b L m T st k2 → ck (oc h35) (x + 1) b L m T st k2 := fun k2 y => by rw [o8]; exact ck_fr y (fun a j h1 h2 => u2_ne (by omega))
        rcases r7 with ⟨w1, w2, w3⟩ | ⟨w1, w2⟩
        rotate_left
        · exact absurd (by rw [w2]) c9
        rw [w2] at o8
        exact ⟨Or.inr (Or.inl ⟨y1, w1, rfl, CK _ w3, oc q26.2, F, o8⟩), z8.trans (z7.trans z4)⟩
