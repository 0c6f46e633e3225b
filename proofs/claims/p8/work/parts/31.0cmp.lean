/-! two longs that are one -/
theorem jr_lcmp0 {G : jG} {l : Launch} {M : jM} {dep : Nat} {X : jX} {h : jH} {kc ks pc : Nat} {L : List (Option Value)} {st : List Value} (K : jOK G l M dep X) {x y : Int64} (hd : decode M.2.1 pc = .ok (.lcmp, 1)) (hxy : x = y) (k : jJ G X h kc ks (pc + 1) L (.int (0 : Int32) :: st)) : jJ G X h kc ks pc L (.long y :: .long x :: st) := by
  subst hxy
  obtain ⟨p, l9, e, R, s, m, args, below, meth, c, mc, ms, Q⟩ := X
  obtain ⟨hx, hb, hml, hr, hown, hts, hlk, hin, hE, hbs, hd1, hd2, hd3, hd4, rfl, hxt⟩ := K
  intro H locs cells slots ls hR hS hc1 hc2 hc hl
  have kk := k H locs cells slots ls hR hS hc1 hc2 hc hl
  intro T hT X2
  obtain ⟨t, a, b⟩ := kk T hT X2
  refine ⟨t, ?_, b⟩
  jvm_step X2.here [X2.here.top, hx, hb, hd]
  exact a
