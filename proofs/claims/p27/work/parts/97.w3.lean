/-! the first state: its cells -/
theorem oc_o {h : jH} {a k : Nat} {o : Nat × List Value} (e : h.2 a = some (.inl o)) : oc h a k = o.2.getD k .null := by unfold oc; rw [e]
theorem oc_y {h : jH} {a k : Nat} {y : Nat × Nat × (Nat → Int32)} (e : h.2 a = some (.inr (.inl y))) : oc h a k = .int (y.2.2 k) := by unfold oc; rw [e]
theorem oc_r {h : jH} {a k : Nat} {y : Nat × (Nat → Option Nat)} (e : h.2 a = some (.inr (.inr (.inl y)))) : oc h a k = va_rf (y.2 k) := by unfold oc; rw [e]
def ES0 (z : Nat) : List jE := (eX11_init z ++ eX12_init (z + 40)) ++ [.inr (.inr (.inr (1, fun _ => 0)))]
theorem ES0_l (z : Nat) : ES0 z = [.inl (9, [.ref (z + 1), .ref (z + 6), .ref (z + 13), .ref (z + 19), .ref (z + 21), .ref (z + 28), .ref (z + 34), .ref (z + 35), .ref (z + 36), .ref (z + 37), .null, .null, .int (-1)]), .inl (8, [.ref ((z + 1) + 1), .ref ((z + 1) + 2), .ref ((z + 1) + 3), .ref ((z + 1) + 4), .int 0, .int 0, .int 0]), .inr (.inl (1, 400, fun _ => 0)), .inr (.inl (0, 400, fun _ => 0)), .inr (.inl (0, 400, fun _ => 0)), .inr (.inl (0, 400, fun _ => 0)), .inl (6, [.ref ((z + 6) + 1), .ref ((z + 6) + 2), .ref ((z + 6) + 3), .ref ((z + 6) + 4), .ref ((z + 6) + 5), .int 0, .int 0, .int 0, .int 0, .int 0, .int 0, .int 16, .int 8, .int 0, .int 0, .int 0, .int 1, .int 0]), .inr (.inl (0, 8, fun _ => 0)), .inr (.inl (0, 8, fun _ => 0)), .inr (.inl (0, 8, fun _ => 0)), .inr (.inl (0, 8, fun _ => 0)), .inl (4, [.ref ((z + 6) + 6), .int 0, .int 0]), .inr (.inl (0, 60, fun _ => 0)), .inl (2, [.ref ((z + 13) + 1), .ref ((z + 13) + 2), .ref ((z + 13) + 3), .ref ((z + 13) + 4), .ref ((z + 13) + 5), .int 0, .int 0, .int 0, .int 0]), .inr (.inl (0, 12, fun _ => 0)), .inr (.inl (0, 12, fun _ => 0)), .inr (.inl (0, 12, fun _ => 0)), .inr (.inl (0, 400, fun _ => 0)), .inr (.inl (0, 24, fun _ => 0)), .inl (0, [.ref ((z + 19) + 1), .int 0, .int 0]), .inr (.inr (.inl (12, fun _ => none))), .inl (6, [.ref ((z + 21) + 1), .ref ((z + 21) + 2), .ref ((z + 21) + 3), .ref ((z + 21) + 4), .ref ((z + 21) + 5), .int 0, .int 0, .int 0, .int 0, .int 0, .int 0, .int 16, .int 8, .int 0, .int 0, .int 0, .int 1, .int 0]), .inr (.inl (0, 8, fun _ => 0)), .inr (.inl (0, 8, fun _ => 0)), .inr (.inl (0, 8, fun _ => 0)), .inr (.inl (0, 8, fun _ => 0)), .inl (4, [.ref ((z + 21) + 6), .int 0, .int 0]), .inr (.inl (0, 60, fun _ => 0)), .inl (2, [.ref ((z + 28) + 1), .ref ((z + 28) + 2), .ref ((z + 28) + 3), .ref ((z + 28) + 4), .ref ((z + 28) + 5), .int 0, .int 0, .int 0, .int 0]), .inr (.inl (0, 12, fun _ => 0)), .inr (.inl (0, 12, fun _ => 0)), .inr (.inl (0, 12, fun _ => 0)), .inr (.inl (0, 400, fun _ => 0)), .inr (.inl (0, 24, fun _ => 0)), .inl (7, [.ref (z + 1), .int 14, .ref (z + 21)]), .inl (3, [.ref (z + 1), .int 12, .ref (z + 28)]), .inl (1, [.ref (z + 13), .ref (z + 21)]), .inl (5, [.ref (z + 1), .ref (z + 21), .ref ((z + 37) + 1), .ref ((z + 37) + 2), .int 0, .int 0, .int 0]), .inr (.inl (0, 128, fun _ => 0)), .inr (.inl (0, 32, fun _ => 0)), .inl (10, [.int 0, .ref ((z + 40) + 1), .ref ((z + 40) + 2), .ref ((z + 40) + 3), .ref ((z + 40) + 4), .ref ((z + 40) + 5), .int 0, .int 0, .ref ((z + 40) + 6), .int 0, .int 0, .int 0, .int 0, .int 0, .int (-1), .ref ((z + 40) + 7), .int 0, .ref ((z + 40) + 8), .int 0, .ref ((z + 40) + 9), .ref ((z + 40) + 10), .ref ((z + 40) + 11)]), .inr (.inl (0, 2133, upd (upd (upd (fun _ => 0) (5 : Int32).toNatClampNeg 16) (6 : Int32).toNatClampNeg 8) (10 : Int32).toNatClampNeg 1)), .inr (.inl (0, 1284, fun _ => 0)), .inr (.inl (0, 1284, fun _ => 0)), .inr (.inl (0, 435, fun _ => 0)), .inr (.inl (0, 5220, fun _ => 0)), .inr (.inl (1, 400, fun _ => 0)), .inr (.inl (0, 5, fun _ => 0)), .inr (.inl (0, 400, fun _ => 0)), .inr (.inl (2, 256, fun _ => 0)), .inr (.inl (0, 32, fun _ => 0)), .inr (.inl (0, 8, fun _ => 0)), .inr (.inr (.inr (1, fun _ => 0)))] := rfl
theorem C0_0 {z : Nat} {h0 h : jH} (j : jx z (ES0 z) h0 h) : h.2 (z + 0) = some (.inl (9, [.ref (z + 1), .ref (z + 6), .ref (z + 13), .ref (z + 19), .ref (z + 21), .ref (z + 28), .ref (z + 34), .ref (z + 35), .ref (z + 36), .ref (z + 37), .null, .null, .int (-1)])) := j.2.2 0 _ (by rw [ES0_l]; rfl)
theorem C0_1 {z : Nat} {h0 h : jH} (j : jx z (ES0 z) h0 h) : h.2 (z + 1) = some (.inl (8, [.ref ((z + 1) + 1), .ref ((z + 1) + 2), .ref ((z + 1) + 3), .ref ((z + 1) + 4), .int 0, .int 0, .int 0])) := j.2.2 1 _ (by rw [ES0_l]; rfl)
theorem C0_2 {z : Nat} {h0 h : jH} (j : jx z (ES0 z) h0 h) : h.2 (z + 2) = some (.inr (.inl (1, 400, fun _ => 0))) := j.2.2 2 _ (by rw [ES0_l]; rfl)
theorem C0_3 {z : Nat} {h0 h : jH} (j : jx z (ES0 z) h0 h) : h.2 (z + 3) = some (.inr (.inl (0, 400, fun _ => 0))) := j.2.2 3 _ (by rw [ES0_l]; rfl)
theorem C0_4 {z : Nat} {h0 h : jH} (j : jx z (ES0 z) h0 h) : h.2 (z + 4) = some (.inr (.inl (0, 400, fun _ => 0))) := j.2.2 4 _ (by rw [ES0_l]; rfl)
theorem C0_5 {z : Nat} {h0 h : jH} (j : jx z (ES0 z) h0 h) : h.2 (z + 5) = some (.inr (.inl (0, 400, fun _ => 0))) := j.2.2 5 _ (by rw [ES0_l]; rfl)
theorem C0_6 {z : Nat} {h0 h : jH} (j : jx z (ES0 z) h0 h) : h.2 (z + 6) = some (.inl (6, [.ref ((z + 6) + 1), .ref ((z + 6) + 2), .ref ((z + 6) + 3), .ref ((z + 6) + 4), .ref ((z + 6) + 5), .int 0, .int 0, .int 0, .int 0, .int 0, .int 0, .int 16, .int 8, .int 0, .int 0, .int 0, .int 1, .int 0])) := j.2.2 6 _ (by rw [ES0_l]; rfl)
theorem C0_7 {z : Nat} {h0 h : jH} (j : jx z (ES0 z) h0 h) : h.2 (z + 7) = some (.inr (.inl (0, 8, fun _ => 0))) := j.2.2 7 _ (by rw [ES0_l]; rfl)
theorem C0_8 {z : Nat} {h0 h : jH} (j : jx z (ES0 z) h0 h) : h.2 (z + 8) = some (.inr (.inl (0, 8, fun _ => 0))) := j.2.2 8 _ (by rw [ES0_l]; rfl)
theorem C0_9 {z : Nat} {h0 h : jH} (j : jx z (ES0 z) h0 h) : h.2 (z + 9) = some (.inr (.inl (0, 8, fun _ => 0))) := j.2.2 9 _ (by rw [ES0_l]; rfl)
theorem C0_10 {z : Nat} {h0 h : jH} (j : jx z (ES0 z) h0 h) : h.2 (z + 10) = some (.inr (.inl (0, 8, fun _ => 0))) := j.2.2 10 _ (by rw [ES0_l]; rfl)
theorem C0_11 {z : Nat} {h0 h : jH} (j : jx z (ES0 z) h0 h) : h.2 (z + 11) = some (.inl (4, [.ref ((z + 6) + 6), .int 0, .int 0])) := j.2.2 11 _ (by rw [ES0_l]; rfl)
theorem C0_12 {z : Nat} {h0 h : jH} (j : jx z (ES0 z) h0 h) : h.2 (z + 12) = some (.inr (.inl (0, 60, fun _ => 0))) := j.2.2 12 _ (by rw [ES0_l]; rfl)
theorem C0_13 {z : Nat} {h0 h : jH} (j : jx z (ES0 z) h0 h) : h.2 (z + 13) = some (.inl (2, [.ref ((z + 13) + 1), .ref ((z + 13) + 2), .ref ((z + 13) + 3), .ref ((z + 13) + 4), .ref ((z + 13) + 5), .int 0, .int 0, .int 0, .int 0])) := j.2.2 13 _ (by rw [ES0_l]; rfl)
theorem C0_14 {z : Nat} {h0 h : jH} (j : jx z (ES0 z) h0 h) : h.2 (z + 14) = some (.inr (.inl (0, 12, fun _ => 0))) := j.2.2 14 _ (by rw [ES0_l]; rfl)
theorem C0_15 {z : Nat} {h0 h : jH} (j : jx z (ES0 z) h0 h) : h.2 (z + 15) = some (.inr (.inl (0, 12, fun _ => 0))) := j.2.2 15 _ (by rw [ES0_l]; rfl)
theorem C0_16 {z : Nat} {h0 h : jH} (j : jx z (ES0 z) h0 h) : h.2 (z + 16) = some (.inr (.inl (0, 12, fun _ => 0))) := j.2.2 16 _ (by rw [ES0_l]; rfl)
theorem C0_17 {z : Nat} {h0 h : jH} (j : jx z (ES0 z) h0 h) : h.2 (z + 17) = some (.inr (.inl (0, 400, fun _ => 0))) := j.2.2 17 _ (by rw [ES0_l]; rfl)
theorem C0_18 {z : Nat} {h0 h : jH} (j : jx z (ES0 z) h0 h) : h.2 (z + 18) = some (.inr (.inl (0, 24, fun _ => 0))) := j.2.2 18 _ (by rw [ES0_l]; rfl)
theorem C0_19 {z : Nat} {h0 h : jH} (j : jx z (ES0 z) h0 h) : h.2 (z + 19) = some (.inl (0, [.ref ((z + 19) + 1), .int 0, .int 0])) := j.2.2 19 _ (by rw [ES0_l]; rfl)
theorem C0_20 {z : Nat} {h0 h : jH} (j : jx z (ES0 z) h0 h) : h.2 (z + 20) = some (.inr (.inr (.inl (12, fun _ => none)))) := j.2.2 20 _ (by rw [ES0_l]; rfl)
theorem C0_21 {z : Nat} {h0 h : jH} (j : jx z (ES0 z) h0 h) : h.2 (z + 21) = some (.inl (6, [.ref ((z + 21) + 1), .ref ((z + 21) + 2), .ref ((z + 21) + 3), .ref ((z + 21) + 4), .ref ((z + 21) + 5), .int 0, .int 0, .int 0, .int 0, .int 0, .int 0, .int 16, .int 8, .int 0, .int 0, .int 0, .int 1, .int 0])) := j.2.2 21 _ (by rw [ES0_l]; rfl)
theorem C0_22 {z : Nat} {h0 h : jH} (j : jx z (ES0 z) h0 h) : h.2 (z + 22) = some (.inr (.inl (0, 8, fun _ => 0))) := j.2.2 22 _ (by rw [ES0_l]; rfl)
theorem C0_23 {z : Nat} {h0 h : jH} (j : jx z (ES0 z) h0 h) : h.2 (z + 23) = some (.inr (.inl (0, 8, fun _ => 0))) := j.2.2 23 _ (by rw [ES0_l]; rfl)
theorem C0_24 {z : Nat} {h0 h : jH} (j : jx z (ES0 z) h0 h) : h.2 (z + 24) = some (.inr (.inl (0, 8, fun _ => 0))) := j.2.2 24 _ (by rw [ES0_l]; rfl)
theorem C0_25 {z : Nat} {h0 h : jH} (j : jx z (ES0 z) h0 h) : h.2 (z + 25) = some (.inr (.inl (0, 8, fun _ => 0))) := j.2.2 25 _ (by rw [ES0_l]; rfl)
theorem C0_26 {z : Nat} {h0 h : jH} (j : jx z (ES0 z) h0 h) : h.2 (z + 26) = some (.inl (4, [.ref ((z + 21) + 6), .int 0, .int 0])) := j.2.2 26 _ (by rw [ES0_l]; rfl)
theorem C0_27 {z : Nat} {h0 h : jH} (j : jx z (ES0 z) h0 h) : h.2 (z + 27) = some (.inr (.inl (0, 60, fun _ => 0))) := j.2.2 27 _ (by rw [ES0_l]; rfl)
theorem C0_28 {z : Nat} {h0 h : jH} (j : jx z (ES0 z) h0 h) : h.2 (z + 28) = some (.inl (2, [.ref ((z + 28) + 1), .ref ((z + 28) + 2), .ref ((z + 28) + 3), .ref ((z + 28) + 4), .ref ((z + 28) + 5), .int 0, .int 0, .int 0, .int 0])) := j.2.2 28 _ (by rw [ES0_l]; rfl)
theorem C0_29 {z : Nat} {h0 h : jH} (j : jx z (ES0 z) h0 h) : h.2 (z + 29) = some (.inr (.inl (0, 12, fun _ => 0))) := j.2.2 29 _ (by rw [ES0_l]; rfl)
theorem C0_30 {z : Nat} {h0 h : jH} (j : jx z (ES0 z) h0 h) : h.2 (z + 30) = some (.inr (.inl (0, 12, fun _ => 0))) := j.2.2 30 _ (by rw [ES0_l]; rfl)
theorem C0_31 {z : Nat} {h0 h : jH} (j : jx z (ES0 z) h0 h) : h.2 (z + 31) = some (.inr (.inl (0, 12, fun _ => 0))) := j.2.2 31 _ (by rw [ES0_l]; rfl)
theorem C0_32 {z : Nat} {h0 h : jH} (j : jx z (ES0 z) h0 h) : h.2 (z + 32) = some (.inr (.inl (0, 400, fun _ => 0))) := j.2.2 32 _ (by rw [ES0_l]; rfl)
theorem C0_33 {z : Nat} {h0 h : jH} (j : jx z (ES0 z) h0 h) : h.2 (z + 33) = some (.inr (.inl (0, 24, fun _ => 0))) := j.2.2 33 _ (by rw [ES0_l]; rfl)
theorem C0_34 {z : Nat} {h0 h : jH} (j : jx z (ES0 z) h0 h) : h.2 (z + 34) = some (.inl (7, [.ref (z + 1), .int 14, .ref (z + 21)])) := j.2.2 34 _ (by rw [ES0_l]; rfl)
theorem C0_35 {z : Nat} {h0 h : jH} (j : jx z (ES0 z) h0 h) : h.2 (z + 35) = some (.inl (3, [.ref (z + 1), .int 12, .ref (z + 28)])) := j.2.2 35 _ (by rw [ES0_l]; rfl)
theorem C0_36 {z : Nat} {h0 h : jH} (j : jx z (ES0 z) h0 h) : h.2 (z + 36) = some (.inl (1, [.ref (z + 13), .ref (z + 21)])) := j.2.2 36 _ (by rw [ES0_l]; rfl)
theorem C0_37 {z : Nat} {h0 h : jH} (j : jx z (ES0 z) h0 h) : h.2 (z + 37) = some (.inl (5, [.ref (z + 1), .ref (z + 21), .ref ((z + 37) + 1), .ref ((z + 37) + 2), .int 0, .int 0, .int 0])) := j.2.2 37 _ (by rw [ES0_l]; rfl)
theorem C0_38 {z : Nat} {h0 h : jH} (j : jx z (ES0 z) h0 h) : h.2 (z + 38) = some (.inr (.inl (0, 128, fun _ => 0))) := j.2.2 38 _ (by rw [ES0_l]; rfl)
theorem C0_39 {z : Nat} {h0 h : jH} (j : jx z (ES0 z) h0 h) : h.2 (z + 39) = some (.inr (.inl (0, 32, fun _ => 0))) := j.2.2 39 _ (by rw [ES0_l]; rfl)
theorem C0_40 {z : Nat} {h0 h : jH} (j : jx z (ES0 z) h0 h) : h.2 (z + 40) = some (.inl (10, [.int 0, .ref ((z + 40) + 1), .ref ((z + 40) + 2), .ref ((z + 40) + 3), .ref ((z + 40) + 4), .ref ((z + 40) + 5), .int 0, .int 0, .ref ((z + 40) + 6), .int 0, .int 0, .int 0, .int 0, .int 0, .int (-1), .ref ((z + 40) + 7), .int 0, .ref ((z + 40) + 8), .int 0, .ref ((z + 40) + 9), .ref ((z + 40) + 10), .ref ((z + 40) + 11)])) := j.2.2 40 _ (by rw [ES0_l]; rfl)
theorem C0_41 {z : Nat} {h0 h : jH} (j : jx z (ES0 z) h0 h) : h.2 (z + 41) = some (.inr (.inl (0, 2133, upd (upd (upd (fun _ => 0) (5 : Int32).toNatClampNeg 16) (6 : Int32).toNatClampNeg 8) (10 : Int32).toNatClampNeg 1))) := j.2.2 41 _ (by rw [ES0_l]; rfl)
theorem C0_42 {z : Nat} {h0 h : jH} (j : jx z (ES0 z) h0 h) : h.2 (z + 42) = some (.inr (.inl (0, 1284, fun _ => 0))) := j.2.2 42 _ (by rw [ES0_l]; rfl)
theorem C0_43 {z : Nat} {h0 h : jH} (j : jx z (ES0 z) h0 h) : h.2 (z + 43) = some (.inr (.inl (0, 1284, fun _ => 0))) := j.2.2 43 _ (by rw [ES0_l]; rfl)
theorem C0_44 {z : Nat} {h0 h : jH} (j : jx z (ES0 z) h0 h) : h.2 (z + 44) = some (.inr (.inl (0, 435, fun _ => 0))) := j.2.2 44 _ (by rw [ES0_l]; rfl)
theorem C0_45 {z : Nat} {h0 h : jH} (j : jx z (ES0 z) h0 h) : h.2 (z + 45) = some (.inr (.inl (0, 5220, fun _ => 0))) := j.2.2 45 _ (by rw [ES0_l]; rfl)
theorem C0_46 {z : Nat} {h0 h : jH} (j : jx z (ES0 z) h0 h) : h.2 (z + 46) = some (.inr (.inl (1, 400, fun _ => 0))) := j.2.2 46 _ (by rw [ES0_l]; rfl)
theorem C0_47 {z : Nat} {h0 h : jH} (j : jx z (ES0 z) h0 h) : h.2 (z + 47) = some (.inr (.inl (0, 5, fun _ => 0))) := j.2.2 47 _ (by rw [ES0_l]; rfl)
theorem C0_48 {z : Nat} {h0 h : jH} (j : jx z (ES0 z) h0 h) : h.2 (z + 48) = some (.inr (.inl (0, 400, fun _ => 0))) := j.2.2 48 _ (by rw [ES0_l]; rfl)
theorem C0_49 {z : Nat} {h0 h : jH} (j : jx z (ES0 z) h0 h) : h.2 (z + 49) = some (.inr (.inl (2, 256, fun _ => 0))) := j.2.2 49 _ (by rw [ES0_l]; rfl)
theorem C0_50 {z : Nat} {h0 h : jH} (j : jx z (ES0 z) h0 h) : h.2 (z + 50) = some (.inr (.inl (0, 32, fun _ => 0))) := j.2.2 50 _ (by rw [ES0_l]; rfl)
theorem C0_51 {z : Nat} {h0 h : jH} (j : jx z (ES0 z) h0 h) : h.2 (z + 51) = some (.inr (.inl (0, 8, fun _ => 0))) := j.2.2 51 _ (by rw [ES0_l]; rfl)
theorem oi_o {h : jH} {a k : Nat} {o : Nat × List Value} (e : h.2 a = some (.inl o)) : oi (oc h) a k = vi (o.2.getD k .null) := by unfold oi; rw [oc_o e]
theorem oi_y {h : jH} {a k : Nat} {y : Nat × Nat × (Nat → Int32)} (e : h.2 a = some (.inr (.inl y))) : oi (oc h) a k = y.2.2 k := by unfold oi; rw [oc_y e]; rfl
theorem bt_0 (i : Nat) : bt (0 : Int32) i = false := by unfold bt; simp
def W00 (k : Nat) : Int32 := if k = 5 then 16 else if k = 6 then 8 else if k = 10 then 1 else 0
theorem C0_W {z : Nat} {h0 h : jH} (j : jx z (ES0 z) h0 h) : wl (oc h) (z + 40) = W00 := by
  funext k
  have e : oi (oc h) (z + 41) k = upd (upd (upd (fun _ => 0) (5 : Int32).toNatClampNeg 16) (6 : Int32).toNatClampNeg 8) (10 : Int32).toNatClampNeg 1 k := oi_y (C0_41 j)
  have n5 : (5 : Int32).toNatClampNeg = 5 := by decide
  have n6 : (6 : Int32).toNatClampNeg = 6 := by decide
  have n10 : (10 : Int32).toNatClampNeg = 10 := by decide
  rw [n5, n6, n10] at e
  refine Eq.trans (show wl (oc h) (z + 40) k = oi (oc h) (z + 41) k from rfl) (e.trans ?_)
  unfold upd W00
  by_cases c10 : k = 10
  · subst c10; rfl
  · by_cases c6 : k = 6
    · subst c6; rfl
    · by_cases c5 : k = 5
      · subst c5; rfl
      · rw [if_neg c10, if_neg c6, if_neg c5, if_neg c5, if_neg c6, if_neg c10]
theorem C0_m {z : Nat} {h0 h : jH} (j : jx z (ES0 z) h0 h) : mS (oc h) (z + 40) := by
  have e := C0_40 j
  exact ⟨oc_o e, oc_o e, oc_o e, oc_o e, oc_o e, oc_o e, oc_o e, oc_o e, oc_o e, oc_o e, oc_o e⟩
theorem C0_rs6 {z : Nat} {h0 h : jH} (j : jx z (ES0 z) h0 h) : rodS (oc h) (z + 6) := by
  have e := C0_6 j
  have f : h.2 (z + 6 + 5) = _ := C0_11 j
  exact ⟨oc_o e, oc_o e, oc_o e, oc_o e, oc_o e, oc_o f⟩
theorem C0_rs21 {z : Nat} {h0 h : jH} (j : jx z (ES0 z) h0 h) : rodS (oc h) (z + 21) := by
  have e := C0_21 j
  have f : h.2 (z + 21 + 5) = _ := C0_26 j
  exact ⟨oc_o e, oc_o e, oc_o e, oc_o e, oc_o e, oc_o f⟩
theorem C0_ls13 {z : Nat} {h0 h : jH} (j : jx z (ES0 z) h0 h) : lawS (oc h) (z + 13) := by
  have e := C0_13 j
  exact ⟨oc_o e, oc_o e, oc_o e, oc_o e, oc_o e⟩
theorem C0_ls28 {z : Nat} {h0 h : jH} (j : jx z (ES0 z) h0 h) : lawS (oc h) (z + 28) := by
  have e := C0_28 j
  exact ⟨oc_o e, oc_o e, oc_o e, oc_o e, oc_o e⟩
theorem W00_n {i : Nat} : ¬ (i : Int) < (W00 0).toInt := by
  have e : (W00 0).toInt = 0 := by decide
  omega
theorem W00_OK : wOK W00 := by
  refine ⟨by decide, fun i hi => absurd hi W00_n, fun i hi => ?_, fun i hi => ?_, by decide, by decide, by decide, by decide, by decide, by decide, by decide⟩
  · have e : (W00 0).toInt = 0 := by decide
    omega
  · have e : (W00 0).toInt = 0 := by decide
    omega
theorem C0_rod {z : Nat} {h0 h : jH} (j : jx z (ES0 z) h0 h) : rodE (oc h) (z + 6) W00 := by
  have e := C0_6 j
  have f : h.2 (z + 6 + 5) = _ := C0_11 j
  refine ⟨C0_rs6 j, ⟨oi_o e, oi_o e, oi_o e, oi_o e, oi_o e, oi_o e, oi_o e, oi_o e, oi_o e⟩, fun i hi => absurd hi W00_n, fun i h1 h2 => ⟨?_, ?_⟩, ⟨oi_o f, ?_, fun a ha => ?_⟩⟩
  · rw [show oi (oc h) (z + 6) 7 = 0 from oi_o e]; exact bt_0 i
  · rw [show oi (oc h) (z + 6) 9 = 0 from oi_o e]; exact bt_0 i
  · rw [show oi (oc h) (z + 6 + 5) 2 = 0 from oi_o f]; decide
  · have e : (W00 9).toInt = 0 := by decide
    omega
theorem C0_law {z : Nat} {h0 h : jH} (j : jx z (ES0 z) h0 h) : lawE (oc h) (z + 13) W00 :=
  ⟨C0_ls13 j, oi_o (C0_13 j), Or.inl rfl, fun y => absurd y (by decide)⟩
theorem C0_rdr {z : Nat} {h0 h : jH} (j : jx z (ES0 z) h0 h) : rdrS (oc h) z := by
  have e : h.2 z = _ := C0_0 j
  have e34 := C0_34 j
  have e35 := C0_35 j
  have e36 := C0_36 j
  have e37 := C0_37 j
  exact ⟨⟨oc_o e, oc_o e, oc_o e, oc_o e, oc_o e, oc_o e⟩, ⟨oc_o e34, oc_o e34, oc_o e34⟩, ⟨oc_o e35, oc_o e35, oc_o e35⟩, ⟨oc_o e36, oc_o e37, oc_o e37, oc_o e37, oc_o e37⟩, C0_rs21 j, C0_ls28 j⟩
theorem eq_0 {z : Nat} {h0 h : jH} (j : jx z (ES0 z) h0 h) : eqS z 0 0 0 W00 h := by
  have e : h.2 z = _ := C0_0 j
  have e1 := C0_1 j
  have e19 := C0_19 j
  have e20 := C0_20 j
  have e36 := C0_36 j
  have e40 := C0_40 j
  have sz : h.1 = z + 53 := j.1
  have sl : ∀ s, oc h (z + 20) s = .null := fun s => oc_r e20
  have a19 : (oi (oc h) (z + 19) 2).toInt = ((0 : Nat) : Int) := by
    rw [show oi (oc h) (z + 19) 2 = 0 from oi_o e19]
    rfl
  refine ⟨⟨oc_o e, oc_o e, oc_o e, oc_o e, oc_o e36, oc_o e19, ⟨oc_o e1, oc_o e1, oc_o e1, oc_o e1⟩, C0_m j⟩, ⟨oi_o e19, Nat.zero_le _, a19, oi_o e40, Nat.zero_le _, by omega, fun s hs => Or.inl (sl s), fun s t b c hs ht hn e1 e2 => ?_, fun j hj => by omega⟩,
    ⟨C0_rod j, C0_W j, W00_OK, C0_law j, ⟨Or.inl rfl, fun y => absurd y (by decide)⟩, fun y => absurd y (by decide)⟩,
    ⟨oi_o e1, oi_o e40, Nat.zero_le _, fun i hi => (oi_y (C0_2 j)).trans (oi_y (C0_46 j)).symm, C0_rdr j, ((oi_o e : oi (oc h) z 12 = -1)).trans (oi_o e40 : oi (oc h) (z + 40) 14 = -1).symm, Or.inl ⟨oc_o e, oc_o e, oi_o e40⟩⟩⟩
  rw [sl s] at e1
  cases e1
theorem jbeginE {z : Nat} : jBegin 6000 (z, fun _ => none) jInE := by
  obtain ⟨h1, e1, h2, e2, v⟩ := jbegin_ok (n := 6000) (z := z)
  obtain ⟨f1, d1, j1⟩ := I_X11_init (n := 6000) (h := (z, fun _ => none))
  cases (e1.symm.trans d1)
  obtain ⟨f2, d2, j2⟩ := I_X12_init (n := 6000) (h := h1)
  cases (e2.symm.trans d2)
  refine ⟨h1, e1, h2, e2, v, ?_⟩
  have hz : h1.1 = z + 40 := j1.1
  have j2' : jx (z + (eX11_init z).length) (eX12_init (z + 40)) h1 h2 := by
    have j3 := j2
    rw [hz] at j3
    exact j3
  exact ⟨hz, 0, 0, 0, W00, eq_0 (jx_nw (jx_cat j1 j2') (.inr (.inr (.inr (1, fun _ => 0)))))⟩
