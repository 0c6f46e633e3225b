section
abbrev mX0_init : jM := (yX0_init, cX0_init, 1, none, [])
theorem oi_X0_1 : Cond.methodLink RX0 1 Lib.objectInit ∈ jall ∧ Cond.instanceMethod Lib.objectInit ∈ jall ∧ Cond.code Lib.objectInit ⟨#[0xb1]⟩ 1 none ∈ jall := ⟨(jw_2_0 7 rfl rfl), (jw_1_2 3 rfl rfl), (jw_1_2 4 rfl rfl)⟩
theorem cl_X0_9 : Cond.classLink RX0 9 "RodRings$Rod" ∈ jall := (jw_2_0 8 rfl rfl)
theorem fp_X0_11_0 : jFp RX0 11 0 0 true (.array (.object "RodRings$Rod")) := ⟨RX0, TX0, 3, tyX0, rfl, wsX00_tb, tyX0_ok, nmX0, by decide, (jw_2_0 10 rfl rfl), rfl, tyX0_ok 0 (by decide), fun _ => rfl⟩
abbrev mX0_remember : jM := (yX0_remember, cX0_remember, 2, none, [])
theorem fg_X0_11_0 : jFg RX0 11 0 0 := ⟨RX0, TX0, 3, _, rfl, wsX00_tb, by decide, (jw_2_0 10 rfl rfl), Or.inl rfl⟩
theorem fg_X0_15_0 : jFg RX0 15 0 1 := ⟨RX0, TX0, 3, _, rfl, wsX00_tb, by decide, (jw_2_0 11 rfl rfl), Or.inl rfl⟩
theorem fn_X0_9 : jFn RX0 9 6 18 [.null, .null, .null, .null, .null, .int 0, .int 0, .int 0, .int 0, .int 0, .int 0, .int 0, .int 0, .int 0, .int 0, .int 0, .int 0, .int 0] := ⟨RX8, TX8, tyX8, rfl, wsX80_tb, tyX8_ok, (jw_2_0 8 rfl rfl), (jw_1_4 6 rfl rfl), (jw_1_0 3 rfl rfl), by decide⟩
abbrev mX8_init : jM := (yX8_init, cX8_init, 1, none, [])
theorem sy_X8_init : jSY mX8_init 0 := ⟨(jw_1_4 9 rfl rfl), (jw_1_0 3 rfl rfl), ⟨lw_n0.1, lw_n0.2, dscr_0⟩, by decide⟩
theorem cin_X0_19_X8_init : jSiN RX0 19 mX8_init 0 := ⟨(jn_5_4 8 rfl rfl), (jw_1_4 8 rfl rfl), rfl, sy_X8_init⟩
abbrev mX8_copyFrom : jM := (yX8_copyFrom, cX8_copyFrom, 2, none, [])
theorem sy_X8_copyFrom : jSY mX8_copyFrom 1 := ⟨(jw_2_12 9 rfl rfl), (jw_1_0 3 rfl rfl), ⟨lw_n0.1, lw_n0.2, dscr_1⟩, by decide⟩
theorem cv_X0_20_X8_copyFrom : jSv RX0 20 mX8_copyFrom 1 := ⟨(jw_3_10 12 rfl rfl), (jw_2_12 7 rfl rfl), (jw_2_12 8 rfl rfl), sy_X8_copyFrom⟩
theorem fp_X0_15_0 : jFp RX0 15 0 1 false .int := ⟨RX0, TX0, 3, tyX0, rfl, wsX00_tb, tyX0_ok, nmX0, by decide, (jw_2_0 11 rfl rfl), rfl, tyX0_ok 1 (by decide), fun q => by cases q⟩
theorem fg_X0_24_0 : jFg RX0 24 0 2 := ⟨RX0, TX0, 3, _, rfl, wsX00_tb, by decide, (jw_2_0 12 rfl rfl), Or.inl rfl⟩
theorem mm_X0_27 : Cond.methodLink RX0 27 Lib.Math.min.name ∈ jall ∧ Cond.static Lib.Math.min.name ∈ jall ∧ Cond.initialized "java/lang/Math" ∈ jall ∧ Cond.code Lib.Math.min.name Lib.Math.min.code 2 (some .int) ∈ jall := ⟨(jw_5_4 9 rfl rfl), (jw_2_14 9 rfl rfl), (jw_1_1 2 rfl rfl), (jw_2_14 10 rfl rfl)⟩
theorem fp_X0_24_0 : jFp RX0 24 0 2 false .int := ⟨RX0, TX0, 3, tyX0, rfl, wsX00_tb, tyX0_ok, nmX0, by decide, (jw_2_0 12 rfl rfl), rfl, tyX0_ok 2 (by decide), fun q => by cases q⟩
abbrev mX0_takeBack : jM := (yX0_takeBack, cX0_takeBack, 3, (some .boolean), [])
abbrev mX0_forget : jM := (yX0_forget, cX0_forget, 1, none, [])
abbrev mX1_init : jM := (yX1_init, cX1_init, 3, none, [])
theorem oi_X1_3 : Cond.methodLink RX1 3 Lib.objectInit ∈ jall ∧ Cond.instanceMethod Lib.objectInit ∈ jall ∧ Cond.code Lib.objectInit ⟨#[0xb1]⟩ 1 none ∈ jall := ⟨(jw_2_3 13 rfl rfl), (jw_1_2 3 rfl rfl), (jw_1_2 4 rfl rfl)⟩
theorem fp_X1_9_1 : jFp RX1 9 1 0 true (.object "RodRings$Law") := ⟨RX1, TX1, 2, tyX1, rfl, wsX10_tb, tyX1_ok, nmX1, by decide, (jw_2_3 14 rfl rfl), rfl, tyX1_ok 0 (by decide), fun _ => rfl⟩
theorem fp_X1_15_1 : jFp RX1 15 1 1 true (.object "RodRings$Rod") := ⟨RX1, TX1, 2, tyX1, rfl, wsX10_tb, tyX1_ok, nmX1, by decide, (jw_2_3 15 rfl rfl), rfl, tyX1_ok 1 (by decide), fun _ => rfl⟩
abbrev mX1_run : jM := (yX1_run, cX1_run, 5, (some .int), [])
abbrev mX1_fadeAll : jM := (yX1_fadeAll, cX1_fadeAll, 3, none, [])
theorem sy_X1_fadeAll : jSY mX1_fadeAll 1 := ⟨(jw_3_4 13 rfl rfl), (jw_1_0 10 rfl rfl), ⟨lw_n2.1, lw_n2.2, dscr_1⟩, by decide⟩
theorem cv_X1_19_X1_fadeAll : jSv RX1 19 mX1_fadeAll 1 := ⟨(jw_3_4 10 rfl rfl), (jw_3_4 12 rfl rfl), (js_1 3 rfl), sy_X1_fadeAll⟩
abbrev mX1_catchSome : jM := (yX1_catchSome, cX1_catchSome, 4, (some .int), [])
theorem sy_X1_catchSome : jSY mX1_catchSome 1 := ⟨(jw_5_10 6 rfl rfl), (jw_1_0 10 rfl rfl), ⟨lw_n2.1, lw_n2.2, dscr_2⟩, by decide⟩
theorem cv_X1_23_X1_catchSome : jSv RX1 23 mX1_catchSome 1 := ⟨(jw_5_10 3 rfl rfl), (jw_5_10 5 rfl rfl), (js_2 8 rfl), sy_X1_catchSome⟩
abbrev mX1_dropSome : jM := (yX1_dropSome, cX1_dropSome, 4, (some .int), [])
theorem sy_X1_dropSome : jSY mX1_dropSome 1 := ⟨(jw_5_11 2 rfl rfl), (jw_1_0 10 rfl rfl), ⟨lw_n2.1, lw_n2.2, dscr_2⟩, by decide⟩
theorem cv_X1_27_X1_dropSome : jSv RX1 27 mX1_dropSome 1 := ⟨(jw_5_10 15 rfl rfl), (jw_5_11 1 rfl rfl), (js_2 9 rfl), sy_X1_dropSome⟩
abbrev mX1_turn : jM := (yX1_turn, cX1_turn, 1, none, [])
theorem sy_X1_turn : jSY mX1_turn 1 := ⟨(jw_3_7 0 rfl rfl), (jw_1_0 10 rfl rfl), ⟨lw_n2.1, lw_n2.2, dscr_1⟩, by decide⟩
theorem cs_X1_30_X1_turn : jSs RX1 30 mX1_turn 1 := ⟨(jw_3_6 14 rfl rfl), (jw_3_6 15 rfl rfl), sy_X1_turn⟩
abbrev mX1_tryHours : jM := (yX1_tryHours, cX1_tryHours, 4, none, [])
theorem fg_X1_15_1 : jFg RX1 15 1 1 := ⟨RX1, TX1, 2, _, rfl, wsX10_tb, by decide, (jw_2_3 15 rfl rfl), Or.inl rfl⟩
theorem cv_X1_33_X8_copyFrom : jSv RX1 33 mX8_copyFrom 1 := ⟨(jw_3_4 6 rfl rfl), (jw_2_12 7 rfl rfl), (jw_2_12 8 rfl rfl), sy_X8_copyFrom⟩
theorem fp_X1_38_6 : jFp RX1 38 6 16 false .int := ⟨RX8, TX8, 18, tyX8, rfl, wsX80_tb, tyX8_ok, nmX8, by decide, (jw_1_10 5 rfl rfl), rfl, tyX8_ok 16 (by decide), fun q => by cases q⟩
theorem sy_X1_run : jSY mX1_run 2 := ⟨(jw_5_10 2 rfl rfl), (jw_1_0 10 rfl rfl), ⟨lw_n2.1, lw_n2.2, dscr_3⟩, by decide⟩
theorem cv_X1_42_X1_run : jSv RX1 42 mX1_run 2 := ⟨(jw_6_6 11 rfl rfl), (jw_5_10 0 rfl rfl), (jw_5_10 1 rfl rfl), sy_X1_run⟩
abbrev mX1_goAhead : jM := (yX1_goAhead, cX1_goAhead, 4, none, [])
abbrev mX1_firstPale : jM := (yX1_firstPale, cX1_firstPale, 3, (some .int), [])
abbrev mX1_isSomePale : jM := (yX1_isSomePale, cX1_isSomePale, 2, (some .boolean), [])
theorem sy_X1_isSomePale : jSY mX1_isSomePale 1 := ⟨(jw_3_4 9 rfl rfl), (jw_1_0 10 rfl rfl), ⟨lw_n2.1, lw_n2.2, dscr_4⟩, by decide⟩
theorem cs_X1_46_X1_isSomePale : jSs RX1 46 mX1_isSomePale 1 := ⟨(jw_3_4 7 rfl rfl), (jw_3_4 8 rfl rfl), sy_X1_isSomePale⟩
abbrev mX1_oddsToStay : jM := (yX1_oddsToStay, cX1_oddsToStay, 7, (some .int), [])
theorem fg_X1_9_1 : jFg RX1 9 1 0 := ⟨RX1, TX1, 2, _, rfl, wsX10_tb, by decide, (jw_2_3 14 rfl rfl), Or.inl rfl⟩
abbrev mX2_amount : jM := (yX2_amount, cX2_amount, 6, (some .int), [])
theorem sy_X2_amount : jSY mX2_amount 3 := ⟨(jw_3_5 1 rfl rfl), (jw_1_0 5 rfl rfl), ⟨lw_n3.1, lw_n3.2, dscr_5⟩, by decide⟩
theorem cv_X1_50_X2_amount : jSv RX1 50 mX2_amount 3 := ⟨(jw_3_4 14 rfl rfl), (jw_3_4 15 rfl rfl), (jw_3_5 0 rfl rfl), sy_X2_amount⟩
theorem mm_X1_56 : Cond.methodLink RX1 56 Lib.Math.min.name ∈ jall ∧ Cond.static Lib.Math.min.name ∈ jall ∧ Cond.initialized "java/lang/Math" ∈ jall ∧ Cond.code Lib.Math.min.name Lib.Math.min.code 2 (some .int) ∈ jall := ⟨(jw_3_6 13 rfl rfl), (jw_2_14 9 rfl rfl), (jw_1_1 2 rfl rfl), (jw_2_14 10 rfl rfl)⟩
theorem fg_X1_62_6 : jFg RX1 62 6 5 := ⟨RX8, TX8, 18, _, rfl, wsX80_tb, by decide, (jw_1_7 6 rfl rfl), Or.inl rfl⟩
theorem fg_X1_65_6 : jFg RX1 65 6 2 := ⟨RX8, TX8, 18, _, rfl, wsX80_tb, by decide, (jw_1_6 7 rfl rfl), Or.inl rfl⟩
abbrev mX8_gap : jM := (yX8_gap, cX8_gap, 3, (some .int), [])
theorem sy_X8_gap : jSY mX8_gap 2 := ⟨(jw_3_2 5 rfl rfl), (jw_1_0 3 rfl rfl), ⟨lw_n0.1, lw_n0.2, dscr_6⟩, by decide⟩
theorem cv_X1_69_X8_gap : jSv RX1 69 mX8_gap 2 := ⟨(jw_5_10 7 rfl rfl), (jw_3_2 3 rfl rfl), (jw_3_2 4 rfl rfl), sy_X8_gap⟩
theorem fg_X1_72_6 : jFg RX1 72 6 9 := ⟨RX8, TX8, 18, _, rfl, wsX80_tb, by decide, (jw_1_8 10 rfl rfl), Or.inl rfl⟩
abbrev mX11_bit : jM := (yX11_bit, cX11_bit, 2, (some .int), [])
theorem sy_X11_bit : jSY mX11_bit 2 := ⟨(jw_2_10 10 rfl rfl), (jw_1_0 1 rfl rfl), ⟨lw_n8.1, lw_n8.2, dscr_6⟩, by decide⟩
theorem csn_X1_75_X11_bit : jSsN RX1 75 mX11_bit 2 := ⟨(jn_5_10 8 rfl rfl), (jw_2_10 9 rfl rfl), sy_X11_bit⟩
abbrev mX1_draw : jM := (yX1_draw, cX1_draw, 1, (some .int), [])
theorem sy_X1_draw : jSY mX1_draw 1 := ⟨(jw_5_10 11 rfl rfl), (jw_1_0 10 rfl rfl), ⟨lw_n2.1, lw_n2.2, dscr_2⟩, by decide⟩
theorem cs_X1_78_X1_draw : jSs RX1 78 mX1_draw 1 := ⟨(jw_5_10 9 rfl rfl), (jw_5_10 10 rfl rfl), sy_X1_draw⟩
abbrev mX11_withBit : jM := (yX11_withBit, cX11_withBit, 3, (some .int), [])
theorem sy_X11_withBit : jSY mX11_withBit 3 := ⟨(jw_3_2 15 rfl rfl), (jw_1_0 1 rfl rfl), ⟨lw_n8.1, lw_n8.2, dscr_7⟩, by decide⟩
theorem csn_X1_81_X11_withBit : jSsN RX1 81 mX11_withBit 3 := ⟨(jn_5_10 13 rfl rfl), (jw_3_2 14 rfl rfl), sy_X11_withBit⟩
theorem fp_X1_72_6 : jFp RX1 72 6 9 false .int := ⟨RX8, TX8, 18, tyX8, rfl, wsX80_tb, tyX8_ok, nmX8, by decide, (jw_1_8 10 rfl rfl), rfl, tyX8_ok 9 (by decide), fun q => by cases q⟩
theorem fg_X1_85_6 : jFg RX1 85 6 4 := ⟨RX8, TX8, 18, _, rfl, wsX80_tb, by decide, (jw_1_7 1 rfl rfl), Or.inl rfl⟩
abbrev mX5_add : jM := (yX5_add, cX5_add, 5, none, [])
theorem sy_X5_add : jSY mX5_add 4 := ⟨(jw_5_4 14 rfl rfl), (jw_1_0 4 rfl rfl), ⟨lw_n10.1, lw_n10.2, dscr_8⟩, by decide⟩
theorem cv_X1_89_X5_add : jSv RX1 89 mX5_add 4 := ⟨(jw_5_10 14 rfl rfl), (jw_5_4 12 rfl rfl), (jw_5_4 13 rfl rfl), sy_X5_add⟩
theorem fg_X1_95_6 : jFg RX1 95 6 8 := ⟨RX8, TX8, 18, _, rfl, wsX80_tb, by decide, (jw_1_8 4 rfl rfl), Or.inl rfl⟩
theorem fp_X1_95_6 : jFp RX1 95 6 8 false .int := ⟨RX8, TX8, 18, tyX8, rfl, wsX80_tb, tyX8_ok, nmX8, by decide, (jw_1_8 4 rfl rfl), rfl, tyX8_ok 8 (by decide), fun q => by cases q⟩
theorem kc_X1_98 : Cond.constant RX1 98 (1103515245 : Int32) ∈ jall := (jw_5_10 12 rfl rfl)
theorem fg_X1_38_6 : jFg RX1 38 6 16 := ⟨RX8, TX8, 18, _, rfl, wsX80_tb, by decide, (jw_1_10 5 rfl rfl), Or.inl rfl⟩
theorem fg_X1_99_6 : jFg RX1 99 6 13 := ⟨RX8, TX8, 18, _, rfl, wsX80_tb, by decide, (jw_1_9 10 rfl rfl), Or.inl rfl⟩
theorem fp_X1_99_6 : jFp RX1 99 6 13 false .int := ⟨RX8, TX8, 18, tyX8, rfl, wsX80_tb, tyX8_ok, nmX8, by decide, (jw_1_9 10 rfl rfl), rfl, tyX8_ok 13 (by decide), fun q => by cases q⟩
theorem fg_X1_102_6 : jFg RX1 102 6 14 := ⟨RX8, TX8, 18, _, rfl, wsX80_tb, by decide, (jw_1_9 15 rfl rfl), Or.inl rfl⟩
theorem fp_X1_102_6 : jFp RX1 102 6 14 false .int := ⟨RX8, TX8, 18, tyX8, rfl, wsX80_tb, tyX8_ok, nmX8, by decide, (jw_1_9 15 rfl rfl), rfl, tyX8_ok 14 (by decide), fun q => by cases q⟩
abbrev mX2_init : jM := (yX2_init, cX2_init, 1, none, [])
theorem oi_X2_3 : Cond.methodLink RX2 3 Lib.objectInit ∈ jall ∧ Cond.instanceMethod Lib.objectInit ∈ jall ∧ Cond.code Lib.objectInit ⟨#[0xb1]⟩ 1 none ∈ jall := ⟨(jw_1_13 3 rfl rfl), (jw_1_2 3 rfl rfl), (jw_1_2 4 rfl rfl)⟩
theorem ac_int : Cond.arrayClass .int ∈ jall := (jw_1_4 4 rfl rfl)
theorem fp_X2_11_2 : jFp RX2 11 2 0 true (.array .int) := ⟨RX2, TX2, 9, tyX2, rfl, wsX20_tb, tyX2_ok, nmX2, by decide, (jw_1_13 4 rfl rfl), rfl, tyX2_ok 0 (by decide), fun _ => rfl⟩
theorem fp_X2_15_2 : jFp RX2 15 2 1 true (.array .int) := ⟨RX2, TX2, 9, tyX2, rfl, wsX20_tb, tyX2_ok, nmX2, by decide, (jw_1_13 5 rfl rfl), rfl, tyX2_ok 1 (by decide), fun _ => rfl⟩
theorem fp_X2_18_2 : jFp RX2 18 2 2 true (.array .int) := ⟨RX2, TX2, 9, tyX2, rfl, wsX20_tb, tyX2_ok, nmX2, by decide, (jw_1_13 6 rfl rfl), rfl, tyX2_ok 2 (by decide), fun _ => rfl⟩
theorem fp_X2_21_2 : jFp RX2 21 2 3 true (.array .int) := ⟨RX2, TX2, 9, tyX2, rfl, wsX20_tb, tyX2_ok, nmX2, by decide, (jw_1_13 7 rfl rfl), rfl, tyX2_ok 3 (by decide), fun _ => rfl⟩
theorem fp_X2_24_2 : jFp RX2 24 2 4 true (.array .int) := ⟨RX2, TX2, 9, tyX2, rfl, wsX20_tb, tyX2_ok, nmX2, by decide, (jw_1_13 8 rfl rfl), rfl, tyX2_ok 4 (by decide), fun _ => rfl⟩
abbrev mX2_begin : jM := (yX2_begin, cX2_begin, 1, none, [])
theorem fp_X2_27_2 : jFp RX2 27 2 7 false .boolean := ⟨RX2, TX2, 9, tyX2, rfl, wsX20_tb, tyX2_ok, nmX2, by decide, (jw_1_13 11 rfl rfl), rfl, tyX2_ok 7 (by decide), fun q => by cases q⟩
theorem fp_X2_31_2 : jFp RX2 31 2 8 false .int := ⟨RX2, TX2, 9, tyX2, rfl, wsX20_tb, tyX2_ok, nmX2, by decide, (jw_1_13 13 rfl rfl), rfl, tyX2_ok 8 (by decide), fun q => by cases q⟩
theorem fp_X2_35_2 : jFp RX2 35 2 6 false .int := ⟨RX2, TX2, 9, tyX2, rfl, wsX20_tb, tyX2_ok, nmX2, by decide, (jw_1_13 10 rfl rfl), rfl, tyX2_ok 6 (by decide), fun q => by cases q⟩
abbrev mX2_copyFrom : jM := (yX2_copyFrom, cX2_copyFrom, 2, none, [])
theorem fg_X2_11_2 : jFg RX2 11 2 0 := ⟨RX2, TX2, 9, _, rfl, wsX20_tb, by decide, (jw_1_13 4 rfl rfl), Or.inl rfl⟩
theorem cy_X2_38 : Cond.methodLink RX2 38 arraycopyName ∈ jall ∧ Cond.native arraycopyName ∈ jall ∧ Cond.static arraycopyName ∈ jall ∧ Cond.initialized "java/lang/System" ∈ jall := ⟨(jw_3_11 6 rfl rfl), (jw_2_12 12 rfl rfl), (jw_2_12 11 rfl rfl), (jw_1_0 13 rfl rfl)⟩
theorem fg_X2_15_2 : jFg RX2 15 2 1 := ⟨RX2, TX2, 9, _, rfl, wsX20_tb, by decide, (jw_1_13 5 rfl rfl), Or.inl rfl⟩
theorem fg_X2_18_2 : jFg RX2 18 2 2 := ⟨RX2, TX2, 9, _, rfl, wsX20_tb, by decide, (jw_1_13 6 rfl rfl), Or.inl rfl⟩
theorem fg_X2_21_2 : jFg RX2 21 2 3 := ⟨RX2, TX2, 9, _, rfl, wsX20_tb, by decide, (jw_1_13 7 rfl rfl), Or.inl rfl⟩
theorem fg_X2_35_2 : jFg RX2 35 2 6 := ⟨RX2, TX2, 9, _, rfl, wsX20_tb, by decide, (jw_1_13 10 rfl rfl), Or.inl rfl⟩
theorem fg_X2_27_2 : jFg RX2 27 2 7 := ⟨RX2, TX2, 9, _, rfl, wsX20_tb, by decide, (jw_1_13 11 rfl rfl), Or.inl rfl⟩
theorem fg_X2_31_2 : jFg RX2 31 2 8 := ⟨RX2, TX2, 9, _, rfl, wsX20_tb, by decide, (jw_1_13 13 rfl rfl), Or.inl rfl⟩
abbrev mX2_addLine : jM := (yX2_addLine, cX2_addLine, 3, none, [])
abbrev mX2_addCode : jM := (yX2_addCode, cX2_addCode, 2, none, [])
abbrev mX2_holds : jM := (yX2_holds, cX2_holds, 7, (some .boolean), [])
theorem sy_X2_holds : jSY mX2_holds 3 := ⟨(jw_3_5 9 rfl rfl), (jw_1_0 5 rfl rfl), ⟨lw_n3.1, lw_n3.2, dscr_9⟩, by decide⟩
theorem cv_X2_48_X2_holds : jSv RX2 48 mX2_holds 3 := ⟨(jw_3_5 6 rfl rfl), (jw_3_5 8 rfl rfl), (js_1 4 rfl), sy_X2_holds⟩
abbrev mX2_untoldAmount : jM := (yX2_untoldAmount, cX2_untoldAmount, 3, (some .int), [])
theorem sy_X2_untoldAmount : jSY mX2_untoldAmount 3 := ⟨(jw_3_5 4 rfl rfl), (jw_1_0 5 rfl rfl), ⟨lw_n3.1, lw_n3.2, dscr_5⟩, by decide⟩
theorem cs_X2_44_X2_untoldAmount : jSs RX2 44 mX2_untoldAmount 3 := ⟨(jw_3_5 2 rfl rfl), (jw_3_5 3 rfl rfl), sy_X2_untoldAmount⟩
theorem fg_X2_52_6 : jFg RX2 52 6 13 := ⟨RX8, TX8, 18, _, rfl, wsX80_tb, by decide, (jw_1_9 9 rfl rfl), Or.inl rfl⟩
abbrev mX8_isLit : jM := (yX8_isLit, cX8_isLit, 3, (some .boolean), [])
theorem sy_X8_isLit : jSY mX8_isLit 2 := ⟨(jw_3_3 13 rfl rfl), (jw_1_0 3 rfl rfl), ⟨lw_n0.1, lw_n0.2, dscr_10⟩, by decide⟩
theorem cv_X2_57_X8_isLit : jSv RX2 57 mX8_isLit 2 := ⟨(jw_3_5 5 rfl rfl), (jw_3_3 11 rfl rfl), (jw_3_3 12 rfl rfl), sy_X8_isLit⟩
theorem fp_X2_61_2 : jFp RX2 61 2 5 false .int := ⟨RX2, TX2, 9, tyX2, rfl, wsX20_tb, tyX2_ok, nmX2, by decide, (jw_1_13 9 rfl rfl), rfl, tyX2_ok 5 (by decide), fun q => by cases q⟩
theorem fg_X2_61_2 : jFg RX2 61 2 5 := ⟨RX2, TX2, 9, _, rfl, wsX20_tb, by decide, (jw_1_13 9 rfl rfl), Or.inl rfl⟩
abbrev mX2_pop : jM := (yX2_pop, cX2_pop, 1, (some .int), [])
theorem sy_X2_pop : jSY mX2_pop 0 := ⟨(jw_3_6 9 rfl rfl), (jw_1_0 5 rfl rfl), ⟨lw_n3.1, lw_n3.2, dscr_11⟩, by decide⟩
theorem cv_X2_77_X2_pop : jSv RX2 77 mX2_pop 0 := ⟨(jw_3_6 6 rfl rfl), (jw_3_6 8 rfl rfl), (js_1 6 rfl), sy_X2_pop⟩
abbrev mX2_isValue : jM := (yX2_isValue, cX2_isValue, 1, (some .boolean), [])
theorem sy_X2_isValue : jSY mX2_isValue 1 := ⟨(jw_3_5 12 rfl rfl), (jw_1_0 5 rfl rfl), ⟨lw_n3.1, lw_n3.2, dscr_12⟩, by decide⟩
theorem cs_X2_64_X2_isValue : jSs RX2 64 mX2_isValue 1 := ⟨(jw_3_5 10 rfl rfl), (jw_3_5 11 rfl rfl), sy_X2_isValue⟩
abbrev mX2_joined : jM := (yX2_joined, cX2_joined, 3, (some .int), [])
theorem sy_X2_joined : jSY mX2_joined 3 := ⟨(jw_3_6 12 rfl rfl), (jw_1_0 5 rfl rfl), ⟨lw_n3.1, lw_n3.2, dscr_13⟩, by decide⟩
theorem cs_X2_81_X2_joined : jSs RX2 81 mX2_joined 3 := ⟨(jw_3_6 10 rfl rfl), (jw_3_6 11 rfl rfl), sy_X2_joined⟩
abbrev mX2_push : jM := (yX2_push, cX2_push, 2, none, [])
theorem sy_X2_push : jSY mX2_push 1 := ⟨(jw_3_6 5 rfl rfl), (jw_1_0 5 rfl rfl), ⟨lw_n3.1, lw_n3.2, dscr_14⟩, by decide⟩
theorem cv_X2_71_X2_push : jSv RX2 71 mX2_push 1 := ⟨(jw_3_6 2 rfl rfl), (jw_3_6 4 rfl rfl), (js_1 5 rfl), sy_X2_push⟩
abbrev mX2_value : jM := (yX2_value, cX2_value, 3, (some .int), [])
theorem sy_X2_value : jSY mX2_value 3 := ⟨(jw_3_5 15 rfl rfl), (jw_1_0 5 rfl rfl), ⟨lw_n3.1, lw_n3.2, dscr_5⟩, by decide⟩
theorem cs_X2_68_X2_value : jSs RX2 68 mX2_value 3 := ⟨(jw_3_5 13 rfl rfl), (jw_3_5 14 rfl rfl), sy_X2_value⟩
theorem fg_X2_24_2 : jFg RX2 24 2 4 := ⟨RX2, TX2, 9, _, rfl, wsX20_tb, by decide, (jw_1_13 8 rfl rfl), Or.inl rfl⟩
theorem fg_X2_85_6 : jFg RX2 85 6 0 := ⟨RX8, TX8, 18, _, rfl, wsX80_tb, by decide, (jw_1_6 0 rfl rfl), Or.inl rfl⟩
theorem cv_X2_88_X8_gap : jSv RX2 88 mX8_gap 2 := ⟨(jw_3_6 0 rfl rfl), (jw_3_2 3 rfl rfl), (jw_3_2 4 rfl rfl), sy_X8_gap⟩
theorem fg_X2_92_6 : jFg RX2 92 6 2 := ⟨RX8, TX8, 18, _, rfl, wsX80_tb, by decide, (jw_1_6 9 rfl rfl), Or.inl rfl⟩
theorem fg_X2_95_6 : jFg RX2 95 6 3 := ⟨RX8, TX8, 18, _, rfl, wsX80_tb, by decide, (jw_1_6 14 rfl rfl), Or.inl rfl⟩
theorem fg_X2_98_6 : jFg RX2 98 6 14 := ⟨RX8, TX8, 18, _, rfl, wsX80_tb, by decide, (jw_1_10 0 rfl rfl), Or.inl rfl⟩
theorem fg_X2_101_6 : jFg RX2 101 6 7 := ⟨RX8, TX8, 18, _, rfl, wsX80_tb, by decide, (jw_1_8 0 rfl rfl), Or.inl rfl⟩
theorem csn_X2_104_X11_bit : jSsN RX2 104 mX11_bit 2 := ⟨(jn_3_6 1 rfl rfl), (jw_2_10 9 rfl rfl), sy_X11_bit⟩
theorem fg_X2_107_6 : jFg RX2 107 6 6 := ⟨RX8, TX8, 18, _, rfl, wsX80_tb, by decide, (jw_1_7 11 rfl rfl), Or.inl rfl⟩
theorem fg_X2_110_6 : jFg RX2 110 6 8 := ⟨RX8, TX8, 18, _, rfl, wsX80_tb, by decide, (jw_1_8 5 rfl rfl), Or.inl rfl⟩
abbrev mX3_init : jM := (yX3_init, cX3_init, 3, none, [])
abbrev mX4_init : jM := (yX4_init, cX4_init, 3, none, [])
theorem sy_X4_init : jSY mX4_init 2 := ⟨(jw_2_1 12 rfl rfl), (jw_1_0 7 rfl rfl), ⟨lw_n11.1, lw_n11.2, dscr_15⟩, by decide⟩
theorem ci_X3_5_X4_init : jSi RX3 5 mX4_init 2 := ⟨(jw_2_3 1 rfl rfl), (jw_2_1 11 rfl rfl), rfl, sy_X4_init⟩
theorem fp_X3_11_3 : jFp RX3 11 3 2 true (.object "RodRings$Law") := ⟨RX3, TX3, 3, tyX3, rfl, wsX30_tb, tyX3_ok, nmX3, by decide, (jw_2_3 2 rfl rfl), rfl, tyX3_ok 2 (by decide), fun _ => rfl⟩
abbrev mX3_readLine : jM := (yX3_readLine, cX3_readLine, 3, (some .boolean), [])
theorem fg_X3_17_3 : jFg RX3 17 3 0 := ⟨RX3, TX3, 3, _, rfl, wsX30_tb, by decide, (jw_2_2 0 rfl rfl), Or.inr (jw_2_2 1 rfl rfl)⟩
abbrev mX10_kind : jM := (yX10_kind, cX10_kind, 1, (some .int), [])
theorem sy_X10_kind : jSY mX10_kind 0 := ⟨(jw_4_3 2 rfl rfl), (jw_1_0 2 rfl rfl), ⟨lw_n4.1, lw_n4.2, dscr_11⟩, by decide⟩
theorem cv_X3_21_X10_kind : jSv RX3 21 mX10_kind 0 := ⟨(jw_4_3 9 rfl rfl), (jw_4_3 0 rfl rfl), (jw_4_3 1 rfl rfl), sy_X10_kind⟩
abbrev mX10_skip : jM := (yX10_skip, cX10_skip, 1, none, [])
theorem sy_X10_skip : jSY mX10_skip 0 := ⟨(jw_4_3 13 rfl rfl), (jw_1_0 2 rfl rfl), ⟨lw_n4.1, lw_n4.2, dscr_0⟩, by decide⟩
theorem cv_X3_27_X10_skip : jSv RX3 27 mX10_skip 0 := ⟨(jw_4_3 10 rfl rfl), (jw_4_3 11 rfl rfl), (jw_4_3 12 rfl rfl), sy_X10_skip⟩
abbrev mX10_takeNumber : jM := (yX10_takeNumber, cX10_takeNumber, 3, (some .int), [])
theorem sy_X10_takeNumber : jSY mX10_takeNumber 2 := ⟨(jw_4_4 1 rfl rfl), (jw_1_0 2 rfl rfl), ⟨lw_n4.1, lw_n4.2, dscr_6⟩, by decide⟩
theorem cv_X3_31_X10_takeNumber : jSv RX3 31 mX10_takeNumber 2 := ⟨(jw_4_3 14 rfl rfl), (jw_4_3 15 rfl rfl), (jw_4_4 0 rfl rfl), sy_X10_takeNumber⟩
theorem fg_X3_11_3 : jFg RX3 11 3 2 := ⟨RX3, TX3, 3, _, rfl, wsX30_tb, by decide, (jw_2_3 2 rfl rfl), Or.inl rfl⟩
theorem sy_X2_addLine : jSY mX2_addLine 2 := ⟨(jw_4_4 5 rfl rfl), (jw_1_0 5 rfl rfl), ⟨lw_n3.1, lw_n3.2, dscr_16⟩, by decide⟩
theorem cv_X3_35_X2_addLine : jSv RX3 35 mX2_addLine 2 := ⟨(jw_4_4 2 rfl rfl), (jw_4_4 3 rfl rfl), (jw_4_4 4 rfl rfl), sy_X2_addLine⟩
abbrev mX10_take : jM := (yX10_take, cX10_take, 2, (some .boolean), [])
theorem sy_X10_take : jSY mX10_take 1 := ⟨(jw_4_4 9 rfl rfl), (jw_1_0 2 rfl rfl), ⟨lw_n4.1, lw_n4.2, dscr_12⟩, by decide⟩
theorem cv_X3_39_X10_take : jSv RX3 39 mX10_take 1 := ⟨(jw_4_4 6 rfl rfl), (jw_4_4 7 rfl rfl), (jw_4_4 8 rfl rfl), sy_X10_take⟩
abbrev mX3_readCondition : jM := (yX3_readCondition, cX3_readCondition, 5, (some .boolean), [])
theorem sy_X3_readCondition : jSY mX3_readCondition 1 := ⟨(jw_4_4 13 rfl rfl), (jw_1_0 9 rfl rfl), ⟨lw_n5.1, lw_n5.2, dscr_12⟩, by decide⟩
theorem cv_X3_43_X3_readCondition : jSv RX3 43 mX3_readCondition 1 := ⟨(jw_4_4 10 rfl rfl), (jw_4_4 12 rfl rfl), (js_1 12 rfl), sy_X3_readCondition⟩
abbrev mX3_readAtom : jM := (yX3_readAtom, cX3_readAtom, 4, (some .boolean), [])
theorem sy_X3_readAtom : jSY mX3_readAtom 1 := ⟨(jw_4_5 1 rfl rfl), (jw_1_0 9 rfl rfl), ⟨lw_n5.1, lw_n5.2, dscr_12⟩, by decide⟩
theorem cv_X3_46_X3_readAtom : jSv RX3 46 mX3_readAtom 1 := ⟨(jw_4_4 14 rfl rfl), (jw_4_5 0 rfl rfl), (js_1 13 rfl), sy_X3_readAtom⟩
theorem sy_X2_addCode : jSY mX2_addCode 1 := ⟨(jw_4_5 5 rfl rfl), (jw_1_0 5 rfl rfl), ⟨lw_n3.1, lw_n3.2, dscr_14⟩, by decide⟩
theorem cv_X3_49_X2_addCode : jSv RX3 49 mX2_addCode 1 := ⟨(jw_4_5 2 rfl rfl), (jw_4_5 3 rfl rfl), (jw_4_5 4 rfl rfl), sy_X2_addCode⟩
abbrev mX3_readComparison : jM := (yX3_readComparison, cX3_readComparison, 3, (some .boolean), [])
theorem sy_X3_readComparison : jSY mX3_readComparison 0 := ⟨(jw_4_5 9 rfl rfl), (jw_1_0 9 rfl rfl), ⟨lw_n5.1, lw_n5.2, dscr_17⟩, by decide⟩
theorem cv_X3_53_X3_readComparison : jSv RX3 53 mX3_readComparison 0 := ⟨(jw_4_5 6 rfl rfl), (jw_4_5 8 rfl rfl), (js_1 14 rfl), sy_X3_readComparison⟩
abbrev mX3_readSum : jM := (yX3_readSum, cX3_readSum, 5, (some .boolean), [])
theorem sy_X3_readSum : jSY mX3_readSum 0 := ⟨(jw_4_5 13 rfl rfl), (jw_1_0 9 rfl rfl), ⟨lw_n5.1, lw_n5.2, dscr_17⟩, by decide⟩
theorem cv_X3_57_X3_readSum : jSv RX3 57 mX3_readSum 0 := ⟨(jw_4_5 10 rfl rfl), (jw_4_5 12 rfl rfl), (js_1 15 rfl), sy_X3_readSum⟩
abbrev mX5_init : jM := (yX5_init, cX5_init, 1, none, [])
theorem oi_X5_3 : Cond.methodLink RX5 3 Lib.objectInit ∈ jall ∧ Cond.instanceMethod Lib.objectInit ∈ jall ∧ Cond.code Lib.objectInit ⟨#[0xb1]⟩ 1 none ∈ jall := ⟨(jw_1_5 0 rfl rfl), (jw_1_2 3 rfl rfl), (jw_1_2 4 rfl rfl)⟩
theorem fp_X5_11_4 : jFp RX5 11 4 0 true (.array .int) := ⟨RX5, TX5, 3, tyX5, rfl, wsX50_tb, tyX5_ok, nmX5, by decide, (jw_1_5 1 rfl rfl), rfl, tyX5_ok 0 (by decide), fun _ => rfl⟩
abbrev mX5_copyFrom : jM := (yX5_copyFrom, cX5_copyFrom, 2, none, [])
theorem fg_X5_11_4 : jFg RX5 11 4 0 := ⟨RX5, TX5, 3, _, rfl, wsX50_tb, by decide, (jw_1_5 1 rfl rfl), Or.inl rfl⟩
theorem cy_X5_15 : Cond.methodLink RX5 15 arraycopyName ∈ jall ∧ Cond.native arraycopyName ∈ jall ∧ Cond.static arraycopyName ∈ jall ∧ Cond.initialized "java/lang/System" ∈ jall := ⟨(jw_2_13 1 rfl rfl), (jw_2_12 12 rfl rfl), (jw_2_12 11 rfl rfl), (jw_1_0 13 rfl rfl)⟩
theorem fg_X5_21_4 : jFg RX5 21 4 1 := ⟨RX5, TX5, 3, _, rfl, wsX50_tb, by decide, (jw_1_5 2 rfl rfl), Or.inl rfl⟩
theorem fp_X5_21_4 : jFp RX5 21 4 1 false .int := ⟨RX5, TX5, 3, tyX5, rfl, wsX50_tb, tyX5_ok, nmX5, by decide, (jw_1_5 2 rfl rfl), rfl, tyX5_ok 1 (by decide), fun q => by cases q⟩
theorem fg_X5_25_4 : jFg RX5 25 4 2 := ⟨RX5, TX5, 3, _, rfl, wsX50_tb, by decide, (jw_1_5 4 rfl rfl), Or.inl rfl⟩
theorem fp_X5_25_4 : jFp RX5 25 4 2 false .int := ⟨RX5, TX5, 3, tyX5, rfl, wsX50_tb, tyX5_ok, nmX5, by decide, (jw_1_5 4 rfl rfl), rfl, tyX5_ok 2 (by decide), fun q => by cases q⟩
theorem fg_X5_28_6 : jFg RX5 28 6 14 := ⟨RX8, TX8, 18, _, rfl, wsX80_tb, by decide, (jw_1_9 13 rfl rfl), Or.inl rfl⟩
theorem st_X5_33 : Cond.fieldLink RX5 33 "RodRings$Log" "SHIFTS" "[I" ∈ jall := (jw_5_4 15 rfl rfl)
theorem fg_X5_36_6 : jFg RX5 36 6 13 := ⟨RX8, TX8, 18, _, rfl, wsX80_tb, by decide, (jw_1_9 7 rfl rfl), Or.inl rfl⟩
theorem fg_X5_39_6 : jFg RX5 39 6 0 := ⟨RX8, TX8, 18, _, rfl, wsX80_tb, by decide, (jw_1_5 14 rfl rfl), Or.inl rfl⟩
theorem mm_X5_42 : Cond.methodLink RX5 42 Lib.Math.min.name ∈ jall ∧ Cond.static Lib.Math.min.name ∈ jall ∧ Cond.initialized "java/lang/Math" ∈ jall ∧ Cond.code Lib.Math.min.name Lib.Math.min.code 2 (some .int) ∈ jall := ⟨(jw_5_5 1 rfl rfl), (jw_2_14 9 rfl rfl), (jw_1_1 2 rfl rfl), (jw_2_14 10 rfl rfl)⟩
abbrev mX5_read : jM := (yX5_read, cX5_read, 4, (some .int), [])
abbrev mJ9_floorMod_7cf53 : jM := (yJ9_floorMod_7cf53, cJ9_floorMod_7cf53, 3, (some .int), [])
theorem sy_J9_floorMod_7cf53 : jSY mJ9_floorMod_7cf53 2 := ⟨(jw_6_8 5 rfl rfl), (jw_1_1 2 rfl rfl), ⟨lw_n12.1, lw_n12.2, dscr_6⟩, by decide⟩
theorem cs_X5_48_J9_floorMod_7cf53 : jSs RX5 48 mJ9_floorMod_7cf53 2 := ⟨(jw_6_8 3 rfl rfl), (jw_6_8 4 rfl rfl), sy_J9_floorMod_7cf53⟩
theorem st_X5_51 : Cond.fieldLink RX5 51 "RodRings$Log" "MASKS" "[I" ∈ jall := (jw_6_8 6 rfl rfl)
abbrev mX5_rowsOf : jM := (yX5_rowsOf, cX5_rowsOf, 4, (some .int), [])
theorem sy_X5_read : jSY mX5_read 2 := ⟨(jw_6_8 2 rfl rfl), (jw_1_0 4 rfl rfl), ⟨lw_n10.1, lw_n10.2, dscr_6⟩, by decide⟩
theorem cv_X5_54_X5_read : jSv RX5 54 mX5_read 2 := ⟨(jw_6_7 15 rfl rfl), (jw_6_8 0 rfl rfl), (jw_6_8 1 rfl rfl), sy_X5_read⟩
abbrev mX5_latestPlace : jM := (yX5_latestPlace, cX5_latestPlace, 3, (some .int), [])
abbrev mX6_hangsBy : jM := (yX6_hangsBy, cX6_hangsBy, 6, (some .int), [])
theorem fg_X6_9_6 : jFg RX6 9 6 8 := ⟨RX8, TX8, 18, _, rfl, wsX80_tb, by decide, (jw_1_8 1 rfl rfl), Or.inl rfl⟩
theorem csn_X6_15_X11_bit : jSsN RX6 15 mX11_bit 2 := ⟨(jn_3_1 6 rfl rfl), (jw_2_10 9 rfl rfl), sy_X11_bit⟩
theorem fg_X6_19_6 : jFg RX6 19 6 5 := ⟨RX8, TX8, 18, _, rfl, wsX80_tb, by decide, (jw_1_7 4 rfl rfl), Or.inl rfl⟩
theorem fg_X6_22_6 : jFg RX6 22 6 0 := ⟨RX8, TX8, 18, _, rfl, wsX80_tb, by decide, (jw_1_5 13 rfl rfl), Or.inl rfl⟩
theorem mm_X6_26 : Cond.methodLink RX6 26 Lib.Math.abs.name ∈ jall ∧ Cond.static Lib.Math.abs.name ∈ jall ∧ Cond.initialized "java/lang/Math" ∈ jall ∧ Cond.code Lib.Math.abs.name Lib.Math.abs.code 1 (some .int) ∈ jall := ⟨(jw_3_7 8 rfl rfl), (jw_3_7 9 rfl rfl), (jw_1_1 2 rfl rfl), (jw_3_7 10 rfl rfl)⟩
abbrev mX6_share : jM := (yX6_share, cX6_share, 3, (some .int), [])
abbrev mX8_allFades : jM := (yX8_allFades, cX8_allFades, 3, (some .int), [])
theorem sy_X8_allFades : jSY mX8_allFades 0 := ⟨(jw_5_2 7 rfl rfl), (jw_1_0 3 rfl rfl), ⟨lw_n0.1, lw_n0.2, dscr_11⟩, by decide⟩
theorem cv_X6_32_X8_allFades : jSv RX6 32 mX8_allFades 0 := ⟨(jw_5_2 4 rfl rfl), (jw_5_2 5 rfl rfl), (jw_5_2 6 rfl rfl), sy_X8_allFades⟩
theorem fg_X6_36_6 : jFg RX6 36 6 2 := ⟨RX8, TX8, 18, _, rfl, wsX80_tb, by decide, (jw_1_6 5 rfl rfl), Or.inl rfl⟩
abbrev mX6_outOfOrder : jM := (yX6_outOfOrder, cX6_outOfOrder, 3, (some .int), [])
abbrev mX6_isInOrder : jM := (yX6_isInOrder, cX6_isInOrder, 4, (some .boolean), [])
theorem sy_X6_isInOrder : jSY mX6_isInOrder 2 := ⟨(jw_3_1 5 rfl rfl), (jw_1_1 9 rfl rfl), ⟨lw_n13.1, lw_n13.2, dscr_18⟩, by decide⟩
theorem cs_X6_39_X6_isInOrder : jSs RX6 39 mX6_isInOrder 2 := ⟨(jw_3_1 3 rfl rfl), (jw_3_1 4 rfl rfl), sy_X6_isInOrder⟩
abbrev mJ6_bitCount_0f7a4 : jM := (yJ6_bitCount_0f7a4, cJ6_bitCount_0f7a4, 1, (some .int), [])
theorem sy_J6_bitCount_0f7a4 : jSY mJ6_bitCount_0f7a4 1 := ⟨(jw_2_11 6 rfl rfl), (jw_1_1 11 rfl rfl), ⟨lw_n14.1, lw_n14.2, dscr_19⟩, by decide⟩
theorem cs_X6_45_J6_bitCount_0f7a4 : jSs RX6 45 mJ6_bitCount_0f7a4 1 := ⟨(jw_3_1 7 rfl rfl), (jw_2_11 5 rfl rfl), sy_J6_bitCount_0f7a4⟩
theorem mm_X6_50 : Cond.methodLink RX6 50 Lib.Math.max.name ∈ jall ∧ Cond.static Lib.Math.max.name ∈ jall ∧ Cond.initialized "java/lang/Math" ∈ jall ∧ Cond.code Lib.Math.max.name Lib.Math.max.code 2 (some .int) ∈ jall := ⟨(jw_3_1 8 rfl rfl), (jw_3_1 9 rfl rfl), (jw_1_1 2 rfl rfl), (jw_3_1 10 rfl rfl)⟩
abbrev mX6_tightest : jM := (yX6_tightest, cX6_tightest, 6, (some .int), [])
abbrev mX6_spareCloth : jM := (yX6_spareCloth, cX6_spareCloth, 3, (some .int), [])
theorem fg_X6_53_6 : jFg RX6 53 6 1 := ⟨RX8, TX8, 18, _, rfl, wsX80_tb, by decide, (jw_1_6 2 rfl rfl), Or.inl rfl⟩
theorem cv_X6_56_X8_gap : jSv RX6 56 mX8_gap 2 := ⟨(jw_3_2 2 rfl rfl), (jw_3_2 3 rfl rfl), (jw_3_2 4 rfl rfl), sy_X8_gap⟩
abbrev mX6_tautRings : jM := (yX6_tautRings, cX6_tautRings, 3, (some .int), [])
theorem csn_X6_59_X11_withBit : jSsN RX6 59 mX11_withBit 3 := ⟨(jn_3_2 13 rfl rfl), (jw_3_2 14 rfl rfl), sy_X11_withBit⟩
abbrev mX6_litRings : jM := (yX6_litRings, cX6_litRings, 4, (some .int), [])
theorem cv_X6_63_X8_isLit : jSv RX6 63 mX8_isLit 2 := ⟨(jw_3_3 10 rfl rfl), (jw_3_3 11 rfl rfl), (jw_3_3 12 rfl rfl), sy_X8_isLit⟩
abbrev mX6_sunniest : jM := (yX6_sunniest, cX6_sunniest, 5, (some .int), [])
abbrev mX6_litHours : jM := (yX6_litHours, cX6_litHours, 4, (some .int), [])
theorem sy_X6_litHours : jSY mX6_litHours 2 := ⟨(jw_3_3 9 rfl rfl), (jw_1_1 9 rfl rfl), ⟨lw_n13.1, lw_n13.2, dscr_3⟩, by decide⟩
theorem cs_X6_67_X6_litHours : jSs RX6 67 mX6_litHours 2 := ⟨(jw_3_3 7 rfl rfl), (jw_3_3 8 rfl rfl), sy_X6_litHours⟩
abbrev mX6_evenLength : jM := (yX6_evenLength, cX6_evenLength, 6, (some .int), [])
theorem fg_X6_71_6 : jFg RX6 71 6 3 := ⟨RX8, TX8, 18, _, rfl, wsX80_tb, by decide, (jw_1_6 13 rfl rfl), Or.inl rfl⟩
abbrev mX6_enviousPairs : jM := (yX6_enviousPairs, cX6_enviousPairs, 3, (some .int), [])
abbrev mX6_restingChoices : jM := (yX6_restingChoices, cX6_restingChoices, 5, (some .int), [])
abbrev mX6_gain : jM := (yX6_gain, cX6_gain, 3, (some .int), [])
theorem sy_X6_gain : jSY mX6_gain 3 := ⟨(jw_6_4 13 rfl rfl), (jw_1_1 9 rfl rfl), ⟨lw_n13.1, lw_n13.2, dscr_20⟩, by decide⟩
theorem cs_X6_74_X6_gain : jSs RX6 74 mX6_gain 3 := ⟨(jw_6_4 11 rfl rfl), (jw_6_4 12 rfl rfl), sy_X6_gain⟩
theorem fg_X6_78_6 : jFg RX6 78 6 9 := ⟨RX8, TX8, 18, _, rfl, wsX80_tb, by decide, (jw_1_8 11 rfl rfl), Or.inl rfl⟩
abbrev mX6_largestBunch : jM := (yX6_largestBunch, cX6_largestBunch, 4, (some .int), [])
abbrev mX6_thickBeyondJoin : jM := (yX6_thickBeyondJoin, cX6_thickBeyondJoin, 3, (some .int), [])
theorem fg_X6_81_6 : jFg RX6 81 6 6 := ⟨RX8, TX8, 18, _, rfl, wsX80_tb, by decide, (jw_1_7 12 rfl rfl), Or.inl rfl⟩
theorem fg_X6_84_6 : jFg RX6 84 6 11 := ⟨RX8, TX8, 18, _, rfl, wsX80_tb, by decide, (jw_1_9 1 rfl rfl), Or.inl rfl⟩
abbrev mX6_likePairs : jM := (yX6_likePairs, cX6_likePairs, 4, (some .int), [])
abbrev mX7_init : jM := (yX7_init, cX7_init, 3, none, [])
theorem oi_X7_3 : Cond.methodLink RX7 3 Lib.objectInit ∈ jall ∧ Cond.instanceMethod Lib.objectInit ∈ jall ∧ Cond.code Lib.objectInit ⟨#[0xb1]⟩ 1 none ∈ jall := ⟨(jw_2_4 10 rfl rfl), (jw_1_2 3 rfl rfl), (jw_1_2 4 rfl rfl)⟩
theorem fp_X7_11_5 : jFp RX7 11 5 2 true (.array .int) := ⟨RX7, TX7, 7, tyX7, rfl, wsX70_tb, tyX7_ok, nmX7, by decide, (jw_2_4 13 rfl rfl), rfl, tyX7_ok 2 (by decide), fun _ => rfl⟩
theorem fp_X7_15_5 : jFp RX7 15 5 3 true (.array .int) := ⟨RX7, TX7, 7, tyX7, rfl, wsX70_tb, tyX7_ok, nmX7, by decide, (jw_2_4 14 rfl rfl), rfl, tyX7_ok 3 (by decide), fun _ => rfl⟩
theorem fp_X7_18_5 : jFp RX7 18 5 0 true (.object "RodRings$Tape") := ⟨RX7, TX7, 7, tyX7, rfl, wsX70_tb, tyX7_ok, nmX7, by decide, (jw_2_4 11 rfl rfl), rfl, tyX7_ok 0 (by decide), fun _ => rfl⟩
theorem fp_X7_22_5 : jFp RX7 22 5 1 true (.object "RodRings$Rod") := ⟨RX7, TX7, 7, tyX7, rfl, wsX70_tb, tyX7_ok, nmX7, by decide, (jw_2_4 12 rfl rfl), rfl, tyX7_ok 1 (by decide), fun _ => rfl⟩
abbrev mX7_shadiest : jM := (yX7_shadiest, cX7_shadiest, 7, (some .int), [])
theorem fg_X7_22_5 : jFg RX7 22 5 1 := ⟨RX7, TX7, 7, _, rfl, wsX70_tb, by decide, (jw_2_4 12 rfl rfl), Or.inl rfl⟩
theorem cv_X7_26_X8_copyFrom : jSv RX7 26 mX8_copyFrom 1 := ⟨(jw_2_12 6 rfl rfl), (jw_2_12 7 rfl rfl), (jw_2_12 8 rfl rfl), sy_X8_copyFrom⟩
abbrev mX8_shadedChairs : jM := (yX8_shadedChairs, cX8_shadedChairs, 1, (some .int), [])
theorem sy_X8_shadedChairs : jSY mX8_shadedChairs 0 := ⟨(jw_2_11 2 rfl rfl), (jw_1_0 3 rfl rfl), ⟨lw_n0.1, lw_n0.2, dscr_11⟩, by decide⟩
theorem cv_X7_32_X8_shadedChairs : jSv RX7 32 mX8_shadedChairs 0 := ⟨(jw_2_13 6 rfl rfl), (jw_2_11 0 rfl rfl), (jw_2_11 1 rfl rfl), sy_X8_shadedChairs⟩
theorem fg_X7_36_6 : jFg RX7 36 6 5 := ⟨RX8, TX8, 18, _, rfl, wsX80_tb, by decide, (jw_1_7 2 rfl rfl), Or.inl rfl⟩
abbrev mX8_hangAs : jM := (yX8_hangAs, cX8_hangAs, 2, none, [])
theorem sy_X8_hangAs : jSY mX8_hangAs 1 := ⟨(jw_2_13 5 rfl rfl), (jw_1_0 3 rfl rfl), ⟨lw_n0.1, lw_n0.2, dscr_1⟩, by decide⟩
theorem cv_X7_40_X8_hangAs : jSv RX7 40 mX8_hangAs 1 := ⟨(jw_2_13 7 rfl rfl), (jw_2_13 3 rfl rfl), (jw_2_13 4 rfl rfl), sy_X8_hangAs⟩
abbrev mX8_move : jM := (yX8_move, cX8_move, 7, (some .int), [])
theorem sy_X8_move : jSY mX8_move 3 := ⟨(jw_2_13 11 rfl rfl), (jw_1_0 3 rfl rfl), ⟨lw_n0.1, lw_n0.2, dscr_21⟩, by decide⟩
theorem cv_X7_43_X8_move : jSv RX7 43 mX8_move 3 := ⟨(jw_2_13 8 rfl rfl), (jw_2_13 9 rfl rfl), (jw_2_13 10 rfl rfl), sy_X8_move⟩
abbrev mX7_seekShade : jM := (yX7_seekShade, cX7_seekShade, 5, none, [])
theorem fp_X7_47_5 : jFp RX7 47 5 6 false .int := ⟨RX7, TX7, 7, tyX7, rfl, wsX70_tb, tyX7_ok, nmX7, by decide, (jw_2_5 3 rfl rfl), rfl, tyX7_ok 6 (by decide), fun q => by cases q⟩
abbrev mX8_shadow : jM := (yX8_shadow, cX8_shadow, 3, (some .int), [])
theorem sy_X8_shadow : jSY mX8_shadow 0 := ⟨(jw_2_10 7 rfl rfl), (jw_1_0 3 rfl rfl), ⟨lw_n0.1, lw_n0.2, dscr_11⟩, by decide⟩
theorem cv_X7_50_X8_shadow : jSv RX7 50 mX8_shadow 0 := ⟨(jw_3_0 3 rfl rfl), (jw_2_10 5 rfl rfl), (jw_2_10 6 rfl rfl), sy_X8_shadow⟩
theorem fp_X7_53_5 : jFp RX7 53 5 5 false .int := ⟨RX7, TX7, 7, tyX7, rfl, wsX70_tb, tyX7_ok, nmX7, by decide, (jw_2_5 1 rfl rfl), rfl, tyX7_ok 5 (by decide), fun q => by cases q⟩
theorem fg_X7_53_5 : jFg RX7 53 5 5 := ⟨RX7, TX7, 7, _, rfl, wsX70_tb, by decide, (jw_2_5 1 rfl rfl), Or.inl rfl⟩
abbrev mX7_stepsToShade : jM := (yX7_stepsToShade, cX7_stepsToShade, 5, (some .int), [])
theorem sy_X7_stepsToShade : jSY mX7_stepsToShade 3 := ⟨(jw_3_0 7 rfl rfl), (jw_1_0 11 rfl rfl), ⟨lw_n1.1, lw_n1.2, dscr_20⟩, by decide⟩
theorem cv_X7_56_X7_stepsToShade : jSv RX7 56 mX7_stepsToShade 3 := ⟨(jw_3_0 4 rfl rfl), (jw_3_0 6 rfl rfl), (js_1 2 rfl), sy_X7_stepsToShade⟩
abbrev mX7_fewestFreed : jM := (yX7_fewestFreed, cX7_fewestFreed, 8, (some .int), [])
theorem fg_X7_66_6 : jFg RX7 66 6 9 := ⟨RX8, TX8, 18, _, rfl, wsX80_tb, by decide, (jw_1_8 7 rfl rfl), Or.inl rfl⟩
abbrev mX7_farWith : jM := (yX7_farWith, cX7_farWith, 6, (some .int), [])
theorem sy_X7_farWith : jSY mX7_farWith 5 := ⟨(jw_5_14 4 rfl rfl), (jw_1_0 11 rfl rfl), ⟨lw_n1.1, lw_n1.2, dscr_22⟩, by decide⟩
theorem cv_X7_69_X7_farWith : jSv RX7 69 mX7_farWith 5 := ⟨(jw_5_14 1 rfl rfl), (jw_5_14 3 rfl rfl), (js_2 12 rfl), sy_X7_farWith⟩
theorem cs_X7_60_J6_bitCount_0f7a4 : jSs RX7 60 mJ6_bitCount_0f7a4 1 := ⟨(jw_6_1 5 rfl rfl), (jw_2_11 5 rfl rfl), sy_J6_bitCount_0f7a4⟩
theorem fp_X7_66_6 : jFp RX7 66 6 9 false .int := ⟨RX8, TX8, 18, tyX8, rfl, wsX80_tb, tyX8_ok, nmX8, by decide, (jw_1_8 7 rfl rfl), rfl, tyX8_ok 9 (by decide), fun q => by cases q⟩
abbrev mX7_areRows : jM := (yX7_areRows, cX7_areRows, 3, (some .boolean), [])
theorem fg_X7_18_5 : jFg RX7 18 5 0 := ⟨RX7, TX7, 7, _, rfl, wsX70_tb, by decide, (jw_2_4 11 rfl rfl), Or.inl rfl⟩
theorem fg_X7_73_8 : jFg RX7 73 8 6 := ⟨RX10, TX10, 7, _, rfl, wsX100_tb, by decide, (jw_1_3 3 rfl rfl), Or.inl rfl⟩
abbrev mX10_at : jM := (yX10_at, cX10_at, 2, (some .int), [])
theorem sy_X10_at : jSY mX10_at 1 := ⟨(jw_3_13 9 rfl rfl), (jw_1_0 2 rfl rfl), ⟨lw_n4.1, lw_n4.2, dscr_19⟩, by decide⟩
theorem cv_X7_78_X10_at : jSv RX7 78 mX10_at 1 := ⟨(jw_5_13 8 rfl rfl), (jw_3_13 7 rfl rfl), (jw_3_13 8 rfl rfl), sy_X10_at⟩
abbrev mX7_seekSnags : jM := (yX7_seekSnags, cX7_seekSnags, 4, none, [])
theorem fp_X7_81_5 : jFp RX7 81 5 4 false .int := ⟨RX7, TX7, 7, tyX7, rfl, wsX70_tb, tyX7_ok, nmX7, by decide, (jw_2_4 15 rfl rfl), rfl, tyX7_ok 4 (by decide), fun q => by cases q⟩
theorem fg_X7_81_5 : jFg RX7 81 5 4 := ⟨RX7, TX7, 7, _, rfl, wsX70_tb, by decide, (jw_2_4 15 rfl rfl), Or.inl rfl⟩
abbrev mX7_isFitting : jM := (yX7_isFitting, cX7_isFitting, 5, (some .boolean), [])
theorem sy_X7_isFitting : jSY mX7_isFitting 2 := ⟨(jw_5_14 0 rfl rfl), (jw_1_0 11 rfl rfl), ⟨lw_n1.1, lw_n1.2, dscr_18⟩, by decide⟩
theorem cv_X7_84_X7_isFitting : jSv RX7 84 mX7_isFitting 2 := ⟨(jw_5_13 13 rfl rfl), (jw_5_13 15 rfl rfl), (js_2 11 rfl), sy_X7_isFitting⟩
theorem fg_X7_11_5 : jFg RX7 11 5 2 := ⟨RX7, TX7, 7, _, rfl, wsX70_tb, by decide, (jw_2_4 13 rfl rfl), Or.inl rfl⟩
abbrev mX7_inAllFitting : jM := (yX7_inAllFitting, cX7_inAllFitting, 3, (some .int), [])
abbrev mX7_partingPull : jM := (yX7_partingPull, cX7_partingPull, 6, (some .int), [])
abbrev mX7_greatestPart : jM := (yX7_greatestPart, cX7_greatestPart, 6, (some .int), [])
theorem sy_X7_greatestPart : jSY mX7_greatestPart 2 := ⟨(jw_6_0 8 rfl rfl), (jw_1_0 11 rfl rfl), ⟨lw_n1.1, lw_n1.2, dscr_3⟩, by decide⟩
theorem cv_X7_88_X7_greatestPart : jSv RX7 88 mX7_greatestPart 2 := ⟨(jw_6_0 5 rfl rfl), (jw_6_0 7 rfl rfl), (js_2 13 rfl), sy_X7_greatestPart⟩
theorem fg_X7_15_5 : jFg RX7 15 5 3 := ⟨RX7, TX7, 7, _, rfl, wsX70_tb, by decide, (jw_2_4 14 rfl rfl), Or.inl rfl⟩
theorem mm_X7_92 : Cond.methodLink RX7 92 Lib.Math.max.name ∈ jall ∧ Cond.static Lib.Math.max.name ∈ jall ∧ Cond.initialized "java/lang/Math" ∈ jall ∧ Cond.code Lib.Math.max.name Lib.Math.max.code 2 (some .int) ∈ jall := ⟨(jw_6_0 9 rfl rfl), (jw_3_1 9 rfl rfl), (jw_1_1 2 rfl rfl), (jw_3_1 10 rfl rfl)⟩
theorem oi_X8_3 : Cond.methodLink RX8 3 Lib.objectInit ∈ jall ∧ Cond.instanceMethod Lib.objectInit ∈ jall ∧ Cond.code Lib.objectInit ⟨#[0xb1]⟩ 1 none ∈ jall := ⟨(jw_1_4 10 rfl rfl), (jw_1_2 3 rfl rfl), (jw_1_2 4 rfl rfl)⟩
theorem fp_X8_9_6 : jFp RX8 9 6 0 true (.array .int) := ⟨RX8, TX8, 18, tyX8, rfl, wsX80_tb, tyX8_ok, nmX8, by decide, (jw_1_5 12 rfl rfl), rfl, tyX8_ok 0 (by decide), fun _ => rfl⟩
theorem fp_X8_15_6 : jFp RX8 15 6 1 true (.array .int) := ⟨RX8, TX8, 18, tyX8, rfl, wsX80_tb, tyX8_ok, nmX8, by decide, (jw_1_6 1 rfl rfl), rfl, tyX8_ok 1 (by decide), fun _ => rfl⟩
theorem fp_X8_18_6 : jFp RX8 18 6 2 true (.array .int) := ⟨RX8, TX8, 18, tyX8, rfl, wsX80_tb, tyX8_ok, nmX8, by decide, (jw_1_6 4 rfl rfl), rfl, tyX8_ok 2 (by decide), fun _ => rfl⟩
theorem fp_X8_21_6 : jFp RX8 21 6 3 true (.array .int) := ⟨RX8, TX8, 18, tyX8, rfl, wsX80_tb, tyX8_ok, nmX8, by decide, (jw_1_6 10 rfl rfl), rfl, tyX8_ok 3 (by decide), fun _ => rfl⟩
theorem fn_X8_24 : jFn RX8 24 4 3 [.null, .int 0, .int 0] := ⟨RX5, TX5, tyX5, rfl, wsX50_tb, tyX5_ok, (jw_1_4 11 rfl rfl), (jw_1_4 12 rfl rfl), (jw_1_0 4 rfl rfl), by decide⟩
theorem sy_X5_init : jSY mX5_init 0 := ⟨(jw_1_4 15 rfl rfl), (jw_1_0 4 rfl rfl), ⟨lw_n10.1, lw_n10.2, dscr_0⟩, by decide⟩
theorem cin_X8_26_X5_init : jSiN RX8 26 mX5_init 0 := ⟨(jn_1_4 13 rfl rfl), (jw_1_4 14 rfl rfl), rfl, sy_X5_init⟩
theorem fp_X8_27_6 : jFp RX8 27 6 4 true (.object "RodRings$Log") := ⟨RX8, TX8, 18, tyX8, rfl, wsX80_tb, tyX8_ok, nmX8, by decide, (jw_1_6 15 rfl rfl), rfl, tyX8_ok 4 (by decide), fun _ => rfl⟩
theorem fp_X8_31_6 : jFp RX8 31 6 11 false .int := ⟨RX8, TX8, 18, tyX8, rfl, wsX80_tb, tyX8_ok, nmX8, by decide, (jw_1_8 15 rfl rfl), rfl, tyX8_ok 11 (by decide), fun q => by cases q⟩
theorem fp_X8_35_6 : jFp RX8 35 6 12 false .int := ⟨RX8, TX8, 18, tyX8, rfl, wsX80_tb, tyX8_ok, nmX8, by decide, (jw_1_9 3 rfl rfl), rfl, tyX8_ok 12 (by decide), fun q => by cases q⟩
theorem fp_X8_38_6 : jFp RX8 38 6 16 false .int := ⟨RX8, TX8, 18, tyX8, rfl, wsX80_tb, tyX8_ok, nmX8, by decide, (jw_1_10 4 rfl rfl), rfl, tyX8_ok 16 (by decide), fun q => by cases q⟩
theorem fg_X8_15_6 : jFg RX8 15 6 1 := ⟨RX8, TX8, 18, _, rfl, wsX80_tb, by decide, (jw_1_6 1 rfl rfl), Or.inl rfl⟩
theorem cy_X8_41 : Cond.methodLink RX8 41 arraycopyName ∈ jall ∧ Cond.native arraycopyName ∈ jall ∧ Cond.static arraycopyName ∈ jall ∧ Cond.initialized "java/lang/System" ∈ jall := ⟨(jw_2_12 10 rfl rfl), (jw_2_12 12 rfl rfl), (jw_2_12 11 rfl rfl), (jw_1_0 13 rfl rfl)⟩
theorem fg_X8_18_6 : jFg RX8 18 6 2 := ⟨RX8, TX8, 18, _, rfl, wsX80_tb, by decide, (jw_1_6 4 rfl rfl), Or.inl rfl⟩
theorem fg_X8_21_6 : jFg RX8 21 6 3 := ⟨RX8, TX8, 18, _, rfl, wsX80_tb, by decide, (jw_1_6 10 rfl rfl), Or.inl rfl⟩
theorem fg_X8_27_6 : jFg RX8 27 6 4 := ⟨RX8, TX8, 18, _, rfl, wsX80_tb, by decide, (jw_1_6 15 rfl rfl), Or.inl rfl⟩
theorem sy_X5_copyFrom : jSY mX5_copyFrom 1 := ⟨(jw_2_13 0 rfl rfl), (jw_1_0 4 rfl rfl), ⟨lw_n10.1, lw_n10.2, dscr_23⟩, by decide⟩
theorem cv_X8_47_X5_copyFrom : jSv RX8 47 mX5_copyFrom 1 := ⟨(jw_2_12 13 rfl rfl), (jw_2_12 14 rfl rfl), (jw_2_12 15 rfl rfl), sy_X5_copyFrom⟩
theorem fg_X8_51_6 : jFg RX8 51 6 5 := ⟨RX8, TX8, 18, _, rfl, wsX80_tb, by decide, (jw_1_7 5 rfl rfl), Or.inl rfl⟩
theorem fp_X8_51_6 : jFp RX8 51 6 5 false .int := ⟨RX8, TX8, 18, tyX8, rfl, wsX80_tb, tyX8_ok, nmX8, by decide, (jw_1_7 5 rfl rfl), rfl, tyX8_ok 5 (by decide), fun q => by cases q⟩
theorem fg_X8_54_6 : jFg RX8 54 6 6 := ⟨RX8, TX8, 18, _, rfl, wsX80_tb, by decide, (jw_1_7 8 rfl rfl), Or.inl rfl⟩
theorem fp_X8_54_6 : jFp RX8 54 6 6 false .int := ⟨RX8, TX8, 18, tyX8, rfl, wsX80_tb, tyX8_ok, nmX8, by decide, (jw_1_7 8 rfl rfl), rfl, tyX8_ok 6 (by decide), fun q => by cases q⟩
theorem fg_X8_57_6 : jFg RX8 57 6 7 := ⟨RX8, TX8, 18, _, rfl, wsX80_tb, by decide, (jw_1_7 13 rfl rfl), Or.inl rfl⟩
theorem fp_X8_57_6 : jFp RX8 57 6 7 false .int := ⟨RX8, TX8, 18, tyX8, rfl, wsX80_tb, tyX8_ok, nmX8, by decide, (jw_1_7 13 rfl rfl), rfl, tyX8_ok 7 (by decide), fun q => by cases q⟩
theorem fg_X8_60_6 : jFg RX8 60 6 8 := ⟨RX8, TX8, 18, _, rfl, wsX80_tb, by decide, (jw_1_8 2 rfl rfl), Or.inl rfl⟩
theorem fp_X8_60_6 : jFp RX8 60 6 8 false .int := ⟨RX8, TX8, 18, tyX8, rfl, wsX80_tb, tyX8_ok, nmX8, by decide, (jw_1_8 2 rfl rfl), rfl, tyX8_ok 8 (by decide), fun q => by cases q⟩
theorem fg_X8_63_6 : jFg RX8 63 6 10 := ⟨RX8, TX8, 18, _, rfl, wsX80_tb, by decide, (jw_1_8 12 rfl rfl), Or.inl rfl⟩
theorem fp_X8_63_6 : jFp RX8 63 6 10 false .int := ⟨RX8, TX8, 18, tyX8, rfl, wsX80_tb, tyX8_ok, nmX8, by decide, (jw_1_8 12 rfl rfl), rfl, tyX8_ok 10 (by decide), fun q => by cases q⟩
theorem fg_X8_31_6 : jFg RX8 31 6 11 := ⟨RX8, TX8, 18, _, rfl, wsX80_tb, by decide, (jw_1_8 15 rfl rfl), Or.inl rfl⟩
theorem fg_X8_35_6 : jFg RX8 35 6 12 := ⟨RX8, TX8, 18, _, rfl, wsX80_tb, by decide, (jw_1_9 3 rfl rfl), Or.inl rfl⟩
theorem fg_X8_66_6 : jFg RX8 66 6 13 := ⟨RX8, TX8, 18, _, rfl, wsX80_tb, by decide, (jw_1_9 6 rfl rfl), Or.inl rfl⟩
theorem fp_X8_66_6 : jFp RX8 66 6 13 false .int := ⟨RX8, TX8, 18, tyX8, rfl, wsX80_tb, tyX8_ok, nmX8, by decide, (jw_1_9 6 rfl rfl), rfl, tyX8_ok 13 (by decide), fun q => by cases q⟩
theorem fg_X8_69_6 : jFg RX8 69 6 14 := ⟨RX8, TX8, 18, _, rfl, wsX80_tb, by decide, (jw_1_9 12 rfl rfl), Or.inl rfl⟩
theorem fp_X8_69_6 : jFp RX8 69 6 14 false .int := ⟨RX8, TX8, 18, tyX8, rfl, wsX80_tb, tyX8_ok, nmX8, by decide, (jw_1_9 12 rfl rfl), rfl, tyX8_ok 14 (by decide), fun q => by cases q⟩
theorem fg_X8_38_6 : jFg RX8 38 6 16 := ⟨RX8, TX8, 18, _, rfl, wsX80_tb, by decide, (jw_1_10 4 rfl rfl), Or.inl rfl⟩
theorem fg_X8_72_6 : jFg RX8 72 6 17 := ⟨RX8, TX8, 18, _, rfl, wsX80_tb, by decide, (jw_1_10 7 rfl rfl), Or.inl rfl⟩
theorem fp_X8_72_6 : jFp RX8 72 6 17 false .int := ⟨RX8, TX8, 18, tyX8, rfl, wsX80_tb, tyX8_ok, nmX8, by decide, (jw_1_10 7 rfl rfl), rfl, tyX8_ok 17 (by decide), fun q => by cases q⟩
theorem cv_X8_75_X8_hangAs : jSv RX8 75 mX8_hangAs 1 := ⟨(jw_2_13 2 rfl rfl), (jw_2_13 3 rfl rfl), (jw_2_13 4 rfl rfl), sy_X8_hangAs⟩
theorem fg_X8_9_6 : jFg RX8 9 6 0 := ⟨RX8, TX8, 18, _, rfl, wsX80_tb, by decide, (jw_1_5 12 rfl rfl), Or.inl rfl⟩
theorem fg_X8_79_6 : jFg RX8 79 6 15 := ⟨RX8, TX8, 18, _, rfl, wsX80_tb, by decide, (jw_1_10 2 rfl rfl), Or.inl rfl⟩
theorem fp_X8_79_6 : jFp RX8 79 6 15 false .int := ⟨RX8, TX8, 18, tyX8, rfl, wsX80_tb, tyX8_ok, nmX8, by decide, (jw_1_10 2 rfl rfl), rfl, tyX8_ok 15 (by decide), fun q => by cases q⟩
theorem fg_X8_82_6 : jFg RX8 82 6 9 := ⟨RX8, TX8, 18, _, rfl, wsX80_tb, by decide, (jw_1_8 6 rfl rfl), Or.inl rfl⟩
theorem fp_X8_82_6 : jFp RX8 82 6 9 false .int := ⟨RX8, TX8, 18, tyX8, rfl, wsX80_tb, tyX8_ok, nmX8, by decide, (jw_1_8 6 rfl rfl), rfl, tyX8_ok 9 (by decide), fun q => by cases q⟩
abbrev mX8_nearestNew : jM := (yX8_nearestNew, cX8_nearestNew, 1, (some .int), [])
abbrev mX8_farthestNew : jM := (yX8_farthestNew, cX8_farthestNew, 1, (some .int), [])
theorem mm_X8_85 : Cond.methodLink RX8 85 Lib.Math.min.name ∈ jall ∧ Cond.static Lib.Math.min.name ∈ jall ∧ Cond.initialized "java/lang/Math" ∈ jall ∧ Cond.code Lib.Math.min.name Lib.Math.min.code 2 (some .int) ∈ jall := ⟨(jw_2_14 8 rfl rfl), (jw_2_14 9 rfl rfl), (jw_1_1 2 rfl rfl), (jw_2_14 10 rfl rfl)⟩
abbrev mX8_add : jM := (yX8_add, cX8_add, 3, none, [])
theorem csn_X8_91_X11_withBit : jSsN RX8 91 mX11_withBit 3 := ⟨(jn_4_7 8 rfl rfl), (jw_3_2 14 rfl rfl), sy_X11_withBit⟩
abbrev mX8_unhooked : jM := (yX8_unhooked, cX8_unhooked, 1, (some .int), [])
theorem csn_X8_95_X11_bit : jSsN RX8 95 mX11_bit 2 := ⟨(jn_2_10 8 rfl rfl), (jw_2_10 9 rfl rfl), sy_X11_bit⟩
theorem cv_X8_98_X8_shadow : jSv RX8 98 mX8_shadow 0 := ⟨(jw_2_11 3 rfl rfl), (jw_2_10 5 rfl rfl), (jw_2_10 6 rfl rfl), sy_X8_shadow⟩
theorem cs_X8_102_J6_bitCount_0f7a4 : jSs RX8 102 mJ6_bitCount_0f7a4 1 := ⟨(jw_2_11 4 rfl rfl), (jw_2_11 5 rfl rfl), sy_J6_bitCount_0f7a4⟩
abbrev mX8_goers : jM := (yX8_goers, cX8_goers, 6, (some .int), [])
abbrev mX8_isStopped : jM := (yX8_isStopped, cX8_isStopped, 3, (some .boolean), [])
theorem sy_X8_isStopped : jSY mX8_isStopped 2 := ⟨(jw_2_14 7 rfl rfl), (jw_1_0 3 rfl rfl), ⟨lw_n0.1, lw_n0.2, dscr_24⟩, by decide⟩
theorem cv_X8_112_X8_isStopped : jSv RX8 112 mX8_isStopped 2 := ⟨(jw_2_14 4 rfl rfl), (jw_2_14 6 rfl rfl), (js_1 1 rfl), sy_X8_isStopped⟩
abbrev mX8_goTogether : jM := (yX8_goTogether, cX8_goTogether, 4, (some .boolean), [])
theorem sy_X8_goTogether : jSY mX8_goTogether 2 := ⟨(jw_2_14 3 rfl rfl), (jw_1_0 3 rfl rfl), ⟨lw_n0.1, lw_n0.2, dscr_24⟩, by decide⟩
theorem cv_X8_108_X8_goTogether : jSv RX8 108 mX8_goTogether 2 := ⟨(jw_2_14 0 rfl rfl), (jw_2_14 2 rfl rfl), (js_1 0 rfl), sy_X8_goTogether⟩
theorem sy_X8_goers : jSY mX8_goers 2 := ⟨(jw_2_13 15 rfl rfl), (jw_1_0 3 rfl rfl), ⟨lw_n0.1, lw_n0.2, dscr_25⟩, by decide⟩
theorem cv_X8_115_X8_goers : jSv RX8 115 mX8_goers 2 := ⟨(jw_2_13 12 rfl rfl), (jw_2_13 13 rfl rfl), (jw_2_13 14 rfl rfl), sy_X8_goers⟩
abbrev mX9_init : jM := (yX9_init, cX9_init, 3, none, [])
theorem ci_X9_5_X4_init : jSi RX9 5 mX4_init 2 := ⟨(jw_2_1 10 rfl rfl), (jw_2_1 11 rfl rfl), rfl, sy_X4_init⟩
theorem fp_X9_11_7 : jFp RX9 11 7 2 true (.object "RodRings$Rod") := ⟨RX9, TX9, 3, tyX9, rfl, wsX90_tb, tyX9_ok, nmX9, by decide, (jw_2_1 14 rfl rfl), rfl, tyX9_ok 2 (by decide), fun _ => rfl⟩
abbrev mX9_readLine : jM := (yX9_readLine, cX9_readLine, 3, (some .boolean), [])
theorem fg_X9_15_7 : jFg RX9 15 7 0 := ⟨RX9, TX9, 3, _, rfl, wsX90_tb, by decide, (jw_2_2 2 rfl rfl), Or.inr (jw_2_2 3 rfl rfl)⟩
theorem cv_X9_19_X10_kind : jSv RX9 19 mX10_kind 0 := ⟨(jw_4_6 1 rfl rfl), (jw_4_3 0 rfl rfl), (jw_4_3 1 rfl rfl), sy_X10_kind⟩
abbrev mX9_beginsLine : jM := (yX9_beginsLine, cX9_beginsLine, 1, (some .boolean), [])
theorem sy_X9_beginsLine : jSY mX9_beginsLine 1 := ⟨(jw_4_6 4 rfl rfl), (jw_1_0 8 rfl rfl), ⟨lw_n6.1, lw_n6.2, dscr_12⟩, by decide⟩
theorem cs_X9_25_X9_beginsLine : jSs RX9 25 mX9_beginsLine 1 := ⟨(jw_4_6 2 rfl rfl), (jw_4_6 3 rfl rfl), sy_X9_beginsLine⟩
theorem cv_X9_35_X10_skip : jSv RX9 35 mX10_skip 0 := ⟨(jw_4_6 5 rfl rfl), (jw_4_3 11 rfl rfl), (jw_4_3 12 rfl rfl), sy_X10_skip⟩
abbrev mX9_readNumber : jM := (yX9_readNumber, cX9_readNumber, 2, (some .int), [])
theorem sy_X9_readNumber : jSY mX9_readNumber 1 := ⟨(jw_4_8 1 rfl rfl), (jw_1_0 8 rfl rfl), ⟨lw_n6.1, lw_n6.2, dscr_19⟩, by decide⟩
theorem cv_X9_43_X9_readNumber : jSv RX9 43 mX9_readNumber 1 := ⟨(jw_4_7 14 rfl rfl), (jw_4_8 0 rfl rfl), (js_2 2 rfl), sy_X9_readNumber⟩
abbrev mX9_keepNumber : jM := (yX9_keepNumber, cX9_keepNumber, 3, none, [])
theorem sy_X9_keepNumber : jSY mX9_keepNumber 2 := ⟨(jw_4_8 5 rfl rfl), (jw_1_0 8 rfl rfl), ⟨lw_n6.1, lw_n6.2, dscr_16⟩, by decide⟩
theorem cv_X9_47_X9_keepNumber : jSv RX9 47 mX9_keepNumber 2 := ⟨(jw_4_8 2 rfl rfl), (jw_4_8 4 rfl rfl), (js_2 3 rfl), sy_X9_keepNumber⟩
abbrev mX9_readRing : jM := (yX9_readRing, cX9_readRing, 4, (some .boolean), [])
theorem sy_X9_readRing : jSY mX9_readRing 0 := ⟨(jw_4_6 9 rfl rfl), (jw_1_0 8 rfl rfl), ⟨lw_n6.1, lw_n6.2, dscr_17⟩, by decide⟩
theorem cv_X9_39_X9_readRing : jSv RX9 39 mX9_readRing 0 := ⟨(jw_4_6 6 rfl rfl), (jw_4_6 8 rfl rfl), (js_2 0 rfl), sy_X9_readRing⟩
theorem fg_X9_11_7 : jFg RX9 11 7 2 := ⟨RX9, TX9, 3, _, rfl, wsX90_tb, by decide, (jw_2_1 14 rfl rfl), Or.inl rfl⟩
theorem fg_X9_29_6 : jFg RX9 29 6 5 := ⟨RX8, TX8, 18, _, rfl, wsX80_tb, by decide, (jw_1_7 3 rfl rfl), Or.inl rfl⟩
theorem cv_X9_51_X10_takeNumber : jSv RX9 51 mX10_takeNumber 2 := ⟨(jw_4_7 3 rfl rfl), (jw_4_3 15 rfl rfl), (jw_4_4 0 rfl rfl), sy_X10_takeNumber⟩
theorem fp_X9_71_6 : jFp RX9 71 6 13 false .int := ⟨RX8, TX8, 18, tyX8, rfl, wsX80_tb, tyX8_ok, nmX8, by decide, (jw_1_9 8 rfl rfl), rfl, tyX8_ok 13 (by decide), fun q => by cases q⟩
theorem fg_X9_55_6 : jFg RX9 55 6 9 := ⟨RX8, TX8, 18, _, rfl, wsX80_tb, by decide, (jw_1_8 8 rfl rfl), Or.inl rfl⟩
theorem csn_X9_58_X11_withBit : jSsN RX9 58 mX11_withBit 3 := ⟨(jn_4_7 9 rfl rfl), (jw_3_2 14 rfl rfl), sy_X11_withBit⟩
theorem fp_X9_55_6 : jFp RX9 55 6 9 false .int := ⟨RX8, TX8, 18, tyX8, rfl, wsX80_tb, tyX8_ok, nmX8, by decide, (jw_1_8 8 rfl rfl), rfl, tyX8_ok 9 (by decide), fun q => by cases q⟩
theorem fg_X9_62_6 : jFg RX9 62 6 10 := ⟨RX8, TX8, 18, _, rfl, wsX80_tb, by decide, (jw_1_8 13 rfl rfl), Or.inl rfl⟩
theorem fp_X9_62_6 : jFp RX9 62 6 10 false .int := ⟨RX8, TX8, 18, tyX8, rfl, wsX80_tb, tyX8_ok, nmX8, by decide, (jw_1_8 13 rfl rfl), rfl, tyX8_ok 10 (by decide), fun q => by cases q⟩
theorem fp_X9_65_6 : jFp RX9 65 6 11 false .int := ⟨RX8, TX8, 18, tyX8, rfl, wsX80_tb, tyX8_ok, nmX8, by decide, (jw_1_9 0 rfl rfl), rfl, tyX8_ok 11 (by decide), fun q => by cases q⟩
theorem fp_X9_68_6 : jFp RX9 68 6 12 false .int := ⟨RX8, TX8, 18, tyX8, rfl, wsX80_tb, tyX8_ok, nmX8, by decide, (jw_1_9 4 rfl rfl), rfl, tyX8_ok 12 (by decide), fun q => by cases q⟩
theorem fp_X9_74_6 : jFp RX9 74 6 14 false .int := ⟨RX8, TX8, 18, tyX8, rfl, wsX80_tb, tyX8_ok, nmX8, by decide, (jw_1_9 14 rfl rfl), rfl, tyX8_ok 14 (by decide), fun q => by cases q⟩
theorem cv_X9_77_X10_take : jSv RX9 77 mX10_take 1 := ⟨(jw_4_6 10 rfl rfl), (jw_4_4 7 rfl rfl), (jw_4_4 8 rfl rfl), sy_X10_take⟩
theorem sy_X8_nearestNew : jSY mX8_nearestNew 0 := ⟨(jw_4_6 14 rfl rfl), (jw_1_0 3 rfl rfl), ⟨lw_n0.1, lw_n0.2, dscr_11⟩, by decide⟩
theorem cv_X9_80_X8_nearestNew : jSv RX9 80 mX8_nearestNew 0 := ⟨(jw_4_6 11 rfl rfl), (jw_4_6 12 rfl rfl), (jw_4_6 13 rfl rfl), sy_X8_nearestNew⟩
theorem sy_X8_farthestNew : jSY mX8_farthestNew 0 := ⟨(jw_4_7 2 rfl rfl), (jw_1_0 3 rfl rfl), ⟨lw_n0.1, lw_n0.2, dscr_11⟩, by decide⟩
theorem cv_X9_83_X8_farthestNew : jSv RX9 83 mX8_farthestNew 0 := ⟨(jw_4_6 15 rfl rfl), (jw_4_7 0 rfl rfl), (jw_4_7 1 rfl rfl), sy_X8_farthestNew⟩
theorem sy_X8_add : jSY mX8_add 2 := ⟨(jw_4_7 7 rfl rfl), (jw_1_0 3 rfl rfl), ⟨lw_n0.1, lw_n0.2, dscr_16⟩, by decide⟩
theorem cv_X9_86_X8_add : jSv RX9 86 mX8_add 2 := ⟨(jw_4_7 4 rfl rfl), (jw_4_7 5 rfl rfl), (jw_4_7 6 rfl rfl), sy_X8_add⟩
theorem fg_X9_89_6 : jFg RX9 89 6 6 := ⟨RX8, TX8, 18, _, rfl, wsX80_tb, by decide, (jw_1_7 9 rfl rfl), Or.inl rfl⟩
theorem fp_X9_89_6 : jFp RX9 89 6 6 false .int := ⟨RX8, TX8, 18, tyX8, rfl, wsX80_tb, tyX8_ok, nmX8, by decide, (jw_1_7 9 rfl rfl), rfl, tyX8_ok 6 (by decide), fun q => by cases q⟩
theorem fg_X9_92_6 : jFg RX9 92 6 7 := ⟨RX8, TX8, 18, _, rfl, wsX80_tb, by decide, (jw_1_7 14 rfl rfl), Or.inl rfl⟩
theorem fp_X9_92_6 : jFp RX9 92 6 7 false .int := ⟨RX8, TX8, 18, tyX8, rfl, wsX80_tb, tyX8_ok, nmX8, by decide, (jw_1_7 14 rfl rfl), rfl, tyX8_ok 7 (by decide), fun q => by cases q⟩
theorem fg_X9_95_6 : jFg RX9 95 6 2 := ⟨RX8, TX8, 18, _, rfl, wsX80_tb, by decide, (jw_1_6 6 rfl rfl), Or.inl rfl⟩
abbrev mX9_readMore : jM := (yX9_readMore, cX9_readMore, 6, (some .boolean), [])
theorem sy_X9_readMore : jSY mX9_readMore 4 := ⟨(jw_4_7 13 rfl rfl), (jw_1_0 8 rfl rfl), ⟨lw_n6.1, lw_n6.2, dscr_26⟩, by decide⟩
theorem cv_X9_99_X9_readMore : jSv RX9 99 mX9_readMore 4 := ⟨(jw_4_7 10 rfl rfl), (jw_4_7 12 rfl rfl), (js_2 1 rfl), sy_X9_readMore⟩
theorem fg_X9_103_6 : jFg RX9 103 6 3 := ⟨RX8, TX8, 18, _, rfl, wsX80_tb, by decide, (jw_1_6 11 rfl rfl), Or.inl rfl⟩
abbrev mX10_init : jM := (yX10_init, cX10_init, 1, none, [])
theorem oi_X10_3 : Cond.methodLink RX10 3 Lib.objectInit ∈ jall ∧ Cond.instanceMethod Lib.objectInit ∈ jall ∧ Cond.code Lib.objectInit ⟨#[0xb1]⟩ 1 none ∈ jall := ⟨(jw_1_2 10 rfl rfl), (jw_1_2 3 rfl rfl), (jw_1_2 4 rfl rfl)⟩
theorem ac_byte : Cond.arrayClass .byte ∈ jall := (jw_1_4 3 rfl rfl)
theorem fp_X10_9_8 : jFp RX10 9 8 0 true (.array .byte) := ⟨RX10, TX10, 7, tyX10, rfl, wsX100_tb, tyX10_ok, nmX10, by decide, (jw_1_2 11 rfl rfl), rfl, tyX10_ok 0 (by decide), fun _ => rfl⟩
theorem fp_X10_15_8 : jFp RX10 15 8 1 true (.array .int) := ⟨RX10, TX10, 7, tyX10, rfl, wsX100_tb, tyX10_ok, nmX10, by decide, (jw_1_2 12 rfl rfl), rfl, tyX10_ok 1 (by decide), fun _ => rfl⟩
theorem fp_X10_19_8 : jFp RX10 19 8 2 true (.array .int) := ⟨RX10, TX10, 7, tyX10, rfl, wsX100_tb, tyX10_ok, nmX10, by decide, (jw_1_2 13 rfl rfl), rfl, tyX10_ok 2 (by decide), fun _ => rfl⟩
theorem fp_X10_22_8 : jFp RX10 22 8 3 true (.array .int) := ⟨RX10, TX10, 7, tyX10, rfl, wsX100_tb, tyX10_ok, nmX10, by decide, (jw_1_2 14 rfl rfl), rfl, tyX10_ok 3 (by decide), fun _ => rfl⟩
abbrev mX10_hasRoom : jM := (yX10_hasRoom, cX10_hasRoom, 1, (some .boolean), [])
theorem fg_X10_25_8 : jFg RX10 25 8 6 := ⟨RX10, TX10, 7, _, rfl, wsX100_tb, by decide, (jw_1_3 1 rfl rfl), Or.inl rfl⟩
abbrev mX10_put : jM := (yX10_put, cX10_put, 3, none, [])
theorem fg_X10_9_8 : jFg RX10 9 8 0 := ⟨RX10, TX10, 7, _, rfl, wsX100_tb, by decide, (jw_1_2 11 rfl rfl), Or.inl rfl⟩
theorem fp_X10_25_8 : jFp RX10 25 8 6 false .int := ⟨RX10, TX10, 7, tyX10, rfl, wsX100_tb, tyX10_ok, nmX10, by decide, (jw_1_3 1 rfl rfl), rfl, tyX10_ok 6 (by decide), fun q => by cases q⟩
abbrev mX10_scan : jM := (yX10_scan, cX10_scan, 3, none, [])
theorem fp_X10_29_8 : jFp RX10 29 8 4 false .int := ⟨RX10, TX10, 7, tyX10, rfl, wsX100_tb, tyX10_ok, nmX10, by decide, (jw_1_2 15 rfl rfl), rfl, tyX10_ok 4 (by decide), fun q => by cases q⟩
theorem fp_X10_32_8 : jFp RX10 32 8 5 false .int := ⟨RX10, TX10, 7, tyX10, rfl, wsX100_tb, tyX10_ok, nmX10, by decide, (jw_1_3 0 rfl rfl), rfl, tyX10_ok 5 (by decide), fun q => by cases q⟩
theorem fg_X10_29_8 : jFg RX10 29 8 4 := ⟨RX10, TX10, 7, _, rfl, wsX100_tb, by decide, (jw_1_2 15 rfl rfl), Or.inl rfl⟩
theorem cv_X10_35_X10_at : jSv RX10 35 mX10_at 1 := ⟨(jw_3_13 6 rfl rfl), (jw_3_13 7 rfl rfl), (jw_3_13 8 rfl rfl), sy_X10_at⟩
abbrev mX10_scanThing : jM := (yX10_scanThing, cX10_scanThing, 4, (some .int), [])
theorem sy_X10_scanThing : jSY mX10_scanThing 1 := ⟨(jw_3_13 13 rfl rfl), (jw_1_0 2 rfl rfl), ⟨lw_n4.1, lw_n4.2, dscr_19⟩, by decide⟩
theorem cv_X10_39_X10_scanThing : jSv RX10 39 mX10_scanThing 1 := ⟨(jw_3_13 10 rfl rfl), (jw_3_13 12 rfl rfl), (js_1 7 rfl), sy_X10_scanThing⟩
theorem fg_X10_19_8 : jFg RX10 19 8 2 := ⟨RX10, TX10, 7, _, rfl, wsX100_tb, by decide, (jw_1_2 13 rfl rfl), Or.inl rfl⟩
abbrev mX10_endOfRow : jM := (yX10_endOfRow, cX10_endOfRow, 5, (some .int), [])
theorem sy_X10_endOfRow : jSY mX10_endOfRow 3 := ⟨(jw_3_14 1 rfl rfl), (jw_1_0 2 rfl rfl), ⟨lw_n4.1, lw_n4.2, dscr_13⟩, by decide⟩
theorem cv_X10_42_X10_endOfRow : jSv RX10 42 mX10_endOfRow 3 := ⟨(jw_3_13 14 rfl rfl), (jw_3_14 0 rfl rfl), (js_1 8 rfl), sy_X10_endOfRow⟩
theorem fg_X10_15_8 : jFg RX10 15 8 1 := ⟨RX10, TX10, 7, _, rfl, wsX100_tb, by decide, (jw_1_2 12 rfl rfl), Or.inl rfl⟩
theorem fg_X10_22_8 : jFg RX10 22 8 3 := ⟨RX10, TX10, 7, _, rfl, wsX100_tb, by decide, (jw_1_2 14 rfl rfl), Or.inl rfl⟩
abbrev mX10_numberBetween : jM := (yX10_numberBetween, cX10_numberBetween, 5, (some .int), [])
theorem sy_X10_numberBetween : jSY mX10_numberBetween 2 := ⟨(jw_4_2 14 rfl rfl), (jw_1_0 2 rfl rfl), ⟨lw_n4.1, lw_n4.2, dscr_6⟩, by decide⟩
theorem cv_X10_50_X10_numberBetween : jSv RX10 50 mX10_numberBetween 2 := ⟨(jw_4_2 11 rfl rfl), (jw_4_2 13 rfl rfl), (js_1 11 rfl), sy_X10_numberBetween⟩
abbrev mX10_wordBetween : jM := (yX10_wordBetween, cX10_wordBetween, 6, (some .int), [])
theorem sy_X10_wordBetween : jSY mX10_wordBetween 2 := ⟨(jw_3_14 5 rfl rfl), (jw_1_0 2 rfl rfl), ⟨lw_n4.1, lw_n4.2, dscr_6⟩, by decide⟩
theorem cv_X10_46_X10_wordBetween : jSv RX10 46 mX10_wordBetween 2 := ⟨(jw_3_14 2 rfl rfl), (jw_3_14 4 rfl rfl), (js_1 9 rfl), sy_X10_wordBetween⟩
abbrev mJ0_length_8abf5 : jM := (yJ0_length_8abf5, cJ0_length_8abf5, 1, (some .int), [])
theorem sy_J0_length_8abf5 : jSY mJ0_length_8abf5 0 := ⟨(jw_3_14 10 rfl rfl), (jw_1_0 14 rfl rfl), ⟨lw_n15.1, lw_n15.2, dscr_11⟩, by decide⟩
theorem ss_X10_55 : jSv RX10 55 mJ0_length_8abf5 0 := ⟨(jw_3_14 7 rfl rfl), (jw_3_14 8 rfl rfl), (jw_3_14 9 rfl rfl), sy_J0_length_8abf5⟩
abbrev mJ0_charAt_5068e : jM := (yJ0_charAt_5068e, cJ0_charAt_5068e, 2, (some .char), [])
theorem sy_J0_charAt_5068e : jSY mJ0_charAt_5068e 1 := ⟨(jw_4_0 4 rfl rfl), (jw_1_0 14 rfl rfl), ⟨lw_n15.1, lw_n15.2, dscr_27⟩, by decide⟩
theorem ss_X10_60 : jSv RX10 60 mJ0_charAt_5068e 1 := ⟨(jw_4_0 1 rfl rfl), (jw_4_0 2 rfl rfl), (jw_4_0 3 rfl rfl), sy_J0_charAt_5068e⟩
abbrev mX10_standsAt : jM := (yX10_standsAt, cX10_standsAt, 5, (some .boolean), [])
theorem sy_X10_standsAt : jSY mX10_standsAt 3 := ⟨(jw_4_2 10 rfl rfl), (jw_1_0 2 rfl rfl), ⟨lw_n4.1, lw_n4.2, dscr_28⟩, by decide⟩
theorem cv_X10_64_X10_standsAt : jSv RX10 64 mX10_standsAt 3 := ⟨(jw_4_2 7 rfl rfl), (jw_4_2 9 rfl rfl), (js_1 10 rfl), sy_X10_standsAt⟩
theorem fg_X10_32_8 : jFg RX10 32 8 5 := ⟨RX10, TX10, 7, _, rfl, wsX100_tb, by decide, (jw_1_3 0 rfl rfl), Or.inl rfl⟩
abbrev mX10_start : jM := (yX10_start, cX10_start, 1, (some .int), [])
abbrev mX11_init : jM := (yX11_init, cX11_init, 1, none, [])
theorem oi_X11_1 : Cond.methodLink RX11 1 Lib.objectInit ∈ jall ∧ Cond.instanceMethod Lib.objectInit ∈ jall ∧ Cond.code Lib.objectInit ⟨#[0xb1]⟩ 1 none ∈ jall := ⟨(jw_1_2 2 rfl rfl), (jw_1_2 3 rfl rfl), (jw_1_2 4 rfl rfl)⟩
theorem fn_X11_7 : jFn RX11 7 8 7 [.null, .null, .null, .null, .int 0, .int 0, .int 0] := ⟨RX10, TX10, tyX10, rfl, wsX100_tb, tyX10_ok, (jw_1_2 5 rfl rfl), (jw_1_2 6 rfl rfl), (jw_1_0 2 rfl rfl), by decide⟩
theorem sy_X10_init : jSY mX10_init 0 := ⟨(jw_1_2 9 rfl rfl), (jw_1_0 2 rfl rfl), ⟨lw_n4.1, lw_n4.2, dscr_0⟩, by decide⟩
theorem cin_X11_9_X10_init : jSiN RX11 9 mX10_init 0 := ⟨(jn_1_2 7 rfl rfl), (jw_1_2 8 rfl rfl), rfl, sy_X10_init⟩
theorem fp_X11_10_9 : jFp RX11 10 9 0 true (.object "RodRings$Tape") := ⟨RX11, TX11, 13, tyX11, rfl, wsX110_tb, tyX11_ok, nmX11, by decide, (jw_2_6 4 rfl rfl), rfl, tyX11_ok 0 (by decide), fun _ => rfl⟩
theorem fn_X11_16 : jFn RX11 16 6 18 [.null, .null, .null, .null, .null, .int 0, .int 0, .int 0, .int 0, .int 0, .int 0, .int 0, .int 0, .int 0, .int 0, .int 0, .int 0, .int 0] := ⟨RX8, TX8, tyX8, rfl, wsX80_tb, tyX8_ok, (jw_1_4 5 rfl rfl), (jw_1_4 6 rfl rfl), (jw_1_0 3 rfl rfl), by decide⟩
theorem cin_X11_18_X8_init : jSiN RX11 18 mX8_init 0 := ⟨(jn_1_4 7 rfl rfl), (jw_1_4 8 rfl rfl), rfl, sy_X8_init⟩
theorem fp_X11_19_9 : jFp RX11 19 9 1 true (.object "RodRings$Rod") := ⟨RX11, TX11, 13, tyX11, rfl, wsX110_tb, tyX11_ok, nmX11, by decide, (jw_2_6 5 rfl rfl), rfl, tyX11_ok 1 (by decide), fun _ => rfl⟩
theorem fn_X11_23 : jFn RX11 23 2 9 [.null, .null, .null, .null, .null, .int 0, .int 0, .int 0, .int 0] := ⟨RX2, TX2, tyX2, rfl, wsX20_tb, tyX2_ok, (jw_1_12 14 rfl rfl), (jw_1_12 15 rfl rfl), (jw_1_0 5 rfl rfl), by decide⟩
theorem sy_X2_init : jSY mX2_init 0 := ⟨(jw_1_13 2 rfl rfl), (jw_1_0 5 rfl rfl), ⟨lw_n3.1, lw_n3.2, dscr_0⟩, by decide⟩
theorem cin_X11_25_X2_init : jSiN RX11 25 mX2_init 0 := ⟨(jn_1_13 0 rfl rfl), (jw_1_13 1 rfl rfl), rfl, sy_X2_init⟩
theorem fp_X11_26_9 : jFp RX11 26 9 2 true (.object "RodRings$Law") := ⟨RX11, TX11, 13, tyX11, rfl, wsX110_tb, tyX11_ok, nmX11, by decide, (jw_2_6 6 rfl rfl), rfl, tyX11_ok 2 (by decide), fun _ => rfl⟩
theorem fn_X11_30 : jFn RX11 30 0 3 [.null, .int 0, .int 0] := ⟨RX0, TX0, tyX0, rfl, wsX00_tb, tyX0_ok, (jw_2_0 2 rfl rfl), (jw_2_0 3 rfl rfl), (jw_1_0 6 rfl rfl), by decide⟩
theorem sy_X0_init : jSY mX0_init 0 := ⟨(jw_2_0 6 rfl rfl), (jw_1_0 6 rfl rfl), ⟨lw_n16.1, lw_n16.2, dscr_0⟩, by decide⟩
theorem cin_X11_32_X0_init : jSiN RX11 32 mX0_init 0 := ⟨(jn_2_0 4 rfl rfl), (jw_2_0 5 rfl rfl), rfl, sy_X0_init⟩
theorem fp_X11_33_9 : jFp RX11 33 9 3 true (.object "RodRings$Acts") := ⟨RX11, TX11, 13, tyX11, rfl, wsX110_tb, tyX11_ok, nmX11, by decide, (jw_2_6 7 rfl rfl), rfl, tyX11_ok 3 (by decide), fun _ => rfl⟩
theorem fp_X11_37_9 : jFp RX11 37 9 4 true (.object "RodRings$Rod") := ⟨RX11, TX11, 13, tyX11, rfl, wsX110_tb, tyX11_ok, nmX11, by decide, (jw_2_6 8 rfl rfl), rfl, tyX11_ok 4 (by decide), fun _ => rfl⟩
theorem fp_X11_40_9 : jFp RX11 40 9 5 true (.object "RodRings$Law") := ⟨RX11, TX11, 13, tyX11, rfl, wsX110_tb, tyX11_ok, nmX11, by decide, (jw_2_6 9 rfl rfl), rfl, tyX11_ok 5 (by decide), fun _ => rfl⟩
theorem fn_X11_43 : jFn RX11 43 7 3 [.null, .int 0, .null] := ⟨RX9, TX9, tyX9, rfl, wsX90_tb, tyX9_ok, (jw_2_1 5 rfl rfl), (jw_2_1 6 rfl rfl), (jw_1_0 8 rfl rfl), by decide⟩
theorem fg_X11_10_9 : jFg RX11 10 9 0 := ⟨RX11, TX11, 13, _, rfl, wsX110_tb, by decide, (jw_2_6 4 rfl rfl), Or.inl rfl⟩
theorem fg_X11_37_9 : jFg RX11 37 9 4 := ⟨RX11, TX11, 13, _, rfl, wsX110_tb, by decide, (jw_2_6 8 rfl rfl), Or.inl rfl⟩
theorem sy_X9_init : jSY mX9_init 2 := ⟨(jw_2_1 9 rfl rfl), (jw_1_0 8 rfl rfl), ⟨lw_n6.1, lw_n6.2, dscr_29⟩, by decide⟩
theorem ci_X11_45_X9_init : jSi RX11 45 mX9_init 2 := ⟨(jw_2_1 7 rfl rfl), (jw_2_1 8 rfl rfl), rfl, sy_X9_init⟩
theorem fp_X11_48_9 : jFp RX11 48 9 6 true (.object "RodRings$RodReader") := ⟨RX11, TX11, 13, tyX11, rfl, wsX110_tb, tyX11_ok, nmX11, by decide, (jw_2_6 10 rfl rfl), rfl, tyX11_ok 6 (by decide), fun _ => rfl⟩
theorem fn_X11_52 : jFn RX11 52 3 3 [.null, .int 0, .null] := ⟨RX3, TX3, tyX3, rfl, wsX30_tb, tyX3_ok, (jw_2_2 12 rfl rfl), (jw_2_2 13 rfl rfl), (jw_1_0 9 rfl rfl), by decide⟩
theorem fg_X11_40_9 : jFg RX11 40 9 5 := ⟨RX11, TX11, 13, _, rfl, wsX110_tb, by decide, (jw_2_6 9 rfl rfl), Or.inl rfl⟩
theorem sy_X3_init : jSY mX3_init 2 := ⟨(jw_2_3 0 rfl rfl), (jw_1_0 9 rfl rfl), ⟨lw_n5.1, lw_n5.2, dscr_30⟩, by decide⟩
theorem ci_X11_54_X3_init : jSi RX11 54 mX3_init 2 := ⟨(jw_2_2 14 rfl rfl), (jw_2_2 15 rfl rfl), rfl, sy_X3_init⟩
theorem fp_X11_57_9 : jFp RX11 57 9 7 true (.object "RodRings$LawReader") := ⟨RX11, TX11, 13, tyX11, rfl, wsX110_tb, tyX11_ok, nmX11, by decide, (jw_2_6 11 rfl rfl), rfl, tyX11_ok 7 (by decide), fun _ => rfl⟩
theorem fn_X11_61 : jFn RX11 61 1 2 [.null, .null] := ⟨RX1, TX1, tyX1, rfl, wsX10_tb, tyX1_ok, (jw_2_3 8 rfl rfl), (jw_2_3 9 rfl rfl), (jw_1_0 10 rfl rfl), by decide⟩
theorem fg_X11_26_9 : jFg RX11 26 9 2 := ⟨RX11, TX11, 13, _, rfl, wsX110_tb, by decide, (jw_2_6 6 rfl rfl), Or.inl rfl⟩
theorem sy_X1_init : jSY mX1_init 2 := ⟨(jw_2_3 12 rfl rfl), (jw_1_0 10 rfl rfl), ⟨lw_n2.1, lw_n2.2, dscr_31⟩, by decide⟩
theorem ci_X11_63_X1_init : jSi RX11 63 mX1_init 2 := ⟨(jw_2_3 10 rfl rfl), (jw_2_3 11 rfl rfl), rfl, sy_X1_init⟩
theorem fp_X11_66_9 : jFp RX11 66 9 8 true (.object "RodRings$Clock") := ⟨RX11, TX11, 13, tyX11, rfl, wsX110_tb, tyX11_ok, nmX11, by decide, (jw_2_6 12 rfl rfl), rfl, tyX11_ok 8 (by decide), fun _ => rfl⟩
theorem fn_X11_70 : jFn RX11 70 5 7 [.null, .null, .null, .null, .int 0, .int 0, .int 0] := ⟨RX7, TX7, tyX7, rfl, wsX70_tb, tyX7_ok, (jw_2_4 5 rfl rfl), (jw_2_4 6 rfl rfl), (jw_1_0 11 rfl rfl), by decide⟩
theorem sy_X7_init : jSY mX7_init 2 := ⟨(jw_2_4 9 rfl rfl), (jw_1_0 11 rfl rfl), ⟨lw_n1.1, lw_n1.2, dscr_29⟩, by decide⟩
theorem ci_X11_72_X7_init : jSi RX11 72 mX7_init 2 := ⟨(jw_2_4 7 rfl rfl), (jw_2_4 8 rfl rfl), rfl, sy_X7_init⟩
theorem fp_X11_73_9 : jFp RX11 73 9 9 true (.object "RodRings$Pulls") := ⟨RX11, TX11, 13, tyX11, rfl, wsX110_tb, tyX11_ok, nmX11, by decide, (jw_2_6 13 rfl rfl), rfl, tyX11_ok 9 (by decide), fun _ => rfl⟩
theorem fp_X11_77_9 : jFp RX11 77 9 12 false .int := ⟨RX11, TX11, 13, tyX11, rfl, wsX110_tb, tyX11_ok, nmX11, by decide, (jw_2_7 0 rfl rfl), rfl, tyX11_ok 12 (by decide), fun q => by cases q⟩
abbrev mX11_feed : jM := (yX11_feed, cX11_feed, 6, (some .int), [])
theorem sy_X10_hasRoom : jSY mX10_hasRoom 0 := ⟨(jw_2_9 3 rfl rfl), (jw_1_0 2 rfl rfl), ⟨lw_n4.1, lw_n4.2, dscr_17⟩, by decide⟩
theorem cv_X11_81_X10_hasRoom : jSv RX11 81 mX10_hasRoom 0 := ⟨(jw_2_9 0 rfl rfl), (jw_2_9 1 rfl rfl), (jw_2_9 2 rfl rfl), sy_X10_hasRoom⟩
theorem sy_X10_put : jSY mX10_put 1 := ⟨(jw_2_9 7 rfl rfl), (jw_1_0 2 rfl rfl), ⟨lw_n4.1, lw_n4.2, dscr_14⟩, by decide⟩
theorem cv_X11_85_X10_put : jSv RX11 85 mX10_put 1 := ⟨(jw_2_9 4 rfl rfl), (jw_2_9 5 rfl rfl), (jw_2_9 6 rfl rfl), sy_X10_put⟩
theorem fg_X11_89_8 : jFg RX11 89 8 6 := ⟨RX10, TX10, 7, _, rfl, wsX100_tb, by decide, (jw_1_3 2 rfl rfl), Or.inl rfl⟩
abbrev mX11_end : jM := (yX11_end, cX11_end, 2, (some .boolean), [])
theorem fp_X11_89_8 : jFp RX11 89 8 6 false .int := ⟨RX10, TX10, 7, tyX10, rfl, wsX100_tb, tyX10_ok, nmX10, by decide, (jw_1_3 2 rfl rfl), rfl, tyX10_ok 6 (by decide), fun q => by cases q⟩
abbrev mX11_pole : jM := (yX11_pole, cX11_pole, 1, (some .int), [])
theorem fg_X11_19_9 : jFg RX11 19 9 1 := ⟨RX11, TX11, 13, _, rfl, wsX110_tb, by decide, (jw_2_6 5 rfl rfl), Or.inl rfl⟩
theorem cv_X11_92_X8_copyFrom : jSv RX11 92 mX8_copyFrom 1 := ⟨(jw_3_11 1 rfl rfl), (jw_2_12 7 rfl rfl), (jw_2_12 8 rfl rfl), sy_X8_copyFrom⟩
theorem fg_X11_48_9 : jFg RX11 48 9 6 := ⟨RX11, TX11, 13, _, rfl, wsX110_tb, by decide, (jw_2_6 10 rfl rfl), Or.inl rfl⟩
abbrev mX4_read : jM := (yX4_read, cX4_read, 2, (some .int), [])
theorem sy_X4_read : jSY mX4_read 0 := ⟨(jw_3_13 1 rfl rfl), (jw_1_0 7 rfl rfl), ⟨lw_n11.1, lw_n11.2, dscr_11⟩, by decide⟩
theorem cu_X11_96_RodRings_RodReader_X4_read : jSu RX11 96 "RodRings$RodReader" "RodRings$LineReader" ⟨"RodRings$RodReader", "read", "()I"⟩ mX4_read 0 := ⟨(jw_3_12 12 rfl rfl), (jw_3_12 13 rfl rfl), (jw_3_12 15 rfl rfl), (jw_3_13 0 rfl rfl), (jn_3_12 14 rfl rfl), by decide +kernel, sy_X4_read⟩
theorem fg_X11_77_9 : jFg RX11 77 9 12 := ⟨RX11, TX11, 13, _, rfl, wsX110_tb, by decide, (jw_2_7 0 rfl rfl), Or.inl rfl⟩
theorem fg_X11_107_6 : jFg RX11 107 6 17 := ⟨RX8, TX8, 18, _, rfl, wsX80_tb, by decide, (jw_1_10 8 rfl rfl), Or.inl rfl⟩
theorem fp_X11_107_6 : jFp RX11 107 6 17 false .int := ⟨RX8, TX8, 18, tyX8, rfl, wsX80_tb, tyX8_ok, nmX8, by decide, (jw_1_10 8 rfl rfl), rfl, tyX8_ok 17 (by decide), fun q => by cases q⟩
theorem fg_X11_33_9 : jFg RX11 33 9 3 := ⟨RX11, TX11, 13, _, rfl, wsX110_tb, by decide, (jw_2_6 7 rfl rfl), Or.inl rfl⟩
theorem sy_X0_forget : jSY mX0_forget 0 := ⟨(jw_3_11 14 rfl rfl), (jw_1_0 6 rfl rfl), ⟨lw_n16.1, lw_n16.2, dscr_0⟩, by decide⟩
theorem cv_X11_115_X0_forget : jSv RX11 115 mX0_forget 0 := ⟨(jw_3_11 11 rfl rfl), (jw_3_11 12 rfl rfl), (jw_3_11 13 rfl rfl), sy_X0_forget⟩
theorem th_X11_3 : jTh RX11 110 114 "java/lang/UnsupportedOperationException" := jTh_of (js := [(1, 19), (4, 161), (4, 170), (4, 176), (4, 179), (4, 181), (4, 162), (4, 163), (1, 35), (1, 36), (4, 164), (4, 169), (4, 177), (4, 197), (4, 151), (4, 198), (4, 153), (4, 199), (4, 155), (4, 165), (4, 167), (4, 157), (4, 193), (4, 194), (4, 196), (4, 157), (4, 219), (4, 220), (4, 221), (4, 187), (4, 143), (4, 187), (4, 188), (4, 189), (4, 190), (4, 145), (4, 190), (4, 191), (4, 192), (4, 193), (4, 147), (4, 218), (4, 209), (4, 210), (4, 211), (4, 174), (4, 212), (4, 213), (4, 214), (4, 215), (4, 160), (4, 159), (4, 216)]) (by decide +kernel) (jw_4_13 0 rfl rfl) (jw_1_1 7 rfl rfl) (by decide +kernel) (by decide +kernel)
theorem th_X11_0 : jTh RX11 100 104 "java/lang/IllegalArgumentException" := jTh_of (js := [(1, 19), (4, 161), (4, 170), (4, 176), (4, 179), (4, 181), (4, 162), (4, 163), (1, 35), (1, 36), (4, 164), (4, 169), (4, 177), (4, 197), (4, 151), (4, 198), (4, 153), (4, 199), (4, 155), (4, 165), (4, 167), (4, 157), (4, 193), (4, 194), (4, 196), (4, 157), (4, 184), (4, 185), (4, 186), (4, 187), (4, 143), (4, 187), (4, 188), (4, 189), (4, 190), (4, 145), (4, 190), (4, 191), (4, 192), (4, 193), (4, 147), (4, 183), (4, 140), (4, 141), (4, 148), (4, 149), (4, 150), (4, 152), (4, 154), (4, 156), (4, 160), (4, 159), (4, 158)]) (by decide +kernel) (jw_4_8 11 rfl rfl) (jw_1_1 6 rfl rfl) (by decide +kernel) (by decide +kernel)
abbrev mX11_law : jM := (yX11_law, cX11_law, 1, (some .int), [])
theorem sy_X2_begin : jSY mX2_begin 0 := ⟨(jw_4_14 10 rfl rfl), (jw_1_0 5 rfl rfl), ⟨lw_n3.1, lw_n3.2, dscr_0⟩, by decide⟩
theorem cv_X11_118_X2_begin : jSv RX11 118 mX2_begin 0 := ⟨(jw_4_14 7 rfl rfl), (jw_4_14 8 rfl rfl), (jw_4_14 9 rfl rfl), sy_X2_begin⟩
theorem fg_X11_57_9 : jFg RX11 57 9 7 := ⟨RX11, TX11, 13, _, rfl, wsX110_tb, by decide, (jw_2_6 11 rfl rfl), Or.inl rfl⟩
theorem cu_X11_121_RodRings_LawReader_X4_read : jSu RX11 121 "RodRings$LawReader" "RodRings$LineReader" ⟨"RodRings$LawReader", "read", "()I"⟩ mX4_read 0 := ⟨(jw_4_14 11 rfl rfl), (jw_4_14 12 rfl rfl), (jw_4_14 13 rfl rfl), (jw_3_13 0 rfl rfl), (jn_3_12 14 rfl rfl), by decide +kernel, sy_X4_read⟩
theorem sy_X2_copyFrom : jSY mX2_copyFrom 1 := ⟨(jw_3_11 5 rfl rfl), (jw_1_0 5 rfl rfl), ⟨lw_n3.1, lw_n3.2, dscr_32⟩, by decide⟩
theorem cv_X11_122_X2_copyFrom : jSv RX11 122 mX2_copyFrom 1 := ⟨(jw_3_11 2 rfl rfl), (jw_3_11 3 rfl rfl), (jw_3_11 4 rfl rfl), sy_X2_copyFrom⟩
theorem fg_X11_125_2 : jFg RX11 125 2 8 := ⟨RX2, TX2, 9, _, rfl, wsX20_tb, by decide, (jw_1_13 14 rfl rfl), Or.inl rfl⟩
abbrev mX11_fault : jM := (yX11_fault, cX11_fault, 1, (some .int), [])
abbrev mX11_ring : jM := (yX11_ring, cX11_ring, 3, (some .int), [])
abbrev mX11_requireRing : jM := (yX11_requireRing, cX11_requireRing, 2, none, [])
theorem sy_X11_requireRing : jSY mX11_requireRing 1 := ⟨(jw_5_0 10 rfl rfl), (jw_1_0 1 rfl rfl), ⟨lw_n8.1, lw_n8.2, dscr_14⟩, by decide⟩
theorem cv_X11_128_X11_requireRing : jSv RX11 128 mX11_requireRing 1 := ⟨(jw_5_0 7 rfl rfl), (jw_5_0 9 rfl rfl), (js_2 5 rfl), sy_X11_requireRing⟩
theorem fg_X11_131_6 : jFg RX11 131 6 0 := ⟨RX8, TX8, 18, _, rfl, wsX80_tb, by decide, (jw_1_5 15 rfl rfl), Or.inl rfl⟩
theorem fg_X11_135_6 : jFg RX11 135 6 1 := ⟨RX8, TX8, 18, _, rfl, wsX80_tb, by decide, (jw_1_6 3 rfl rfl), Or.inl rfl⟩
theorem fg_X11_138_6 : jFg RX11 138 6 6 := ⟨RX8, TX8, 18, _, rfl, wsX80_tb, by decide, (jw_1_7 10 rfl rfl), Or.inl rfl⟩
theorem cs_X11_141_X11_bit : jSs RX11 141 mX11_bit 2 := ⟨(jw_5_1 11 rfl rfl), (jw_2_10 9 rfl rfl), sy_X11_bit⟩
theorem fg_X11_145_6 : jFg RX11 145 6 7 := ⟨RX8, TX8, 18, _, rfl, wsX80_tb, by decide, (jw_1_7 15 rfl rfl), Or.inl rfl⟩
theorem fg_X11_148_6 : jFg RX11 148 6 2 := ⟨RX8, TX8, 18, _, rfl, wsX80_tb, by decide, (jw_1_6 8 rfl rfl), Or.inl rfl⟩
theorem fg_X11_151_6 : jFg RX11 151 6 3 := ⟨RX8, TX8, 18, _, rfl, wsX80_tb, by decide, (jw_1_6 12 rfl rfl), Or.inl rfl⟩
theorem fg_X11_153_6 : jFg RX11 153 6 8 := ⟨RX8, TX8, 18, _, rfl, wsX80_tb, by decide, (jw_1_8 3 rfl rfl), Or.inl rfl⟩
theorem fg_X11_156_6 : jFg RX11 156 6 9 := ⟨RX8, TX8, 18, _, rfl, wsX80_tb, by decide, (jw_1_8 9 rfl rfl), Or.inl rfl⟩
theorem cv_X11_159_X8_gap : jSv RX11 159 mX8_gap 2 := ⟨(jw_5_1 12 rfl rfl), (jw_3_2 3 rfl rfl), (jw_3_2 4 rfl rfl), sy_X8_gap⟩
theorem cv_X11_162_X2_amount : jSv RX11 162 mX2_amount 3 := ⟨(jw_5_1 13 rfl rfl), (jw_3_4 15 rfl rfl), (jw_3_5 0 rfl rfl), sy_X2_amount⟩
theorem sy_X6_hangsBy : jSY mX6_hangsBy 2 := ⟨(jw_5_2 0 rfl rfl), (jw_1_1 9 rfl rfl), ⟨lw_n13.1, lw_n13.2, dscr_3⟩, by decide⟩
theorem cs_X11_166_X6_hangsBy : jSs RX11 166 mX6_hangsBy 2 := ⟨(jw_5_1 14 rfl rfl), (jw_5_1 15 rfl rfl), sy_X6_hangsBy⟩
theorem sy_X6_share : jSY mX6_share 2 := ⟨(jw_5_2 3 rfl rfl), (jw_1_1 9 rfl rfl), ⟨lw_n13.1, lw_n13.2, dscr_3⟩, by decide⟩
theorem cs_X11_172_X6_share : jSs RX11 172 mX6_share 2 := ⟨(jw_5_2 1 rfl rfl), (jw_5_2 2 rfl rfl), sy_X6_share⟩
theorem th_X11_4 : jThN RX11 175 179 "java/util/NoSuchElementException" := jThN_of (js := [(1, 19), (4, 161), (4, 170), (4, 176), (4, 179), (4, 181), (4, 162), (4, 163), (1, 35), (1, 36), (4, 164), (4, 169), (4, 177), (4, 197), (4, 151), (4, 198), (4, 153), (4, 199), (4, 155), (4, 165), (4, 167), (4, 157), (4, 193), (4, 194), (4, 196), (4, 157), (5, 51), (5, 52), (5, 53), (4, 187), (4, 143), (4, 187), (4, 188), (4, 189), (4, 190), (4, 145), (4, 190), (4, 191), (4, 192), (4, 193), (4, 147), (5, 50), (5, 41), (5, 42), (5, 43), (4, 175), (5, 44), (5, 45), (5, 46), (5, 47), (4, 160), (4, 159), (5, 48)]) (by decide +kernel) (jw_5_2 8 rfl rfl) (jw_1_1 10 rfl rfl) (by decide +kernel) (by decide +kernel)
abbrev mX11_pull : jM := (yX11_pull, cX11_pull, 5, (some .int), [])
abbrev mX11_requireNumber : jM := (yX11_requireNumber, cX11_requireNumber, 4, none, [])
theorem sy_X11_requireNumber : jSY mX11_requireNumber 3 := ⟨(jw_5_4 2 rfl rfl), (jw_1_0 1 rfl rfl), ⟨lw_n8.1, lw_n8.2, dscr_33⟩, by decide⟩
theorem cv_X11_180_X11_requireNumber : jSv RX11 180 mX11_requireNumber 3 := ⟨(jw_5_3 15 rfl rfl), (jw_5_4 1 rfl rfl), (js_2 6 rfl), sy_X11_requireNumber⟩
theorem sy_X0_remember : jSY mX0_remember 1 := ⟨(jw_5_4 7 rfl rfl), (jw_1_0 6 rfl rfl), ⟨lw_n16.1, lw_n16.2, dscr_1⟩, by decide⟩
theorem cv_X11_184_X0_remember : jSv RX11 184 mX0_remember 1 := ⟨(jw_5_4 4 rfl rfl), (jw_5_4 5 rfl rfl), (jw_5_4 6 rfl rfl), sy_X0_remember⟩
theorem cv_X11_187_X8_move : jSv RX11 187 mX8_move 3 := ⟨(jw_5_4 10 rfl rfl), (jw_2_13 9 rfl rfl), (jw_2_13 10 rfl rfl), sy_X8_move⟩
theorem fg_X11_191_6 : jFg RX11 191 6 4 := ⟨RX8, TX8, 18, _, rfl, wsX80_tb, by decide, (jw_1_7 0 rfl rfl), Or.inl rfl⟩
theorem cv_X11_195_X5_add : jSv RX11 195 mX5_add 4 := ⟨(jw_5_4 11 rfl rfl), (jw_5_4 12 rfl rfl), (jw_5_4 13 rfl rfl), sy_X5_add⟩
abbrev mX11_free : jM := (yX11_free, cX11_free, 2, (some .int), [])
theorem cs_X11_206_X11_withBit : jSs RX11 206 mX11_withBit 3 := ⟨(jw_5_6 10 rfl rfl), (jw_3_2 14 rfl rfl), sy_X11_withBit⟩
theorem fp_X11_156_6 : jFp RX11 156 6 9 false .int := ⟨RX8, TX8, 18, tyX8, rfl, wsX80_tb, tyX8_ok, nmX8, by decide, (jw_1_8 9 rfl rfl), rfl, tyX8_ok 9 (by decide), fun q => by cases q⟩
theorem th_X11_1 : jTh RX11 201 205 "java/lang/IllegalStateException" := jTh_of (js := [(1, 19), (4, 161), (4, 170), (4, 176), (4, 179), (4, 181), (4, 162), (4, 163), (1, 35), (1, 36), (4, 164), (4, 169), (4, 177), (4, 197), (4, 151), (4, 198), (4, 153), (4, 199), (4, 155), (4, 165), (4, 167), (4, 157), (4, 193), (4, 194), (4, 196), (4, 157), (5, 101), (5, 102), (5, 103), (4, 187), (4, 143), (4, 187), (4, 188), (4, 189), (4, 190), (4, 145), (4, 190), (4, 191), (4, 192), (4, 193), (4, 147), (5, 100), (5, 91), (5, 92), (5, 93), (4, 172), (5, 94), (5, 95), (5, 96), (5, 97), (4, 160), (4, 159), (5, 98)]) (by decide +kernel) (jw_5_5 10 rfl rfl) (jw_1_1 12 rfl rfl) (by decide +kernel) (by decide +kernel)
abbrev mX11_snag : jM := (yX11_snag, cX11_snag, 2, (some .int), [])
theorem fg_X11_210_6 : jFg RX11 210 6 5 := ⟨RX8, TX8, 18, _, rfl, wsX80_tb, by decide, (jw_1_7 7 rfl rfl), Or.inl rfl⟩
abbrev mX11_hook : jM := (yX11_hook, cX11_hook, 4, (some .boolean), [])
theorem fp_X11_153_6 : jFp RX11 153 6 8 false .int := ⟨RX8, TX8, 18, tyX8, rfl, wsX80_tb, tyX8_ok, nmX8, by decide, (jw_1_8 3 rfl rfl), rfl, tyX8_ok 8 (by decide), fun q => by cases q⟩
abbrev mX11_sew : jM := (yX11_sew, cX11_sew, 3, (some .int), [])
abbrev mX11_requirePlace : jM := (yX11_requirePlace, cX11_requirePlace, 2, none, [])
theorem sy_X11_requirePlace : jSY mX11_requirePlace 1 := ⟨(jw_5_8 4 rfl rfl), (jw_1_0 1 rfl rfl), ⟨lw_n8.1, lw_n8.2, dscr_14⟩, by decide⟩
theorem cv_X11_215_X11_requirePlace : jSv RX11 215 mX11_requirePlace 1 := ⟨(jw_5_8 1 rfl rfl), (jw_5_8 3 rfl rfl), (js_2 7 rfl), sy_X11_requirePlace⟩
theorem cv_X11_218_X8_nearestNew : jSv RX11 218 mX8_nearestNew 0 := ⟨(jw_5_8 6 rfl rfl), (jw_4_6 12 rfl rfl), (jw_4_6 13 rfl rfl), sy_X8_nearestNew⟩
theorem cv_X11_221_X8_farthestNew : jSv RX11 221 mX8_farthestNew 0 := ⟨(jw_5_8 7 rfl rfl), (jw_4_7 0 rfl rfl), (jw_4_7 1 rfl rfl), sy_X8_farthestNew⟩
theorem cv_X11_226_X8_add : jSv RX11 226 mX8_add 2 := ⟨(jw_5_8 9 rfl rfl), (jw_4_7 5 rfl rfl), (jw_4_7 6 rfl rfl), sy_X8_add⟩
abbrev mX11_let : jM := (yX11_let, cX11_let, 4, (some .int), [])
abbrev mX11_chair : jM := (yX11_chair, cX11_chair, 4, (some .boolean), [])
theorem fg_X11_229_6 : jFg RX11 229 6 10 := ⟨RX8, TX8, 18, _, rfl, wsX80_tb, by decide, (jw_1_8 14 rfl rfl), Or.inl rfl⟩
theorem fp_X11_229_6 : jFp RX11 229 6 10 false .int := ⟨RX8, TX8, 18, tyX8, rfl, wsX80_tb, tyX8_ok, nmX8, by decide, (jw_1_8 14 rfl rfl), rfl, tyX8_ok 10 (by decide), fun q => by cases q⟩
abbrev mX11_hours : jM := (yX11_hours, cX11_hours, 2, (some .int), [])
theorem fg_X11_66_9 : jFg RX11 66 9 8 := ⟨RX11, TX11, 13, _, rfl, wsX110_tb, by decide, (jw_2_6 12 rfl rfl), Or.inl rfl⟩
theorem cv_X11_232_X1_run : jSv RX11 232 mX1_run 2 := ⟨(jw_5_9 15 rfl rfl), (jw_5_10 0 rfl rfl), (jw_5_10 1 rfl rfl), sy_X1_run⟩
abbrev mX11_shade : jM := (yX11_shade, cX11_shade, 1, (some .int), [])
theorem cv_X11_235_X8_shadow : jSv RX11 235 mX8_shadow 0 := ⟨(jw_2_10 4 rfl rfl), (jw_2_10 5 rfl rfl), (jw_2_10 6 rfl rfl), sy_X8_shadow⟩
abbrev mX11_dark : jM := (yX11_dark, cX11_dark, 1, (some .int), [])
theorem cv_X11_238_X8_shadedChairs : jSv RX11 238 mX8_shadedChairs 0 := ⟨(jw_2_10 15 rfl rfl), (jw_2_11 0 rfl rfl), (jw_2_11 1 rfl rfl), sy_X8_shadedChairs⟩
abbrev mX11_bare : jM := (yX11_bare, cX11_bare, 1, (some .int), [])
abbrev mX11_goes : jM := (yX11_goes, cX11_goes, 3, (some .int), [])
abbrev mX11_with : jM := (yX11_with, cX11_with, 3, (some .int), [])
theorem cv_X11_241_X8_goers : jSv RX11 241 mX8_goers 2 := ⟨(jw_5_12 1 rfl rfl), (jw_2_13 13 rfl rfl), (jw_2_13 14 rfl rfl), sy_X8_goers⟩
abbrev mX11_would : jM := (yX11_would, cX11_would, 5, (some .int), [])
theorem fg_X11_245_6 : jFg RX11 245 6 15 := ⟨RX8, TX8, 18, _, rfl, wsX80_tb, by decide, (jw_1_10 3 rfl rfl), Or.inl rfl⟩
abbrev mX11_best : jM := (yX11_best, cX11_best, 1, (some .int), [])
theorem fg_X11_73_9 : jFg RX11 73 9 9 := ⟨RX11, TX11, 13, _, rfl, wsX110_tb, by decide, (jw_2_6 13 rfl rfl), Or.inl rfl⟩
theorem sy_X7_shadiest : jSY mX7_shadiest 1 := ⟨(jw_2_12 5 rfl rfl), (jw_1_0 11 rfl rfl), ⟨lw_n1.1, lw_n1.2, dscr_2⟩, by decide⟩
theorem cv_X11_248_X7_shadiest : jSv RX11 248 mX7_shadiest 1 := ⟨(jw_2_12 2 rfl rfl), (jw_2_12 3 rfl rfl), (jw_2_12 4 rfl rfl), sy_X7_shadiest⟩
abbrev mX11_fewest : jM := (yX11_fewest, cX11_fewest, 2, (some .int), [])
theorem sy_X7_seekShade : jSY mX7_seekShade 2 := ⟨(jw_3_0 2 rfl rfl), (jw_1_0 11 rfl rfl), ⟨lw_n1.1, lw_n1.2, dscr_34⟩, by decide⟩
theorem cv_X11_252_X7_seekShade : jSv RX11 252 mX7_seekShade 2 := ⟨(jw_2_14 15 rfl rfl), (jw_3_0 0 rfl rfl), (jw_3_0 1 rfl rfl), sy_X7_seekShade⟩
theorem fg_X11_256_5 : jFg RX11 256 5 5 := ⟨RX7, TX7, 7, _, rfl, wsX70_tb, by decide, (jw_2_5 2 rfl rfl), Or.inl rfl⟩
abbrev mX11_first : jM := (yX11_first, cX11_first, 2, (some .int), [])
theorem fg_X11_259_5 : jFg RX11 259 5 6 := ⟨RX7, TX7, 7, _, rfl, wsX70_tb, by decide, (jw_2_5 4 rfl rfl), Or.inl rfl⟩
abbrev mX11_snags : jM := (yX11_snags, cX11_snags, 2, (some .int), [])
abbrev mX11_readSnags : jM := (yX11_readSnags, cX11_readSnags, 2, none, [])
theorem sy_X11_readSnags : jSY mX11_readSnags 0 := ⟨(jw_5_13 3 rfl rfl), (jw_1_0 1 rfl rfl), ⟨lw_n8.1, lw_n8.2, dscr_0⟩, by decide⟩
theorem cv_X11_262_X11_readSnags : jSv RX11 262 mX11_readSnags 0 := ⟨(jw_5_13 0 rfl rfl), (jw_5_13 2 rfl rfl), (js_2 10 rfl), sy_X11_readSnags⟩
theorem fg_X11_268_5 : jFg RX11 268 5 4 := ⟨RX7, TX7, 7, _, rfl, wsX70_tb, by decide, (jw_2_5 0 rfl rfl), Or.inl rfl⟩
theorem sy_X7_inAllFitting : jSY mX7_inAllFitting 0 := ⟨(jw_5_14 9 rfl rfl), (jw_1_0 11 rfl rfl), ⟨lw_n1.1, lw_n1.2, dscr_11⟩, by decide⟩
theorem cv_X11_265_X7_inAllFitting : jSv RX11 265 mX7_inAllFitting 0 := ⟨(jw_5_14 6 rfl rfl), (jw_5_14 7 rfl rfl), (jw_5_14 8 rfl rfl), sy_X7_inAllFitting⟩
abbrev mX11_tries : jM := (yX11_tries, cX11_tries, 1, (some .int), [])
theorem sy_X7_partingPull : jSY mX7_partingPull 1 := ⟨(jw_6_0 4 rfl rfl), (jw_1_0 11 rfl rfl), ⟨lw_n1.1, lw_n1.2, dscr_2⟩, by decide⟩
theorem cv_X11_271_X7_partingPull : jSv RX11 271 mX7_partingPull 1 := ⟨(jw_6_0 1 rfl rfl), (jw_6_0 2 rfl rfl), (jw_6_0 3 rfl rfl), sy_X7_partingPull⟩
abbrev mX11_loosen : jM := (yX11_loosen, cX11_loosen, 4, (some .int), [])
theorem sy_X7_fewestFreed : jSY mX7_fewestFreed 4 := ⟨(jw_6_1 4 rfl rfl), (jw_1_0 11 rfl rfl), ⟨lw_n1.1, lw_n1.2, dscr_35⟩, by decide⟩
theorem cv_X11_274_X7_fewestFreed : jSv RX11 274 mX7_fewestFreed 4 := ⟨(jw_6_1 1 rfl rfl), (jw_6_1 2 rfl rfl), (jw_6_1 3 rfl rfl), sy_X7_fewestFreed⟩
abbrev mX11_order : jM := (yX11_order, cX11_order, 1, (some .int), [])
theorem sy_X6_outOfOrder : jSY mX6_outOfOrder 1 := ⟨(jw_3_1 2 rfl rfl), (jw_1_1 9 rfl rfl), ⟨lw_n13.1, lw_n13.2, dscr_2⟩, by decide⟩
theorem cs_X11_278_X6_outOfOrder : jSs RX11 278 mX6_outOfOrder 1 := ⟨(jw_3_1 0 rfl rfl), (jw_3_1 1 rfl rfl), sy_X6_outOfOrder⟩
abbrev mX11_tight : jM := (yX11_tight, cX11_tight, 2, (some .int), [])
theorem sy_X6_tightest : jSY mX6_tightest 2 := ⟨(jw_6_1 15 rfl rfl), (jw_1_1 9 rfl rfl), ⟨lw_n13.1, lw_n13.2, dscr_3⟩, by decide⟩
theorem cs_X11_281_X6_tightest : jSs RX11 281 mX6_tightest 2 := ⟨(jw_6_1 13 rfl rfl), (jw_6_1 14 rfl rfl), sy_X6_tightest⟩
abbrev mX11_slack : jM := (yX11_slack, cX11_slack, 1, (some .int), [])
theorem sy_X6_spareCloth : jSY mX6_spareCloth 1 := ⟨(jw_3_2 1 rfl rfl), (jw_1_1 9 rfl rfl), ⟨lw_n13.1, lw_n13.2, dscr_2⟩, by decide⟩
theorem cs_X11_284_X6_spareCloth : jSs RX11 284 mX6_spareCloth 1 := ⟨(jw_3_1 15 rfl rfl), (jw_3_2 0 rfl rfl), sy_X6_spareCloth⟩
abbrev mX11_taut : jM := (yX11_taut, cX11_taut, 1, (some .int), [])
theorem sy_X6_tautRings : jSY mX6_tautRings 1 := ⟨(jw_3_2 12 rfl rfl), (jw_1_1 9 rfl rfl), ⟨lw_n13.1, lw_n13.2, dscr_2⟩, by decide⟩
theorem cs_X11_287_X6_tautRings : jSs RX11 287 mX6_tautRings 1 := ⟨(jw_3_2 10 rfl rfl), (jw_3_2 11 rfl rfl), sy_X6_tautRings⟩
abbrev mX11_lit : jM := (yX11_lit, cX11_lit, 2, (some .int), [])
theorem th_X11_2 : jTh RX11 290 294 "java/lang/IndexOutOfBoundsException" := jTh_of (js := [(1, 19), (4, 161), (4, 170), (4, 176), (4, 179), (4, 181), (4, 162), (4, 163), (1, 35), (1, 36), (4, 164), (4, 169), (4, 177), (4, 197), (4, 151), (4, 198), (4, 153), (4, 199), (4, 155), (4, 165), (4, 167), (4, 157), (4, 193), (4, 194), (4, 196), (4, 157), (5, 22), (5, 23), (5, 24), (4, 187), (4, 143), (4, 187), (4, 188), (4, 189), (4, 190), (4, 145), (4, 190), (4, 191), (4, 192), (4, 193), (4, 147), (5, 21), (5, 12), (5, 13), (5, 14), (4, 173), (5, 15), (5, 16), (5, 17), (5, 18), (4, 160), (4, 159), (5, 19)]) (by decide +kernel) (jw_5_0 11 rfl rfl) (jw_1_1 8 rfl rfl) (by decide +kernel) (by decide +kernel)
theorem sy_X6_litRings : jSY mX6_litRings 2 := ⟨(jw_6_2 10 rfl rfl), (jw_1_1 9 rfl rfl), ⟨lw_n13.1, lw_n13.2, dscr_3⟩, by decide⟩
theorem cs_X11_295_X6_litRings : jSs RX11 295 mX6_litRings 2 := ⟨(jw_6_2 8 rfl rfl), (jw_6_2 9 rfl rfl), sy_X6_litRings⟩
abbrev mX11_sunny : jM := (yX11_sunny, cX11_sunny, 1, (some .int), [])
theorem sy_X6_sunniest : jSY mX6_sunniest 1 := ⟨(jw_3_3 6 rfl rfl), (jw_1_1 9 rfl rfl), ⟨lw_n13.1, lw_n13.2, dscr_2⟩, by decide⟩
theorem cs_X11_298_X6_sunniest : jSs RX11 298 mX6_sunniest 1 := ⟨(jw_3_3 4 rfl rfl), (jw_3_3 5 rfl rfl), sy_X6_sunniest⟩
abbrev mX11_faded : jM := (yX11_faded, cX11_faded, 2, (some .int), [])
theorem sy_X1_goAhead : jSY mX1_goAhead 2 := ⟨(jw_6_3 5 rfl rfl), (jw_1_0 10 rfl rfl), ⟨lw_n2.1, lw_n2.2, dscr_34⟩, by decide⟩
theorem cv_X11_301_X1_goAhead : jSv RX11 301 mX1_goAhead 2 := ⟨(jw_6_3 2 rfl rfl), (jw_6_3 3 rfl rfl), (jw_6_3 4 rfl rfl), sy_X1_goAhead⟩
theorem cv_X11_304_X8_allFades : jSv RX11 304 mX8_allFades 0 := ⟨(jw_6_3 6 rfl rfl), (jw_5_2 5 rfl rfl), (jw_5_2 6 rfl rfl), sy_X8_allFades⟩
abbrev mX11_pale : jM := (yX11_pale, cX11_pale, 1, (some .int), [])
theorem sy_X1_firstPale : jSY mX1_firstPale 1 := ⟨(jw_3_4 5 rfl rfl), (jw_1_0 10 rfl rfl), ⟨lw_n2.1, lw_n2.2, dscr_2⟩, by decide⟩
theorem cv_X11_307_X1_firstPale : jSv RX11 307 mX1_firstPale 1 := ⟨(jw_3_4 2 rfl rfl), (jw_3_4 3 rfl rfl), (jw_3_4 4 rfl rfl), sy_X1_firstPale⟩
abbrev mX11_lets : jM := (yX11_lets, cX11_lets, 3, (some .int), [])
theorem sy_X6_evenLength : jSY mX6_evenLength 3 := ⟨(jw_6_4 0 rfl rfl), (jw_1_1 9 rfl rfl), ⟨lw_n13.1, lw_n13.2, dscr_20⟩, by decide⟩
theorem cs_X11_310_X6_evenLength : jSs RX11 310 mX6_evenLength 3 := ⟨(jw_6_3 14 rfl rfl), (jw_6_3 15 rfl rfl), sy_X6_evenLength⟩
abbrev mX11_envy : jM := (yX11_envy, cX11_envy, 1, (some .int), [])
theorem sy_X6_enviousPairs : jSY mX6_enviousPairs 1 := ⟨(jw_3_7 7 rfl rfl), (jw_1_1 9 rfl rfl), ⟨lw_n13.1, lw_n13.2, dscr_2⟩, by decide⟩
theorem cs_X11_314_X6_enviousPairs : jSs RX11 314 mX6_enviousPairs 1 := ⟨(jw_3_7 5 rfl rfl), (jw_3_7 6 rfl rfl), sy_X6_enviousPairs⟩
abbrev mX11_rests : jM := (yX11_rests, cX11_rests, 2, (some .int), [])
theorem sy_X6_restingChoices : jSY mX6_restingChoices 2 := ⟨(jw_6_4 10 rfl rfl), (jw_1_1 9 rfl rfl), ⟨lw_n13.1, lw_n13.2, dscr_3⟩, by decide⟩
theorem cs_X11_317_X6_restingChoices : jSs RX11 317 mX6_restingChoices 2 := ⟨(jw_6_4 8 rfl rfl), (jw_6_4 9 rfl rfl), sy_X6_restingChoices⟩
abbrev mX11_bunch : jM := (yX11_bunch, cX11_bunch, 1, (some .int), [])
theorem sy_X6_largestBunch : jSY mX6_largestBunch 1 := ⟨(jw_3_8 1 rfl rfl), (jw_1_1 9 rfl rfl), ⟨lw_n13.1, lw_n13.2, dscr_2⟩, by decide⟩
theorem cs_X11_320_X6_largestBunch : jSs RX11 320 mX6_largestBunch 1 := ⟨(jw_3_7 15 rfl rfl), (jw_3_8 0 rfl rfl), sy_X6_largestBunch⟩
abbrev mX11_wooden : jM := (yX11_wooden, cX11_wooden, 1, (some .int), [])
abbrev mX11_caught : jM := (yX11_caught, cX11_caught, 1, (some .int), [])
abbrev mX11_loose : jM := (yX11_loose, cX11_loose, 1, (some .int), [])
theorem sy_X8_unhooked : jSY mX8_unhooked 0 := ⟨(jw_3_9 1 rfl rfl), (jw_1_0 3 rfl rfl), ⟨lw_n0.1, lw_n0.2, dscr_11⟩, by decide⟩
theorem cv_X11_323_X8_unhooked : jSv RX11 323 mX8_unhooked 0 := ⟨(jw_3_8 14 rfl rfl), (jw_3_8 15 rfl rfl), (jw_3_9 0 rfl rfl), sy_X8_unhooked⟩
abbrev mX11_beyond : jM := (yX11_beyond, cX11_beyond, 1, (some .int), [])
theorem sy_X6_thickBeyondJoin : jSY mX6_thickBeyondJoin 1 := ⟨(jw_3_9 8 rfl rfl), (jw_1_1 9 rfl rfl), ⟨lw_n13.1, lw_n13.2, dscr_2⟩, by decide⟩
theorem cs_X11_326_X6_thickBeyondJoin : jSs RX11 326 mX6_thickBeyondJoin 1 := ⟨(jw_3_9 6 rfl rfl), (jw_3_9 7 rfl rfl), sy_X6_thickBeyondJoin⟩
abbrev mX11_odds : jM := (yX11_odds, cX11_odds, 3, (some .int), [])
theorem sy_X1_oddsToStay : jSY mX1_oddsToStay 3 := ⟨(jw_6_5 8 rfl rfl), (jw_1_0 10 rfl rfl), ⟨lw_n2.1, lw_n2.2, dscr_20⟩, by decide⟩
theorem cv_X11_329_X1_oddsToStay : jSv RX11 329 mX1_oddsToStay 3 := ⟨(jw_6_5 5 rfl rfl), (jw_6_5 6 rfl rfl), (jw_6_5 7 rfl rfl), sy_X1_oddsToStay⟩
abbrev mX11_twins : jM := (yX11_twins, cX11_twins, 1, (some .int), [])
theorem sy_X6_likePairs : jSY mX6_likePairs 1 := ⟨(jw_3_9 15 rfl rfl), (jw_1_1 9 rfl rfl), ⟨lw_n13.1, lw_n13.2, dscr_2⟩, by decide⟩
theorem cs_X11_332_X6_likePairs : jSs RX11 332 mX6_likePairs 1 := ⟨(jw_3_9 13 rfl rfl), (jw_3_9 14 rfl rfl), sy_X6_likePairs⟩
abbrev mX11_ahead : jM := (yX11_ahead, cX11_ahead, 3, (some .int), [])
abbrev mX11_trial : jM := (yX11_trial, cX11_trial, 3, (some .int), [])
theorem fg_X11_335_6 : jFg RX11 335 6 16 := ⟨RX8, TX8, 18, _, rfl, wsX80_tb, by decide, (jw_1_10 6 rfl rfl), Or.inl rfl⟩
theorem sy_X1_tryHours : jSY mX1_tryHours 3 := ⟨(jw_6_6 10 rfl rfl), (jw_1_0 10 rfl rfl), ⟨lw_n2.1, lw_n2.2, dscr_36⟩, by decide⟩
theorem cv_X11_338_X1_tryHours : jSv RX11 338 mX1_tryHours 3 := ⟨(jw_6_6 7 rfl rfl), (jw_6_6 8 rfl rfl), (jw_6_6 9 rfl rfl), sy_X1_tryHours⟩
abbrev mX11_span : jM := (yX11_span, cX11_span, 6, (some .int), [])
theorem cs_X11_342_J6_bitCount_0f7a4 : jSs RX11 342 mJ6_bitCount_0f7a4 1 := ⟨(jw_6_7 3 rfl rfl), (jw_2_11 5 rfl rfl), sy_J6_bitCount_0f7a4⟩
abbrev mX11_led : jM := (yX11_led, cX11_led, 3, (some .int), [])
theorem sy_X5_rowsOf : jSY mX5_rowsOf 1 := ⟨(jw_6_8 11 rfl rfl), (jw_1_0 4 rfl rfl), ⟨lw_n10.1, lw_n10.2, dscr_19⟩, by decide⟩
theorem cv_X11_351_X5_rowsOf : jSv RX11 351 mX5_rowsOf 1 := ⟨(jw_6_8 8 rfl rfl), (jw_6_8 9 rfl rfl), (jw_6_8 10 rfl rfl), sy_X5_rowsOf⟩
theorem sy_X5_latestPlace : jSY mX5_latestPlace 1 := ⟨(jw_6_7 14 rfl rfl), (jw_1_0 4 rfl rfl), ⟨lw_n10.1, lw_n10.2, dscr_19⟩, by decide⟩
theorem cv_X11_348_X5_latestPlace : jSv RX11 348 mX5_latestPlace 1 := ⟨(jw_6_7 11 rfl rfl), (jw_6_7 12 rfl rfl), (jw_6_7 13 rfl rfl), sy_X5_latestPlace⟩
abbrev mX11_log : jM := (yX11_log, cX11_log, 3, (some .int), [])
theorem cv_X11_356_X5_read : jSv RX11 356 mX5_read 2 := ⟨(jw_6_9 4 rfl rfl), (jw_6_8 0 rfl rfl), (jw_6_8 1 rfl rfl), sy_X5_read⟩
abbrev mX11_seed : jM := (yX11_seed, cX11_seed, 3, (some .int), [])
theorem fp_X11_335_6 : jFp RX11 335 6 16 false .int := ⟨RX8, TX8, 18, tyX8, rfl, wsX80_tb, tyX8_ok, nmX8, by decide, (jw_1_10 6 rfl rfl), rfl, tyX8_ok 16 (by decide), fun q => by cases q⟩
abbrev mX11_undo : jM := (yX11_undo, cX11_undo, 1, (some .boolean), [])
theorem sy_X0_takeBack : jSY mX0_takeBack 1 := ⟨(jw_3_10 11 rfl rfl), (jw_1_0 6 rfl rfl), ⟨lw_n16.1, lw_n16.2, dscr_4⟩, by decide⟩
theorem cv_X11_358_X0_takeBack : jSv RX11 358 mX0_takeBack 1 := ⟨(jw_3_10 8 rfl rfl), (jw_3_10 9 rfl rfl), (jw_3_10 10 rfl rfl), sy_X0_takeBack⟩
abbrev mX11_image : jM := (yX11_image, cX11_image, 1, none, [])
theorem fg_X11_362_9 : jFg RX11 362 9 10 := ⟨RX11, TX11, 13, _, rfl, wsX110_tb, by decide, (jw_2_6 14 rfl rfl), Or.inl rfl⟩
theorem fp_X11_362_9 : jFp RX11 362 9 10 false (.object "RodRings$Rod") := ⟨RX11, TX11, 13, tyX11, rfl, wsX110_tb, tyX11_ok, nmX11, by decide, (jw_2_6 14 rfl rfl), rfl, tyX11_ok 10 (by decide), fun q => by cases q⟩
theorem fg_X11_365_9 : jFg RX11 365 9 11 := ⟨RX11, TX11, 13, _, rfl, wsX110_tb, by decide, (jw_2_6 15 rfl rfl), Or.inl rfl⟩
theorem fp_X11_365_9 : jFp RX11 365 9 11 false (.object "RodRings$Law") := ⟨RX11, TX11, 13, tyX11, rfl, wsX110_tb, tyX11_ok, nmX11, by decide, (jw_2_6 15 rfl rfl), rfl, tyX11_ok 11 (by decide), fun q => by cases q⟩
abbrev mX11_back : jM := (yX11_back, cX11_back, 1, (some .boolean), [])
abbrev mX11_count : jM := (yX11_count, cX11_count, 2, (some .int), [])
theorem fg_X11_368_2 : jFg RX11 368 2 7 := ⟨RX2, TX2, 9, _, rfl, wsX20_tb, by decide, (jw_1_13 12 rfl rfl), Or.inl rfl⟩
theorem fg_X11_372_6 : jFg RX11 372 6 13 := ⟨RX8, TX8, 18, _, rfl, wsX80_tb, by decide, (jw_1_9 11 rfl rfl), Or.inl rfl⟩
theorem fg_X11_375_6 : jFg RX11 375 6 14 := ⟨RX8, TX8, 18, _, rfl, wsX80_tb, by decide, (jw_1_10 1 rfl rfl), Or.inl rfl⟩
theorem fg_X11_378_6 : jFg RX11 378 6 11 := ⟨RX8, TX8, 18, _, rfl, wsX80_tb, by decide, (jw_1_9 2 rfl rfl), Or.inl rfl⟩
theorem fg_X11_381_6 : jFg RX11 381 6 12 := ⟨RX8, TX8, 18, _, rfl, wsX80_tb, by decide, (jw_1_9 5 rfl rfl), Or.inl rfl⟩
theorem fg_X11_384_4 : jFg RX11 384 4 1 := ⟨RX5, TX5, 3, _, rfl, wsX50_tb, by decide, (jw_1_5 3 rfl rfl), Or.inl rfl⟩
theorem fg_X11_387_0 : jFg RX11 387 0 2 := ⟨RX0, TX0, 3, _, rfl, wsX00_tb, by decide, (jw_2_0 13 rfl rfl), Or.inl rfl⟩
theorem sy_X7_areRows : jSY mX7_areRows 1 := ⟨(jw_5_13 7 rfl rfl), (jw_1_0 11 rfl rfl), ⟨lw_n1.1, lw_n1.2, dscr_12⟩, by decide⟩
theorem cv_X11_394_X7_areRows : jSv RX11 394 mX7_areRows 1 := ⟨(jw_5_13 4 rfl rfl), (jw_5_13 5 rfl rfl), (jw_5_13 6 rfl rfl), sy_X7_areRows⟩
theorem sy_X7_seekSnags : jSY mX7_seekSnags 1 := ⟨(jw_5_13 12 rfl rfl), (jw_1_0 11 rfl rfl), ⟨lw_n1.1, lw_n1.2, dscr_1⟩, by decide⟩
theorem cv_X11_398_X7_seekSnags : jSv RX11 398 mX7_seekSnags 1 := ⟨(jw_5_13 9 rfl rfl), (jw_5_13 10 rfl rfl), (jw_5_13 11 rfl rfl), sy_X7_seekSnags⟩
abbrev mX12_throwsIf : jM := (yX12_throwsIf, cX12_throwsIf, 3, (some .boolean), [])
theorem fp_X12_3_10 : jFp RX12 3 10 0 false .int := ⟨RX12, TX12, 22, tyX12, rfl, wsX120_tb, tyX12_ok, nmX12, by decide, (jw_6_9 11 rfl rfl), rfl, tyX12_ok 0 (by decide), fun q => by cases q⟩
abbrev mX12_in : jM := (yX12_in, cX12_in, 3, (some .boolean), [])
abbrev mX12_has : jM := (yX12_has, cX12_has, 2, (some .boolean), [])
abbrev mX12_init : jM := (yX12_init, cX12_init, 1, none, [])
theorem oi_X12_7 : Cond.methodLink RX12 7 Lib.objectInit ∈ jall ∧ Cond.instanceMethod Lib.objectInit ∈ jall ∧ Cond.code Lib.objectInit ⟨#[0xb1]⟩ 1 none ∈ jall := ⟨(jw_6_9 10 rfl rfl), (jw_1_2 3 rfl rfl), (jw_1_2 4 rfl rfl)⟩
theorem fp_X12_13_10 : jFp RX12 13 10 1 true (.array .int) := ⟨RX12, TX12, 22, tyX12, rfl, wsX120_tb, tyX12_ok, nmX12, by decide, (jw_6_9 12 rfl rfl), rfl, tyX12_ok 1 (by decide), fun _ => rfl⟩
theorem fp_X12_17_10 : jFp RX12 17 10 2 true (.array .int) := ⟨RX12, TX12, 22, tyX12, rfl, wsX120_tb, tyX12_ok, nmX12, by decide, (jw_6_9 13 rfl rfl), rfl, tyX12_ok 2 (by decide), fun _ => rfl⟩
theorem fp_X12_20_10 : jFp RX12 20 10 3 true (.array .int) := ⟨RX12, TX12, 22, tyX12, rfl, wsX120_tb, tyX12_ok, nmX12, by decide, (jw_6_9 14 rfl rfl), rfl, tyX12_ok 3 (by decide), fun _ => rfl⟩
theorem fp_X12_23_10 : jFp RX12 23 10 4 true (.array .int) := ⟨RX12, TX12, 22, tyX12, rfl, wsX120_tb, tyX12_ok, nmX12, by decide, (jw_6_9 15 rfl rfl), rfl, tyX12_ok 4 (by decide), fun _ => rfl⟩
theorem fp_X12_26_10 : jFp RX12 26 10 5 true (.array .int) := ⟨RX12, TX12, 22, tyX12, rfl, wsX120_tb, tyX12_ok, nmX12, by decide, (jw_6_10 0 rfl rfl), rfl, tyX12_ok 5 (by decide), fun _ => rfl⟩
theorem fp_X12_29_10 : jFp RX12 29 10 8 true (.array .byte) := ⟨RX12, TX12, 22, tyX12, rfl, wsX120_tb, tyX12_ok, nmX12, by decide, (jw_6_10 3 rfl rfl), rfl, tyX12_ok 8 (by decide), fun _ => rfl⟩
theorem fp_X12_33_10 : jFp RX12 33 10 14 false .int := ⟨RX12, TX12, 22, tyX12, rfl, wsX120_tb, tyX12_ok, nmX12, by decide, (jw_6_10 9 rfl rfl), rfl, tyX12_ok 14 (by decide), fun q => by cases q⟩
theorem fp_X12_36_10 : jFp RX12 36 10 15 true (.array .int) := ⟨RX12, TX12, 22, tyX12, rfl, wsX120_tb, tyX12_ok, nmX12, by decide, (jw_6_10 10 rfl rfl), rfl, tyX12_ok 15 (by decide), fun _ => rfl⟩
theorem fp_X12_39_10 : jFp RX12 39 10 17 true (.array .int) := ⟨RX12, TX12, 22, tyX12, rfl, wsX120_tb, tyX12_ok, nmX12, by decide, (jw_6_10 12 rfl rfl), rfl, tyX12_ok 17 (by decide), fun _ => rfl⟩
theorem ac_boolean : Cond.arrayClass .boolean ∈ jall := (jw_6_13 14 rfl rfl)
theorem fp_X12_42_10 : jFp RX12 42 10 19 true (.array .boolean) := ⟨RX12, TX12, 22, tyX12, rfl, wsX120_tb, tyX12_ok, nmX12, by decide, (jw_6_10 14 rfl rfl), rfl, tyX12_ok 19 (by decide), fun _ => rfl⟩
theorem fp_X12_46_10 : jFp RX12 46 10 20 true (.array .int) := ⟨RX12, TX12, 22, tyX12, rfl, wsX120_tb, tyX12_ok, nmX12, by decide, (jw_6_10 15 rfl rfl), rfl, tyX12_ok 20 (by decide), fun _ => rfl⟩
theorem fp_X12_49_10 : jFp RX12 49 10 21 true (.array .int) := ⟨RX12, TX12, 22, tyX12, rfl, wsX120_tb, tyX12_ok, nmX12, by decide, (jw_6_11 0 rfl rfl), rfl, tyX12_ok 21 (by decide), fun _ => rfl⟩
theorem fg_X12_13_10 : jFg RX12 13 10 1 := ⟨RX12, TX12, 22, _, rfl, wsX120_tb, by decide, (jw_6_9 12 rfl rfl), Or.inl rfl⟩
abbrev mX12_image : jM := (yX12_image, cX12_image, 2, none, [])
theorem fp_X12_52_10 : jFp RX12 52 10 6 false .boolean := ⟨RX12, TX12, 22, tyX12, rfl, wsX120_tb, tyX12_ok, nmX12, by decide, (jw_6_10 1 rfl rfl), rfl, tyX12_ok 6 (by decide), fun q => by cases q⟩
theorem fg_X12_17_10 : jFg RX12 17 10 2 := ⟨RX12, TX12, 22, _, rfl, wsX120_tb, by decide, (jw_6_9 13 rfl rfl), Or.inl rfl⟩
abbrev mX12_back : jM := (yX12_back, cX12_back, 2, (some .boolean), [])
theorem fg_X12_52_10 : jFg RX12 52 10 6 := ⟨RX12, TX12, 22, _, rfl, wsX120_tb, by decide, (jw_6_10 1 rfl rfl), Or.inl rfl⟩
theorem fp_X12_56_10 : jFp RX12 56 10 7 false .int := ⟨RX12, TX12, 22, tyX12, rfl, wsX120_tb, tyX12_ok, nmX12, by decide, (jw_6_10 2 rfl rfl), rfl, tyX12_ok 7 (by decide), fun q => by cases q⟩
abbrev mX12_remembers : jM := (yX12_remembers, cX12_remembers, 2, none, [])
theorem fg_X12_56_10 : jFg RX12 56 10 7 := ⟨RX12, TX12, 22, _, rfl, wsX120_tb, by decide, (jw_6_10 2 rfl rfl), Or.inl rfl⟩
theorem fg_X12_26_10 : jFg RX12 26 10 5 := ⟨RX12, TX12, 22, _, rfl, wsX120_tb, by decide, (jw_6_10 0 rfl rfl), Or.inl rfl⟩
abbrev mX12_undo : jM := (yX12_undo, cX12_undo, 2, (some .boolean), [])
abbrev mX12_rings : jM := (yX12_rings, cX12_rings, 1, (some .int), [])
abbrev mX12_lastRing : jM := (yX12_lastRing, cX12_lastRing, 1, (some .int), [])
theorem sy_X12_rings : jSY mX12_rings 0 := ⟨(jw_7_3 5 rfl rfl), (jw_1_0 12 rfl rfl), ⟨lw_n9.1, lw_n9.2, dscr_11⟩, by decide⟩
theorem cv_X12_59_X12_rings : jSv RX12 59 mX12_rings 0 := ⟨(jw_7_3 2 rfl rfl), (jw_7_3 4 rfl rfl), (js_3 7 rfl), sy_X12_rings⟩
abbrev mX12_at : jM := (yX12_at, cX12_at, 2, (some .int), [])
abbrev mX12_of : jM := (yX12_of, cX12_of, 3, (some .int), [])
theorem sy_X12_at : jSY mX12_at 2 := ⟨(jw_7_4 5 rfl rfl), (jw_1_0 12 rfl rfl), ⟨lw_n9.1, lw_n9.2, dscr_6⟩, by decide⟩
theorem cs_X12_63_X12_at : jSs RX12 63 mX12_at 2 := ⟨(jw_7_4 3 rfl rfl), (jw_7_4 4 rfl rfl), sy_X12_at⟩
abbrev mX12_is : jM := (yX12_is, cX12_is, 3, (some .boolean), [])
theorem sy_X12_of : jSY mX12_of 2 := ⟨(jw_7_4 2 rfl rfl), (jw_1_0 12 rfl rfl), ⟨lw_n9.1, lw_n9.2, dscr_6⟩, by decide⟩
theorem cv_X12_67_X12_of : jSv RX12 67 mX12_of 2 := ⟨(jw_7_3 15 rfl rfl), (jw_7_4 1 rfl rfl), (js_3 10 rfl), sy_X12_of⟩
abbrev mX12_gapOf : jM := (yX12_gapOf, cX12_gapOf, 2, (some .int), [])
theorem sy_X12_lastRing : jSY mX12_lastRing 0 := ⟨(jw_7_3 14 rfl rfl), (jw_1_0 12 rfl rfl), ⟨lw_n9.1, lw_n9.2, dscr_11⟩, by decide⟩
theorem cv_X12_70_X12_lastRing : jSv RX12 70 mX12_lastRing 0 := ⟨(jw_7_3 11 rfl rfl), (jw_7_3 13 rfl rfl), (js_3 9 rfl), sy_X12_lastRing⟩
abbrev mX12_ringsThat : jM := (yX12_ringsThat, cX12_ringsThat, 4, (some .int), [])
theorem sy_X12_is : jSY mX12_is 2 := ⟨(jw_7_13 6 rfl rfl), (jw_1_0 12 rfl rfl), ⟨lw_n9.1, lw_n9.2, dscr_10⟩, by decide⟩
theorem cv_X12_73_X12_is : jSv RX12 73 mX12_is 2 := ⟨(jw_7_13 3 rfl rfl), (jw_7_13 5 rfl rfl), (js_5 6 rfl), sy_X12_is⟩
abbrev mX12_noRing : jM := (yX12_noRing, cX12_noRing, 2, (some .boolean), [])
theorem sy_X12_in : jSY mX12_in 3 := ⟨(jw_7_11 6 rfl rfl), (jw_1_0 12 rfl rfl), ⟨lw_n9.1, lw_n9.2, dscr_28⟩, by decide⟩
theorem cs_X12_77_X12_in : jSs RX12 77 mX12_in 3 := ⟨(jw_7_11 4 rfl rfl), (jw_7_11 5 rfl rfl), sy_X12_in⟩
abbrev mX12_noPlace : jM := (yX12_noPlace, cX12_noPlace, 1, (some .boolean), [])
abbrev mX12_noSteps : jM := (yX12_noSteps, cX12_noSteps, 1, (some .boolean), [])
abbrev mX12_drawn : jM := (yX12_drawn, cX12_drawn, 2, (some .int), [])
theorem kc_X12_81 : Cond.constant RX12 81 (1103515245 : Int32) ∈ jall := (jw_8_4 10 rfl rfl)
abbrev mX12_feed : jM := (yX12_feed, cX12_feed, 7, (some .int), [])
theorem fg_X12_82_10 : jFg RX12 82 10 9 := ⟨RX12, TX12, 22, _, rfl, wsX120_tb, by decide, (jw_6_10 4 rfl rfl), Or.inl rfl⟩
theorem fg_X12_36_10 : jFg RX12 36 10 15 := ⟨RX12, TX12, 22, _, rfl, wsX120_tb, by decide, (jw_6_10 10 rfl rfl), Or.inl rfl⟩
theorem fp_X12_82_10 : jFp RX12 82 10 9 false .int := ⟨RX12, TX12, 22, tyX12, rfl, wsX120_tb, tyX12_ok, nmX12, by decide, (jw_6_10 4 rfl rfl), rfl, tyX12_ok 9 (by decide), fun q => by cases q⟩
theorem fg_X12_29_10 : jFg RX12 29 10 8 := ⟨RX12, TX12, 22, _, rfl, wsX120_tb, by decide, (jw_6_10 3 rfl rfl), Or.inl rfl⟩
abbrev mX12_end : jM := (yX12_end, cX12_end, 2, (some .boolean), [])
abbrev mX12_isAt : jM := (yX12_isAt, cX12_isAt, 3, (some .boolean), [])
theorem fg_X12_85_10 : jFg RX12 85 10 10 := ⟨RX12, TX12, 22, _, rfl, wsX120_tb, by decide, (jw_6_10 5 rfl rfl), Or.inl rfl⟩
theorem fg_X12_88_10 : jFg RX12 88 10 11 := ⟨RX12, TX12, 22, _, rfl, wsX120_tb, by decide, (jw_6_10 6 rfl rfl), Or.inl rfl⟩
abbrev mX12_blanks : jM := (yX12_blanks, cX12_blanks, 1, none, [])
theorem sy_X12_isAt : jSY mX12_isAt 2 := ⟨(jw_7_1 10 rfl rfl), (jw_1_0 12 rfl rfl), ⟨lw_n9.1, lw_n9.2, dscr_10⟩, by decide⟩
theorem cv_X12_91_X12_isAt : jSv RX12 91 mX12_isAt 2 := ⟨(jw_7_1 7 rfl rfl), (jw_7_1 9 rfl rfl), (js_3 1 rfl), sy_X12_isAt⟩
theorem fp_X12_94_10 : jFp RX12 94 10 12 false .int := ⟨RX12, TX12, 22, tyX12, rfl, wsX120_tb, tyX12_ok, nmX12, by decide, (jw_6_10 7 rfl rfl), rfl, tyX12_ok 12 (by decide), fun q => by cases q⟩
theorem fp_X12_85_10 : jFp RX12 85 10 10 false .int := ⟨RX12, TX12, 22, tyX12, rfl, wsX120_tb, tyX12_ok, nmX12, by decide, (jw_6_10 5 rfl rfl), rfl, tyX12_ok 10 (by decide), fun q => by cases q⟩
abbrev mX12_letters : jM := (yX12_letters, cX12_letters, 1, none, [])
theorem sy_X12_blanks : jSY mX12_blanks 0 := ⟨(jw_7_1 6 rfl rfl), (jw_1_0 12 rfl rfl), ⟨lw_n9.1, lw_n9.2, dscr_0⟩, by decide⟩
theorem cv_X12_97_X12_blanks : jSv RX12 97 mX12_blanks 0 := ⟨(jw_7_1 3 rfl rfl), (jw_7_1 5 rfl rfl), (js_3 0 rfl), sy_X12_blanks⟩
abbrev mX12_isWord : jM := (yX12_isWord, cX12_isWord, 4, (some .boolean), [])
theorem fg_X12_94_10 : jFg RX12 94 10 12 := ⟨RX12, TX12, 22, _, rfl, wsX120_tb, by decide, (jw_6_10 7 rfl rfl), Or.inl rfl⟩
theorem ss_X12_100 : jSv RX12 100 mJ0_length_8abf5 0 := ⟨(jw_7_2 12 rfl rfl), (jw_3_14 8 rfl rfl), (jw_3_14 9 rfl rfl), sy_J0_length_8abf5⟩
theorem ss_X12_105 : jSv RX12 105 mJ0_charAt_5068e 1 := ⟨(jw_7_2 13 rfl rfl), (jw_4_0 2 rfl rfl), (jw_4_0 3 rfl rfl), sy_J0_charAt_5068e⟩
abbrev mX12_passes : jM := (yX12_passes, cX12_passes, 2, (some .boolean), [])
theorem sy_X12_letters : jSY mX12_letters 0 := ⟨(jw_7_2 2 rfl rfl), (jw_1_0 12 rfl rfl), ⟨lw_n9.1, lw_n9.2, dscr_0⟩, by decide⟩
theorem cv_X12_109_X12_letters : jSv RX12 109 mX12_letters 0 := ⟨(jw_7_1 15 rfl rfl), (jw_7_2 1 rfl rfl), (js_3 3 rfl), sy_X12_letters⟩
theorem sy_X12_isWord : jSY mX12_isWord 1 := ⟨(jw_7_2 11 rfl rfl), (jw_1_0 12 rfl rfl), ⟨lw_n9.1, lw_n9.2, dscr_37⟩, by decide⟩
theorem cv_X12_112_X12_isWord : jSv RX12 112 mX12_isWord 1 := ⟨(jw_7_2 8 rfl rfl), (jw_7_2 10 rfl rfl), (js_3 5 rfl), sy_X12_isWord⟩
abbrev mX12_sign : jM := (yX12_sign, cX12_sign, 2, (some .boolean), [])
abbrev mX12_number : jM := (yX12_number, cX12_number, 4, (some .int), [])
abbrev mX12_after : jM := (yX12_after, cX12_after, 4, (some .int), [])
theorem sy_X12_number : jSY mX12_number 2 := ⟨(jw_7_5 2 rfl rfl), (jw_1_0 12 rfl rfl), ⟨lw_n9.1, lw_n9.2, dscr_6⟩, by decide⟩
theorem cv_X12_116_X12_number : jSv RX12 116 mX12_number 2 := ⟨(jw_7_4 15 rfl rfl), (jw_7_5 1 rfl rfl), (js_3 13 rfl), sy_X12_number⟩
abbrev mX12_fault : jM := (yX12_fault, cX12_fault, 1, (some .int), [])
theorem fg_X12_33_10 : jFg RX12 33 10 14 := ⟨RX12, TX12, 22, _, rfl, wsX120_tb, by decide, (jw_6_10 9 rfl rfl), Or.inl rfl⟩
abbrev mX12_uses : jM := (yX12_uses, cX12_uses, 1, none, [])
theorem fp_X12_88_10 : jFp RX12 88 10 11 false .int := ⟨RX12, TX12, 22, tyX12, rfl, wsX120_tb, tyX12_ok, nmX12, by decide, (jw_6_10 6 rfl rfl), rfl, tyX12_ok 11 (by decide), fun q => by cases q⟩
abbrev mX12_readNumber : jM := (yX12_readNumber, cX12_readNumber, 5, (some .boolean), [])
abbrev mX12_leastPlace : jM := (yX12_leastPlace, cX12_leastPlace, 1, (some .int), [])
abbrev mX12_mostPlace : jM := (yX12_mostPlace, cX12_mostPlace, 1, (some .int), [])
theorem mm_X12_119 : Cond.methodLink RX12 119 Lib.Math.min.name ∈ jall ∧ Cond.static Lib.Math.min.name ∈ jall ∧ Cond.initialized "java/lang/Math" ∈ jall ∧ Cond.code Lib.Math.min.name Lib.Math.min.code 2 (some .int) ∈ jall := ⟨(jw_7_4 10 rfl rfl), (jw_2_14 9 rfl rfl), (jw_1_1 2 rfl rfl), (jw_2_14 10 rfl rfl)⟩
abbrev mX12_hangs : jM := (yX12_hangs, cX12_hangs, 5, none, [])
abbrev mX12_readRing : jM := (yX12_readRing, cX12_readRing, 8, (some .boolean), [])
theorem sy_X12_leastPlace : jSY mX12_leastPlace 0 := ⟨(jw_7_3 10 rfl rfl), (jw_1_0 12 rfl rfl), ⟨lw_n9.1, lw_n9.2, dscr_11⟩, by decide⟩
theorem cv_X12_125_X12_leastPlace : jSv RX12 125 mX12_leastPlace 0 := ⟨(jw_7_3 7 rfl rfl), (jw_7_3 9 rfl rfl), (js_3 8 rfl), sy_X12_leastPlace⟩
theorem sy_X12_mostPlace : jSY mX12_mostPlace 0 := ⟨(jw_7_4 9 rfl rfl), (jw_1_0 12 rfl rfl), ⟨lw_n9.1, lw_n9.2, dscr_11⟩, by decide⟩
theorem cv_X12_128_X12_mostPlace : jSv RX12 128 mX12_mostPlace 0 := ⟨(jw_7_4 6 rfl rfl), (jw_7_4 8 rfl rfl), (js_3 11 rfl), sy_X12_mostPlace⟩
theorem sy_X12_after : jSY mX12_after 3 := ⟨(jw_7_4 14 rfl rfl), (jw_1_0 12 rfl rfl), ⟨lw_n9.1, lw_n9.2, dscr_38⟩, by decide⟩
theorem cv_X12_131_X12_after : jSv RX12 131 mX12_after 3 := ⟨(jw_7_4 11 rfl rfl), (jw_7_4 13 rfl rfl), (js_3 12 rfl), sy_X12_after⟩
theorem sy_X12_passes : jSY mX12_passes 1 := ⟨(jw_7_5 8 rfl rfl), (jw_1_0 12 rfl rfl), ⟨lw_n9.1, lw_n9.2, dscr_37⟩, by decide⟩
theorem cv_X12_139_X12_passes : jSv RX12 139 mX12_passes 1 := ⟨(jw_7_5 5 rfl rfl), (jw_7_5 7 rfl rfl), (js_3 14 rfl), sy_X12_passes⟩
theorem sy_X12_hangs : jSY mX12_hangs 2 := ⟨(jw_7_5 15 rfl rfl), (jw_1_0 12 rfl rfl), ⟨lw_n9.1, lw_n9.2, dscr_16⟩, by decide⟩
theorem cv_X12_148_X12_hangs : jSv RX12 148 mX12_hangs 2 := ⟨(jw_7_5 12 rfl rfl), (jw_7_5 14 rfl rfl), (js_3 15 rfl), sy_X12_hangs⟩
abbrev mX12_readCaught : jM := (yX12_readCaught, cX12_readCaught, 2, (some .boolean), [])
abbrev mX12_readChair : jM := (yX12_readChair, cX12_readChair, 2, (some .boolean), [])
abbrev mX12_readPoleLine : jM := (yX12_readPoleLine, cX12_readPoleLine, 1, (some .boolean), [])
theorem sy_X12_readNumber : jSY mX12_readNumber 3 := ⟨(jw_7_6 14 rfl rfl), (jw_1_0 12 rfl rfl), ⟨lw_n9.1, lw_n9.2, dscr_28⟩, by decide⟩
theorem cv_X12_170_X12_readNumber : jSv RX12 170 mX12_readNumber 3 := ⟨(jw_7_6 11 rfl rfl), (jw_7_6 13 rfl rfl), (js_4 2 rfl), sy_X12_readNumber⟩
theorem sy_X12_readChair : jSY mX12_readChair 0 := ⟨(jw_7_6 9 rfl rfl), (jw_1_0 12 rfl rfl), ⟨lw_n9.1, lw_n9.2, dscr_17⟩, by decide⟩
theorem cv_X12_165_X12_readChair : jSv RX12 165 mX12_readChair 0 := ⟨(jw_7_6 6 rfl rfl), (jw_7_6 8 rfl rfl), (js_4 1 rfl), sy_X12_readChair⟩
theorem sy_X12_readCaught : jSY mX12_readCaught 0 := ⟨(jw_7_6 4 rfl rfl), (jw_1_0 12 rfl rfl), ⟨lw_n9.1, lw_n9.2, dscr_17⟩, by decide⟩
theorem cv_X12_160_X12_readCaught : jSv RX12 160 mX12_readCaught 0 := ⟨(jw_7_6 1 rfl rfl), (jw_7_6 3 rfl rfl), (js_4 0 rfl), sy_X12_readCaught⟩
theorem sy_X12_readRing : jSY mX12_readRing 0 := ⟨(jw_7_3 1 rfl rfl), (jw_1_0 12 rfl rfl), ⟨lw_n9.1, lw_n9.2, dscr_17⟩, by decide⟩
theorem cv_X12_154_X12_readRing : jSv RX12 154 mX12_readRing 0 := ⟨(jw_7_2 14 rfl rfl), (jw_7_3 0 rfl rfl), (js_3 6 rfl), sy_X12_readRing⟩
abbrev mX12_emits : jM := (yX12_emits, cX12_emits, 3, none, [])
theorem fg_X12_179_10 : jFg RX12 179 10 16 := ⟨RX12, TX12, 22, _, rfl, wsX120_tb, by decide, (jw_6_10 11 rfl rfl), Or.inl rfl⟩
theorem fp_X12_179_10 : jFp RX12 179 10 16 false .int := ⟨RX12, TX12, 22, tyX12, rfl, wsX120_tb, tyX12_ok, nmX12, by decide, (jw_6_10 11 rfl rfl), rfl, tyX12_ok 16 (by decide), fun q => by cases q⟩
abbrev mX12_wordOfPart : jM := (yX12_wordOfPart, cX12_wordOfPart, 1, (some .int), [])
abbrev mX12_readPart : jM := (yX12_readPart, cX12_readPart, 3, (some .boolean), [])
theorem sy_X12_wordOfPart : jSY mX12_wordOfPart 0 := ⟨(jw_7_9 15 rfl rfl), (jw_1_0 12 rfl rfl), ⟨lw_n9.1, lw_n9.2, dscr_11⟩, by decide⟩
theorem cv_X12_186_X12_wordOfPart : jSv RX12 186 mX12_wordOfPart 0 := ⟨(jw_7_9 12 rfl rfl), (jw_7_9 14 rfl rfl), (js_4 12 rfl), sy_X12_wordOfPart⟩
theorem sy_X12_emits : jSY mX12_emits 2 := ⟨(jw_7_8 13 rfl rfl), (jw_1_0 12 rfl rfl), ⟨lw_n9.1, lw_n9.2, dscr_16⟩, by decide⟩
theorem cv_X12_189_X12_emits : jSv RX12 189 mX12_emits 2 := ⟨(jw_7_8 10 rfl rfl), (jw_7_8 12 rfl rfl), (js_4 8 rfl), sy_X12_emits⟩
abbrev mX12_readSum : jM := (yX12_readSum, cX12_readSum, 1, (some .boolean), [])
theorem sy_X12_readPart : jSY mX12_readPart 0 := ⟨(jw_7_9 11 rfl rfl), (jw_1_0 12 rfl rfl), ⟨lw_n9.1, lw_n9.2, dscr_17⟩, by decide⟩
theorem cv_X12_192_X12_readPart : jSv RX12 192 mX12_readPart 0 := ⟨(jw_7_9 8 rfl rfl), (jw_7_9 10 rfl rfl), (js_4 11 rfl), sy_X12_readPart⟩
theorem sy_X12_sign : jSY mX12_sign 1 := ⟨(jw_7_8 8 rfl rfl), (jw_1_0 12 rfl rfl), ⟨lw_n9.1, lw_n9.2, dscr_12⟩, by decide⟩
theorem cv_X12_195_X12_sign : jSv RX12 195 mX12_sign 1 := ⟨(jw_7_8 5 rfl rfl), (jw_7_8 7 rfl rfl), (js_4 7 rfl), sy_X12_sign⟩
abbrev mX12_readTag : jM := (yX12_readTag, cX12_readTag, 2, (some .boolean), [])
abbrev mX12_readAtom : jM := (yX12_readAtom, cX12_readAtom, 2, (some .boolean), [])
theorem sy_X12_readTag : jSY mX12_readTag 0 := ⟨(jw_7_9 1 rfl rfl), (jw_1_0 12 rfl rfl), ⟨lw_n9.1, lw_n9.2, dscr_17⟩, by decide⟩
theorem cv_X12_214_X12_readTag : jSv RX12 214 mX12_readTag 0 := ⟨(jw_7_8 14 rfl rfl), (jw_7_9 0 rfl rfl), (js_4 9 rfl), sy_X12_readTag⟩
theorem sy_X12_readSum : jSY mX12_readSum 0 := ⟨(jw_7_9 7 rfl rfl), (jw_1_0 12 rfl rfl), ⟨lw_n9.1, lw_n9.2, dscr_17⟩, by decide⟩
theorem cv_X12_217_X12_readSum : jSv RX12 217 mX12_readSum 0 := ⟨(jw_7_9 4 rfl rfl), (jw_7_9 6 rfl rfl), (js_4 10 rfl), sy_X12_readSum⟩
theorem fg_X12_203_10 : jFg RX12 203 10 13 := ⟨RX12, TX12, 22, _, rfl, wsX120_tb, by decide, (jw_6_10 8 rfl rfl), Or.inl rfl⟩
theorem fp_X12_203_10 : jFp RX12 203 10 13 false .int := ⟨RX12, TX12, 22, tyX12, rfl, wsX120_tb, tyX12_ok, nmX12, by decide, (jw_6_10 8 rfl rfl), rfl, tyX12_ok 13 (by decide), fun q => by cases q⟩
theorem sy_X12_readAtom : jSY mX12_readAtom 0 := ⟨(jw_7_8 4 rfl rfl), (jw_1_0 12 rfl rfl), ⟨lw_n9.1, lw_n9.2, dscr_17⟩, by decide⟩
theorem cv_X12_211_X12_readAtom : jSv RX12 211 mX12_readAtom 0 := ⟨(jw_7_8 1 rfl rfl), (jw_7_8 3 rfl rfl), (js_4 6 rfl), sy_X12_readAtom⟩
abbrev mX12_readCond : jM := (yX12_readCond, cX12_readCond, 1, (some .boolean), [])
theorem sy_X12_readCond : jSY mX12_readCond 0 := ⟨(jw_7_7 12 rfl rfl), (jw_1_0 12 rfl rfl), ⟨lw_n9.1, lw_n9.2, dscr_17⟩, by decide⟩
theorem cv_X12_206_X12_readCond : jSv RX12 206 mX12_readCond 0 := ⟨(jw_7_7 9 rfl rfl), (jw_7_7 11 rfl rfl), (js_4 4 rfl), sy_X12_readCond⟩
abbrev mX12_readAllOf : jM := (yX12_readAllOf, cX12_readAllOf, 1, (some .boolean), [])
theorem sy_X12_readAllOf : jSY mX12_readAllOf 0 := ⟨(jw_7_8 0 rfl rfl), (jw_1_0 12 rfl rfl), ⟨lw_n9.1, lw_n9.2, dscr_17⟩, by decide⟩
theorem cv_X12_222_X12_readAllOf : jSv RX12 222 mX12_readAllOf 0 := ⟨(jw_7_7 13 rfl rfl), (jw_7_7 15 rfl rfl), (js_4 5 rfl), sy_X12_readAllOf⟩
abbrev mX12_readLawLine : jM := (yX12_readLawLine, cX12_readLawLine, 3, (some .boolean), [])
abbrev mX12_readLine : jM := (yX12_readLine, cX12_readLine, 3, (some .boolean), [])
theorem sy_X12_readLawLine : jSY mX12_readLawLine 1 := ⟨(jw_7_7 5 rfl rfl), (jw_1_0 12 rfl rfl), ⟨lw_n9.1, lw_n9.2, dscr_12⟩, by decide⟩
theorem cv_X12_236_X12_readLawLine : jSv RX12 236 mX12_readLawLine 1 := ⟨(jw_7_7 2 rfl rfl), (jw_7_7 4 rfl rfl), (js_4 3 rfl), sy_X12_readLawLine⟩
theorem sy_X12_readPoleLine : jSY mX12_readPoleLine 0 := ⟨(jw_7_2 6 rfl rfl), (jw_1_0 12 rfl rfl), ⟨lw_n9.1, lw_n9.2, dscr_17⟩, by decide⟩
theorem cv_X12_233_X12_readPoleLine : jSv RX12 233 mX12_readPoleLine 0 := ⟨(jw_7_2 3 rfl rfl), (jw_7_2 5 rfl rfl), (js_3 4 rfl), sy_X12_readPoleLine⟩
abbrev mX12_readAll : jM := (yX12_readAll, cX12_readAll, 3, (some .int), [])
theorem sy_X12_uses : jSY mX12_uses 0 := ⟨(jw_7_1 2 rfl rfl), (jw_1_0 12 rfl rfl), ⟨lw_n9.1, lw_n9.2, dscr_0⟩, by decide⟩
theorem cv_X12_239_X12_uses : jSv RX12 239 mX12_uses 0 := ⟨(jw_7_0 15 rfl rfl), (jw_7_1 1 rfl rfl), (js_2 15 rfl), sy_X12_uses⟩
theorem sy_X12_readLine : jSY mX12_readLine 2 := ⟨(jw_7_1 14 rfl rfl), (jw_1_0 12 rfl rfl), ⟨lw_n9.1, lw_n9.2, dscr_39⟩, by decide⟩
theorem cv_X12_242_X12_readLine : jSv RX12 242 mX12_readLine 2 := ⟨(jw_7_1 11 rfl rfl), (jw_7_1 13 rfl rfl), (js_3 2 rfl), sy_X12_readLine⟩
abbrev mX12_pole : jM := (yX12_pole, cX12_pole, 3, (some .int), [])
theorem sy_X12_readAll : jSY mX12_readAll 1 := ⟨(jw_7_0 14 rfl rfl), (jw_1_0 12 rfl rfl), ⟨lw_n9.1, lw_n9.2, dscr_40⟩, by decide⟩
theorem cv_X12_246_X12_readAll : jSv RX12 246 mX12_readAll 1 := ⟨(jw_7_0 11 rfl rfl), (jw_7_0 13 rfl rfl), (js_2 14 rfl), sy_X12_readAll⟩
theorem sy_X12_throwsIf : jSY mX12_throwsIf 2 := ⟨(jw_7_10 7 rfl rfl), (jw_1_0 12 rfl rfl), ⟨lw_n9.1, lw_n9.2, dscr_39⟩, by decide⟩
theorem cv_X12_250_X12_throwsIf : jSv RX12 250 mX12_throwsIf 2 := ⟨(jw_7_10 4 rfl rfl), (jw_7_10 6 rfl rfl), (js_4 13 rfl), sy_X12_throwsIf⟩
theorem fg_X12_20_10 : jFg RX12 20 10 3 := ⟨RX12, TX12, 22, _, rfl, wsX120_tb, by decide, (jw_6_9 14 rfl rfl), Or.inl rfl⟩
abbrev mX12_law : jM := (yX12_law, cX12_law, 3, (some .int), [])
abbrev mX12_isLit : jM := (yX12_isLit, cX12_isLit, 3, (some .boolean), [])
abbrev mX12_factOf : jM := (yX12_factOf, cX12_factOf, 4, (some .int), [])
theorem sy_X12_gapOf : jSY mX12_gapOf 1 := ⟨(jw_7_11 10 rfl rfl), (jw_1_0 12 rfl rfl), ⟨lw_n9.1, lw_n9.2, dscr_19⟩, by decide⟩
theorem cv_X12_253_X12_gapOf : jSv RX12 253 mX12_gapOf 1 := ⟨(jw_7_11 7 rfl rfl), (jw_7_11 9 rfl rfl), (js_4 15 rfl), sy_X12_gapOf⟩
theorem sy_X12_isLit : jSY mX12_isLit 2 := ⟨(jw_7_12 14 rfl rfl), (jw_1_0 12 rfl rfl), ⟨lw_n9.1, lw_n9.2, dscr_10⟩, by decide⟩
theorem cv_X12_257_X12_isLit : jSv RX12 257 mX12_isLit 2 := ⟨(jw_7_12 11 rfl rfl), (jw_7_12 13 rfl rfl), (js_5 4 rfl), sy_X12_isLit⟩
abbrev mX12_holdsLine : jM := (yX12_holdsLine, cX12_holdsLine, 10, (some .boolean), [])
theorem fg_X12_39_10 : jFg RX12 39 10 17 := ⟨RX12, TX12, 22, _, rfl, wsX120_tb, by decide, (jw_6_10 12 rfl rfl), Or.inl rfl⟩
theorem sy_X12_factOf : jSY mX12_factOf 3 := ⟨(jw_7_12 10 rfl rfl), (jw_1_0 12 rfl rfl), ⟨lw_n9.1, lw_n9.2, dscr_13⟩, by decide⟩
theorem cv_X12_260_X12_factOf : jSv RX12 260 mX12_factOf 3 := ⟨(jw_7_12 7 rfl rfl), (jw_7_12 9 rfl rfl), (js_5 3 rfl), sy_X12_factOf⟩
abbrev mX12_sumOf : jM := (yX12_sumOf, cX12_sumOf, 5, (some .int), [])
theorem sy_X12_holdsLine : jSY mX12_holdsLine 2 := ⟨(jw_7_12 6 rfl rfl), (jw_1_0 12 rfl rfl), ⟨lw_n9.1, lw_n9.2, dscr_10⟩, by decide⟩
theorem cv_X12_264_X12_holdsLine : jSv RX12 264 mX12_holdsLine 2 := ⟨(jw_7_12 3 rfl rfl), (jw_7_12 5 rfl rfl), (js_5 2 rfl), sy_X12_holdsLine⟩
abbrev mX12_byLaw : jM := (yX12_byLaw, cX12_byLaw, 3, (some .int), [])
theorem sy_X12_sumOf : jSY mX12_sumOf 2 := ⟨(jw_7_12 2 rfl rfl), (jw_1_0 12 rfl rfl), ⟨lw_n9.1, lw_n9.2, dscr_6⟩, by decide⟩
theorem cv_X12_267_X12_sumOf : jSv RX12 267 mX12_sumOf 2 := ⟨(jw_7_11 15 rfl rfl), (jw_7_12 1 rfl rfl), (js_5 1 rfl), sy_X12_sumOf⟩
abbrev mX12_fadesOfAll : jM := (yX12_fadesOfAll, cX12_fadesOfAll, 3, (some .int), [])
abbrev mX12_shareOf : jM := (yX12_shareOf, cX12_shareOf, 3, (some .int), [])
theorem sy_X12_fadesOfAll : jSY mX12_fadesOfAll 0 := ⟨(jw_7_14 0 rfl rfl), (jw_1_0 12 rfl rfl), ⟨lw_n9.1, lw_n9.2, dscr_11⟩, by decide⟩
theorem cv_X12_270_X12_fadesOfAll : jSv RX12 270 mX12_fadesOfAll 0 := ⟨(jw_7_13 13 rfl rfl), (jw_7_13 15 rfl rfl), (js_5 8 rfl), sy_X12_fadesOfAll⟩
abbrev mX12_hangsOn : jM := (yX12_hangsOn, cX12_hangsOn, 6, (some .int), [])
theorem kc_X12_273 : Cond.constant RX12 273 (1000000 : Int32) ∈ jall := (jw_7_13 7 rfl rfl)
theorem mm_X12_274 : Cond.methodLink RX12 274 Lib.Math.abs.name ∈ jall ∧ Cond.static Lib.Math.abs.name ∈ jall ∧ Cond.initialized "java/lang/Math" ∈ jall ∧ Cond.code Lib.Math.abs.name Lib.Math.abs.code 1 (some .int) ∈ jall := ⟨(jw_7_13 8 rfl rfl), (jw_3_7 9 rfl rfl), (jw_1_1 2 rfl rfl), (jw_3_7 10 rfl rfl)⟩
abbrev mX12_ring : jM := (yX12_ring, cX12_ring, 3, (some .int), [])
theorem sy_X12_noRing : jSY mX12_noRing 1 := ⟨(jw_7_11 3 rfl rfl), (jw_1_0 12 rfl rfl), ⟨lw_n9.1, lw_n9.2, dscr_12⟩, by decide⟩
theorem cv_X12_277_X12_noRing : jSv RX12 277 mX12_noRing 1 := ⟨(jw_7_11 0 rfl rfl), (jw_7_11 2 rfl rfl), (js_4 14 rfl), sy_X12_noRing⟩
theorem sy_X12_byLaw : jSY mX12_byLaw 2 := ⟨(jw_7_11 14 rfl rfl), (jw_1_0 12 rfl rfl), ⟨lw_n9.1, lw_n9.2, dscr_6⟩, by decide⟩
theorem cv_X12_280_X12_byLaw : jSv RX12 280 mX12_byLaw 2 := ⟨(jw_7_11 11 rfl rfl), (jw_7_11 13 rfl rfl), (js_5 0 rfl), sy_X12_byLaw⟩
theorem sy_X12_hangsOn : jSY mX12_hangsOn 1 := ⟨(jw_7_13 2 rfl rfl), (jw_1_0 12 rfl rfl), ⟨lw_n9.1, lw_n9.2, dscr_19⟩, by decide⟩
theorem cv_X12_283_X12_hangsOn : jSv RX12 283 mX12_hangsOn 1 := ⟨(jw_7_12 15 rfl rfl), (jw_7_13 1 rfl rfl), (js_5 5 rfl), sy_X12_hangsOn⟩
theorem sy_X12_shareOf : jSY mX12_shareOf 1 := ⟨(jw_7_13 12 rfl rfl), (jw_1_0 12 rfl rfl), ⟨lw_n9.1, lw_n9.2, dscr_19⟩, by decide⟩
theorem cv_X12_286_X12_shareOf : jSv RX12 286 mX12_shareOf 1 := ⟨(jw_7_13 9 rfl rfl), (jw_7_13 11 rfl rfl), (js_5 7 rfl), sy_X12_shareOf⟩
abbrev mX12_takesAlong : jM := (yX12_takesAlong, cX12_takesAlong, 5, (some .boolean), [])
abbrev mX12_allWith : jM := (yX12_allWith, cX12_allWith, 6, (some .int), [])
theorem sy_X12_has : jSY mX12_has 2 := ⟨(jw_8_0 14 rfl rfl), (jw_1_0 12 rfl rfl), ⟨lw_n9.1, lw_n9.2, dscr_10⟩, by decide⟩
theorem cs_X12_289_X12_has : jSs RX12 289 mX12_has 2 := ⟨(jw_8_0 12 rfl rfl), (jw_8_0 13 rfl rfl), sy_X12_has⟩
theorem sy_X12_takesAlong : jSY mX12_takesAlong 3 := ⟨(jw_8_1 2 rfl rfl), (jw_1_0 12 rfl rfl), ⟨lw_n9.1, lw_n9.2, dscr_41⟩, by decide⟩
theorem cv_X12_292_X12_takesAlong : jSv RX12 292 mX12_takesAlong 3 := ⟨(jw_8_0 15 rfl rfl), (jw_8_1 1 rfl rfl), (js_5 14 rfl), sy_X12_takesAlong⟩
abbrev mX12_mayGo : jM := (yX12_mayGo, cX12_mayGo, 4, (some .boolean), [])
theorem sy_X12_noPlace : jSY mX12_noPlace 1 := ⟨(jw_8_1 9 rfl rfl), (jw_1_0 12 rfl rfl), ⟨lw_n9.1, lw_n9.2, dscr_12⟩, by decide⟩
theorem cs_X12_296_X12_noPlace : jSs RX12 296 mX12_noPlace 1 := ⟨(jw_8_1 7 rfl rfl), (jw_8_1 8 rfl rfl), sy_X12_noPlace⟩
abbrev mX12_goingBy : jM := (yX12_goingBy, cX12_goingBy, 6, (some .int), [])
theorem sy_X12_allWith : jSY mX12_allWith 2 := ⟨(jw_8_0 11 rfl rfl), (jw_1_0 12 rfl rfl), ⟨lw_n9.1, lw_n9.2, dscr_25⟩, by decide⟩
theorem cv_X12_299_X12_allWith : jSv RX12 299 mX12_allWith 2 := ⟨(jw_8_0 8 rfl rfl), (jw_8_0 10 rfl rfl), (js_5 13 rfl), sy_X12_allWith⟩
theorem sy_X12_mayGo : jSY mX12_mayGo 2 := ⟨(jw_8_1 6 rfl rfl), (jw_1_0 12 rfl rfl), ⟨lw_n9.1, lw_n9.2, dscr_24⟩, by decide⟩
theorem cv_X12_303_X12_mayGo : jSv RX12 303 mX12_mayGo 2 := ⟨(jw_8_1 3 rfl rfl), (jw_8_1 5 rfl rfl), (js_5 15 rfl), sy_X12_mayGo⟩
abbrev mX12_goesOne : jM := (yX12_goesOne, cX12_goesOne, 5, (some .boolean), [])
theorem sy_X12_goingBy : jSY mX12_goingBy 2 := ⟨(jw_8_0 7 rfl rfl), (jw_1_0 12 rfl rfl), ⟨lw_n9.1, lw_n9.2, dscr_25⟩, by decide⟩
theorem cv_X12_307_X12_goingBy : jSv RX12 307 mX12_goingBy 2 := ⟨(jw_8_0 4 rfl rfl), (jw_8_0 6 rfl rfl), (js_5 12 rfl), sy_X12_goingBy⟩
theorem fg_X12_310_10 : jFg RX12 310 10 18 := ⟨RX12, TX12, 22, _, rfl, wsX120_tb, by decide, (jw_6_10 13 rfl rfl), Or.inl rfl⟩
theorem fp_X12_310_10 : jFp RX12 310 10 18 false .int := ⟨RX12, TX12, 22, tyX12, rfl, wsX120_tb, tyX12_ok, nmX12, by decide, (jw_6_10 13 rfl rfl), rfl, tyX12_ok 18 (by decide), fun q => by cases q⟩
abbrev mX12_pulls : jM := (yX12_pulls, cX12_pulls, 5, (some .int), [])
theorem sy_X12_goesOne : jSY mX12_goesOne 2 := ⟨(jw_8_0 3 rfl rfl), (jw_1_0 12 rfl rfl), ⟨lw_n9.1, lw_n9.2, dscr_24⟩, by decide⟩
theorem cv_X12_313_X12_goesOne : jSv RX12 313 mX12_goesOne 2 := ⟨(jw_8_0 0 rfl rfl), (jw_8_0 2 rfl rfl), (js_5 11 rfl), sy_X12_goesOne⟩
abbrev mX12_tells : jM := (yX12_tells, cX12_tells, 5, none, [])
abbrev mX12_pull : jM := (yX12_pull, cX12_pull, 5, (some .int), [])
theorem sy_X12_noSteps : jSY mX12_noSteps 1 := ⟨(jw_7_14 7 rfl rfl), (jw_1_0 12 rfl rfl), ⟨lw_n9.1, lw_n9.2, dscr_12⟩, by decide⟩
theorem cs_X12_316_X12_noSteps : jSs RX12 316 mX12_noSteps 1 := ⟨(jw_7_14 5 rfl rfl), (jw_7_14 6 rfl rfl), sy_X12_noSteps⟩
theorem sy_X12_remembers : jSY mX12_remembers 0 := ⟨(jw_7_14 11 rfl rfl), (jw_1_0 12 rfl rfl), ⟨lw_n9.1, lw_n9.2, dscr_0⟩, by decide⟩
theorem cv_X12_319_X12_remembers : jSv RX12 319 mX12_remembers 0 := ⟨(jw_7_14 8 rfl rfl), (jw_7_14 10 rfl rfl), (js_5 9 rfl), sy_X12_remembers⟩
theorem sy_X12_pulls : jSY mX12_pulls 3 := ⟨(jw_7_14 15 rfl rfl), (jw_1_0 12 rfl rfl), ⟨lw_n9.1, lw_n9.2, dscr_21⟩, by decide⟩
theorem cv_X12_322_X12_pulls : jSv RX12 322 mX12_pulls 3 := ⟨(jw_7_14 12 rfl rfl), (jw_7_14 14 rfl rfl), (js_5 10 rfl), sy_X12_pulls⟩
theorem sy_X12_tells : jSY mX12_tells 3 := ⟨(jw_8_1 13 rfl rfl), (jw_1_0 12 rfl rfl), ⟨lw_n9.1, lw_n9.2, dscr_33⟩, by decide⟩
theorem cv_X12_326_X12_tells : jSv RX12 326 mX12_tells 3 := ⟨(jw_8_1 10 rfl rfl), (jw_8_1 12 rfl rfl), (js_6 0 rfl), sy_X12_tells⟩
abbrev mX12_free : jM := (yX12_free, cX12_free, 2, (some .int), [])
abbrev mX12_snag : jM := (yX12_snag, cX12_snag, 2, (some .int), [])
abbrev mX12_hook : jM := (yX12_hook, cX12_hook, 4, (some .boolean), [])
abbrev mX12_sew : jM := (yX12_sew, cX12_sew, 3, (some .int), [])
abbrev mX12_let : jM := (yX12_let, cX12_let, 4, (some .int), [])
abbrev mX12_chair : jM := (yX12_chair, cX12_chair, 5, (some .boolean), [])
abbrev mX12_catches : jM := (yX12_catches, cX12_catches, 3, (some .int), [])
theorem sy_X12_drawn : jSY mX12_drawn 1 := ⟨(jw_8_4 9 rfl rfl), (jw_1_0 12 rfl rfl), ⟨lw_n9.1, lw_n9.2, dscr_19⟩, by decide⟩
theorem cv_X12_330_X12_drawn : jSv RX12 330 mX12_drawn 1 := ⟨(jw_8_4 6 rfl rfl), (jw_8_4 8 rfl rfl), (js_6 4 rfl), sy_X12_drawn⟩
abbrev mX12_falls : jM := (yX12_falls, cX12_falls, 3, (some .int), [])
abbrev mX12_oneHour : jM := (yX12_oneHour, cX12_oneHour, 3, (some .int), [])
theorem sy_X12_catches : jSY mX12_catches 0 := ⟨(jw_8_4 5 rfl rfl), (jw_1_0 12 rfl rfl), ⟨lw_n9.1, lw_n9.2, dscr_11⟩, by decide⟩
theorem cv_X12_333_X12_catches : jSv RX12 333 mX12_catches 0 := ⟨(jw_8_4 2 rfl rfl), (jw_8_4 4 rfl rfl), (js_6 3 rfl), sy_X12_catches⟩
theorem sy_X12_falls : jSY mX12_falls 0 := ⟨(jw_8_4 14 rfl rfl), (jw_1_0 12 rfl rfl), ⟨lw_n9.1, lw_n9.2, dscr_11⟩, by decide⟩
theorem cv_X12_336_X12_falls : jSv RX12 336 mX12_falls 0 := ⟨(jw_8_4 11 rfl rfl), (jw_8_4 13 rfl rfl), (js_6 5 rfl), sy_X12_falls⟩
abbrev mX12_goesOn : jM := (yX12_goesOn, cX12_goesOn, 5, (some .int), [])
theorem sy_X12_oneHour : jSY mX12_oneHour 1 := ⟨(jw_8_4 1 rfl rfl), (jw_1_0 12 rfl rfl), ⟨lw_n9.1, lw_n9.2, dscr_40⟩, by decide⟩
theorem cv_X12_339_X12_oneHour : jSv RX12 339 mX12_oneHour 1 := ⟨(jw_8_3 14 rfl rfl), (jw_8_4 0 rfl rfl), (js_6 2 rfl), sy_X12_oneHour⟩
abbrev mX12_keepsAll : jM := (yX12_keepsAll, cX12_keepsAll, 2, none, [])
theorem fg_X12_23_10 : jFg RX12 23 10 4 := ⟨RX12, TX12, 22, _, rfl, wsX120_tb, by decide, (jw_6_9 15 rfl rfl), Or.inl rfl⟩
abbrev mX12_bringsBack : jM := (yX12_bringsBack, cX12_bringsBack, 2, none, [])
abbrev mX12_hours : jM := (yX12_hours, cX12_hours, 2, (some .int), [])
theorem sy_X12_goesOn : jSY mX12_goesOn 2 := ⟨(jw_8_3 13 rfl rfl), (jw_1_0 12 rfl rfl), ⟨lw_n9.1, lw_n9.2, dscr_25⟩, by decide⟩
theorem cv_X12_342_X12_goesOn : jSv RX12 342 mX12_goesOn 2 := ⟨(jw_8_3 10 rfl rfl), (jw_8_3 12 rfl rfl), (js_6 1 rfl), sy_X12_goesOn⟩
abbrev mX12_noAhead : jM := (yX12_noAhead, cX12_noAhead, 1, (some .boolean), [])
abbrev mX12_ahead : jM := (yX12_ahead, cX12_ahead, 4, (some .int), [])
theorem sy_X12_noAhead : jSY mX12_noAhead 1 := ⟨(jw_8_5 5 rfl rfl), (jw_1_0 12 rfl rfl), ⟨lw_n9.1, lw_n9.2, dscr_12⟩, by decide⟩
theorem cs_X12_345_X12_noAhead : jSs RX12 345 mX12_noAhead 1 := ⟨(jw_8_5 3 rfl rfl), (jw_8_5 4 rfl rfl), sy_X12_noAhead⟩
theorem sy_X12_keepsAll : jSY mX12_keepsAll 0 := ⟨(jw_8_5 9 rfl rfl), (jw_1_0 12 rfl rfl), ⟨lw_n9.1, lw_n9.2, dscr_0⟩, by decide⟩
theorem cv_X12_348_X12_keepsAll : jSv RX12 348 mX12_keepsAll 0 := ⟨(jw_8_5 6 rfl rfl), (jw_8_5 8 rfl rfl), (js_6 6 rfl), sy_X12_keepsAll⟩
theorem sy_X12_bringsBack : jSY mX12_bringsBack 0 := ⟨(jw_8_5 13 rfl rfl), (jw_1_0 12 rfl rfl), ⟨lw_n9.1, lw_n9.2, dscr_0⟩, by decide⟩
theorem cv_X12_351_X12_bringsBack : jSv RX12 351 mX12_bringsBack 0 := ⟨(jw_8_5 10 rfl rfl), (jw_8_5 12 rfl rfl), (js_6 7 rfl), sy_X12_bringsBack⟩
abbrev mX12_faded : jM := (yX12_faded, cX12_faded, 3, (some .int), [])
abbrev mX12_somePale : jM := (yX12_somePale, cX12_somePale, 3, (some .boolean), [])
abbrev mX12_pale : jM := (yX12_pale, cX12_pale, 3, (some .int), [])
theorem sy_X12_somePale : jSY mX12_somePale 0 := ⟨(jw_8_6 9 rfl rfl), (jw_1_0 12 rfl rfl), ⟨lw_n9.1, lw_n9.2, dscr_17⟩, by decide⟩
theorem cv_X12_354_X12_somePale : jSv RX12 354 mX12_somePale 0 := ⟨(jw_8_6 6 rfl rfl), (jw_8_6 8 rfl rfl), (js_6 8 rfl), sy_X12_somePale⟩
abbrev mX12_shadeNow : jM := (yX12_shadeNow, cX12_shadeNow, 4, (some .int), [])
abbrev mX12_darkNow : jM := (yX12_darkNow, cX12_darkNow, 1, (some .int), [])
theorem sy_X12_shadeNow : jSY mX12_shadeNow 0 := ⟨(jw_8_7 1 rfl rfl), (jw_1_0 12 rfl rfl), ⟨lw_n9.1, lw_n9.2, dscr_11⟩, by decide⟩
theorem cv_X12_357_X12_shadeNow : jSv RX12 357 mX12_shadeNow 0 := ⟨(jw_8_6 14 rfl rfl), (jw_8_7 0 rfl rfl), (js_6 9 rfl), sy_X12_shadeNow⟩
theorem cs_X12_360_J6_bitCount_0f7a4 : jSs RX12 360 mJ6_bitCount_0f7a4 1 := ⟨(jw_8_7 10 rfl rfl), (jw_2_11 5 rfl rfl), sy_J6_bitCount_0f7a4⟩
abbrev mX12_shade : jM := (yX12_shade, cX12_shade, 1, (some .int), [])
abbrev mX12_dark : jM := (yX12_dark, cX12_dark, 1, (some .int), [])
theorem sy_X12_darkNow : jSY mX12_darkNow 0 := ⟨(jw_8_7 9 rfl rfl), (jw_1_0 12 rfl rfl), ⟨lw_n9.1, lw_n9.2, dscr_11⟩, by decide⟩
theorem cv_X12_365_X12_darkNow : jSv RX12 365 mX12_darkNow 0 := ⟨(jw_8_7 6 rfl rfl), (jw_8_7 8 rfl rfl), (js_6 10 rfl), sy_X12_darkNow⟩
abbrev mX12_bare : jM := (yX12_bare, cX12_bare, 1, (some .int), [])
abbrev mX12_goes : jM := (yX12_goes, cX12_goes, 4, (some .int), [])
abbrev mX12_with : jM := (yX12_with, cX12_with, 3, (some .int), [])
abbrev mX12_would : jM := (yX12_would, cX12_would, 6, (some .int), [])
abbrev mX12_best : jM := (yX12_best, cX12_best, 7, (some .int), [])
theorem mm_X12_368 : Cond.methodLink RX12 368 Lib.Math.max.name ∈ jall ∧ Cond.static Lib.Math.max.name ∈ jall ∧ Cond.initialized "java/lang/Math" ∈ jall ∧ Cond.code Lib.Math.max.name Lib.Math.max.code 2 (some .int) ∈ jall := ⟨(jw_8_8 15 rfl rfl), (jw_3_1 9 rfl rfl), (jw_1_1 2 rfl rfl), (jw_3_1 10 rfl rfl)⟩
abbrev mX12_shadesAll : jM := (yX12_shadesAll, cX12_shadesAll, 2, (some .boolean), [])
abbrev mX12_stepsTo : jM := (yX12_stepsTo, cX12_stepsTo, 7, (some .int), [])
theorem sy_X12_shadesAll : jSY mX12_shadesAll 1 := ⟨(jw_8_9 7 rfl rfl), (jw_1_0 12 rfl rfl), ⟨lw_n9.1, lw_n9.2, dscr_12⟩, by decide⟩
theorem cv_X12_371_X12_shadesAll : jSv RX12 371 mX12_shadesAll 1 := ⟨(jw_8_9 4 rfl rfl), (jw_8_9 6 rfl rfl), (js_6 11 rfl), sy_X12_shadesAll⟩
abbrev mX12_fewestTo : jM := (yX12_fewestTo, cX12_fewestTo, 7, (some .int), [])
theorem sy_X12_stepsTo : jSY mX12_stepsTo 3 := ⟨(jw_8_9 15 rfl rfl), (jw_1_0 12 rfl rfl), ⟨lw_n9.1, lw_n9.2, dscr_7⟩, by decide⟩
theorem cv_X12_374_X12_stepsTo : jSv RX12 374 mX12_stepsTo 3 := ⟨(jw_8_9 12 rfl rfl), (jw_8_9 14 rfl rfl), (js_6 13 rfl), sy_X12_stepsTo⟩
abbrev mX12_fewest : jM := (yX12_fewest, cX12_fewest, 2, (some .int), [])
theorem sy_X12_fewestTo : jSY mX12_fewestTo 2 := ⟨(jw_8_9 11 rfl rfl), (jw_1_0 12 rfl rfl), ⟨lw_n9.1, lw_n9.2, dscr_25⟩, by decide⟩
theorem cv_X12_378_X12_fewestTo : jSv RX12 378 mX12_fewestTo 2 := ⟨(jw_8_9 8 rfl rfl), (jw_8_9 10 rfl rfl), (js_6 12 rfl), sy_X12_fewestTo⟩
abbrev mX12_first : jM := (yX12_first, cX12_first, 2, (some .int), [])
abbrev mX12_isTold : jM := (yX12_isTold, cX12_isTold, 3, (some .boolean), [])
abbrev mX12_thatCanCatch : jM := (yX12_thatCanCatch, cX12_thatCanCatch, 1, (some .int), [])
abbrev mX12_areCaught : jM := (yX12_areCaught, cX12_areCaught, 3, none, [])
abbrev mX12_wentWith : jM := (yX12_wentWith, cX12_wentWith, 6, (some .int), [])
theorem sy_X12_areCaught : jSY mX12_areCaught 1 := ⟨(jw_8_11 11 rfl rfl), (jw_1_0 12 rfl rfl), ⟨lw_n9.1, lw_n9.2, dscr_14⟩, by decide⟩
theorem cv_X12_381_X12_areCaught : jSv RX12 381 mX12_areCaught 1 := ⟨(jw_8_11 8 rfl rfl), (jw_8_11 10 rfl rfl), (js_7 2 rfl), sy_X12_areCaught⟩
abbrev mX12_fits : jM := (yX12_fits, cX12_fits, 4, (some .boolean), [])
theorem sy_X12_wentWith : jSY mX12_wentWith 4 := ⟨(jw_8_11 7 rfl rfl), (jw_1_0 12 rfl rfl), ⟨lw_n9.1, lw_n9.2, dscr_42⟩, by decide⟩
theorem cv_X12_385_X12_wentWith : jSv RX12 385 mX12_wentWith 4 := ⟨(jw_8_11 4 rfl rfl), (jw_8_11 6 rfl rfl), (js_7 1 rfl), sy_X12_wentWith⟩
abbrev mX12_snags : jM := (yX12_snags, cX12_snags, 5, (some .int), [])
theorem sy_X12_isTold : jSY mX12_isTold 0 := ⟨(jw_8_10 11 rfl rfl), (jw_1_0 12 rfl rfl), ⟨lw_n9.1, lw_n9.2, dscr_17⟩, by decide⟩
theorem cv_X12_389_X12_isTold : jSv RX12 389 mX12_isTold 0 := ⟨(jw_8_10 8 rfl rfl), (jw_8_10 10 rfl rfl), (js_6 14 rfl), sy_X12_isTold⟩
theorem sy_X12_thatCanCatch : jSY mX12_thatCanCatch 0 := ⟨(jw_8_10 15 rfl rfl), (jw_1_0 12 rfl rfl), ⟨lw_n9.1, lw_n9.2, dscr_11⟩, by decide⟩
theorem cv_X12_392_X12_thatCanCatch : jSv RX12 392 mX12_thatCanCatch 0 := ⟨(jw_8_10 12 rfl rfl), (jw_8_10 14 rfl rfl), (js_6 15 rfl), sy_X12_thatCanCatch⟩
theorem sy_X12_fits : jSY mX12_fits 1 := ⟨(jw_8_11 3 rfl rfl), (jw_1_0 12 rfl rfl), ⟨lw_n9.1, lw_n9.2, dscr_12⟩, by decide⟩
theorem cv_X12_395_X12_fits : jSv RX12 395 mX12_fits 1 := ⟨(jw_8_11 0 rfl rfl), (jw_8_11 2 rfl rfl), (js_7 0 rfl), sy_X12_fits⟩
abbrev mX12_partBy : jM := (yX12_partBy, cX12_partBy, 6, (some .int), [])
theorem fg_X12_42_10 : jFg RX12 42 10 19 := ⟨RX12, TX12, 22, _, rfl, wsX120_tb, by decide, (jw_6_10 14 rfl rfl), Or.inl rfl⟩
theorem fg_X12_46_10 : jFg RX12 46 10 20 := ⟨RX12, TX12, 22, _, rfl, wsX120_tb, by decide, (jw_6_10 15 rfl rfl), Or.inl rfl⟩
abbrev mX12_tries : jM := (yX12_tries, cX12_tries, 6, (some .int), [])
theorem sy_X12_partBy : jSY mX12_partBy 2 := ⟨(jw_8_12 3 rfl rfl), (jw_1_0 12 rfl rfl), ⟨lw_n9.1, lw_n9.2, dscr_25⟩, by decide⟩
theorem cv_X12_398_X12_partBy : jSv RX12 398 mX12_partBy 2 := ⟨(jw_8_12 0 rfl rfl), (jw_8_12 2 rfl rfl), (js_7 3 rfl), sy_X12_partBy⟩
abbrev mX12_loosen : jM := (yX12_loosen, cX12_loosen, 8, (some .int), [])
theorem sy_X12_ringsThat : jSY mX12_ringsThat 1 := ⟨(jw_8_12 11 rfl rfl), (jw_1_0 12 rfl rfl), ⟨lw_n9.1, lw_n9.2, dscr_19⟩, by decide⟩
theorem cv_X12_401_X12_ringsThat : jSv RX12 401 mX12_ringsThat 1 := ⟨(jw_8_12 8 rfl rfl), (jw_8_12 10 rfl rfl), (js_7 4 rfl), sy_X12_ringsThat⟩
abbrev mX12_order : jM := (yX12_order, cX12_order, 4, (some .int), [])
theorem fg_X12_49_10 : jFg RX12 49 10 21 := ⟨RX12, TX12, 22, _, rfl, wsX120_tb, by decide, (jw_6_11 0 rfl rfl), Or.inl rfl⟩
abbrev mX12_tight : jM := (yX12_tight, cX12_tight, 6, (some .int), [])
abbrev mX12_slack : jM := (yX12_slack, cX12_slack, 3, (some .int), [])
abbrev mX12_taut : jM := (yX12_taut, cX12_taut, 3, (some .int), [])
abbrev mX12_bunch : jM := (yX12_bunch, cX12_bunch, 4, (some .int), [])
abbrev mX12_litIn : jM := (yX12_litIn, cX12_litIn, 4, (some .int), [])
abbrev mX12_lit : jM := (yX12_lit, cX12_lit, 2, (some .int), [])
theorem sy_X12_litIn : jSY mX12_litIn 1 := ⟨(jw_8_14 7 rfl rfl), (jw_1_0 12 rfl rfl), ⟨lw_n9.1, lw_n9.2, dscr_19⟩, by decide⟩
theorem cv_X12_404_X12_litIn : jSv RX12 404 mX12_litIn 1 := ⟨(jw_8_14 4 rfl rfl), (jw_8_14 6 rfl rfl), (js_7 5 rfl), sy_X12_litIn⟩
abbrev mX12_sunny : jM := (yX12_sunny, cX12_sunny, 6, (some .int), [])
abbrev mX12_lets : jM := (yX12_lets, cX12_lets, 7, (some .int), [])
abbrev mX12_envy : jM := (yX12_envy, cX12_envy, 3, (some .int), [])
abbrev mX12_eachHas : jM := (yX12_eachHas, cX12_eachHas, 4, (some .int), [])
abbrev mX12_rests : jM := (yX12_rests, cX12_rests, 5, (some .int), [])
theorem sy_X12_eachHas : jSY mX12_eachHas 3 := ⟨(jw_9_0 11 rfl rfl), (jw_1_0 12 rfl rfl), ⟨lw_n9.1, lw_n9.2, dscr_13⟩, by decide⟩
theorem cv_X12_407_X12_eachHas : jSv RX12 407 mX12_eachHas 3 := ⟨(jw_9_0 8 rfl rfl), (jw_9_0 10 rfl rfl), (js_7 6 rfl), sy_X12_eachHas⟩
abbrev mX12_wooden : jM := (yX12_wooden, cX12_wooden, 1, (some .int), [])
abbrev mX12_caught : jM := (yX12_caught, cX12_caught, 1, (some .int), [])
abbrev mX12_looseOnes : jM := (yX12_looseOnes, cX12_looseOnes, 1, (some .int), [])
abbrev mX12_loose : jM := (yX12_loose, cX12_loose, 1, (some .int), [])
theorem sy_X12_looseOnes : jSY mX12_looseOnes 0 := ⟨(jw_9_1 11 rfl rfl), (jw_1_0 12 rfl rfl), ⟨lw_n9.1, lw_n9.2, dscr_11⟩, by decide⟩
theorem cv_X12_410_X12_looseOnes : jSv RX12 410 mX12_looseOnes 0 := ⟨(jw_9_1 8 rfl rfl), (jw_9_1 10 rfl rfl), (js_7 7 rfl), sy_X12_looseOnes⟩
abbrev mX12_beyond : jM := (yX12_beyond, cX12_beyond, 3, (some .int), [])
abbrev mX12_odds : jM := (yX12_odds, cX12_odds, 6, (some .int), [])
abbrev mX12_likens : jM := (yX12_likens, cX12_likens, 3, (some .boolean), [])
abbrev mX12_twins : jM := (yX12_twins, cX12_twins, 4, (some .int), [])
theorem sy_X12_likens : jSY mX12_likens 2 := ⟨(jw_9_2 11 rfl rfl), (jw_1_0 12 rfl rfl), ⟨lw_n9.1, lw_n9.2, dscr_10⟩, by decide⟩
theorem cv_X12_413_X12_likens : jSv RX12 413 mX12_likens 2 := ⟨(jw_9_2 8 rfl rfl), (jw_9_2 10 rfl rfl), (js_7 8 rfl), sy_X12_likens⟩
abbrev mX12_trial : jM := (yX12_trial, cX12_trial, 4, (some .int), [])
abbrev mX12_span : jM := (yX12_span, cX12_span, 6, (some .int), [])
abbrev mX12_ofLog : jM := (yX12_ofLog, cX12_ofLog, 3, (some .int), [])
abbrev mX12_led : jM := (yX12_led, cX12_led, 6, (some .int), [])
theorem sy_X12_ofLog : jSY mX12_ofLog 2 := ⟨(jw_9_3 11 rfl rfl), (jw_1_0 12 rfl rfl), ⟨lw_n9.1, lw_n9.2, dscr_6⟩, by decide⟩
theorem cv_X12_416_X12_ofLog : jSv RX12 416 mX12_ofLog 2 := ⟨(jw_9_3 8 rfl rfl), (jw_9_3 10 rfl rfl), (js_7 9 rfl), sy_X12_ofLog⟩
abbrev mX12_log : jM := (yX12_log, cX12_log, 3, (some .int), [])
abbrev mX12_seed : jM := (yX12_seed, cX12_seed, 3, (some .int), [])
abbrev mX12_count : jM := (yX12_count, cX12_count, 2, (some .int), [])
theorem kc_J6_265 : Cond.constant RJ6 265 (1431655765 : Int32) ∈ jall := (jw_2_11 7 rfl rfl)
theorem kc_J6_266 : Cond.constant RJ6 266 (858993459 : Int32) ∈ jall := (jw_2_11 8 rfl rfl)
theorem kc_J6_267 : Cond.constant RJ6 267 (252645135 : Int32) ∈ jall := (jw_2_11 9 rfl rfl)
theorem oi_X4_3 : Cond.methodLink RX4 3 Lib.objectInit ∈ jall ∧ Cond.instanceMethod Lib.objectInit ∈ jall ∧ Cond.code Lib.objectInit ⟨#[0xb1]⟩ 1 none ∈ jall := ⟨(jw_2_1 13 rfl rfl), (jw_1_2 3 rfl rfl), (jw_1_2 4 rfl rfl)⟩
theorem fp_X4_9_7 : jFp RX4 9 7 0 true (.object "RodRings$Tape") := ⟨RX9, TX9, 3, tyX9, rfl, wsX90_tb, tyX9_ok, nmX9, by decide, (jw_2_1 15 rfl rfl), rfl, tyX9_ok 0 (by decide), fun _ => rfl⟩
theorem fp_X4_15_7 : jFp RX4 15 7 1 true .int := ⟨RX9, TX9, 3, tyX9, rfl, wsX90_tb, tyX9_ok, nmX9, by decide, (jw_2_2 4 rfl rfl), rfl, tyX9_ok 1 (by decide), fun _ => rfl⟩
theorem fp_X4_9_3 : jFp RX4 9 3 0 true (.object "RodRings$Tape") := ⟨RX3, TX3, 3, tyX3, rfl, wsX30_tb, tyX3_ok, nmX3, by decide, (jw_2_1 15 rfl rfl), rfl, tyX3_ok 0 (by decide), fun _ => rfl⟩
theorem fp_X4_15_3 : jFp RX4 15 3 1 true .int := ⟨RX3, TX3, 3, tyX3, rfl, wsX30_tb, tyX3_ok, nmX3, by decide, (jw_2_2 4 rfl rfl), rfl, tyX3_ok 1 (by decide), fun _ => rfl⟩
theorem fg_X4_9_7 : jFg RX4 9 7 0 := ⟨RX9, TX9, 3, _, rfl, wsX90_tb, by decide, (jw_2_1 15 rfl rfl), Or.inl rfl⟩
theorem sy_X10_scan : jSY mX10_scan 0 := ⟨(jw_3_13 5 rfl rfl), (jw_1_0 2 rfl rfl), ⟨lw_n4.1, lw_n4.2, dscr_0⟩, by decide⟩
theorem cv_X4_19_X10_scan : jSv RX4 19 mX10_scan 0 := ⟨(jw_3_13 2 rfl rfl), (jw_3_13 3 rfl rfl), (jw_3_13 4 rfl rfl), sy_X10_scan⟩
theorem cv_X4_24_X10_kind : jSv RX4 24 mX10_kind 0 := ⟨(jw_4_2 15 rfl rfl), (jw_4_3 0 rfl rfl), (jw_4_3 1 rfl rfl), sy_X10_kind⟩
theorem fg_X4_15_7 : jFg RX4 15 7 1 := ⟨RX9, TX9, 3, _, rfl, wsX90_tb, by decide, (jw_2_2 4 rfl rfl), Or.inl rfl⟩
theorem sy_X10_start : jSY mX10_start 0 := ⟨(jw_4_8 9 rfl rfl), (jw_1_0 2 rfl rfl), ⟨lw_n4.1, lw_n4.2, dscr_11⟩, by decide⟩
theorem cv_X4_32_X10_start : jSv RX4 32 mX10_start 0 := ⟨(jw_4_8 6 rfl rfl), (jw_4_8 7 rfl rfl), (jw_4_8 8 rfl rfl), sy_X10_start⟩
theorem sy_X9_readLine : jSY mX9_readLine 0 := ⟨(jw_4_6 0 rfl rfl), (jw_1_0 8 rfl rfl), ⟨lw_n6.1, lw_n6.2, dscr_17⟩, by decide⟩
theorem cu_X4_28_RodRings_RodReader_X9_readLine : jSu RX4 28 "RodRings$RodReader" "RodRings$LineReader" ⟨"RodRings$LineReader", "readLine", "()Z"⟩ mX9_readLine 0 := ⟨(jw_4_3 3 rfl rfl), (jw_4_3 5 rfl rfl), (jw_4_5 14 rfl rfl), (jw_4_5 15 rfl rfl), (jn_4_3 4 rfl rfl), by decide +kernel, sy_X9_readLine⟩
theorem cv_X4_35_X10_take : jSv RX4 35 mX10_take 1 := ⟨(jw_4_8 10 rfl rfl), (jw_4_4 7 rfl rfl), (jw_4_4 8 rfl rfl), sy_X10_take⟩
theorem fg_X4_9_3 : jFg RX4 9 3 0 := ⟨RX3, TX3, 3, _, rfl, wsX30_tb, by decide, (jw_2_1 15 rfl rfl), Or.inl rfl⟩
theorem fg_X4_15_3 : jFg RX4 15 3 1 := ⟨RX3, TX3, 3, _, rfl, wsX30_tb, by decide, (jw_2_2 4 rfl rfl), Or.inl rfl⟩
theorem sy_X3_readLine : jSY mX3_readLine 0 := ⟨(jw_4_3 8 rfl rfl), (jw_1_0 9 rfl rfl), ⟨lw_n5.1, lw_n5.2, dscr_17⟩, by decide⟩
theorem cu_X4_28_RodRings_LawReader_X3_readLine : jSu RX4 28 "RodRings$LawReader" "RodRings$LineReader" ⟨"RodRings$LineReader", "readLine", "()Z"⟩ mX3_readLine 0 := ⟨(jw_4_3 3 rfl rfl), (jw_4_3 5 rfl rfl), (jw_4_3 6 rfl rfl), (jw_4_3 7 rfl rfl), (jn_4_3 4 rfl rfl), by decide +kernel, sy_X3_readLine⟩
abbrev mJ0_coder_7d493 : jM := (yJ0_coder_7d493, cJ0_coder_7d493, 1, (some .byte), [])
theorem sy_J0_coder_7d493 : jSY mJ0_coder_7d493 0 := ⟨(jw_3_14 14 rfl rfl), (jw_1_0 14 rfl rfl), ⟨lw_n15.1, lw_n15.2, dscr_43⟩, by decide⟩
theorem cv_J0_335_J0_coder_7d493 : jSv RJ0 335 mJ0_coder_7d493 0 := ⟨(jw_3_14 11 rfl rfl), (jw_3_14 12 rfl rfl), (jw_3_14 13 rfl rfl), sy_J0_coder_7d493⟩
abbrev mJ3_checkIndex_8e157 : jM := (yJ3_checkIndex_8e157, cJ3_checkIndex_8e157, 3, (some .int), [])
theorem sy_J3_checkIndex_8e157 : jSY mJ3_checkIndex_8e157 3 := ⟨(jw_4_1 3 rfl rfl), (jw_1_1 0 rfl rfl), ⟨lw_n17.1, lw_n17.2, dscr_44⟩, by decide⟩
theorem cs_J0_1059_J3_checkIndex_8e157 : jSs RJ0 1059 mJ3_checkIndex_8e157 3 := ⟨(jw_4_1 1 rfl rfl), (jw_4_1 2 rfl rfl), sy_J3_checkIndex_8e157⟩
abbrev mJ0_checkIndex_df160 : jM := (yJ0_checkIndex_df160, cJ0_checkIndex_df160, 2, none, [])
theorem sy_J0_checkIndex_df160 : jSY mJ0_checkIndex_df160 2 := ⟨(jw_4_0 14 rfl rfl), (jw_1_0 14 rfl rfl), ⟨lw_n15.1, lw_n15.2, dscr_16⟩, by decide⟩
theorem cs_J1_9_J0_checkIndex_df160 : jSs RJ1 9 mJ0_checkIndex_df160 2 := ⟨(jw_4_0 12 rfl rfl), (jw_4_0 13 rfl rfl), sy_J0_checkIndex_df160⟩
abbrev mJ0_isLatin1_aae02 : jM := (yJ0_isLatin1_aae02, cJ0_isLatin1_aae02, 1, (some .boolean), [])
theorem sy_J0_isLatin1_aae02 : jSY mJ0_isLatin1_aae02 0 := ⟨(jw_4_0 8 rfl rfl), (jw_1_0 14 rfl rfl), ⟨lw_n15.1, lw_n15.2, dscr_17⟩, by decide⟩
theorem cv_J0_492_J0_isLatin1_aae02 : jSv RJ0 492 mJ0_isLatin1_aae02 0 := ⟨(jw_4_0 5 rfl rfl), (jw_4_0 6 rfl rfl), (jw_4_0 7 rfl rfl), sy_J0_isLatin1_aae02⟩
abbrev mJ1_charAt_3b067 : jM := (yJ1_charAt_3b067, cJ1_charAt_3b067, 2, (some .char), [])
theorem sy_J1_charAt_3b067 : jSY mJ1_charAt_3b067 2 := ⟨(jw_4_0 11 rfl rfl), (jw_1_0 15 rfl rfl), ⟨lw_n18.1, lw_n18.2, dscr_45⟩, by decide⟩
theorem cs_J0_495_J1_charAt_3b067 : jSs RJ0 495 mJ1_charAt_3b067 2 := ⟨(jw_4_0 9 rfl rfl), (jw_4_0 10 rfl rfl), sy_J1_charAt_3b067⟩
end
section
noncomputable def F_X0_init (n : Nat) (a0 : Nat) (h : jH) : Option jH :=
  (jnw h (.inr (.inr (.inl (12, fun _ => none))))).bind fun h7 =>
  (jpf 0 h7 a0 0 (.ref h.1)).bind fun h10 =>
  some h10
noncomputable def F_X5_init (n : Nat) (a0 : Nat) (h : jH) : Option jH :=
  (jnw h (.inr (.inl (0, 60, fun _ => 0)))).bind fun h7 =>
  (jpf 4 h7 a0 0 (.ref h.1)).bind fun h9 =>
  some h9
noncomputable def F_X8_init (n : Nat) (a0 : Nat) (h : jH) : Option jH :=
  (jnw h (.inr (.inl (0, 8, fun _ => 0)))).bind fun h7 =>
  (jpf 6 h7 a0 0 (.ref h.1)).bind fun h9 =>
  (jnw h9 (.inr (.inl (0, 8, fun _ => 0)))).bind fun h15 =>
  (jpf 6 h15 a0 1 (.ref h9.1)).bind fun h17 =>
  (jnw h17 (.inr (.inl (0, 8, fun _ => 0)))).bind fun h23 =>
  (jpf 6 h23 a0 2 (.ref h17.1)).bind fun h25 =>
  (jnw h25 (.inr (.inl (0, 8, fun _ => 0)))).bind fun h31 =>
  (jpf 6 h31 a0 3 (.ref h25.1)).bind fun h33 =>
  (jnw h33 (.inl (4, [.null, .int 0, .int 0]))).bind fun h37 =>
  (F_X5_init n h33.1 h37).bind fun h41 =>
  (jpf 6 h41 a0 4 (.ref h33.1)).bind fun h44 =>
  (jpf 6 h44 a0 11 (.int (16 : Int32))).bind fun h50 =>
  (jpf 6 h50 a0 12 (.int (8 : Int32))).bind fun h56 =>
  (jpf 6 h56 a0 16 (.int (1 : Int32))).bind fun h61 =>
  some h61
noncomputable def F_X5_copyFrom (n : Nat) (a0 : Nat) (a1 : Nat) (h : jH) : Option jH :=
  (jgR 4 h a1 0).bind fun p1 =>
  (jgR 4 h a0 0).bind fun p6 =>
  (jcp h p1 (0 : Int32) p6 (0 : Int32) (60 : Int32)).bind fun h12 =>
  (jgI 4 h12 a1 1).bind fun v17 =>
  (jpf 4 h12 a0 1 (.int v17)).bind fun h20 =>
  (jgI 4 h20 a1 2).bind fun v25 =>
  (jpf 4 h20 a0 2 (.int v25)).bind fun h28 =>
  some h28
noncomputable def F_X8_hangAs (n : Nat) (a0 : Nat) (a1 : Nat) (h : jH) : Option jH :=
  (jgR 6 h a1 0).bind fun p1 =>
  (jgR 6 h a0 0).bind fun p6 =>
  (jcp h p1 (0 : Int32) p6 (0 : Int32) (8 : Int32)).bind fun h12 =>
  (jgI 6 h12 a1 15).bind fun v17 =>
  (jpf 6 h12 a0 15 (.int v17)).bind fun h20 =>
  (jgI 6 h20 a1 9).bind fun v25 =>
  (jpf 6 h20 a0 9 (.int v25)).bind fun h28 =>
  some h28
noncomputable def F_X8_copyFrom (n : Nat) (a0 : Nat) (a1 : Nat) (h : jH) : Option jH :=
  (jgR 6 h a1 1).bind fun p1 =>
  (jgR 6 h a0 1).bind fun p6 =>
  (jcp h p1 (0 : Int32) p6 (0 : Int32) (8 : Int32)).bind fun h12 =>
  (jgR 6 h12 a1 2).bind fun p16 =>
  (jgR 6 h12 a0 2).bind fun p21 =>
  (jcp h12 p16 (0 : Int32) p21 (0 : Int32) (8 : Int32)).bind fun h27 =>
  (jgR 6 h27 a1 3).bind fun p31 =>
  (jgR 6 h27 a0 3).bind fun p36 =>
  (jcp h27 p31 (0 : Int32) p36 (0 : Int32) (8 : Int32)).bind fun h42 =>
  (jgR 6 h42 a0 4).bind fun p46 =>
  (jgR 6 h42 a1 4).bind fun p50 =>
  (jcv 4 h42 p46 (F_X5_copyFrom n p46 p50 h42)).bind fun h53 =>
  (jgI 6 h53 a1 5).bind fun v58 =>
  (jpf 6 h53 a0 5 (.int v58)).bind fun h61 =>
  (jgI 6 h61 a1 6).bind fun v66 =>
  (jpf 6 h61 a0 6 (.int v66)).bind fun h69 =>
  (jgI 6 h69 a1 7).bind fun v74 =>
  (jpf 6 h69 a0 7 (.int v74)).bind fun h77 =>
  (jgI 6 h77 a1 8).bind fun v82 =>
  (jpf 6 h77 a0 8 (.int v82)).bind fun h85 =>
  (jgI 6 h85 a1 10).bind fun v90 =>
  (jpf 6 h85 a0 10 (.int v90)).bind fun h93 =>
  (jgI 6 h93 a1 11).bind fun v98 =>
  (jpf 6 h93 a0 11 (.int v98)).bind fun h101 =>
  (jgI 6 h101 a1 12).bind fun v106 =>
  (jpf 6 h101 a0 12 (.int v106)).bind fun h109 =>
  (jgI 6 h109 a1 13).bind fun v114 =>
  (jpf 6 h109 a0 13 (.int v114)).bind fun h117 =>
  (jgI 6 h117 a1 14).bind fun v122 =>
  (jpf 6 h117 a0 14 (.int v122)).bind fun h125 =>
  (jgI 6 h125 a1 16).bind fun v130 =>
  (jpf 6 h125 a0 16 (.int v130)).bind fun h133 =>
  (jgI 6 h133 a1 17).bind fun v138 =>
  (jpf 6 h133 a0 17 (.int v138)).bind fun h141 =>
  (jcv 6 h141 a0 (F_X8_hangAs n a0 a1 h141)).bind fun h146 =>
  some h146
noncomputable def F_X0_remember_63 (n : Nat) (a0 : Nat) (sa0 : Nat) (s1 : Int32) (h : jH) : Option jH :=
  (jpf 0 h sa0 1 (.int s1)).bind fun h63 =>
  (jgI 0 h63 a0 2).bind fun v70 =>
  (jpf 0 h63 a0 2 (.int (if (v70 + (1 : Int32)) < (12 : Int32) then v70 + (1 : Int32) else (12 : Int32)))).bind fun h78 =>
  some h78
noncomputable def F_X0_remember_28 (n : Nat) (a0 : Nat) (a1 : Nat) (h : jH) : Option jH :=
  (jgR 0 h a0 0).bind fun p29 =>
  (jgI 0 h a0 1).bind fun v33 =>
  (jalq h p29 v33).bind fun o36 =>
  match o36 with
  | none => none
  | some p38 =>
  ((jcv 6 h p38 (F_X8_copyFrom n p38 a1 h)).bind fun h38 =>
  (jgI 0 h38 a0 1).bind fun v43 =>
  if (12 : Int32) ≤ (v43 + (1 : Int32)) then (F_X0_remember_63 n a0 a0 (0 : Int32) h38)
  else ((jgI 0 h38 a0 1).bind fun v54 =>
  F_X0_remember_63 n a0 a0 (v54 + (1 : Int32)) h38))
noncomputable def F_X0_remember (n : Nat) (a0 : Nat) (a1 : Nat) (h : jH) : Option jH :=
  (jgR 0 h a0 0).bind fun p1 =>
  (jgI 0 h a0 1).bind fun v5 =>
  (jalq h p1 v5).bind fun o8 =>
  match o8 with
  | none => ((jgR 0 h a0 0).bind fun p13 =>
  (jgI 0 h a0 1).bind fun v17 =>
  (jnw h (.inl (6, [.null, .null, .null, .null, .null, .int 0, .int 0, .int 0, .int 0, .int 0, .int 0, .int 0, .int 0, .int 0, .int 0, .int 0, .int 0, .int 0]))).bind fun h20 =>
  (F_X8_init n h.1 h20).bind fun h24 =>
  (jasq 6 h24 p13 v17 h.1).bind fun h27 =>
  F_X0_remember_28 n a0 a1 h27)
  | some p9 => (F_X0_remember_28 n a0 a1 h)
noncomputable def F_X0_takeBack_18 (n : Nat) (a0 : Nat) (a1 : Nat) (s0 : Int32) (h : jH) : Option (Int32 × jH) :=
  (jgI 0 h a0 2).bind fun v20 =>
  if v20 = 0 then (some ((0 : Int32), h))
  else ((jgR 0 h a0 0).bind fun p27 =>
  (jalq h p27 s0).bind fun o31 =>
  match o31 with
  | none => (some ((0 : Int32), h))
  | some p32 => ((jgR 0 h a0 0).bind fun p39 =>
  (jalq h p39 s0).bind fun o43 =>
  match o43 with
  | none => none
  | some p44_0 =>
  ((jcv 6 h a1 (F_X8_copyFrom n a1 p44_0 h)).bind fun h44 =>
  (jpf 0 h44 a0 1 (.int s0)).bind fun h49 =>
  (jgI 0 h49 a0 2).bind fun v54 =>
  (jpf 0 h49 a0 2 (.int (v54 - (1 : Int32)))).bind fun h59 =>
  some ((1 : Int32), h59))))
noncomputable def F_X0_takeBack (n : Nat) (a0 : Nat) (a1 : Nat) (h : jH) : Option (Int32 × jH) :=
  (jgI 0 h a0 1).bind fun v1 =>
  if v1 ≤ 0 then (F_X0_takeBack_18 n a0 a1 (11 : Int32) h)
  else ((jgI 0 h a0 1).bind fun v8 =>
  F_X0_takeBack_18 n a0 a1 (v8 - (1 : Int32)) h)
noncomputable def F_X0_forget (n : Nat) (a0 : Nat) (h : jH) : Option jH :=
  (jpf 0 h a0 2 (.int (0 : Int32))).bind fun h2 =>
  some h2
noncomputable def F_X1_init (n : Nat) (a0 : Nat) (a1 : Nat) (a2 : Nat) (h : jH) : Option jH :=
  (jpf 1 h a0 0 (.ref a1)).bind fun h6 =>
  (jpf 1 h6 a0 1 (.ref a2)).bind fun h11 =>
  some h11
noncomputable def F_X8_isLit (n : Nat) (a0 : Nat) (x1 : Int32) (x2 : Int32) (h : jH) : Option Int32 :=
  (jgR 6 h a0 0).bind fun p1 =>
  (jal 0 h p1 x1).bind fun v5 =>
  if v5 < ((4 : Int32) * x2) then (some (0 : Int32))
  else ((jgR 6 h a0 0).bind fun p13 =>
  (jal 0 h p13 x1).bind fun v17 =>
  (jgI 6 h a0 12).bind fun v22 =>
  if (((4 : Int32) * x2) + v22) < v17 then (some (0 : Int32))
  else (some (1 : Int32)))
noncomputable def F_X2_untoldAmount (n : Nat) (x0 : Int32) (a1 : Nat) (x2 : Int32) (h : jH) : Option Int32 :=
  if x0 = 0 then ((jgI 6 h a1 13).bind fun v7 =>
  (jcv 6 h a1 (F_X8_isLit n a1 x2 v7 h)).bind fun v10 =>
  if v10 = 0 then (some (0 : Int32))
  else (some (1 : Int32)))
  else (if x0 = (1 : Int32) then (some (10 : Int32))
  else (some (0 : Int32)))
noncomputable def F_X2_isValue (n : Nat) (x0 : Int32) (h : jH) : Option Int32 :=
  if (256 : Int32) ≤ x0 then (some (1 : Int32))
  else (if (10 : Int32) < x0 then (some (0 : Int32))
  else (some (1 : Int32)))
noncomputable def F_X8_gap (n : Nat) (a0 : Nat) (x1 : Int32) (x2 : Int32) (h : jH) : Option Int32 :=
  if x1 < 0 then (some x2)
  else ((jgI 6 h a0 5).bind fun v6 =>
  if x1 < (v6 - (1 : Int32)) then ((jgR 6 h a0 0).bind fun p19 =>
  (jal 0 h p19 (x1 + (1 : Int32))).bind fun v25 =>
  (jgR 6 h a0 0).bind fun p27 =>
  (jal 0 h p27 x1).bind fun v31 =>
  some (v25 - v31))
  else (some x2))
noncomputable def F_X11_bit (n : Nat) (x0 : Int32) (x1 : Int32) (h : jH) : Option Int32 :=
  some ((jushr x0 x1) &&& (1 : Int32))
noncomputable def F_X2_value (n : Nat) (x0 : Int32) (a1 : Nat) (x2 : Int32) (h : jH) : Option Int32 :=
  if x0 = (0 : Int32) then (some x2)
  else if x0 = (1 : Int32) then ((jgR 6 h a1 0).bind fun p63 =>
  (jal 0 h p63 x2).bind fun v67 =>
  some v67)
  else if x0 = (2 : Int32) then ((jcv 6 h a1 (F_X8_gap n a1 x2 (99 : Int32) h)).bind fun v73 =>
  some v73)
  else if x0 = (3 : Int32) then ((jgR 6 h a1 2).bind fun p78 =>
  (jal 0 h p78 x2).bind fun v82 =>
  some v82)
  else if x0 = (4 : Int32) then ((jgR 6 h a1 3).bind fun p85 =>
  (jal 0 h p85 x2).bind fun v89 =>
  some v89)
  else if x0 = (5 : Int32) then ((jgI 6 h a1 13).bind fun v92 =>
  some v92)
  else if x0 = (6 : Int32) then ((jgI 6 h a1 14).bind fun v97 =>
  some v97)
  else if x0 = (7 : Int32) then ((jgI 6 h a1 7).bind fun v102 =>
  (F_X11_bit n v102 x2 h).bind fun v106 =>
  some v106)
  else if x0 = (8 : Int32) then ((jgI 6 h a1 6).bind fun v111 =>
  (F_X11_bit n v111 x2 h).bind fun v115 =>
  some v115)
  else if x0 = (9 : Int32) then ((jgI 6 h a1 13).bind fun v122 =>
  (jcv 6 h a1 (F_X8_isLit n a1 x2 v122 h)).bind fun v125 =>
  if v125 = 0 then (some (0 : Int32))
  else (some (1 : Int32)))
  else if x0 = (10 : Int32) then ((jgI 6 h a1 8).bind fun v138 =>
  (F_X11_bit n v138 x2 h).bind fun v142 =>
  some v142)
  else (some (x0 - (256 : Int32)))
noncomputable def F_X2_push (n : Nat) (a0 : Nat) (x1 : Int32) (h : jH) : Option jH :=
  (jgI 2 h a0 5).bind fun v1 =>
  if (24 : Int32) ≤ v1 then (some h)
  else ((jgR 2 h a0 4).bind fun p10 =>
  (jgI 2 h a0 5).bind fun v14 =>
  (jas 0 h p10 v14 x1).bind fun h18 =>
  (jgI 2 h18 a0 5).bind fun v21 =>
  (jpf 2 h18 a0 5 (.int (v21 + (1 : Int32)))).bind fun h26 =>
  some h26)
noncomputable def F_X2_pop (n : Nat) (a0 : Nat) (h : jH) : Option (Int32 × jH) :=
  (jgI 2 h a0 5).bind fun v1 =>
  if 0 < v1 then ((jgI 2 h a0 5).bind fun v11 =>
  (jpf 2 h a0 5 (.int (v11 - (1 : Int32)))).bind fun h16 =>
  (jgR 2 h16 a0 4).bind fun p20 =>
  (jgI 2 h16 a0 5).bind fun v24 =>
  (jal 0 h16 p20 v24).bind fun v27 =>
  some (v27, h16))
  else (some ((0 : Int32), h))
noncomputable def F_X2_joined (n : Nat) (x0 : Int32) (x1 : Int32) (x2 : Int32) (h : jH) : Option Int32 :=
  if x0 = (12 : Int32) then (some (x1 &&& x2))
  else if x0 = (43 : Int32) then (some (x1 + x2))
  else if x0 = (60 : Int32) then (if x2 ≤ x1 then (some (0 : Int32))
  else (some (1 : Int32)))
  else if x0 = (62 : Int32) then (if x1 ≤ x2 then (some (0 : Int32))
  else (some (1 : Int32)))
  else (some (x1 ||| x2))
noncomputable def F_X2_holds_23_b (n : Nat) (rc23 : Nat → Int32 → Nat → Int32 → Int32 → jH → Option (Int32 × jH)) (a0 : Nat) (x1 : Int32) (a2 : Nat) (x3 : Int32) (x4 : Int32) (h : jH) : Option (Int32 × jH) :=
  (jgR 2 h a0 2).bind fun p26 =>
  (jal 0 h p26 x1).bind fun v30 =>
  if v30 ≤ x4 then ((jgI 2 h a0 5).bind fun v113 =>
  if v113 = 0 then (some ((1 : Int32), h))
  else ((jcv 2 h a0 (F_X2_pop n a0 h)).bind fun q120 =>
  if q120.1 = 0 then (some ((0 : Int32), q120.2))
  else (some ((1 : Int32), q120.2))))
  else ((jgR 2 h a0 3).bind fun p35 =>
  (jal 0 h p35 x4).bind fun v40 =>
  (F_X2_isValue n v40 h).bind fun v45 =>
  if v45 = 0 then (if v40 = (11 : Int32) then ((jcv 2 h a0 (F_X2_pop n a0 h)).bind fun q75 =>
  (jcv 2 q75.2 a0 (F_X2_push n a0 ((1 : Int32) - q75.1) q75.2)).bind fun h79 =>
  rc23 a0 x1 a2 x3 (x4 + (1 : Int32)) h79)
  else ((jcv 2 h a0 (F_X2_pop n a0 h)).bind fun q86 =>
  (jcv 2 q86.2 a0 (F_X2_pop n a0 q86.2)).bind fun q95 =>
  (F_X2_joined n v40 q95.1 q86.1 q95.2).bind fun v100 =>
  (jcv 2 q95.2 a0 (F_X2_push n a0 v100 q95.2)).bind fun h103 =>
  rc23 a0 x1 a2 x3 (x4 + (1 : Int32)) h103))
  else ((F_X2_value n v40 a2 x3 h).bind fun v56 =>
  (jcv 2 h a0 (F_X2_push n a0 v56 h)).bind fun h59 =>
  rc23 a0 x1 a2 x3 (x4 + (1 : Int32)) h59))
noncomputable def F_X2_holds_23 (n : Nat) : Nat → Nat → Int32 → Nat → Int32 → Int32 → jH → Option (Int32 × jH)
  | 0 => fun _ _ _ _ _ _ => none
  | k + 1 => F_X2_holds_23_b n (F_X2_holds_23 n k)
noncomputable def F_X2_holds (n : Nat) (a0 : Nat) (x1 : Int32) (a2 : Nat) (x3 : Int32) (h : jH) : Option (Int32 × jH) :=
  (jpf 2 h a0 5 (.int (0 : Int32))).bind fun h2 =>
  if x1 = 0 then (F_X2_holds_23 n n a0 x1 a2 x3 (0 : Int32) h2)
  else ((jgR 2 h2 a0 2).bind fun p14 =>
  (jal 0 h2 p14 (x1 - (1 : Int32))).bind fun v20 =>
  F_X2_holds_23 n n a0 x1 a2 x3 v20 h2)
noncomputable def F_X2_amount_20_b (n : Nat) (rc20 : Nat → Int32 → Nat → Int32 → Int32 → Int32 → jH → Option (Int32 × jH)) (a0 : Nat) (x1 : Int32) (a2 : Nat) (x3 : Int32) (x4 : Int32) (x5 : Int32) (h : jH) : Option (Int32 × jH) :=
  (jgI 2 h a0 8).bind fun v23 =>
  if v23 ≤ x5 then (some (x4, h))
  else ((jgR 2 h a0 0).bind fun p30 =>
  (jal 0 h p30 x5).bind fun v35 =>
  if v35 = x1 then ((jcv 2 h a0 (F_X2_holds n a0 x5 a2 x3 h)).bind fun q45 =>
  if q45.1 = 0 then (rc20 a0 x1 a2 x3 x4 (x5 + (1 : Int32)) q45.2)
  else ((jgR 2 q45.2 a0 1).bind fun p54 =>
  (jal 0 q45.2 p54 x5).bind fun v59 =>
  rc20 a0 x1 a2 x3 (x4 + v59) (x5 + (1 : Int32)) q45.2))
  else (rc20 a0 x1 a2 x3 x4 (x5 + (1 : Int32)) h))
noncomputable def F_X2_amount_20 (n : Nat) : Nat → Nat → Int32 → Nat → Int32 → Int32 → Int32 → jH → Option (Int32 × jH)
  | 0 => fun _ _ _ _ _ _ _ => none
  | k + 1 => F_X2_amount_20_b n (F_X2_amount_20 n k)
noncomputable def F_X2_amount (n : Nat) (a0 : Nat) (x1 : Int32) (a2 : Nat) (x3 : Int32) (h : jH) : Option (Int32 × jH) :=
  (jgI 2 h a0 7).bind fun v1 =>
  if v1 = 0 then ((F_X2_untoldAmount n x1 a2 x3 h).bind fun v10 =>
  some (v10, h))
  else (F_X2_amount_20 n n a0 x1 a2 x3 (0 : Int32) (0 : Int32) h)
noncomputable def F_X1_fadeAll_2_b (n : Nat) (rc2 : Nat → Nat → Int32 → jH → Option jH) (a0 : Nat) (a1 : Nat) (x2 : Int32) (h : jH) : Option jH :=
  (jgI 6 h a1 5).bind fun v4 =>
  if v4 ≤ x2 then (some h)
  else ((jgR 6 h a1 2).bind fun p11 =>
  (jgR 6 h a1 2).bind fun p18 =>
  (jal 0 h p18 x2).bind fun v22 =>
  (jgR 1 h a0 0).bind fun p24 =>
  (jcv 2 h p24 (F_X2_amount n p24 (0 : Int32) a1 x2 h)).bind fun q30 =>
  (jas 0 q30.2 p11 x2 (if (v22 + q30.1) < (99 : Int32) then v22 + q30.1 else (99 : Int32))).bind fun h37 =>
  rc2 a0 a1 (x2 + (1 : Int32)) h37)
noncomputable def F_X1_fadeAll_2 (n : Nat) : Nat → Nat → Nat → Int32 → jH → Option jH
  | 0 => fun _ _ _ _ => none
  | k + 1 => F_X1_fadeAll_2_b n (F_X1_fadeAll_2 n k)
noncomputable def F_X1_fadeAll (n : Nat) (a0 : Nat) (a1 : Nat) (h : jH) : Option jH :=
  F_X1_fadeAll_2 n n a0 a1 (0 : Int32) h
noncomputable def F_X1_draw (n : Nat) (a0 : Nat) (h : jH) : Option (Int32 × jH) :=
  (jgI 6 h a0 16).bind fun v4 =>
  (jpf 6 h a0 16 (.int (((1103515245 : Int32) * v4) + (12345 : Int32)))).bind fun h12 =>
  (jgI 6 h12 a0 16).bind fun v16 =>
  some (((jushr v16 (16 : Int32)) &&& (32767 : Int32)) - ((jushr v16 (16 : Int32)) &&& (32767 : Int32)) / (100 : Int32) * (100 : Int32), h12)
noncomputable def F_X11_withBit (n : Nat) (x0 : Int32) (x1 : Int32) (x2 : Int32) (h : jH) : Option Int32 :=
  if x2 = 0 then (some (x0 &&& (((1 : Int32) <<< (x1 &&& 31)) ^^^ (-1 : Int32))))
  else (some (x0 ||| ((1 : Int32) <<< (x1 &&& 31))))
noncomputable def F_X5_add_90 (n : Nat) (a0 : Nat) (sa0 : Nat) (s1 : Int32) (h : jH) : Option jH :=
  (jpf 4 h sa0 2 (.int s1)).bind fun h90 =>
  (jgI 4 h90 a0 1).bind fun v97 =>
  (jpf 4 h90 a0 1 (.int (if (v97 + (1 : Int32)) < (60 : Int32) then v97 + (1 : Int32) else (60 : Int32)))).bind fun h105 =>
  some h105
noncomputable def F_X5_add (n : Nat) (a0 : Nat) (a1 : Nat) (x2 : Int32) (x3 : Int32) (x4 : Int32) (h : jH) : Option jH :=
  (jgR 4 h a0 0).bind fun p1 =>
  (jgI 4 h a0 2).bind fun v5 =>
  (jgI 6 h a1 14).bind fun v9 =>
  (jgI 6 h a1 13).bind fun v19 =>
  (jgR 6 h a1 0).bind fun p55 =>
  (jal 0 h p55 x2).bind fun v59 =>
  (jas 0 h p1 v5 ((((((v9 <<< ((18 : Int32) &&& 31)) ||| (v19 <<< ((15 : Int32) &&& 31))) ||| (x2 <<< ((12 : Int32) &&& 31))) ||| (x3 <<< ((10 : Int32) &&& 31))) ||| (x4 <<< ((5 : Int32) &&& 31))) ||| (v59 <<< ((0 : Int32) &&& 31)))).bind fun h67 =>
  (jgI 4 h67 a0 2).bind fun v70 =>
  if (60 : Int32) ≤ (v70 + (1 : Int32)) then (F_X5_add_90 n a0 a0 (0 : Int32) h67)
  else ((jgI 4 h67 a0 2).bind fun v81 =>
  F_X5_add_90 n a0 a0 (v81 + (1 : Int32)) h67)
noncomputable def F_X1_catchSome_4_b (n : Nat) (rc4 : Nat → Nat → Int32 → Int32 → jH → Option (Int32 × jH)) (a0 : Nat) (a1 : Nat) (x2 : Int32) (x3 : Int32) (h : jH) : Option (Int32 × jH) :=
  (jgI 6 h a1 5).bind fun v6 =>
  if v6 ≤ x3 then (some (x2, h))
  else ((jcv 6 h a1 (F_X8_gap n a1 x3 (-1 : Int32) h)).bind fun v15 =>
  if v15 = (1 : Int32) then ((jgI 6 h a1 9).bind fun v23 =>
  (F_X11_bit n v23 x3 h).bind fun v27 =>
  if v27 = 0 then ((F_X1_draw n a1 h).bind fun q34 =>
  (jgR 1 q34.2 a0 0).bind fun p38 =>
  (jcv 2 q34.2 p38 (F_X2_amount n p38 (1 : Int32) a1 x3 q34.2)).bind fun q44 =>
  if q44.1 ≤ q34.1 then (rc4 a0 a1 x2 (x3 + (1 : Int32)) q44.2)
  else ((jgI 6 q44.2 a1 9).bind fun v52 =>
  (F_X11_withBit n v52 x3 (1 : Int32) q44.2).bind fun v57 =>
  (jpf 6 q44.2 a1 9 (.int v57)).bind fun h60 =>
  (jgR 6 h60 a1 4).bind fun p64 =>
  (jcv 4 h60 p64 (F_X5_add n p64 a1 x3 (1 : Int32) (0 : Int32) h60)).bind fun h71 =>
  rc4 a0 a1 (x2 + (1 : Int32)) (x3 + (1 : Int32)) h71))
  else (rc4 a0 a1 x2 (x3 + (1 : Int32)) h))
  else (rc4 a0 a1 x2 (x3 + (1 : Int32)) h))
noncomputable def F_X1_catchSome_4 (n : Nat) : Nat → Nat → Nat → Int32 → Int32 → jH → Option (Int32 × jH)
  | 0 => fun _ _ _ _ _ => none
  | k + 1 => F_X1_catchSome_4_b n (F_X1_catchSome_4 n k)
noncomputable def F_X1_catchSome (n : Nat) (a0 : Nat) (a1 : Nat) (h : jH) : Option (Int32 × jH) :=
  F_X1_catchSome_4 n n a0 a1 (0 : Int32) (0 : Int32) h
noncomputable def F_X1_dropSome_4_b (n : Nat) (rc4 : Nat → Nat → Int32 → Int32 → jH → Option (Int32 × jH)) (a0 : Nat) (a1 : Nat) (x2 : Int32) (x3 : Int32) (h : jH) : Option (Int32 × jH) :=
  (jgI 6 h a1 5).bind fun v6 =>
  if v6 ≤ x3 then (some (x2, h))
  else ((jgI 6 h a1 8).bind fun v13 =>
  (F_X11_bit n v13 x3 h).bind fun v17 =>
  if v17 = (1 : Int32) then ((F_X1_draw n a1 h).bind fun q25 =>
  (jgR 1 q25.2 a0 0).bind fun p29 =>
  (jcv 2 q25.2 p29 (F_X2_amount n p29 (2 : Int32) a1 x3 q25.2)).bind fun q35 =>
  if q35.1 ≤ q25.1 then (rc4 a0 a1 x2 (x3 + (1 : Int32)) q35.2)
  else ((jgI 6 q35.2 a1 8).bind fun v43 =>
  (F_X11_withBit n v43 x3 (0 : Int32) q35.2).bind fun v48 =>
  (jpf 6 q35.2 a1 8 (.int v48)).bind fun h51 =>
  (jgR 6 h51 a1 4).bind fun p55 =>
  (jcv 4 h51 p55 (F_X5_add n p55 a1 x3 (2 : Int32) (0 : Int32) h51)).bind fun h62 =>
  rc4 a0 a1 (x2 + (1 : Int32)) (x3 + (1 : Int32)) h62))
  else (rc4 a0 a1 x2 (x3 + (1 : Int32)) h))
noncomputable def F_X1_dropSome_4 (n : Nat) : Nat → Nat → Nat → Int32 → Int32 → jH → Option (Int32 × jH)
  | 0 => fun _ _ _ _ _ => none
  | k + 1 => F_X1_dropSome_4_b n (F_X1_dropSome_4 n k)
noncomputable def F_X1_dropSome (n : Nat) (a0 : Nat) (a1 : Nat) (h : jH) : Option (Int32 × jH) :=
  F_X1_dropSome_4 n n a0 a1 (0 : Int32) (0 : Int32) h
noncomputable def F_X1_turn (n : Nat) (a0 : Nat) (h : jH) : Option jH :=
  (jgI 6 h a0 13).bind fun v2 =>
  (jpf 6 h a0 13 (.int (v2 + (1 : Int32)))).bind fun h7 =>
  (jgI 6 h7 a0 13).bind fun v11 =>
  if v11 < (8 : Int32) then (some h7)
  else ((jpf 6 h7 a0 13 (.int (0 : Int32))).bind fun h21 =>
  (jgI 6 h21 a0 14).bind fun v29 =>
  (jpf 6 h21 a0 14 (.int (if (v29 + (1 : Int32)) < (9999 : Int32) then v29 + (1 : Int32) else (9999 : Int32)))).bind fun h37 =>
  some h37)
noncomputable def F_X1_run_5_b (n : Nat) (rc5 : Nat → Nat → Int32 → Int32 → Int32 → jH → Option (Int32 × jH)) (a0 : Nat) (a1 : Nat) (x2 : Int32) (x3 : Int32) (x4 : Int32) (h : jH) : Option (Int32 × jH) :=
  if x2 ≤ x4 then (some (x3, h))
  else ((jcv 1 h a0 (F_X1_fadeAll n a0 a1 h)).bind fun h13 =>
  (jcv 1 h13 a0 (F_X1_catchSome n a0 a1 h13)).bind fun q19 =>
  (jcv 1 q19.2 a0 (F_X1_dropSome n a0 a1 q19.2)).bind fun q24 =>
  (F_X1_turn n a1 q24.2).bind fun h31 =>
  rc5 a0 a1 x2 (x3 + (q19.1 + q24.1)) (x4 + (1 : Int32)) h31)
noncomputable def F_X1_run_5 (n : Nat) : Nat → Nat → Nat → Int32 → Int32 → Int32 → jH → Option (Int32 × jH)
  | 0 => fun _ _ _ _ _ _ => none
  | k + 1 => F_X1_run_5_b n (F_X1_run_5 n k)
noncomputable def F_X1_run (n : Nat) (a0 : Nat) (a1 : Nat) (x2 : Int32) (h : jH) : Option (Int32 × jH) :=
  F_X1_run_5 n n a0 a1 x2 (0 : Int32) (0 : Int32) h
noncomputable def F_X1_tryHours (n : Nat) (a0 : Nat) (a1 : Nat) (x2 : Int32) (x3 : Int32) (h : jH) : Option jH :=
  (jgR 1 h a0 1).bind fun p1 =>
  (jcv 6 h p1 (F_X8_copyFrom n p1 a1 h)).bind fun h5 =>
  (jgR 1 h5 a0 1).bind fun p9 =>
  (jpf 6 h5 p9 16 (.int x3)).bind fun h13 =>
  (jgR 1 h13 a0 1).bind fun p18 =>
  (jcv 1 h13 a0 (F_X1_run n a0 p18 x2 h13)).bind fun q22 =>
  some q22.2
noncomputable def F_X1_goAhead_10_b (n : Nat) (rc10 : Nat → Int32 → Int32 → jH → Option jH) (a0 : Nat) (x2 : Int32) (x3 : Int32) (h : jH) : Option jH :=
  if x2 ≤ x3 then (some h)
  else ((jgR 1 h a0 1).bind fun p17 =>
  (jcv 1 h a0 (F_X1_fadeAll n a0 p17 h)).bind fun h20 =>
  (jgR 1 h20 a0 1).bind fun p24 =>
  (F_X1_turn n p24 h20).bind fun h27 =>
  rc10 a0 x2 (x3 + (1 : Int32)) h27)
noncomputable def F_X1_goAhead_10 (n : Nat) : Nat → Nat → Int32 → Int32 → jH → Option jH
  | 0 => fun _ _ _ _ => none
  | k + 1 => F_X1_goAhead_10_b n (F_X1_goAhead_10 n k)
noncomputable def F_X1_goAhead (n : Nat) (a0 : Nat) (a1 : Nat) (x2 : Int32) (h : jH) : Option jH :=
  (jgR 1 h a0 1).bind fun p1 =>
  (jcv 6 h p1 (F_X8_copyFrom n p1 a1 h)).bind fun h5 =>
  F_X1_goAhead_10 n n a0 x2 (0 : Int32) h5
noncomputable def F_X1_isSomePale_2_b (n : Nat) (rc2 : Nat → Int32 → jH → Option Int32) (a0 : Nat) (x1 : Int32) (h : jH) : Option Int32 :=
  (jgI 6 h a0 5).bind fun v4 =>
  if v4 ≤ x1 then (some (0 : Int32))
  else ((jgR 6 h a0 2).bind fun p11 =>
  (jal 0 h p11 x1).bind fun v15 =>
  if v15 = (99 : Int32) then (some (1 : Int32))
  else (rc2 a0 (x1 + (1 : Int32)) h))
noncomputable def F_X1_isSomePale_2 (n : Nat) : Nat → Nat → Int32 → jH → Option Int32
  | 0 => fun _ _ _ => none
  | k + 1 => F_X1_isSomePale_2_b n (F_X1_isSomePale_2 n k)
noncomputable def F_X1_isSomePale (n : Nat) (a0 : Nat) (h : jH) : Option Int32 :=
  F_X1_isSomePale_2 n n a0 (0 : Int32) h
noncomputable def F_X1_firstPale_10_b (n : Nat) (rc10 : Nat → Int32 → jH → Option (Int32 × jH)) (a0 : Nat) (x2 : Int32) (h : jH) : Option (Int32 × jH) :=
  if (80 : Int32) < x2 then (some ((-1 : Int32), h))
  else ((jgR 1 h a0 1).bind fun p17 =>
  (F_X1_isSomePale n p17 h).bind fun v20 =>
  if v20 = 0 then ((jgR 1 h a0 1).bind fun p30 =>
  (jcv 1 h a0 (F_X1_fadeAll n a0 p30 h)).bind fun h33 =>
  (jgR 1 h33 a0 1).bind fun p37 =>
  (F_X1_turn n p37 h33).bind fun h40 =>
  rc10 a0 (x2 + (1 : Int32)) h40)
  else (some (x2, h)))
noncomputable def F_X1_firstPale_10 (n : Nat) : Nat → Nat → Int32 → jH → Option (Int32 × jH)
  | 0 => fun _ _ _ => none
  | k + 1 => F_X1_firstPale_10_b n (F_X1_firstPale_10 n k)
noncomputable def F_X1_firstPale (n : Nat) (a0 : Nat) (a1 : Nat) (h : jH) : Option (Int32 × jH) :=
  (jgR 1 h a0 1).bind fun p1 =>
  (jcv 6 h p1 (F_X8_copyFrom n p1 a1 h)).bind fun h5 =>
  F_X1_firstPale_10 n n a0 (0 : Int32) h5
noncomputable def F_X1_oddsToStay_25_b (n : Nat) (rc25 : Int32 → Int32 → Int32 → Int32 → jH → Option (Int32 × jH)) (x3 : Int32) (x4 : Int32) (x5 : Int32) (x6 : Int32) (h : jH) : Option (Int32 × jH) :=
  if x3 ≤ x6 then (some (x5, h))
  else (rc25 x3 x4 ((x5 * ((100 : Int32) - x4)) / (100 : Int32)) (x6 + (1 : Int32)) h)
noncomputable def F_X1_oddsToStay_25 (n : Nat) : Nat → Int32 → Int32 → Int32 → Int32 → jH → Option (Int32 × jH)
  | 0 => fun _ _ _ _ _ => none
  | k + 1 => F_X1_oddsToStay_25_b n (F_X1_oddsToStay_25 n k)
noncomputable def F_X1_oddsToStay (n : Nat) (a0 : Nat) (a1 : Nat) (x2 : Int32) (x3 : Int32) (h : jH) : Option (Int32 × jH) :=
  (jgR 1 h a0 0).bind fun p3 =>
  (jcv 2 h p3 (F_X2_amount n p3 (2 : Int32) a1 x2 h)).bind fun q9 =>
  F_X1_oddsToStay_25 n n x3 (if q9.1 < (100 : Int32) then q9.1 else (100 : Int32)) (10000 : Int32) (0 : Int32) q9.2
noncomputable def F_X2_init (n : Nat) (a0 : Nat) (h : jH) : Option jH :=
  (jnw h (.inr (.inl (0, 12, fun _ => 0)))).bind fun h7 =>
  (jpf 2 h7 a0 0 (.ref h.1)).bind fun h9 =>
  (jnw h9 (.inr (.inl (0, 12, fun _ => 0)))).bind fun h15 =>
  (jpf 2 h15 a0 1 (.ref h9.1)).bind fun h17 =>
  (jnw h17 (.inr (.inl (0, 12, fun _ => 0)))).bind fun h23 =>
  (jpf 2 h23 a0 2 (.ref h17.1)).bind fun h25 =>
  (jnw h25 (.inr (.inl (0, 400, fun _ => 0)))).bind fun h32 =>
  (jpf 2 h32 a0 3 (.ref h25.1)).bind fun h34 =>
  (jnw h34 (.inr (.inl (0, 24, fun _ => 0)))).bind fun h40 =>
  (jpf 2 h40 a0 4 (.ref h34.1)).bind fun h42 =>
  some h42
noncomputable def F_X2_begin (n : Nat) (a0 : Nat) (h : jH) : Option jH :=
  (jpf 2 h a0 7 (.int (1 : Int32))).bind fun h2 =>
  (jpf 2 h2 a0 8 (.int (0 : Int32))).bind fun h7 =>
  (jpf 2 h7 a0 6 (.int (0 : Int32))).bind fun h12 =>
  some h12
noncomputable def F_X2_copyFrom (n : Nat) (a0 : Nat) (a1 : Nat) (h : jH) : Option jH :=
  (jgR 2 h a1 0).bind fun p1 =>
  (jgR 2 h a0 0).bind fun p6 =>
  (jcp h p1 (0 : Int32) p6 (0 : Int32) (12 : Int32)).bind fun h12 =>
  (jgR 2 h12 a1 1).bind fun p16 =>
  (jgR 2 h12 a0 1).bind fun p21 =>
  (jcp h12 p16 (0 : Int32) p21 (0 : Int32) (12 : Int32)).bind fun h27 =>
  (jgR 2 h27 a1 2).bind fun p31 =>
  (jgR 2 h27 a0 2).bind fun p36 =>
  (jcp h27 p31 (0 : Int32) p36 (0 : Int32) (12 : Int32)).bind fun h42 =>
  (jgR 2 h42 a1 3).bind fun p46 =>
  (jgR 2 h42 a0 3).bind fun p51 =>
  (jcp h42 p46 (0 : Int32) p51 (0 : Int32) (400 : Int32)).bind fun h58 =>
  (jgI 2 h58 a1 6).bind fun v63 =>
  (jpf 2 h58 a0 6 (.int v63)).bind fun h66 =>
  (jgI 2 h66 a1 7).bind fun v71 =>
  if v71 = 0 ∨ v71 = 1 then
  ((jpf 2 h66 a0 7 (.int v71)).bind fun h74 =>
  (jgI 2 h74 a1 8).bind fun v79 =>
  (jpf 2 h74 a0 8 (.int v79)).bind fun h82 =>
  some h82
  ) else none
noncomputable def F_X2_addLine (n : Nat) (a0 : Nat) (x1 : Int32) (x2 : Int32) (h : jH) : Option jH :=
  (jgI 2 h a0 8).bind fun v1 =>
  if (12 : Int32) ≤ v1 then (some h)
  else ((jgR 2 h a0 0).bind fun p10 =>
  (jgI 2 h a0 8).bind fun v14 =>
  (jas 0 h p10 v14 x1).bind fun h18 =>
  (jgR 2 h18 a0 1).bind fun p20 =>
  (jgI 2 h18 a0 8).bind fun v24 =>
  (jas 0 h18 p20 v24 x2).bind fun h28 =>
  (jgR 2 h28 a0 2).bind fun p30 =>
  (jgI 2 h28 a0 8).bind fun v34 =>
  (jgI 2 h28 a0 6).bind fun v38 =>
  (jas 0 h28 p30 v34 v38).bind fun h41 =>
  (jgI 2 h41 a0 8).bind fun v44 =>
  (jpf 2 h41 a0 8 (.int (v44 + (1 : Int32)))).bind fun h49 =>
  some h49)
noncomputable def F_X2_addCode (n : Nat) (a0 : Nat) (x1 : Int32) (h : jH) : Option jH :=
  (jgI 2 h a0 6).bind fun v1 =>
  if (400 : Int32) ≤ v1 then (some h)
  else ((jgI 2 h a0 8).bind fun v11 =>
  if v11 ≤ 0 then (some h)
  else ((jgR 2 h a0 3).bind fun p18 =>
  (jgI 2 h a0 6).bind fun v22 =>
  (jas 0 h p18 v22 x1).bind fun h26 =>
  (jgI 2 h26 a0 6).bind fun v29 =>
  (jpf 2 h26 a0 6 (.int (v29 + (1 : Int32)))).bind fun h34 =>
  (jgR 2 h34 a0 2).bind fun p38 =>
  (jgI 2 h34 a0 8).bind fun v42 =>
  (jgI 2 h34 a0 6).bind fun v48 =>
  (jas 0 h34 p38 (v42 - (1 : Int32)) v48).bind fun h51 =>
  some h51))
noncomputable def F_X4_init_L (n : Nat) (a0 : Nat) (a1 : Nat) (x2 : Int32) (h : jH) : Option jH :=
  (jpf 3 h a0 0 (.ref a1)).bind fun h6 =>
  (jpf 3 h6 a0 1 (.int x2)).bind fun h11 =>
  some h11
noncomputable def F_X3_init (n : Nat) (a0 : Nat) (a1 : Nat) (a2 : Nat) (h : jH) : Option jH :=
  (F_X4_init_L n a0 a1 (12 : Int32) h).bind fun h4 =>
  (jpf 3 h4 a0 2 (.ref a2)).bind fun h9 =>
  some h9
noncomputable def F_X10_kind (n : Nat) (a0 : Nat) (h : jH) : Option Int32 :=
  (jgI 8 h a0 5).bind fun v1 =>
  (jgI 8 h a0 4).bind fun v5 =>
  if v5 ≤ v1 then (some (-1 : Int32))
  else ((jgR 8 h a0 1).bind fun p12 =>
  (jgI 8 h a0 5).bind fun v16 =>
  (jal 0 h p12 v16).bind fun v19 =>
  some v19)
noncomputable def F_X10_skip (n : Nat) (a0 : Nat) (h : jH) : Option jH :=
  (jgI 8 h a0 5).bind fun v1 =>
  (jgI 8 h a0 4).bind fun v5 =>
  if v5 ≤ v1 then (some h)
  else ((jgI 8 h a0 5).bind fun v13 =>
  (jpf 8 h a0 5 (.int (v13 + (1 : Int32)))).bind fun h18 =>
  some h18)
noncomputable def F_X10_takeNumber (n : Nat) (a0 : Nat) (x1 : Int32) (x2 : Int32) (h : jH) : Option (Int32 × jH) :=
  (jgI 8 h a0 5).bind fun v1 =>
  (jgI 8 h a0 4).bind fun v5 =>
  if v5 ≤ v1 then (some ((-1 : Int32), h))
  else ((jgR 8 h a0 1).bind fun p12 =>
  (jgI 8 h a0 5).bind fun v16 =>
  (jal 0 h p12 v16).bind fun v19 =>
  if v19 = (-3 : Int32) then ((jgR 8 h a0 3).bind fun p26 =>
  (jgI 8 h a0 5).bind fun v30 =>
  (jal 0 h p26 v30).bind fun v33 =>
  if v33 < x1 then (some ((-1 : Int32), h))
  else ((jgR 8 h a0 3).bind fun p39 =>
  (jgI 8 h a0 5).bind fun v43 =>
  (jal 0 h p39 v43).bind fun v46 =>
  if v46 ≤ x2 then ((jgI 8 h a0 5).bind fun v55 =>
  (jpf 8 h a0 5 (.int (v55 + (1 : Int32)))).bind fun h60 =>
  (jgR 8 h60 a0 3).bind fun p64 =>
  (jgI 8 h60 a0 5).bind fun v68 =>
  (jal 0 h60 p64 (v68 - (1 : Int32))).bind fun v73 =>
  some (v73, h60))
  else (some ((-1 : Int32), h))))
  else (some ((-1 : Int32), h)))
noncomputable def F_X10_take (n : Nat) (a0 : Nat) (x1 : Int32) (h : jH) : Option (Int32 × jH) :=
  (jgI 8 h a0 5).bind fun v1 =>
  (jgI 8 h a0 4).bind fun v5 =>
  if v5 ≤ v1 then (some ((0 : Int32), h))
  else ((jgR 8 h a0 1).bind fun p12 =>
  (jgI 8 h a0 5).bind fun v16 =>
  (jal 0 h p12 v16).bind fun v19 =>
  if v19 = x1 then ((jgI 8 h a0 5).bind fun v28 =>
  (jpf 8 h a0 5 (.int (v28 + (1 : Int32)))).bind fun h33 =>
  some ((1 : Int32), h33))
  else (some ((0 : Int32), h)))
noncomputable def F_X3_readSum_94 (n : Nat) (rc4 : Nat → Int32 → Int32 → jH → Option (Int32 × jH)) (a0 : Nat) (x2 : Int32) (h : jH) : Option (Int32 × jH) :=
  (jgR 3 h a0 0).bind fun p95 =>
  (jcv 8 h p95 (F_X10_take n p95 (43 : Int32) h)).bind fun q100 =>
  if q100.1 = 0 then (some ((1 : Int32), q100.2))
  else (rc4 a0 q100.1 (x2 + (1 : Int32)) q100.2)
noncomputable def F_X3_readSum_81 (n : Nat) (rc4 : Nat → Int32 → Int32 → jH → Option (Int32 × jH)) (a0 : Nat) (x1 : Int32) (x2 : Int32) (h : jH) : Option (Int32 × jH) :=
  if x1 = 0 then (F_X3_readSum_94 n rc4 a0 x2 h)
  else ((jgR 3 h a0 2).bind fun p86 =>
  (jcv 2 h p86 (F_X2_addCode n p86 (43 : Int32) h)).bind fun h91 =>
  F_X3_readSum_94 n rc4 a0 x2 h91)
noncomputable def F_X3_readSum_47 (n : Nat) (rc4 : Nat → Int32 → Int32 → jH → Option (Int32 × jH)) (a0 : Nat) (x1 : Int32) (x2 : Int32) (h : jH) : Option (Int32 × jH) :=
  (jgR 3 h a0 0).bind fun p48 =>
  (jcv 8 h p48 (F_X10_takeNumber n p48 (0 : Int32) (999 : Int32) h)).bind fun q55 =>
  if q55.1 = (-1 : Int32) then (some ((0 : Int32), q55.2))
  else ((jgR 3 q55.2 a0 2).bind fun p69 =>
  (jcv 2 q55.2 p69 (F_X2_addCode n p69 ((256 : Int32) + q55.1) q55.2)).bind fun h78 =>
  F_X3_readSum_81 n rc4 a0 x1 x2 h78)
noncomputable def F_X3_readSum_4_b (n : Nat) (rc4 : Nat → Int32 → Int32 → jH → Option (Int32 × jH)) (a0 : Nat) (x1 : Int32) (x2 : Int32) (h : jH) : Option (Int32 × jH) :=
  if (400 : Int32) ≤ x2 then (some ((0 : Int32), h))
  else ((jgR 3 h a0 0).bind fun p12 =>
  (jcv 8 h p12 (F_X10_kind n p12 h)).bind fun v15 =>
  if v15 < 0 then (F_X3_readSum_47 n rc4 a0 x1 x2 h)
  else (if (6 : Int32) < v15 then (F_X3_readSum_47 n rc4 a0 x1 x2 h)
  else ((jgR 3 h a0 0).bind fun p30 =>
  (jcv 8 h p30 (F_X10_skip n p30 h)).bind fun h33 =>
  (jgR 3 h33 a0 2).bind fun p37 =>
  (jcv 2 h33 p37 (F_X2_addCode n p37 v15 h33)).bind fun h41 =>
  F_X3_readSum_81 n rc4 a0 x1 x2 h41)))
noncomputable def F_X3_readSum_4 (n : Nat) : Nat → Nat → Int32 → Int32 → jH → Option (Int32 × jH)
  | 0 => fun _ _ _ _ => none
  | k + 1 => F_X3_readSum_4_b n (F_X3_readSum_4 n k)
noncomputable def F_X3_readSum (n : Nat) (a0 : Nat) (h : jH) : Option (Int32 × jH) :=
  F_X3_readSum_4 n n a0 (0 : Int32) (0 : Int32) h
noncomputable def F_X3_readComparison_43 (n : Nat) (a0 : Nat) (x1 : Int32) (h : jH) : Option (Int32 × jH) :=
  (jcv 3 h a0 (F_X3_readSum n a0 h)).bind fun q44 =>
  (jgR 3 q44.2 a0 2).bind fun p49 =>
  (jcv 2 q44.2 p49 (F_X2_addCode n p49 x1 q44.2)).bind fun h53 =>
  if q44.1 = 0 ∨ q44.1 = 1 then some (q44.1, h53) else none
noncomputable def F_X3_readComparison (n : Nat) (a0 : Nat) (h : jH) : Option (Int32 × jH) :=
  (jcv 3 h a0 (F_X3_readSum n a0 h)).bind fun q1 =>
  if q1.1 = 0 then (some ((0 : Int32), q1.2))
  else ((jgR 3 q1.2 a0 0).bind fun p10 =>
  (jcv 8 q1.2 p10 (F_X10_kind n p10 q1.2)).bind fun v13 =>
  (jgR 3 q1.2 a0 0).bind fun p18 =>
  (jcv 8 q1.2 p18 (F_X10_take n p18 (60 : Int32) q1.2)).bind fun q23 =>
  if q23.1 = 0 then ((jgR 3 q23.2 a0 0).bind fun p30 =>
  (jcv 8 q23.2 p30 (F_X10_take n p30 (62 : Int32) q23.2)).bind fun q35 =>
  if q35.1 = 0 then (some ((0 : Int32), q35.2))
  else (F_X3_readComparison_43 n a0 v13 q35.2))
  else (F_X3_readComparison_43 n a0 v13 q23.2))
noncomputable def F_X3_readCondition_65 (n : Nat) (g0 : Nat → Int32 → jH → Option (Int32 × jH)) (g1 : Nat → Int32 → jH → Option (Int32 × jH)) (rc7 : Nat → Int32 → Int32 → Int32 → Int32 → jH → Option (Int32 × jH)) (a0 : Nat) (x1 : Int32) (x2 : Int32) (x4 : Int32) (h : jH) : Option (Int32 × jH) :=
  (jgR 3 h a0 0).bind fun p66 =>
  (jcv 8 h p66 (F_X10_take n p66 (13 : Int32) h)).bind fun q71 =>
  if q71.1 = 0 then (some ((1 : Int32), q71.2))
  else (rc7 a0 x1 x2 q71.1 (x4 + (1 : Int32)) q71.2)
noncomputable def F_X3_readCondition_38 (n : Nat) (g0 : Nat → Int32 → jH → Option (Int32 × jH)) (g1 : Nat → Int32 → jH → Option (Int32 × jH)) (rc7 : Nat → Int32 → Int32 → Int32 → Int32 → jH → Option (Int32 × jH)) (a0 : Nat) (x1 : Int32) (x3 : Int32) (x4 : Int32) (h : jH) : Option (Int32 × jH) :=
  (jgR 3 h a0 0).bind fun p39 =>
  (jcv 8 h p39 (F_X10_take n p39 (12 : Int32) h)).bind fun q44 =>
  if q44.1 = 0 then (if x3 = 0 then (F_X3_readCondition_65 n g0 g1 rc7 a0 x1 q44.1 x4 q44.2)
  else ((jgR 3 q44.2 a0 2).bind fun p57 =>
  (jcv 2 q44.2 p57 (F_X2_addCode n p57 (13 : Int32) q44.2)).bind fun h62 =>
  F_X3_readCondition_65 n g0 g1 rc7 a0 x1 q44.1 x4 h62))
  else (rc7 a0 x1 q44.1 x3 (x4 + (1 : Int32)) q44.2)
noncomputable def F_X3_readCondition_7_b (n : Nat) (g0 : Nat → Int32 → jH → Option (Int32 × jH)) (g1 : Nat → Int32 → jH → Option (Int32 × jH)) (rc7 : Nat → Int32 → Int32 → Int32 → Int32 → jH → Option (Int32 × jH)) (a0 : Nat) (x1 : Int32) (x2 : Int32) (x3 : Int32) (x4 : Int32) (h : jH) : Option (Int32 × jH) :=
  if (400 : Int32) ≤ x4 then (some ((0 : Int32), h))
  else ((jcv 3 h a0 (g1 a0 x1 h)).bind fun q17 =>
  if q17.1 = 0 then (some ((0 : Int32), q17.2))
  else (if x2 = 0 then (F_X3_readCondition_38 n g0 g1 rc7 a0 x1 x3 x4 q17.2)
  else ((jgR 3 q17.2 a0 2).bind fun p30 =>
  (jcv 2 q17.2 p30 (F_X2_addCode n p30 (12 : Int32) q17.2)).bind fun h35 =>
  F_X3_readCondition_38 n g0 g1 rc7 a0 x1 x3 x4 h35)))
noncomputable def F_X3_readCondition_7 (n : Nat) (g0 : Nat → Int32 → jH → Option (Int32 × jH)) (g1 : Nat → Int32 → jH → Option (Int32 × jH)) : Nat → Nat → Int32 → Int32 → Int32 → Int32 → jH → Option (Int32 × jH)
  | 0 => fun _ _ _ _ _ _ => none
  | k + 1 => F_X3_readCondition_7_b n g0 g1 (F_X3_readCondition_7 n g0 g1 k)
noncomputable def F_X3_readCondition (n : Nat) (g0 : Nat → Int32 → jH → Option (Int32 × jH)) (g1 : Nat → Int32 → jH → Option (Int32 × jH)) (a0 : Nat) (x1 : Int32) (h : jH) : Option (Int32 × jH) :=
  F_X3_readCondition_7 n g0 g1 n a0 x1 (0 : Int32) (0 : Int32) (0 : Int32) h
noncomputable def F_X3_readAtom_128 (n : Nat) (g0 : Nat → Int32 → jH → Option (Int32 × jH)) (g1 : Nat → Int32 → jH → Option (Int32 × jH)) (a0 : Nat) (h : jH) : Option (Int32 × jH) :=
  (jcv 3 h a0 (F_X3_readComparison n a0 h)).bind fun q129 =>
  if q129.1 = 0 ∨ q129.1 = 1 then some (q129.1, q129.2) else none
noncomputable def F_X3_readAtom_28 (n : Nat) (g0 : Nat → Int32 → jH → Option (Int32 × jH)) (g1 : Nat → Int32 → jH → Option (Int32 × jH)) (a0 : Nat) (x1 : Int32) (x2 : Int32) (h : jH) : Option (Int32 × jH) :=
  (jgR 3 h a0 0).bind fun p29 =>
  (jcv 8 h p29 (F_X10_take n p29 (11 : Int32) h)).bind fun q34 =>
  if q34.1 = 0 then ((jgR 3 q34.2 a0 0).bind fun p60 =>
  (jcv 8 q34.2 p60 (F_X10_take n p60 (40 : Int32) q34.2)).bind fun q65 =>
  if q65.1 = 0 then (if x2 < (7 : Int32) then (F_X3_readAtom_128 n g0 g1 a0 q65.2)
  else (if (10 : Int32) < x2 then (F_X3_readAtom_128 n g0 g1 a0 q65.2)
  else ((jgR 3 q65.2 a0 0).bind fun p112 =>
  (jcv 8 q65.2 p112 (F_X10_skip n p112 q65.2)).bind fun h115 =>
  (jgR 3 h115 a0 2).bind fun p119 =>
  (jcv 2 h115 p119 (F_X2_addCode n p119 x2 h115)).bind fun h123 =>
  some ((1 : Int32), h123))))
  else ((jcv 3 q65.2 a0 (g0 a0 (x1 + (1 : Int32)) q65.2)).bind fun q75 =>
  if q75.1 = 0 then (some ((0 : Int32), q75.2))
  else ((jgR 3 q75.2 a0 0).bind fun p82 =>
  (jcv 8 q75.2 p82 (F_X10_take n p82 (41 : Int32) q75.2)).bind fun q87 =>
  if q87.1 = 0 then (some ((0 : Int32), q87.2))
  else (some ((1 : Int32), q87.2)))))
  else ((jcv 3 q34.2 a0 (g1 a0 (x1 + (1 : Int32)) q34.2)).bind fun q44 =>
  (jgR 3 q44.2 a0 2).bind fun p49 =>
  (jcv 2 q44.2 p49 (F_X2_addCode n p49 (11 : Int32) q44.2)).bind fun h54 =>
  if q44.1 = 0 ∨ q44.1 = 1 then some (q44.1, h54) else none)
noncomputable def F_X3_readAtom_20 (n : Nat) (g0 : Nat → Int32 → jH → Option (Int32 × jH)) (g1 : Nat → Int32 → jH → Option (Int32 × jH)) (a0 : Nat) (x1 : Int32) (x2 : Int32) (h : jH) : Option (Int32 × jH) :=
  if x1 < (6 : Int32) then (F_X3_readAtom_28 n g0 g1 a0 x1 x2 h)
  else (some ((0 : Int32), h))
noncomputable def F_X3_readAtom (n : Nat) (g0 : Nat → Int32 → jH → Option (Int32 × jH)) (g1 : Nat → Int32 → jH → Option (Int32 × jH)) (a0 : Nat) (x1 : Int32) (h : jH) : Option (Int32 × jH) :=
  (jgR 3 h a0 0).bind fun p1 =>
  (jcv 8 h p1 (F_X10_kind n p1 h)).bind fun v4 =>
  if v4 = (11 : Int32) then (F_X3_readAtom_20 n g0 g1 a0 x1 v4 h)
  else (if v4 = (40 : Int32) then (F_X3_readAtom_20 n g0 g1 a0 x1 v4 h)
  else (F_X3_readAtom_28 n g0 g1 a0 x1 v4 h))
noncomputable def FG_RC (n : Nat) : Nat → Nat → Nat → Int32 → jH → Option (Int32 × jH)
  | 0 => fun _ _ _ _ => none
  | d + 1 => fun w =>
    if w = 0 then F_X3_readCondition n (FG_RC n d 0) (FG_RC n d 1) else F_X3_readAtom n (FG_RC n d 0) (FG_RC n d 1)
noncomputable def F_X3_readLine_76 (n : Nat) (a0 : Nat) (x2 : Int32) (sa0 : Nat) (s1 : Int32) (h : jH) : Option (Int32 × jH) :=
  (jcv 2 h sa0 (F_X2_addLine n sa0 s1 x2 h)).bind fun h77 =>
  (jgR 3 h77 a0 0).bind fun p81 =>
  (jcv 8 h77 p81 (F_X10_take n p81 (14 : Int32) h77)).bind fun q86 =>
  if q86.1 = 0 then (some ((1 : Int32), q86.2))
  else ((jcv 3 q86.2 a0 (FG_RC n 20 0 a0 (0 : Int32) q86.2)).bind fun q94 =>
  if q94.1 = 0 then (some ((0 : Int32), q94.2))
  else (some ((1 : Int32), q94.2)))
noncomputable def F_X3_readLine_27 (n : Nat) (a0 : Nat) (x1 : Int32) (h : jH) : Option (Int32 × jH) :=
  (jgR 3 h a0 0).bind fun p28 =>
  (jcv 8 h p28 (F_X10_skip n p28 h)).bind fun h31 =>
  (jgR 3 h31 a0 0).bind fun p35 =>
  (jcv 8 h31 p35 (F_X10_takeNumber n p35 (0 : Int32) (100 : Int32) h31)).bind fun q41 =>
  if q41.1 = (-1 : Int32) then (some ((0 : Int32), q41.2))
  else ((jgR 3 q41.2 a0 2).bind fun p53 =>
  if x1 = (3 : Int32) then (F_X3_readLine_76 n a0 q41.1 p53 (0 : Int32) q41.2)
  else (if x1 = (15 : Int32) then (F_X3_readLine_76 n a0 q41.1 p53 (1 : Int32) q41.2)
  else (F_X3_readLine_76 n a0 q41.1 p53 (2 : Int32) q41.2)))
noncomputable def F_X3_readLine (n : Nat) (a0 : Nat) (h : jH) : Option (Int32 × jH) :=
  (jgR 3 h a0 0).bind fun p1 =>
  (jcv 8 h p1 (F_X10_kind n p1 h)).bind fun v4 =>
  if v4 = (3 : Int32) then (F_X3_readLine_27 n a0 v4 h)
  else (if v4 = (15 : Int32) then (F_X3_readLine_27 n a0 v4 h)
  else (if v4 = (16 : Int32) then (F_X3_readLine_27 n a0 v4 h)
  else (some ((0 : Int32), h))))
noncomputable def F_J9_floorMod_7cf53 (n : Nat) (x0 : Int32) (x1 : Int32) (h : jH) : Option Int32 :=
  if x1 = 0 then none else
  if 0 ≤ (x0 ^^^ x1) then (some (x0 - x0 / x1 * x1))
  else (if (x0 - x0 / x1 * x1) = 0 then (some (x0 - x0 / x1 * x1))
  else (some ((x0 - x0 / x1 * x1) + x1)))
noncomputable def F_X5_read (n : Nat) (a0 : Nat) (x1 : Int32) (x2 : Int32) (h : jH) : Option Int32 :=
  if x1 < 0 then (some (-1 : Int32))
  else ((jgI 4 h a0 1).bind fun v6 =>
  if v6 ≤ x1 then (some (-1 : Int32))
  else (if x2 < 0 then (some (-1 : Int32))
  else (if x2 < (6 : Int32) then ((jgR 4 h a0 0).bind fun p25 =>
  (jgI 4 h a0 2).bind fun v29 =>
  (F_J9_floorMod_7cf53 n ((v29 - (1 : Int32)) - x1) (60 : Int32) h).bind fun v38 =>
  (jal 0 h p25 v38).bind fun v41 =>
  if x2 < 0 ∨ 6 ≤ x2.toNatClampNeg then none else
  if x2 < 0 ∨ 6 ≤ x2.toNatClampNeg then none else
  some ((jushr v41 (jshf.getD x2.toNatClampNeg 0)) &&& (jmsk.getD x2.toNatClampNeg 0)))
  else (some (-1 : Int32)))))
noncomputable def F_X5_rowsOf_4_b (n : Nat) (rc4 : Nat → Int32 → Int32 → Int32 → jH → Option Int32) (a0 : Nat) (x1 : Int32) (x2 : Int32) (x3 : Int32) (h : jH) : Option Int32 :=
  (jgI 4 h a0 1).bind fun v6 =>
  if v6 ≤ x3 then (some x2)
  else ((jcv 4 h a0 (F_X5_read n a0 x3 (2 : Int32) h)).bind fun v15 =>
  if v15 = x1 then (rc4 a0 x1 (x2 + (1 : Int32)) (x3 + (1 : Int32)) h)
  else (rc4 a0 x1 x2 (x3 + (1 : Int32)) h))
noncomputable def F_X5_rowsOf_4 (n : Nat) : Nat → Nat → Int32 → Int32 → Int32 → jH → Option Int32
  | 0 => fun _ _ _ _ _ => none
  | k + 1 => F_X5_rowsOf_4_b n (F_X5_rowsOf_4 n k)
noncomputable def F_X5_rowsOf (n : Nat) (a0 : Nat) (x1 : Int32) (h : jH) : Option Int32 :=
  F_X5_rowsOf_4 n n a0 x1 (0 : Int32) (0 : Int32) h
noncomputable def F_X5_latestPlace_2_b (n : Nat) (rc2 : Nat → Int32 → Int32 → jH → Option Int32) (a0 : Nat) (x1 : Int32) (x2 : Int32) (h : jH) : Option Int32 :=
  (jgI 4 h a0 1).bind fun v4 =>
  if v4 ≤ x2 then (some (-1 : Int32))
  else ((jcv 4 h a0 (F_X5_read n a0 x2 (2 : Int32) h)).bind fun v13 =>
  if v13 = x1 then ((jcv 4 h a0 (F_X5_read n a0 x2 (5 : Int32) h)).bind fun v23 =>
  some v23)
  else (rc2 a0 x1 (x2 + (1 : Int32)) h))
noncomputable def F_X5_latestPlace_2 (n : Nat) : Nat → Nat → Int32 → Int32 → jH → Option Int32
  | 0 => fun _ _ _ _ => none
  | k + 1 => F_X5_latestPlace_2_b n (F_X5_latestPlace_2 n k)
noncomputable def F_X5_latestPlace (n : Nat) (a0 : Nat) (x1 : Int32) (h : jH) : Option Int32 :=
  F_X5_latestPlace_2 n n a0 x1 (0 : Int32) h
noncomputable def F_X6_hangsBy_22_b (n : Nat) (rc22 : Nat → Int32 → Int32 → Int32 → Int32 → jH → Option Int32) (a0 : Nat) (x1 : Int32) (x2 : Int32) (x3 : Int32) (x4 : Int32) (h : jH) : Option Int32 :=
  (jgI 6 h a0 5).bind fun v25 =>
  if v25 ≤ x4 then (some x2)
  else ((jgR 6 h a0 0).bind fun p32 =>
  (jal 0 h p32 x4).bind fun v37 =>
  (jgR 6 h a0 0).bind fun p39 =>
  (jal 0 h p39 x1).bind fun v43 =>
  (jgI 6 h a0 8).bind fun v51 =>
  (F_X11_bit n v51 x4 h).bind fun v56 =>
  if v56 = (1 : Int32) then (if x3 ≤ (if 0 ≤ v37 - v43 then v37 - v43 else 0 - (v37 - v43)) then (rc22 a0 x1 x2 x3 (x4 + (1 : Int32)) h)
  else (rc22 a0 x1 x4 (if 0 ≤ v37 - v43 then v37 - v43 else 0 - (v37 - v43)) (x4 + (1 : Int32)) h))
  else (rc22 a0 x1 x2 x3 (x4 + (1 : Int32)) h))
noncomputable def F_X6_hangsBy_22 (n : Nat) : Nat → Nat → Int32 → Int32 → Int32 → Int32 → jH → Option Int32
  | 0 => fun _ _ _ _ _ _ => none
  | k + 1 => F_X6_hangsBy_22_b n (F_X6_hangsBy_22 n k)
noncomputable def F_X6_hangsBy (n : Nat) (a0 : Nat) (x1 : Int32) (h : jH) : Option Int32 :=
  (jgI 6 h a0 8).bind fun v1 =>
  (F_X11_bit n v1 x1 h).bind fun v5 =>
  if v5 = (1 : Int32) then (some x1)
  else (F_X6_hangsBy_22 n n a0 x1 (-1 : Int32) (32 : Int32) (0 : Int32) h)
noncomputable def F_X8_allFades_4_b (n : Nat) (rc4 : Nat → Int32 → Int32 → jH → Option Int32) (a0 : Nat) (x1 : Int32) (x2 : Int32) (h : jH) : Option Int32 :=
  (jgI 6 h a0 5).bind fun v6 =>
  if v6 ≤ x2 then (some x1)
  else ((jgR 6 h a0 2).bind fun p14 =>
  (jal 0 h p14 x2).bind fun v18 =>
  rc4 a0 (x1 + v18) (x2 + (1 : Int32)) h)
noncomputable def F_X8_allFades_4 (n : Nat) : Nat → Nat → Int32 → Int32 → jH → Option Int32
  | 0 => fun _ _ _ _ => none
  | k + 1 => F_X8_allFades_4_b n (F_X8_allFades_4 n k)
noncomputable def F_X8_allFades (n : Nat) (a0 : Nat) (h : jH) : Option Int32 :=
  F_X8_allFades_4 n n a0 (0 : Int32) (0 : Int32) h
noncomputable def F_X6_share (n : Nat) (a0 : Nat) (x1 : Int32) (h : jH) : Option Int32 :=
  (jcv 6 h a0 (F_X8_allFades n a0 h)).bind fun v1 =>
  if v1 = 0 then (some (0 : Int32))
  else ((jgR 6 h a0 2).bind fun p16 =>
  (jal 0 h p16 x1).bind fun v20 =>
  if v1 = 0 then none else
  some (((100 : Int32) * v20) / v1))
noncomputable def F_X6_isInOrder_4_b (n : Nat) (rc4 : Nat → Int32 → Int32 → Int32 → jH → Option Int32) (a0 : Nat) (x1 : Int32) (x2 : Int32) (x3 : Int32) (h : jH) : Option Int32 :=
  (jgI 6 h a0 5).bind fun v6 =>
  if v6 ≤ x3 then (some (1 : Int32))
  else ((F_X11_bit n x1 x3 h).bind fun v14 =>
  if v14 = (1 : Int32) then ((jgR 6 h a0 2).bind fun p22 =>
  (jal 0 h p22 x3).bind fun v26 =>
  if x2 ≤ v26 then ((jgR 6 h a0 2).bind fun p34 =>
  (jal 0 h p34 x3).bind fun v38 =>
  rc4 a0 x1 v38 (x3 + (1 : Int32)) h)
  else (some (0 : Int32)))
  else (rc4 a0 x1 x2 (x3 + (1 : Int32)) h))
noncomputable def F_X6_isInOrder_4 (n : Nat) : Nat → Nat → Int32 → Int32 → Int32 → jH → Option Int32
  | 0 => fun _ _ _ _ _ => none
  | k + 1 => F_X6_isInOrder_4_b n (F_X6_isInOrder_4 n k)
noncomputable def F_X6_isInOrder (n : Nat) (a0 : Nat) (x1 : Int32) (h : jH) : Option Int32 :=
  F_X6_isInOrder_4 n n a0 x1 (0 : Int32) (0 : Int32) h
noncomputable def F_J6_bitCount_0f7a4 (n : Nat) (x0 : Int32) (h : jH) : Option Int32 :=
  some ((((((((x0 - ((jushr x0 (1 : Int32)) &&& (1431655765 : Int32))) &&& (858993459 : Int32)) + ((jushr (x0 - ((jushr x0 (1 : Int32)) &&& (1431655765 : Int32))) (2 : Int32)) &&& (858993459 : Int32))) + (jushr (((x0 - ((jushr x0 (1 : Int32)) &&& (1431655765 : Int32))) &&& (858993459 : Int32)) + ((jushr (x0 - ((jushr x0 (1 : Int32)) &&& (1431655765 : Int32))) (2 : Int32)) &&& (858993459 : Int32))) (4 : Int32))) &&& (252645135 : Int32)) + (jushr (((((x0 - ((jushr x0 (1 : Int32)) &&& (1431655765 : Int32))) &&& (858993459 : Int32)) + ((jushr (x0 - ((jushr x0 (1 : Int32)) &&& (1431655765 : Int32))) (2 : Int32)) &&& (858993459 : Int32))) + (jushr (((x0 - ((jushr x0 (1 : Int32)) &&& (1431655765 : Int32))) &&& (858993459 : Int32)) + ((jushr (x0 - ((jushr x0 (1 : Int32)) &&& (1431655765 : Int32))) (2 : Int32)) &&& (858993459 : Int32))) (4 : Int32))) &&& (252645135 : Int32)) (8 : Int32))) + (jushr ((((((x0 - ((jushr x0 (1 : Int32)) &&& (1431655765 : Int32))) &&& (858993459 : Int32)) + ((jushr (x0 - ((jushr x0 (1 : Int32)) &&& (1431655765 : Int32))) (2 : Int32)) &&& (858993459 : Int32))) + (jushr (((x0 - ((jushr x0 (1 : Int32)) &&& (1431655765 : Int32))) &&& (858993459 : Int32)) + ((jushr (x0 - ((jushr x0 (1 : Int32)) &&& (1431655765 : Int32))) (2 : Int32)) &&& (858993459 : Int32))) (4 : Int32))) &&& (252645135 : Int32)) + (jushr (((((x0 - ((jushr x0 (1 : Int32)) &&& (1431655765 : Int32))) &&& (858993459 : Int32)) + ((jushr (x0 - ((jushr x0 (1 : Int32)) &&& (1431655765 : Int32))) (2 : Int32)) &&& (858993459 : Int32))) + (jushr (((x0 - ((jushr x0 (1 : Int32)) &&& (1431655765 : Int32))) &&& (858993459 : Int32)) + ((jushr (x0 - ((jushr x0 (1 : Int32)) &&& (1431655765 : Int32))) (2 : Int32)) &&& (858993459 : Int32))) (4 : Int32))) &&& (252645135 : Int32)) (8 : Int32))) (16 : Int32))) &&& (63 : Int32))
noncomputable def F_X6_outOfOrder_4_b (n : Nat) (rc4 : Nat → Int32 → Int32 → jH → Option Int32) (a0 : Nat) (x1 : Int32) (x2 : Int32) (h : jH) : Option Int32 :=
  (jgI 6 h a0 5).bind fun v7 =>
  if ((1 : Int32) <<< (v7 &&& 31)) ≤ x2 then ((jgI 6 h a0 5).bind fun v38 =>
  some (v38 - x1))
  else ((F_X6_isInOrder n a0 x2 h).bind fun v16 =>
  if v16 = 0 then (rc4 a0 x1 (x2 + (1 : Int32)) h)
  else ((F_J6_bitCount_0f7a4 n x2 h).bind fun v24 =>
  rc4 a0 (if x1 < v24 then v24 else x1) (x2 + (1 : Int32)) h))
noncomputable def F_X6_outOfOrder_4 (n : Nat) : Nat → Nat → Int32 → Int32 → jH → Option Int32
  | 0 => fun _ _ _ _ => none
  | k + 1 => F_X6_outOfOrder_4_b n (F_X6_outOfOrder_4 n k)
noncomputable def F_X6_outOfOrder (n : Nat) (a0 : Nat) (h : jH) : Option Int32 :=
  F_X6_outOfOrder_4 n n a0 (0 : Int32) (0 : Int32) h
noncomputable def F_X6_tightest_8_b (n : Nat) (rc8 : Nat → Int32 → Int32 → Int32 → Int32 → jH → Option Int32) (a0 : Nat) (x1 : Int32) (x2 : Int32) (x3 : Int32) (x4 : Int32) (h : jH) : Option Int32 :=
  (jgI 6 h a0 5).bind fun v13 =>
  if v13 < (x4 + x1) then (some x2)
  else ((jgR 6 h a0 0).bind fun p20 =>
  (jal 0 h p20 ((x4 + x1) - (1 : Int32))).bind fun v29 =>
  (jgR 6 h a0 0).bind fun p31 =>
  (jal 0 h p31 x4).bind fun v36 =>
  if x3 ≤ (v29 - v36) then (rc8 a0 x1 x2 x3 (x4 + (1 : Int32)) h)
  else (rc8 a0 x1 x4 (v29 - v36) (x4 + (1 : Int32)) h))
noncomputable def F_X6_tightest_8 (n : Nat) : Nat → Nat → Int32 → Int32 → Int32 → Int32 → jH → Option Int32
  | 0 => fun _ _ _ _ _ _ => none
  | k + 1 => F_X6_tightest_8_b n (F_X6_tightest_8 n k)
noncomputable def F_X6_tightest (n : Nat) (a0 : Nat) (x1 : Int32) (h : jH) : Option Int32 :=
  F_X6_tightest_8 n n a0 x1 (-1 : Int32) (32 : Int32) (0 : Int32) h
noncomputable def F_X6_spareCloth_4_b (n : Nat) (rc4 : Nat → Int32 → Int32 → jH → Option Int32) (a0 : Nat) (x1 : Int32) (x2 : Int32) (h : jH) : Option Int32 :=
  (jgI 6 h a0 5).bind fun v8 =>
  if v8 ≤ (x2 + (1 : Int32)) then (some x1)
  else ((jgR 6 h a0 1).bind fun p16 =>
  (jal 0 h p16 x2).bind fun v20 =>
  (jcv 6 h a0 (F_X8_gap n a0 x2 (0 : Int32) h)).bind fun v24 =>
  rc4 a0 (x1 + (v20 - v24)) (x2 + (1 : Int32)) h)
noncomputable def F_X6_spareCloth_4 (n : Nat) : Nat → Nat → Int32 → Int32 → jH → Option Int32
  | 0 => fun _ _ _ _ => none
  | k + 1 => F_X6_spareCloth_4_b n (F_X6_spareCloth_4 n k)
noncomputable def F_X6_spareCloth (n : Nat) (a0 : Nat) (h : jH) : Option Int32 :=
  F_X6_spareCloth_4 n n a0 (0 : Int32) (0 : Int32) h
noncomputable def F_X6_tautRings_36 (n : Nat) (rc4 : Nat → Int32 → Int32 → jH → Option Int32) (a0 : Nat) (x2 : Int32) (s0 : Int32) (s1 : Int32) (s2 : Int32) (h : jH) : Option Int32 :=
  (F_X11_withBit n s0 s1 s2 h).bind fun v36 =>
  rc4 a0 v36 (x2 + (1 : Int32)) h
noncomputable def F_X6_tautRings_4_b (n : Nat) (rc4 : Nat → Int32 → Int32 → jH → Option Int32) (a0 : Nat) (x1 : Int32) (x2 : Int32) (h : jH) : Option Int32 :=
  (jgI 6 h a0 5).bind fun v8 =>
  if v8 ≤ (x2 + (1 : Int32)) then (some x1)
  else ((jcv 6 h a0 (F_X8_gap n a0 x2 (0 : Int32) h)).bind fun v19 =>
  (jgR 6 h a0 1).bind fun p23 =>
  (jal 0 h p23 x2).bind fun v27 =>
  if v19 = v27 then (F_X6_tautRings_36 n rc4 a0 x2 x1 x2 (1 : Int32) h)
  else (F_X6_tautRings_36 n rc4 a0 x2 x1 x2 (0 : Int32) h))
noncomputable def F_X6_tautRings_4 (n : Nat) : Nat → Nat → Int32 → Int32 → jH → Option Int32
  | 0 => fun _ _ _ _ => none
  | k + 1 => F_X6_tautRings_4_b n (F_X6_tautRings_4 n k)
noncomputable def F_X6_tautRings (n : Nat) (a0 : Nat) (h : jH) : Option Int32 :=
  F_X6_tautRings_4 n n a0 (0 : Int32) (0 : Int32) h
noncomputable def F_X6_litRings_4_b (n : Nat) (rc4 : Nat → Int32 → Int32 → Int32 → jH → Option Int32) (a0 : Nat) (x1 : Int32) (x2 : Int32) (x3 : Int32) (h : jH) : Option Int32 :=
  (jgI 6 h a0 5).bind fun v6 =>
  if v6 ≤ x3 then (some x2)
  else ((jcv 6 h a0 (F_X8_isLit n a0 x3 x1 h)).bind fun v17 =>
  (F_X11_withBit n x2 x3 v17 h).bind fun v20 =>
  rc4 a0 x1 v20 (x3 + (1 : Int32)) h)
noncomputable def F_X6_litRings_4 (n : Nat) : Nat → Nat → Int32 → Int32 → Int32 → jH → Option Int32
  | 0 => fun _ _ _ _ _ => none
  | k + 1 => F_X6_litRings_4_b n (F_X6_litRings_4 n k)
noncomputable def F_X6_litRings (n : Nat) (a0 : Nat) (x1 : Int32) (h : jH) : Option Int32 :=
  F_X6_litRings_4 n n a0 x1 (0 : Int32) (0 : Int32) h
noncomputable def F_X6_litHours_4_b (n : Nat) (rc4 : Nat → Int32 → Int32 → Int32 → jH → Option Int32) (a0 : Nat) (x1 : Int32) (x2 : Int32) (x3 : Int32) (h : jH) : Option Int32 :=
  if (8 : Int32) ≤ x3 then (some x2)
  else ((jcv 6 h a0 (F_X8_isLit n a0 x1 x3 h)).bind fun v13 =>
  if v13 = 0 then (rc4 a0 x1 x2 (x3 + (1 : Int32)) h)
  else (rc4 a0 x1 (x2 + (1 : Int32)) (x3 + (1 : Int32)) h))
noncomputable def F_X6_litHours_4 (n : Nat) : Nat → Nat → Int32 → Int32 → Int32 → jH → Option Int32
  | 0 => fun _ _ _ _ _ => none
  | k + 1 => F_X6_litHours_4_b n (F_X6_litHours_4 n k)
noncomputable def F_X6_litHours (n : Nat) (a0 : Nat) (x1 : Int32) (h : jH) : Option Int32 :=
  F_X6_litHours_4 n n a0 x1 (0 : Int32) (0 : Int32) h
noncomputable def F_X6_sunniest_6_b (n : Nat) (rc6 : Nat → Int32 → Int32 → Int32 → jH → Option Int32) (a0 : Nat) (x1 : Int32) (x2 : Int32) (x3 : Int32) (h : jH) : Option Int32 :=
  (jgI 6 h a0 5).bind fun v8 =>
  if v8 ≤ x3 then (some x1)
  else ((F_X6_litHours n a0 x3 h).bind fun v16 =>
  if v16 ≤ x2 then (rc6 a0 x1 x2 (x3 + (1 : Int32)) h)
  else (rc6 a0 x3 v16 (x3 + (1 : Int32)) h))
noncomputable def F_X6_sunniest_6 (n : Nat) : Nat → Nat → Int32 → Int32 → Int32 → jH → Option Int32
  | 0 => fun _ _ _ _ _ => none
  | k + 1 => F_X6_sunniest_6_b n (F_X6_sunniest_6 n k)
noncomputable def F_X6_sunniest (n : Nat) (a0 : Nat) (h : jH) : Option Int32 :=
  F_X6_sunniest_6 n n a0 (-1 : Int32) (-1 : Int32) (0 : Int32) h
noncomputable def F_X6_evenLength_67 (n : Nat) (x1 : Int32) (x2 : Int32) (x4 : Int32) (x5 : Int32) (s0 : Int32) (s1 : Int32) (h : jH) : Option Int32 :=
  if (s0 + s1) ≤ x2 then (if x5 ≤ x1 then (some x4)
  else (some (x4 + (1 : Int32))))
  else (some (-1 : Int32))
noncomputable def F_X6_evenLength_14_b (n : Nat) (rc14 : Nat → Int32 → Int32 → Int32 → Int32 → jH → Option Int32) (a0 : Nat) (x1 : Int32) (x2 : Int32) (x3 : Int32) (x4 : Int32) (h : jH) : Option Int32 :=
  (jgI 6 h a0 5).bind fun v17 =>
  if v17 ≤ x4 then ((jgI 6 h a0 5).bind fun v41 =>
  if v41 = 0 then none else
  (jgI 6 h a0 5).bind fun v49 =>
  if v49 = 0 then none else
  if (x3 - x3 / v49 * v49) ≤ 0 then (F_X6_evenLength_67 n x1 x2 (x3 / v41) (x3 - x3 / v49 * v49) (x3 / v41) (0 : Int32) h)
  else (F_X6_evenLength_67 n x1 x2 (x3 / v41) (x3 - x3 / v49 * v49) (x3 / v41) (1 : Int32) h))
  else ((jgR 6 h a0 3).bind fun p25 =>
  (jal 0 h p25 x4).bind fun v30 =>
  rc14 a0 x1 x2 (x3 + v30) (x4 + (1 : Int32)) h)
noncomputable def F_X6_evenLength_14 (n : Nat) : Nat → Nat → Int32 → Int32 → Int32 → Int32 → jH → Option Int32
  | 0 => fun _ _ _ _ _ _ => none
  | k + 1 => F_X6_evenLength_14_b n (F_X6_evenLength_14 n k)
noncomputable def F_X6_evenLength (n : Nat) (a0 : Nat) (x1 : Int32) (x2 : Int32) (h : jH) : Option Int32 :=
  (jgI 6 h a0 5).bind fun v1 =>
  if v1 = 0 then (some (-1 : Int32))
  else (F_X6_evenLength_14 n n a0 x1 x2 (0 : Int32) (0 : Int32) h)
noncomputable def F_X6_enviousPairs_4_b (n : Nat) (rc4 : Nat → Int32 → Int32 → jH → Option Int32) (a0 : Nat) (x1 : Int32) (x2 : Int32) (h : jH) : Option Int32 :=
  (jgI 6 h a0 5).bind fun v8 =>
  if v8 ≤ (x2 + (1 : Int32)) then (some x1)
  else ((jgR 6 h a0 3).bind fun p15 =>
  (jal 0 h p15 x2).bind fun v19 =>
  (jgR 6 h a0 3).bind fun p21 =>
  (jal 0 h p21 (x2 + (1 : Int32))).bind fun v27 =>
  if (if 0 ≤ v19 - v27 then v19 - v27 else 0 - (v19 - v27)) < (2 : Int32) then (rc4 a0 x1 (x2 + (1 : Int32)) h)
  else (rc4 a0 (x1 + (1 : Int32)) (x2 + (1 : Int32)) h))
noncomputable def F_X6_enviousPairs_4 (n : Nat) : Nat → Nat → Int32 → Int32 → jH → Option Int32
  | 0 => fun _ _ _ _ => none
  | k + 1 => F_X6_enviousPairs_4_b n (F_X6_enviousPairs_4 n k)
noncomputable def F_X6_enviousPairs (n : Nat) (a0 : Nat) (h : jH) : Option Int32 :=
  F_X6_enviousPairs_4 n n a0 (0 : Int32) (0 : Int32) h
noncomputable def F_X6_gain (n : Nat) (a0 : Nat) (x1 : Int32) (x2 : Int32) (h : jH) : Option Int32 :=
  if x2 = (1 : Int32) then ((jgI 6 h a0 9).bind fun v29 =>
  (F_X11_bit n v29 x1 h).bind fun v33 =>
  if v33 = (1 : Int32) then (some (-2 : Int32))
  else (some (1 : Int32)))
  else if x2 = (2 : Int32) then ((jcv 6 h a0 (F_X8_gap n a0 x1 (0 : Int32) h)).bind fun v50 =>
  some (v50 - (1 : Int32)))
  else (some (2 : Int32))
noncomputable def F_X6_restingChoices_62 (n : Nat) (rc16 : Nat → Int32 → Int32 → Int32 → jH → Option Int32) (a0 : Nat) (x1 : Int32) (x3 : Int32) (s0 : Int32) (s1 : Int32) (s2 : Int32) (h : jH) : Option Int32 :=
  (F_X11_withBit n s0 s1 s2 h).bind fun v62 =>
  rc16 a0 x1 v62 (x3 + (1 : Int32)) h
noncomputable def F_X6_restingChoices_16_b (n : Nat) (rc16 : Nat → Int32 → Int32 → Int32 → jH → Option Int32) (a0 : Nat) (x1 : Int32) (x2 : Int32) (x3 : Int32) (h : jH) : Option Int32 :=
  if (4 : Int32) ≤ x3 then (some x2)
  else ((F_X6_gain n a0 x1 x3 h).bind fun v24 =>
  (F_X6_gain n a0 x1 (x3 ^^^ (2 : Int32)) h).bind fun v38 =>
  if v24 < v38 then (F_X6_restingChoices_62 n rc16 a0 x1 x3 x2 x3 (0 : Int32) h)
  else ((F_X6_gain n a0 x1 (x3 ^^^ (1 : Int32)) h).bind fun v51 =>
  if v24 < v51 then (F_X6_restingChoices_62 n rc16 a0 x1 x3 x2 x3 (0 : Int32) h)
  else (F_X6_restingChoices_62 n rc16 a0 x1 x3 x2 x3 (1 : Int32) h)))
noncomputable def F_X6_restingChoices_16 (n : Nat) : Nat → Nat → Int32 → Int32 → Int32 → jH → Option Int32
  | 0 => fun _ _ _ _ _ => none
  | k + 1 => F_X6_restingChoices_16_b n (F_X6_restingChoices_16 n k)
noncomputable def F_X6_restingChoices (n : Nat) (a0 : Nat) (x1 : Int32) (h : jH) : Option Int32 :=
  (jgI 6 h a0 5).bind fun v2 =>
  if x1 < (v2 - (1 : Int32)) then (F_X6_restingChoices_16 n n a0 x1 (0 : Int32) (0 : Int32) h)
  else (some (-1 : Int32))
noncomputable def F_X6_largestBunch_33 (n : Nat) (rc6 : Nat → Int32 → Int32 → Int32 → jH → Option Int32) (a0 : Nat) (x1 : Int32) (x3 : Int32) (s0 : Int32) (h : jH) : Option Int32 :=
  rc6 a0 (if x1 < s0 then s0 else x1) s0 (x3 + (1 : Int32)) h
noncomputable def F_X6_largestBunch_6_b (n : Nat) (rc6 : Nat → Int32 → Int32 → Int32 → jH → Option Int32) (a0 : Nat) (x1 : Int32) (x2 : Int32) (x3 : Int32) (h : jH) : Option Int32 :=
  (jgI 6 h a0 5).bind fun v8 =>
  if v8 ≤ x3 then (some x1)
  else ((jcv 6 h a0 (F_X8_gap n a0 (x3 - (1 : Int32)) (-1 : Int32) h)).bind fun v19 =>
  if v19 = (1 : Int32) then (F_X6_largestBunch_33 n rc6 a0 x1 x3 (x2 + (1 : Int32)) h)
  else (F_X6_largestBunch_33 n rc6 a0 x1 x3 (1 : Int32) h))
noncomputable def F_X6_largestBunch_6 (n : Nat) : Nat → Nat → Int32 → Int32 → Int32 → jH → Option Int32
  | 0 => fun _ _ _ _ _ => none
  | k + 1 => F_X6_largestBunch_6_b n (F_X6_largestBunch_6 n k)
noncomputable def F_X6_largestBunch (n : Nat) (a0 : Nat) (h : jH) : Option Int32 :=
  F_X6_largestBunch_6 n n a0 (0 : Int32) (0 : Int32) (0 : Int32) h
noncomputable def F_X6_thickBeyondJoin_44 (n : Nat) (rc4 : Nat → Int32 → Int32 → jH → Option Int32) (a0 : Nat) (x2 : Int32) (s0 : Int32) (s1 : Int32) (s2 : Int32) (h : jH) : Option Int32 :=
  (F_X11_withBit n s0 s1 s2 h).bind fun v44 =>
  rc4 a0 v44 (x2 + (1 : Int32)) h
noncomputable def F_X6_thickBeyondJoin_4_b (n : Nat) (rc4 : Nat → Int32 → Int32 → jH → Option Int32) (a0 : Nat) (x1 : Int32) (x2 : Int32) (h : jH) : Option Int32 :=
  (jgI 6 h a0 5).bind fun v6 =>
  if v6 ≤ x2 then (some x1)
  else ((jgI 6 h a0 6).bind fun v15 =>
  (F_X11_bit n v15 x2 h).bind fun v19 =>
  if v19 = (1 : Int32) then ((jgR 6 h a0 0).bind fun p27 =>
  (jal 0 h p27 x2).bind fun v31 =>
  (jgI 6 h a0 11).bind fun v33 =>
  if v31 < v33 then (F_X6_thickBeyondJoin_44 n rc4 a0 x2 x1 x2 (0 : Int32) h)
  else (F_X6_thickBeyondJoin_44 n rc4 a0 x2 x1 x2 (1 : Int32) h))
  else (F_X6_thickBeyondJoin_44 n rc4 a0 x2 x1 x2 (0 : Int32) h))
noncomputable def F_X6_thickBeyondJoin_4 (n : Nat) : Nat → Nat → Int32 → Int32 → jH → Option Int32
  | 0 => fun _ _ _ _ => none
  | k + 1 => F_X6_thickBeyondJoin_4_b n (F_X6_thickBeyondJoin_4 n k)
noncomputable def F_X6_thickBeyondJoin (n : Nat) (a0 : Nat) (h : jH) : Option Int32 :=
  F_X6_thickBeyondJoin_4 n n a0 (0 : Int32) (0 : Int32) h
noncomputable def F_X6_likePairs_16_b (n : Nat) (rc4 : Nat → Int32 → Int32 → jH → Option Int32) (rc16 : Nat → Int32 → Int32 → Int32 → jH → Option Int32) (a0 : Nat) (x1 : Int32) (x2 : Int32) (x3 : Int32) (h : jH) : Option Int32 :=
  (jgI 6 h a0 5).bind fun v18 =>
  if v18 ≤ x3 then (rc4 a0 x1 (x2 + (1 : Int32)) h)
  else ((jgR 6 h a0 1).bind fun p25 =>
  (jal 0 h p25 x2).bind fun v29 =>
  (jgR 6 h a0 1).bind fun p31 =>
  (jal 0 h p31 x3).bind fun v35 =>
  if v29 = v35 then ((jgR 6 h a0 3).bind fun p40 =>
  (jal 0 h p40 x2).bind fun v44 =>
  (jgR 6 h a0 3).bind fun p46 =>
  (jal 0 h p46 x3).bind fun v50 =>
  if v44 = v50 then ((jgR 6 h a0 2).bind fun p55 =>
  (jal 0 h p55 x2).bind fun v59 =>
  (jgR 6 h a0 2).bind fun p61 =>
  (jal 0 h p61 x3).bind fun v65 =>
  if v59 = v65 then (rc16 a0 (x1 + (1 : Int32)) x2 (x3 + (1 : Int32)) h)
  else (rc16 a0 x1 x2 (x3 + (1 : Int32)) h))
  else (rc16 a0 x1 x2 (x3 + (1 : Int32)) h))
  else (rc16 a0 x1 x2 (x3 + (1 : Int32)) h))
noncomputable def F_X6_likePairs_16 (n : Nat) (rc4 : Nat → Int32 → Int32 → jH → Option Int32) : Nat → Nat → Int32 → Int32 → Int32 → jH → Option Int32
  | 0 => fun _ _ _ _ _ => none
  | k + 1 => F_X6_likePairs_16_b n rc4 (F_X6_likePairs_16 n rc4 k)
noncomputable def F_X6_likePairs_4_b (n : Nat) (rc4 : Nat → Int32 → Int32 → jH → Option Int32) (a0 : Nat) (x1 : Int32) (x2 : Int32) (h : jH) : Option Int32 :=
  (jgI 6 h a0 5).bind fun v6 =>
  if v6 ≤ x2 then (some x1)
  else (F_X6_likePairs_16 n rc4 n a0 x1 x2 (x2 + (1 : Int32)) h)
noncomputable def F_X6_likePairs_4 (n : Nat) : Nat → Nat → Int32 → Int32 → jH → Option Int32
  | 0 => fun _ _ _ _ => none
  | k + 1 => F_X6_likePairs_4_b n (F_X6_likePairs_4 n k)
noncomputable def F_X6_likePairs (n : Nat) (a0 : Nat) (h : jH) : Option Int32 :=
  F_X6_likePairs_4 n n a0 (0 : Int32) (0 : Int32) h
noncomputable def F_X7_init (n : Nat) (a0 : Nat) (a1 : Nat) (a2 : Nat) (h : jH) : Option jH :=
  (jnw h (.inr (.inl (0, 128, fun _ => 0)))).bind fun h8 =>
  (jpf 5 h8 a0 2 (.ref h.1)).bind fun h10 =>
  (jnw h10 (.inr (.inl (0, 32, fun _ => 0)))).bind fun h16 =>
  (jpf 5 h16 a0 3 (.ref h10.1)).bind fun h18 =>
  (jpf 5 h18 a0 0 (.ref a1)).bind fun h23 =>
  (jpf 5 h23 a0 1 (.ref a2)).bind fun h28 =>
  some h28
noncomputable def F_X8_shadow_4_b (n : Nat) (rc4 : Nat → Int32 → Int32 → jH → Option Int32) (a0 : Nat) (x1 : Int32) (x2 : Int32) (h : jH) : Option Int32 :=
  (jgI 6 h a0 5).bind fun v8 =>
  if v8 ≤ (x2 + (1 : Int32)) then (some x1)
  else ((jgI 6 h a0 8).bind fun v15 =>
  (F_X11_bit n v15 x2 h).bind fun v19 =>
  if v19 = (1 : Int32) then ((jgI 6 h a0 8).bind fun v27 =>
  (F_X11_bit n v27 (x2 + (1 : Int32)) h).bind fun v33 =>
  if v33 = (1 : Int32) then ((jgR 6 h a0 0).bind fun p43 =>
  (jal 0 h p43 x2).bind fun v47 =>
  (jgR 6 h a0 0).bind fun p53 =>
  (jal 0 h p53 (x2 + (1 : Int32))).bind fun v59 =>
  rc4 a0 (x1 ||| (((-1 : Int32) <<< (v47 &&& 31)) &&& (jushr (-1 : Int32) ((31 : Int32) - v59)))) (x2 + (1 : Int32)) h)
  else (rc4 a0 x1 (x2 + (1 : Int32)) h))
  else (rc4 a0 x1 (x2 + (1 : Int32)) h))
noncomputable def F_X8_shadow_4 (n : Nat) : Nat → Nat → Int32 → Int32 → jH → Option Int32
  | 0 => fun _ _ _ _ => none
  | k + 1 => F_X8_shadow_4_b n (F_X8_shadow_4 n k)
noncomputable def F_X8_shadow (n : Nat) (a0 : Nat) (h : jH) : Option Int32 :=
  F_X8_shadow_4 n n a0 (0 : Int32) (0 : Int32) h
noncomputable def F_X8_shadedChairs (n : Nat) (a0 : Nat) (h : jH) : Option Int32 :=
  (jgI 6 h a0 10).bind fun v1 =>
  (jcv 6 h a0 (F_X8_shadow n a0 h)).bind fun v5 =>
  (F_J6_bitCount_0f7a4 n (v1 &&& v5) h).bind fun v9 =>
  some v9
noncomputable def F_X8_goTogether (n : Nat) (a0 : Nat) (x1 : Int32) (x2 : Int32) (h : jH) : Option Int32 :=
  (jgR 6 h a0 0).bind fun p1 =>
  (jal 0 h p1 (x1 + (1 : Int32))).bind fun v7 =>
  (jgR 6 h a0 0).bind fun p9 =>
  (jal 0 h p9 x1).bind fun v13 =>
  (jgI 6 h a0 9).bind fun v17 =>
  if ((jushr v17 x1) &&& (1 : Int32)) = (1 : Int32) then (some (1 : Int32))
  else (if x2 = 0 then ((jgR 6 h a0 1).bind fun p44 =>
  (jal 0 h p44 x1).bind fun v48 =>
  if ((v7 - v13) + (1 : Int32)) ≤ v48 then (some (0 : Int32))
  else (some (1 : Int32)))
  else (if (v7 - v13) = (1 : Int32) then (some (1 : Int32))
  else (some (0 : Int32))))
noncomputable def F_X8_isStopped_16 (n : Nat) (a0 : Nat) (x1 : Int32) (x2 : Int32) (s0 : Int32) (s1 : Int32) (h : jH) : Option Int32 :=
  if s0 = s1 then (some (1 : Int32))
  else ((jgI 6 h a0 6).bind fun v22 =>
  if ((jushr v22 x1) &&& (1 : Int32)) = (1 : Int32) then ((jgR 6 h a0 0).bind fun p34 =>
  (jal 0 h p34 x1).bind fun v38 =>
  if x2 = 0 then ((jgI 6 h a0 11).bind fun v53 =>
  if v38 = v53 then (some (1 : Int32))
  else (some (0 : Int32)))
  else ((jgI 6 h a0 11).bind fun v44 =>
  if v38 = (v44 - (1 : Int32)) then (some (1 : Int32))
  else (some (0 : Int32))))
  else (some (0 : Int32)))
noncomputable def F_X8_isStopped (n : Nat) (a0 : Nat) (x1 : Int32) (x2 : Int32) (h : jH) : Option Int32 :=
  (jgR 6 h a0 0).bind fun p1 =>
  (jal 0 h p1 x1).bind fun v5 =>
  if x2 = 0 then (F_X8_isStopped_16 n a0 x1 x2 v5 (0 : Int32) h)
  else (F_X8_isStopped_16 n a0 x1 x2 v5 (31 : Int32) h)
noncomputable def F_X8_goers_64_b (n : Nat) (rc64 : Nat → Int32 → Int32 → Int32 → Int32 → jH → Option Int32) (a0 : Nat) (x2 : Int32) (x3 : Int32) (x4 : Int32) (x5 : Int32) (h : jH) : Option Int32 :=
  if x4 < x5 then (some (((1 : Int32) <<< ((x4 + (1 : Int32)) &&& 31)) - ((1 : Int32) <<< (x3 &&& 31))))
  else ((jcv 6 h a0 (F_X8_isStopped n a0 x5 x2 h)).bind fun v75 =>
  if v75 = 0 then (rc64 a0 x2 x3 x4 (x5 + (1 : Int32)) h)
  else (some (0 : Int32)))
noncomputable def F_X8_goers_64 (n : Nat) : Nat → Nat → Int32 → Int32 → Int32 → Int32 → jH → Option Int32
  | 0 => fun _ _ _ _ _ _ => none
  | k + 1 => F_X8_goers_64_b n (F_X8_goers_64 n k)
noncomputable def F_X8_goers_49 (n : Nat) (rc32 : Nat → Int32 → Int32 → Int32 → jH → Option Int32) (a0 : Nat) (x2 : Int32) (x3 : Int32) (x4 : Int32) (sa0 : Nat) (s1 : Int32) (s2 : Int32) (h : jH) : Option Int32 :=
  (jcv 6 h sa0 (F_X8_goTogether n sa0 s1 s2 h)).bind fun v49 =>
  if v49 = 0 then (F_X8_goers_64 n n a0 x2 x3 x4 x3 h)
  else (rc32 a0 x2 (x3 + (-1 : Int32)) x4 h)
noncomputable def F_X8_goers_32_b (n : Nat) (rc32 : Nat → Int32 → Int32 → Int32 → jH → Option Int32) (a0 : Nat) (x2 : Int32) (x3 : Int32) (x4 : Int32) (h : jH) : Option Int32 :=
  if x3 ≤ 0 then (F_X8_goers_64 n n a0 x2 x3 x4 x3 h)
  else (if x2 = 0 then (F_X8_goers_49 n rc32 a0 x2 x3 x4 a0 (x3 - (1 : Int32)) (1 : Int32) h)
  else (F_X8_goers_49 n rc32 a0 x2 x3 x4 a0 (x3 - (1 : Int32)) (0 : Int32) h))
noncomputable def F_X8_goers_32 (n : Nat) : Nat → Nat → Int32 → Int32 → Int32 → jH → Option Int32
  | 0 => fun _ _ _ _ _ => none
  | k + 1 => F_X8_goers_32_b n (F_X8_goers_32 n k)
noncomputable def F_X8_goers_5_b (n : Nat) (rc5 : Nat → Int32 → Int32 → Int32 → jH → Option Int32) (a0 : Nat) (x2 : Int32) (x3 : Int32) (x4 : Int32) (h : jH) : Option Int32 :=
  (jgI 6 h a0 5).bind fun v10 =>
  if v10 ≤ (x4 + (1 : Int32)) then (F_X8_goers_32 n n a0 x2 x3 x4 h)
  else ((jcv 6 h a0 (F_X8_goTogether n a0 x4 x2 h)).bind fun v20 =>
  if v20 = 0 then (F_X8_goers_32 n n a0 x2 x3 x4 h)
  else (rc5 a0 x2 x3 (x4 + (1 : Int32)) h))
noncomputable def F_X8_goers_5 (n : Nat) : Nat → Nat → Int32 → Int32 → Int32 → jH → Option Int32
  | 0 => fun _ _ _ _ _ => none
  | k + 1 => F_X8_goers_5_b n (F_X8_goers_5 n k)
noncomputable def F_X8_goers (n : Nat) (a0 : Nat) (x1 : Int32) (x2 : Int32) (h : jH) : Option Int32 :=
  F_X8_goers_5 n n a0 x2 x1 x1 h
noncomputable def F_X8_move_28_b (n : Nat) (rc3 : Nat → Int32 → Int32 → Int32 → Int32 → jH → Option (Int32 × jH)) (rc28 : Nat → Int32 → Int32 → Int32 → Int32 → Int32 → Int32 → jH → Option (Int32 × jH)) (a0 : Nat) (x1 : Int32) (x2 : Int32) (x3 : Int32) (x4 : Int32) (x5 : Int32) (x6 : Int32) (h : jH) : Option (Int32 × jH) :=
  (jgI 6 h a0 5).bind fun v31 =>
  if v31 ≤ x6 then ((jgI 6 h a0 15).bind fun v78 =>
  (jgI 6 h a0 7).bind fun v84 =>
  (F_J6_bitCount_0f7a4 n (x5 &&& (v84 ^^^ (-1 : Int32))) h).bind fun v90 =>
  (jpf 6 h a0 15 (.int (if (v78 + v90) < (9999 : Int32) then v78 + v90 else (9999 : Int32)))).bind fun h97 =>
  rc3 a0 x1 x2 x3 (x4 + (1 : Int32)) h97)
  else ((F_X11_bit n x5 x6 h).bind fun v41 =>
  if v41 = (1 : Int32) then ((jgR 6 h a0 0).bind fun p49 =>
  (jal 0 h p49 x6).bind fun v55 =>
  if x2 = 0 then ((jas 0 h p49 x6 (v55 + (-1 : Int32))).bind fun h66 =>
  rc28 a0 x1 x2 x3 x4 x5 (x6 + (1 : Int32)) h66)
  else ((jas 0 h p49 x6 (v55 + (1 : Int32))).bind fun h66 =>
  rc28 a0 x1 x2 x3 x4 x5 (x6 + (1 : Int32)) h66))
  else (rc28 a0 x1 x2 x3 x4 x5 (x6 + (1 : Int32)) h))
noncomputable def F_X8_move_28 (n : Nat) (rc3 : Nat → Int32 → Int32 → Int32 → Int32 → jH → Option (Int32 × jH)) : Nat → Nat → Int32 → Int32 → Int32 → Int32 → Int32 → Int32 → jH → Option (Int32 × jH)
  | 0 => fun _ _ _ _ _ _ _ _ => none
  | k + 1 => F_X8_move_28_b n rc3 (F_X8_move_28 n rc3 k)
noncomputable def F_X8_move_3_b (n : Nat) (rc3 : Nat → Int32 → Int32 → Int32 → Int32 → jH → Option (Int32 × jH)) (a0 : Nat) (x1 : Int32) (x2 : Int32) (x3 : Int32) (x4 : Int32) (h : jH) : Option (Int32 × jH) :=
  if x3 ≤ x4 then (some (x3, h))
  else ((jcv 6 h a0 (F_X8_goers n a0 x1 x2 h)).bind fun v12 =>
  if v12 = 0 then (some (x4, h))
  else (F_X8_move_28 n rc3 n a0 x1 x2 x3 x4 v12 (0 : Int32) h))
noncomputable def F_X8_move_3 (n : Nat) : Nat → Nat → Int32 → Int32 → Int32 → Int32 → jH → Option (Int32 × jH)
  | 0 => fun _ _ _ _ _ _ => none
  | k + 1 => F_X8_move_3_b n (F_X8_move_3 n k)
noncomputable def F_X8_move (n : Nat) (a0 : Nat) (x1 : Int32) (x2 : Int32) (x3 : Int32) (h : jH) : Option (Int32 × jH) :=
  F_X8_move_3 n n a0 x1 x2 x3 (0 : Int32) h
noncomputable def F_X7_shadiest_68 (n : Nat) (rc18 : Nat → Nat → Int32 → Int32 → Int32 → jH → Option (Int32 × jH)) (rc40 : Nat → Nat → Int32 → Int32 → Int32 → Int32 → jH → Option (Int32 × jH)) (a0 : Nat) (a1 : Nat) (x2 : Int32) (x3 : Int32) (x4 : Int32) (x5 : Int32) (sa0 : Nat) (s1 : Int32) (s2 : Int32) (h : jH) : Option (Int32 × jH) :=
  (jcv 6 h sa0 (F_X8_move n sa0 s1 s2 (1 : Int32) h)).bind fun q69 =>
  if q69.1 = (1 : Int32) then ((jgR 5 q69.2 a0 1).bind fun p77 =>
  (jcv 6 q69.2 p77 (F_X8_shadedChairs n p77 q69.2)).bind fun v80 =>
  if v80 ≤ x2 then (rc40 a0 a1 x2 x3 x4 (x5 + (1 : Int32)) q69.2)
  else (rc40 a0 a1 v80 (((32 : Int32) * x4) + x5) x4 (x5 + (1 : Int32)) q69.2))
  else (rc18 a0 a1 x2 x3 (x4 + (1 : Int32)) q69.2)
noncomputable def F_X7_shadiest_40_b (n : Nat) (rc18 : Nat → Nat → Int32 → Int32 → Int32 → jH → Option (Int32 × jH)) (rc40 : Nat → Nat → Int32 → Int32 → Int32 → Int32 → jH → Option (Int32 × jH)) (a0 : Nat) (a1 : Nat) (x2 : Int32) (x3 : Int32) (x4 : Int32) (x5 : Int32) (h : jH) : Option (Int32 × jH) :=
  if (31 : Int32) < x5 then (rc18 a0 a1 x2 x3 (x4 + (1 : Int32)) h)
  else ((jgR 5 h a0 1).bind fun p48 =>
  if (x4 - x4 / (2 : Int32) * (2 : Int32)) = (1 : Int32) then (F_X7_shadiest_68 n rc18 rc40 a0 a1 x2 x3 x4 x5 p48 (x4 / (2 : Int32)) (1 : Int32) h)
  else (F_X7_shadiest_68 n rc18 rc40 a0 a1 x2 x3 x4 x5 p48 (x4 / (2 : Int32)) (0 : Int32) h))
noncomputable def F_X7_shadiest_40 (n : Nat) (rc18 : Nat → Nat → Int32 → Int32 → Int32 → jH → Option (Int32 × jH)) : Nat → Nat → Nat → Int32 → Int32 → Int32 → Int32 → jH → Option (Int32 × jH)
  | 0 => fun _ _ _ _ _ _ _ => none
  | k + 1 => F_X7_shadiest_40_b n rc18 (F_X7_shadiest_40 n rc18 k)
noncomputable def F_X7_shadiest_18_b (n : Nat) (rc18 : Nat → Nat → Int32 → Int32 → Int32 → jH → Option (Int32 × jH)) (a0 : Nat) (a1 : Nat) (x2 : Int32) (x3 : Int32) (x4 : Int32) (h : jH) : Option (Int32 × jH) :=
  (jgI 6 h a1 5).bind fun v22 =>
  if ((2 : Int32) * v22) ≤ x4 then (some (x3, h))
  else ((jgR 5 h a0 1).bind fun p30 =>
  (jcv 6 h p30 (F_X8_hangAs n p30 a1 h)).bind fun h34 =>
  F_X7_shadiest_40 n rc18 n a0 a1 x2 x3 x4 (1 : Int32) h34)
noncomputable def F_X7_shadiest_18 (n : Nat) : Nat → Nat → Nat → Int32 → Int32 → Int32 → jH → Option (Int32 × jH)
  | 0 => fun _ _ _ _ _ _ => none
  | k + 1 => F_X7_shadiest_18_b n (F_X7_shadiest_18 n k)
noncomputable def F_X7_shadiest (n : Nat) (a0 : Nat) (a1 : Nat) (h : jH) : Option (Int32 × jH) :=
  (jgR 5 h a0 1).bind fun p1 =>
  (jcv 6 h p1 (F_X8_copyFrom n p1 a1 h)).bind fun h5 =>
  (jcv 6 h5 a1 (F_X8_shadedChairs n a1 h5)).bind fun v9 =>
  F_X7_shadiest_18 n n a0 a1 v9 (-1 : Int32) (0 : Int32) h5
noncomputable def F_X7_stepsToShade_37 (n : Nat) (rc11 : Nat → Int32 → Int32 → Int32 → jH → Option (Int32 × jH)) (a0 : Nat) (x2 : Int32) (x3 : Int32) (x4 : Int32) (sa0 : Nat) (s1 : Int32) (s2 : Int32) (h : jH) : Option (Int32 × jH) :=
  (jcv 6 h sa0 (F_X8_move n sa0 s1 s2 (1 : Int32) h)).bind fun q38 =>
  if q38.1 = (1 : Int32) then ((jgR 5 q38.2 a0 1).bind fun p46 =>
  (jcv 6 q38.2 p46 (F_X8_shadow n p46 q38.2)).bind fun v49 =>
  if (v49 &&& x2) = x2 then (some (x4, q38.2))
  else (rc11 a0 x2 x3 (x4 + (1 : Int32)) q38.2))
  else (some ((-1 : Int32), q38.2))
noncomputable def F_X7_stepsToShade_11_b (n : Nat) (rc11 : Nat → Int32 → Int32 → Int32 → jH → Option (Int32 × jH)) (a0 : Nat) (x2 : Int32) (x3 : Int32) (x4 : Int32) (h : jH) : Option (Int32 × jH) :=
  if (31 : Int32) < x4 then (some ((-1 : Int32), h))
  else ((jgR 5 h a0 1).bind fun p19 =>
  if (x3 - x3 / (2 : Int32) * (2 : Int32)) = (1 : Int32) then (F_X7_stepsToShade_37 n rc11 a0 x2 x3 x4 p19 (x3 / (2 : Int32)) (1 : Int32) h)
  else (F_X7_stepsToShade_37 n rc11 a0 x2 x3 x4 p19 (x3 / (2 : Int32)) (0 : Int32) h))
noncomputable def F_X7_stepsToShade_11 (n : Nat) : Nat → Nat → Int32 → Int32 → Int32 → jH → Option (Int32 × jH)
  | 0 => fun _ _ _ _ _ => none
  | k + 1 => F_X7_stepsToShade_11_b n (F_X7_stepsToShade_11 n k)
noncomputable def F_X7_stepsToShade (n : Nat) (a0 : Nat) (a1 : Nat) (x2 : Int32) (x3 : Int32) (h : jH) : Option (Int32 × jH) :=
  (jgR 5 h a0 1).bind fun p1 =>
  (jcv 6 h p1 (F_X8_hangAs n p1 a1 h)).bind fun h5 =>
  F_X7_stepsToShade_11 n n a0 x2 x3 (1 : Int32) h5
noncomputable def F_X7_seekShade_42_b (n : Nat) (rc42 : Nat → Nat → Int32 → Int32 → jH → Option jH) (a0 : Nat) (a1 : Nat) (x2 : Int32) (x3 : Int32) (h : jH) : Option jH :=
  (jgI 6 h a1 5).bind fun v45 =>
  if ((2 : Int32) * v45) ≤ x3 then (some h)
  else ((jcv 5 h a0 (F_X7_stepsToShade n a0 a1 x2 x3 h)).bind fun q56 =>
  if q56.1 = (-1 : Int32) then (rc42 a0 a1 x2 (x3 + (1 : Int32)) q56.2)
  else ((jgI 5 q56.2 a0 5).bind fun v68 =>
  if v68 = (-1 : Int32) then ((jpf 5 q56.2 a0 5 (.int q56.1)).bind fun h87 =>
  (jpf 5 h87 a0 6 (.int x3)).bind fun h92 =>
  rc42 a0 a1 x2 (x3 + (1 : Int32)) h92)
  else ((jgI 5 q56.2 a0 5).bind fun v78 =>
  if v78 ≤ q56.1 then (rc42 a0 a1 x2 (x3 + (1 : Int32)) q56.2)
  else ((jpf 5 q56.2 a0 5 (.int q56.1)).bind fun h87 =>
  (jpf 5 h87 a0 6 (.int x3)).bind fun h92 =>
  rc42 a0 a1 x2 (x3 + (1 : Int32)) h92))))
noncomputable def F_X7_seekShade_42 (n : Nat) : Nat → Nat → Nat → Int32 → Int32 → jH → Option jH
  | 0 => fun _ _ _ _ _ => none
  | k + 1 => F_X7_seekShade_42_b n (F_X7_seekShade_42 n k)
noncomputable def F_X7_seekShade_21 (n : Nat) (a0 : Nat) (a1 : Nat) (x2 : Int32) (sa0 : Nat) (s1 : Int32) (h : jH) : Option jH :=
  (jpf 5 h sa0 5 (.int s1)).bind fun h21 =>
  (jgI 5 h21 a0 5).bind fun v25 =>
  if v25 = 0 then (some h21)
  else ((jgR 5 h21 a0 1).bind fun p33 =>
  (jcv 6 h21 p33 (F_X8_copyFrom n p33 a1 h21)).bind fun h37 =>
  F_X7_seekShade_42 n n a0 a1 x2 (0 : Int32) h37)
noncomputable def F_X7_seekShade (n : Nat) (a0 : Nat) (a1 : Nat) (x2 : Int32) (h : jH) : Option jH :=
  (jpf 5 h a0 6 (.int (-1 : Int32))).bind fun h2 =>
  (jcv 6 h2 a1 (F_X8_shadow n a1 h2)).bind fun v7 =>
  if (v7 &&& x2) = x2 then (F_X7_seekShade_21 n a0 a1 x2 a0 (0 : Int32) h2)
  else (F_X7_seekShade_21 n a0 a1 x2 a0 (-1 : Int32) h2)
noncomputable def F_X7_farWith (n : Nat) (a0 : Nat) (a1 : Nat) (x2 : Int32) (x3 : Int32) (x4 : Int32) (x5 : Int32) (h : jH) : Option (Int32 × jH) :=
  (jgR 5 h a0 1).bind fun p1 =>
  (jcv 6 h p1 (F_X8_hangAs n p1 a1 h)).bind fun h5 =>
  (jgR 5 h5 a0 1).bind fun p9 =>
  (jpf 6 h5 p9 9 (.int x2)).bind fun h13 =>
  (jgR 5 h13 a0 1).bind fun p17 =>
  (jcv 6 h13 p17 (F_X8_move n p17 x3 x4 x5 h13)).bind fun q25 =>
  some (q25.1, q25.2)
noncomputable def F_X7_fewestFreed_46 (n : Nat) (rc14 : Nat → Nat → Int32 → Int32 → Int32 → Int32 → Int32 → jH → Option (Int32 × jH)) (a0 : Nat) (a1 : Nat) (x2 : Int32) (x3 : Int32) (x4 : Int32) (x5 : Int32) (x6 : Int32) (s0 : Int32) (h : jH) : Option (Int32 × jH) :=
  (jgI 6 h a1 9).bind fun v51 =>
  if (x6 &&& (v51 ^^^ (-1 : Int32))) = 0 then (if s0 = 0 then (rc14 a0 a1 x2 x3 x4 x5 (x6 + (1 : Int32)) h)
  else ((jgI 6 h a1 9).bind fun v68 =>
  (jcv 5 h a0 (F_X7_farWith n a0 a1 (v68 &&& (x6 ^^^ (-1 : Int32))) x2 x3 x4 h)).bind fun q80 =>
  if q80.1 = x4 then (rc14 a0 a1 x2 x3 x4 x6 (x6 + (1 : Int32)) q80.2)
  else (rc14 a0 a1 x2 x3 x4 x5 (x6 + (1 : Int32)) q80.2)))
  else (rc14 a0 a1 x2 x3 x4 x5 (x6 + (1 : Int32)) h)
noncomputable def F_X7_fewestFreed_14_b (n : Nat) (rc14 : Nat → Nat → Int32 → Int32 → Int32 → Int32 → Int32 → jH → Option (Int32 × jH)) (a0 : Nat) (a1 : Nat) (x2 : Int32) (x3 : Int32) (x4 : Int32) (x5 : Int32) (x6 : Int32) (h : jH) : Option (Int32 × jH) :=
  if (128 : Int32) ≤ x6 then (some (x5, h))
  else (if x5 = (-1 : Int32) then (F_X7_fewestFreed_46 n rc14 a0 a1 x2 x3 x4 x5 x6 (1 : Int32) h)
  else ((F_J6_bitCount_0f7a4 n x6 h).bind fun v30 =>
  (F_J6_bitCount_0f7a4 n x5 h).bind fun v35 =>
  if v35 ≤ v30 then (F_X7_fewestFreed_46 n rc14 a0 a1 x2 x3 x4 x5 x6 (0 : Int32) h)
  else (F_X7_fewestFreed_46 n rc14 a0 a1 x2 x3 x4 x5 x6 (1 : Int32) h)))
noncomputable def F_X7_fewestFreed_14 (n : Nat) : Nat → Nat → Nat → Int32 → Int32 → Int32 → Int32 → Int32 → jH → Option (Int32 × jH)
  | 0 => fun _ _ _ _ _ _ _ _ => none
  | k + 1 => F_X7_fewestFreed_14_b n (F_X7_fewestFreed_14 n k)
noncomputable def F_X7_fewestFreed (n : Nat) (a0 : Nat) (a1 : Nat) (x2 : Int32) (x3 : Int32) (x4 : Int32) (h : jH) : Option (Int32 × jH) :=
  (jgR 5 h a0 1).bind fun p1 =>
  (jcv 6 h p1 (F_X8_copyFrom n p1 a1 h)).bind fun h5 =>
  F_X7_fewestFreed_14 n n a0 a1 x2 x3 x4 (-1 : Int32) (0 : Int32) h5
noncomputable def F_X10_at (n : Nat) (a0 : Nat) (x1 : Int32) (h : jH) : Option Int32 :=
  if x1 < 0 then (some (-1 : Int32))
  else ((jgI 8 h a0 6).bind fun v6 =>
  if v6 ≤ x1 then (some (-1 : Int32))
  else (if x1 < (400 : Int32) then ((jgR 8 h a0 0).bind fun p24 =>
  (jal 1 h p24 x1).bind fun v28 =>
  some (v28 &&& (255 : Int32)))
  else (some (-1 : Int32))))
noncomputable def F_X7_areRows_29_b (n : Nat) (rc29 : Nat → Int32 → Int32 → jH → Option Int32) (a0 : Nat) (x1 : Int32) (x2 : Int32) (h : jH) : Option Int32 :=
  (jgR 5 h a0 0).bind fun p31 =>
  (jgI 8 h p31 6).bind fun v34 =>
  if v34 ≤ x2 then (some (1 : Int32))
  else ((jgR 5 h a0 0).bind fun p41 =>
  (jcv 8 h p41 (F_X10_at n p41 x2 h)).bind fun v45 =>
  if x1 ≤ v45 then (some (0 : Int32))
  else ((jgR 5 h a0 0).bind fun p53 =>
  (jcv 8 h p53 (F_X10_at n p53 (x2 + (1 : Int32)) h)).bind fun v59 =>
  if (1 : Int32) < v59 then (some (0 : Int32))
  else ((jgR 5 h a0 0).bind fun p67 =>
  (jcv 8 h p67 (F_X10_at n p67 (x2 + (2 : Int32)) h)).bind fun v73 =>
  if v73 < (1 : Int32) then (some (0 : Int32))
  else ((jgR 5 h a0 0).bind fun p81 =>
  (jcv 8 h p81 (F_X10_at n p81 (x2 + (2 : Int32)) h)).bind fun v87 =>
  if (31 : Int32) < v87 then (some (0 : Int32))
  else ((jgR 5 h a0 0).bind fun p96 =>
  (jcv 8 h p96 (F_X10_at n p96 (x2 + (3 : Int32)) h)).bind fun v102 =>
  if v102 ≤ (31 : Int32) then (rc29 a0 x1 (x2 + (4 : Int32)) h)
  else (some (0 : Int32)))))))
noncomputable def F_X7_areRows_29 (n : Nat) : Nat → Nat → Int32 → Int32 → jH → Option Int32
  | 0 => fun _ _ _ _ => none
  | k + 1 => F_X7_areRows_29_b n (F_X7_areRows_29 n k)
noncomputable def F_X7_areRows (n : Nat) (a0 : Nat) (x1 : Int32) (h : jH) : Option Int32 :=
  (jgR 5 h a0 0).bind fun p1 =>
  (jgI 8 h p1 6).bind fun v4 =>
  if (v4 - v4 / (4 : Int32) * (4 : Int32)) = 0 then ((jgR 5 h a0 0).bind fun p13 =>
  (jgI 8 h p13 6).bind fun v16 =>
  if v16 ≤ (160 : Int32) then (F_X7_areRows_29 n n a0 x1 (0 : Int32) h)
  else (some (0 : Int32)))
  else (some (0 : Int32))
noncomputable def F_X7_isFitting_43 (n : Nat) (rc2 : Nat → Nat → Int32 → Int32 → jH → Option (Int32 × jH)) (a0 : Nat) (a1 : Nat) (x2 : Int32) (x3 : Int32) (sa0 : Nat) (sa1 : Nat) (s2 : Int32) (s3 : Int32) (s4 : Int32) (h : jH) : Option (Int32 × jH) :=
  (jgR 5 h a0 0).bind fun p44 =>
  (jcv 8 h p44 (F_X10_at n p44 (x3 + (2 : Int32)) h)).bind fun v50 =>
  (jcv 5 h sa0 (F_X7_farWith n sa0 sa1 s2 s3 s4 v50 h)).bind fun q53 =>
  (jgR 5 q53.2 a0 0).bind fun p61 =>
  (jcv 8 q53.2 p61 (F_X10_at n p61 (x3 + (3 : Int32)) q53.2)).bind fun v67 =>
  if q53.1 = v67 then (rc2 a0 a1 x2 (x3 + (4 : Int32)) q53.2)
  else (some ((0 : Int32), q53.2))
noncomputable def F_X7_isFitting_2_b (n : Nat) (rc2 : Nat → Nat → Int32 → Int32 → jH → Option (Int32 × jH)) (a0 : Nat) (a1 : Nat) (x2 : Int32) (x3 : Int32) (h : jH) : Option (Int32 × jH) :=
  (jgR 5 h a0 0).bind fun p4 =>
  (jgI 8 h p4 6).bind fun v7 =>
  if v7 ≤ x3 then (some ((1 : Int32), h))
  else ((jgR 5 h a0 0).bind fun p17 =>
  (jcv 8 h p17 (F_X10_at n p17 x3 h)).bind fun v21 =>
  (jgR 5 h a0 0).bind fun p25 =>
  (jcv 8 h p25 (F_X10_at n p25 (x3 + (1 : Int32)) h)).bind fun v31 =>
  if v31 = (1 : Int32) then (F_X7_isFitting_43 n rc2 a0 a1 x2 x3 a0 a1 x2 v21 (1 : Int32) h)
  else (F_X7_isFitting_43 n rc2 a0 a1 x2 x3 a0 a1 x2 v21 (0 : Int32) h))
noncomputable def F_X7_isFitting_2 (n : Nat) : Nat → Nat → Nat → Int32 → Int32 → jH → Option (Int32 × jH)
  | 0 => fun _ _ _ _ _ => none
  | k + 1 => F_X7_isFitting_2_b n (F_X7_isFitting_2 n k)
noncomputable def F_X7_isFitting (n : Nat) (a0 : Nat) (a1 : Nat) (x2 : Int32) (h : jH) : Option (Int32 × jH) :=
  F_X7_isFitting_2 n n a0 a1 x2 (0 : Int32) h
noncomputable def F_X7_seekSnags_35_b (n : Nat) (rc35 : Nat → Nat → Int32 → Int32 → jH → Option jH) (a0 : Nat) (a1 : Nat) (x2 : Int32) (x3 : Int32) (h : jH) : Option jH :=
  if x2 ≤ x3 then (some h)
  else ((jgI 5 h a0 4).bind fun v41 =>
  if (128 : Int32) ≤ v41 then (some h)
  else ((jcv 5 h a0 (F_X7_isFitting n a0 a1 x3 h)).bind fun q53 =>
  if q53.1 = 0 then (rc35 a0 a1 x2 (x3 + (1 : Int32)) q53.2)
  else ((jgR 5 q53.2 a0 2).bind fun p60 =>
  (jgI 5 q53.2 a0 4).bind fun v64 =>
  (jas 0 q53.2 p60 v64 x3).bind fun h68 =>
  (jgI 5 h68 a0 4).bind fun v71 =>
  (jpf 5 h68 a0 4 (.int (v71 + (1 : Int32)))).bind fun h76 =>
  rc35 a0 a1 x2 (x3 + (1 : Int32)) h76)))
noncomputable def F_X7_seekSnags_35 (n : Nat) : Nat → Nat → Nat → Int32 → Int32 → jH → Option jH
  | 0 => fun _ _ _ _ _ => none
  | k + 1 => F_X7_seekSnags_35_b n (F_X7_seekSnags_35 n k)
noncomputable def F_X7_seekSnags (n : Nat) (a0 : Nat) (a1 : Nat) (h : jH) : Option jH :=
  (jgR 5 h a0 1).bind fun p1 =>
  (jcv 6 h p1 (F_X8_copyFrom n p1 a1 h)).bind fun h5 =>
  (jpf 5 h5 a0 4 (.int (0 : Int32))).bind fun h10 =>
  (jgI 6 h10 a1 5).bind fun v14 =>
  if v14 = 0 then (F_X7_seekSnags_35 n n a0 a1 (1 : Int32) (0 : Int32) h10)
  else ((jgI 6 h10 a1 5).bind fun v26 =>
  F_X7_seekSnags_35 n n a0 a1 ((1 : Int32) <<< ((v26 - (1 : Int32)) &&& 31)) (0 : Int32) h10)
noncomputable def F_X7_inAllFitting_20_b (n : Nat) (rc20 : Nat → Int32 → Int32 → jH → Option Int32) (a0 : Nat) (x1 : Int32) (x2 : Int32) (h : jH) : Option Int32 :=
  (jgI 5 h a0 4).bind fun v22 =>
  if v22 ≤ x2 then (some x1)
  else ((jgR 5 h a0 2).bind fun p30 =>
  (jal 0 h p30 x2).bind fun v34 =>
  rc20 a0 (x1 &&& v34) (x2 + (1 : Int32)) h)
noncomputable def F_X7_inAllFitting_20 (n : Nat) : Nat → Nat → Int32 → Int32 → jH → Option Int32
  | 0 => fun _ _ _ _ => none
  | k + 1 => F_X7_inAllFitting_20_b n (F_X7_inAllFitting_20 n k)
noncomputable def F_X7_inAllFitting (n : Nat) (a0 : Nat) (h : jH) : Option Int32 :=
  (jgI 5 h a0 4).bind fun v1 =>
  if v1 = 0 then (F_X7_inAllFitting_20 n n a0 (0 : Int32) (1 : Int32) h)
  else ((jgR 5 h a0 2).bind fun p12 =>
  (jal 0 h p12 (0 : Int32)).bind fun v16 =>
  F_X7_inAllFitting_20 n n a0 v16 (1 : Int32) h)
noncomputable def F_X7_greatestPart_62 (n : Nat) (rc29 : Nat → Nat → Int32 → Int32 → Int32 → jH → Option (Int32 × jH)) (a0 : Nat) (a1 : Nat) (x2 : Int32) (x3 : Int32) (x4 : Int32) (sa0 : Nat) (sa1 : Nat) (s2 : Int32) (s3 : Int32) (s4 : Int32) (h : jH) : Option (Int32 × jH) :=
  (jcv 5 h sa0 (F_X7_farWith n sa0 sa1 s2 s3 s4 (31 : Int32) h)).bind fun q64 =>
  (jgR 5 q64.2 a0 3).bind fun p70 =>
  (jal 0 q64.2 p70 q64.1).bind fun v76 =>
  (jas 0 q64.2 p70 q64.1 (v76 + (1 : Int32))).bind fun h79 =>
  (jgR 5 h79 a0 3).bind fun p82 =>
  (jal 0 h79 p82 q64.1).bind fun v87 =>
  rc29 a0 a1 x2 (if x3 < v87 then v87 else x3) (x4 + (1 : Int32)) h79
noncomputable def F_X7_greatestPart_29_b (n : Nat) (rc29 : Nat → Nat → Int32 → Int32 → Int32 → jH → Option (Int32 × jH)) (a0 : Nat) (a1 : Nat) (x2 : Int32) (x3 : Int32) (x4 : Int32) (h : jH) : Option (Int32 × jH) :=
  (jgI 5 h a0 4).bind fun v32 =>
  if v32 ≤ x4 then (some (x3, h))
  else ((jgR 5 h a0 2).bind fun p41 =>
  (jal 0 h p41 x4).bind fun v46 =>
  if (x2 - x2 / (2 : Int32) * (2 : Int32)) = (1 : Int32) then (F_X7_greatestPart_62 n rc29 a0 a1 x2 x3 x4 a0 a1 v46 (x2 / (2 : Int32)) (1 : Int32) h)
  else (F_X7_greatestPart_62 n rc29 a0 a1 x2 x3 x4 a0 a1 v46 (x2 / (2 : Int32)) (0 : Int32) h))
noncomputable def F_X7_greatestPart_29 (n : Nat) : Nat → Nat → Nat → Int32 → Int32 → Int32 → jH → Option (Int32 × jH)
  | 0 => fun _ _ _ _ _ _ => none
  | k + 1 => F_X7_greatestPart_29_b n (F_X7_greatestPart_29 n k)
noncomputable def F_X7_greatestPart_2_b (n : Nat) (rc2 : Nat → Nat → Int32 → Int32 → jH → Option (Int32 × jH)) (a0 : Nat) (a1 : Nat) (x2 : Int32) (x3 : Int32) (h : jH) : Option (Int32 × jH) :=
  (jgR 5 h a0 3).bind fun p4 =>
  (jlen h p4).bind fun v7 =>
  if v7 ≤ x3 then (F_X7_greatestPart_29 n n a0 a1 x2 (0 : Int32) (0 : Int32) h)
  else ((jgR 5 h a0 3).bind fun p12 =>
  (jas 0 h p12 x3 (0 : Int32)).bind fun h17 =>
  rc2 a0 a1 x2 (x3 + (1 : Int32)) h17)
noncomputable def F_X7_greatestPart_2 (n : Nat) : Nat → Nat → Nat → Int32 → Int32 → jH → Option (Int32 × jH)
  | 0 => fun _ _ _ _ _ => none
  | k + 1 => F_X7_greatestPart_2_b n (F_X7_greatestPart_2 n k)
noncomputable def F_X7_greatestPart (n : Nat) (a0 : Nat) (a1 : Nat) (x2 : Int32) (h : jH) : Option (Int32 × jH) :=
  F_X7_greatestPart_2 n n a0 a1 x2 (0 : Int32) h
noncomputable def F_X7_partingPull_19_b (n : Nat) (rc19 : Nat → Nat → Int32 → Int32 → Int32 → jH → Option (Int32 × jH)) (a0 : Nat) (a1 : Nat) (x2 : Int32) (x3 : Int32) (x4 : Int32) (h : jH) : Option (Int32 × jH) :=
  (jgI 6 h a1 5).bind fun v23 =>
  if ((2 : Int32) * v23) ≤ x4 then (some (x2, h))
  else ((jcv 5 h a0 (F_X7_greatestPart n a0 a1 x4 h)).bind fun q34 =>
  if x3 ≤ q34.1 then (rc19 a0 a1 x2 x3 (x4 + (1 : Int32)) q34.2)
  else (rc19 a0 a1 x4 q34.1 (x4 + (1 : Int32)) q34.2))
noncomputable def F_X7_partingPull_19 (n : Nat) : Nat → Nat → Nat → Int32 → Int32 → Int32 → jH → Option (Int32 × jH)
  | 0 => fun _ _ _ _ _ _ => none
  | k + 1 => F_X7_partingPull_19_b n (F_X7_partingPull_19 n k)
noncomputable def F_X7_partingPull (n : Nat) (a0 : Nat) (a1 : Nat) (h : jH) : Option (Int32 × jH) :=
  (jgI 5 h a0 4).bind fun v1 =>
  if (2 : Int32) ≤ v1 then (F_X7_partingPull_19 n n a0 a1 (-1 : Int32) (129 : Int32) (0 : Int32) h)
  else (some ((-1 : Int32), h))
noncomputable def F_X8_nearestNew (n : Nat) (a0 : Nat) (h : jH) : Option Int32 :=
  (jgI 6 h a0 5).bind fun v1 =>
  if v1 = 0 then (some (0 : Int32))
  else ((jgR 6 h a0 0).bind fun p12 =>
  (jgI 6 h a0 5).bind fun v16 =>
  (jal 0 h p12 (v16 - (1 : Int32))).bind fun v21 =>
  some (v21 + (1 : Int32)))
noncomputable def F_X8_farthestNew (n : Nat) (a0 : Nat) (h : jH) : Option Int32 :=
  (jgI 6 h a0 5).bind fun v1 =>
  if v1 = 0 then (some (31 : Int32))
  else ((jgR 6 h a0 0).bind fun p15 =>
  (jgI 6 h a0 5).bind fun v19 =>
  (jal 0 h p15 (v19 - (1 : Int32))).bind fun v24 =>
  (jgR 6 h a0 1).bind fun p26 =>
  (jgI 6 h a0 5).bind fun v30 =>
  (jal 0 h p26 (v30 - (1 : Int32))).bind fun v35 =>
  some (if (v24 + v35) < (31 : Int32) then v24 + v35 else (31 : Int32)))
noncomputable def F_X8_add (n : Nat) (a0 : Nat) (x1 : Int32) (x2 : Int32) (h : jH) : Option jH :=
  (jgI 6 h a0 5).bind fun v1 =>
  if v1 < (8 : Int32) then ((jgR 6 h a0 0).bind fun p11 =>
  (jgI 6 h a0 5).bind fun v15 =>
  (jas 0 h p11 v15 x1).bind fun h19 =>
  (jgR 6 h19 a0 1).bind fun p21 =>
  (jgI 6 h19 a0 5).bind fun v25 =>
  (jas 0 h19 p21 v25 x2).bind fun h29 =>
  (jgR 6 h29 a0 2).bind fun p31 =>
  (jgI 6 h29 a0 5).bind fun v35 =>
  (jas 0 h29 p31 v35 (0 : Int32)).bind fun h39 =>
  (jgR 6 h39 a0 3).bind fun p41 =>
  (jgI 6 h39 a0 5).bind fun v45 =>
  (jas 0 h39 p41 v45 (0 : Int32)).bind fun h49 =>
  (jgI 6 h49 a0 6).bind fun v52 =>
  (jgI 6 h49 a0 5).bind fun v56 =>
  (F_X11_withBit n v52 v56 (0 : Int32) h49).bind fun v60 =>
  (jpf 6 h49 a0 6 (.int v60)).bind fun h63 =>
  (jgI 6 h63 a0 7).bind fun v68 =>
  (jgI 6 h63 a0 5).bind fun v72 =>
  (F_X11_withBit n v68 v72 (0 : Int32) h63).bind fun v76 =>
  (jpf 6 h63 a0 7 (.int v76)).bind fun h79 =>
  (jgI 6 h79 a0 8).bind fun v84 =>
  (jgI 6 h79 a0 5).bind fun v88 =>
  (F_X11_withBit n v84 v88 (1 : Int32) h79).bind fun v92 =>
  (jpf 6 h79 a0 8 (.int v92)).bind fun h95 =>
  (jgI 6 h95 a0 9).bind fun v100 =>
  (jgI 6 h95 a0 5).bind fun v104 =>
  (F_X11_withBit n v100 v104 (0 : Int32) h95).bind fun v108 =>
  (jpf 6 h95 a0 9 (.int v108)).bind fun h111 =>
  (jgI 6 h111 a0 5).bind fun v116 =>
  (jpf 6 h111 a0 5 (.int (v116 + (1 : Int32)))).bind fun h121 =>
  some h121)
  else (some h)
noncomputable def F_X8_unhooked (n : Nat) (a0 : Nat) (h : jH) : Option Int32 :=
  (jgI 6 h a0 5).bind fun v2 =>
  (jgI 6 h a0 8).bind fun v9 =>
  some ((((1 : Int32) <<< (v2 &&& 31)) - (1 : Int32)) &&& (v9 ^^^ (-1 : Int32)))
noncomputable def F_X4_init_R (n : Nat) (a0 : Nat) (a1 : Nat) (x2 : Int32) (h : jH) : Option jH :=
  (jpf 7 h a0 0 (.ref a1)).bind fun h6 =>
  (jpf 7 h6 a0 1 (.int x2)).bind fun h11 =>
  some h11
noncomputable def F_X9_init (n : Nat) (a0 : Nat) (a1 : Nat) (a2 : Nat) (h : jH) : Option jH :=
  (F_X4_init_R n a0 a1 (14 : Int32) h).bind fun h4 =>
  (jpf 7 h4 a0 2 (.ref a2)).bind fun h9 =>
  some h9
noncomputable def F_X9_beginsLine (n : Nat) (x0 : Int32) (h : jH) : Option Int32 :=
  if x0 = 0 then (some (1 : Int32))
  else (if x0 = (19 : Int32) then (some (1 : Int32))
  else (if x0 = (20 : Int32) then (some (1 : Int32))
  else (if x0 = (21 : Int32) then (some (1 : Int32))
  else (if x0 = (22 : Int32) then (some (1 : Int32))
  else (if x0 = (5 : Int32) then (some (1 : Int32))
  else (if x0 = (6 : Int32) then (some (1 : Int32))
  else (some (0 : Int32))))))))
noncomputable def F_X9_readMore (n : Nat) (a0 : Nat) (x1 : Int32) (a2 : Nat) (x3 : Int32) (x4 : Int32) (h : jH) : Option (Int32 × jH) :=
  (jlen h a2).bind fun v2 =>
  if v2 ≤ x3 then (some ((1 : Int32), h))
  else ((jgR 7 h a0 0).bind fun p7 =>
  (jcv 8 h p7 (F_X10_take n p7 x1 h)).bind fun q11 =>
  if q11.1 = 0 then (some ((1 : Int32), q11.2))
  else ((jgR 7 q11.2 a0 0).bind fun p20 =>
  (jcv 8 q11.2 p20 (F_X10_takeNumber n p20 (0 : Int32) x4 q11.2)).bind fun q26 =>
  (jas 0 q26.2 a2 x3 q26.1).bind fun h35 =>
  if q26.1 = (-1 : Int32) then (some ((0 : Int32), h35))
  else (some ((1 : Int32), h35))))
noncomputable def F_X9_readRing (n : Nat) (a0 : Nat) (h : jH) : Option (Int32 × jH) :=
  (jgR 7 h a0 0).bind fun p1 =>
  (jcv 8 h p1 (F_X10_take n p1 (17 : Int32) h)).bind fun q6 =>
  if q6.1 = 0 then (some ((0 : Int32), q6.2))
  else ((jgR 7 q6.2 a0 0).bind fun p15 =>
  (jgR 7 q6.2 a0 2).bind fun p19 =>
  (jcv 6 q6.2 p19 (F_X8_nearestNew n p19 q6.2)).bind fun v22 =>
  (jgR 7 q6.2 a0 2).bind fun p26 =>
  (jcv 6 q6.2 p26 (F_X8_farthestNew n p26 q6.2)).bind fun v29 =>
  (jcv 8 q6.2 p15 (F_X10_takeNumber n p15 v22 v29 q6.2)).bind fun q32 =>
  if q32.1 = (-1 : Int32) then (some ((0 : Int32), q32.2))
  else ((jgR 7 q32.2 a0 0).bind fun p42 =>
  (jcv 8 q32.2 p42 (F_X10_take n p42 (18 : Int32) q32.2)).bind fun q47 =>
  if q47.1 = 0 then (some ((0 : Int32), q47.2))
  else ((jgR 7 q47.2 a0 0).bind fun p56 =>
  (jcv 8 q47.2 p56 (F_X10_takeNumber n p56 (1 : Int32) (9 : Int32) q47.2)).bind fun q62 =>
  if q62.1 = (-1 : Int32) then (some ((0 : Int32), q62.2))
  else ((jgR 7 q62.2 a0 2).bind fun p74 =>
  (jgI 6 q62.2 p74 5).bind fun v77 =>
  (jgR 7 q62.2 a0 2).bind fun p82 =>
  (jcv 6 q62.2 p82 (F_X8_add n p82 q32.1 q62.1 q62.2)).bind fun h87 =>
  (jgR 7 h87 a0 2).bind fun p91 =>
  (jgR 7 h87 a0 2).bind fun p95 =>
  (jgI 6 h87 p95 6).bind fun v98 =>
  (jgR 7 h87 a0 0).bind fun p103 =>
  (jcv 8 h87 p103 (F_X10_take n p103 (8 : Int32) h87)).bind fun q108 =>
  (F_X11_withBit n v98 v77 q108.1 q108.2).bind fun v111 =>
  (jpf 6 q108.2 p91 6 (.int v111)).bind fun h114 =>
  (jgR 7 h114 a0 2).bind fun p118 =>
  (jgR 7 h114 a0 2).bind fun p122 =>
  (jgI 6 h114 p122 7).bind fun v125 =>
  (jgR 7 h114 a0 0).bind fun p130 =>
  (jcv 8 h114 p130 (F_X10_take n p130 (7 : Int32) h114)).bind fun q135 =>
  (F_X11_withBit n v125 v77 q135.1 q135.2).bind fun v138 =>
  (jpf 6 q135.2 p118 7 (.int v138)).bind fun h141 =>
  (jgR 7 h141 a0 2).bind fun p147 =>
  (jgR 6 h141 p147 2).bind fun p150 =>
  (jcv 7 h141 a0 (F_X9_readMore n a0 (3 : Int32) p150 v77 (99 : Int32) h141)).bind fun q156 =>
  if q156.1 = 0 then (some ((0 : Int32), q156.2))
  else ((jgR 7 q156.2 a0 2).bind fun p165 =>
  (jgR 6 q156.2 p165 3).bind fun p168 =>
  (jcv 7 q156.2 a0 (F_X9_readMore n a0 (4 : Int32) p168 v77 (9 : Int32) q156.2)).bind fun q174 =>
  if q174.1 = 0 then (some ((0 : Int32), q174.2))
  else (some ((1 : Int32), q174.2)))))))
noncomputable def F_X9_readNumber (n : Nat) (a0 : Nat) (x1 : Int32) (h : jH) : Option (Int32 × jH) :=
  if x1 = (5 : Int32) then ((jgR 7 h a0 0).bind fun p74 =>
  (jcv 8 h p74 (F_X10_takeNumber n p74 (0 : Int32) (7 : Int32) h)).bind fun q80 =>
  some (q80.1, q80.2))
  else if x1 = (6 : Int32) then ((jgR 7 h a0 0).bind fun p85 =>
  (jcv 8 h p85 (F_X10_takeNumber n p85 (0 : Int32) (999 : Int32) h)).bind fun q92 =>
  some (q92.1, q92.2))
  else if x1 = (19 : Int32) then ((jgR 7 h a0 0).bind fun p45 =>
  (jgR 7 h a0 2).bind fun p50 =>
  (jgI 6 h p50 5).bind fun v53 =>
  (jcv 8 h p45 (F_X10_takeNumber n p45 (0 : Int32) (v53 - (2 : Int32)) h)).bind fun q58 =>
  some (q58.1, q58.2))
  else if x1 = (21 : Int32) then ((jgR 7 h a0 0).bind fun p63 =>
  (jcv 8 h p63 (F_X10_takeNumber n p63 (1 : Int32) (31 : Int32) h)).bind fun q69 =>
  some (q69.1, q69.2))
  else ((jgR 7 h a0 0).bind fun p97 =>
  (jcv 8 h p97 (F_X10_takeNumber n p97 (0 : Int32) (31 : Int32) h)).bind fun q103 =>
  some (q103.1, q103.2))
noncomputable def F_X9_keepNumber (n : Nat) (a0 : Nat) (x1 : Int32) (x2 : Int32) (h : jH) : Option jH :=
  if x1 = (5 : Int32) then ((jgR 7 h a0 2).bind fun p119 =>
  (jpf 6 h p119 13 (.int x2)).bind fun h123 =>
  some h123)
  else if x1 = (19 : Int32) then ((jgR 7 h a0 2).bind fun p53 =>
  (jgR 7 h a0 2).bind fun p57 =>
  (jgI 6 h p57 9).bind fun v60 =>
  (F_X11_withBit n v60 x2 (1 : Int32) h).bind fun v65 =>
  (jpf 6 h p53 9 (.int v65)).bind fun h68 =>
  some h68)
  else if x1 = (20 : Int32) then ((jgR 7 h a0 2).bind fun p75 =>
  (jgR 7 h a0 2).bind fun p79 =>
  (jgI 6 h p79 10).bind fun v82 =>
  (F_X11_withBit n v82 x2 (1 : Int32) h).bind fun v87 =>
  (jpf 6 h p75 10 (.int v87)).bind fun h90 =>
  some h90)
  else if x1 = (21 : Int32) then ((jgR 7 h a0 2).bind fun p97 =>
  (jpf 6 h p97 11 (.int x2)).bind fun h101 =>
  some h101)
  else if x1 = (22 : Int32) then ((jgR 7 h a0 2).bind fun p108 =>
  (jpf 6 h p108 12 (.int x2)).bind fun h112 =>
  some h112)
  else ((jgR 7 h a0 2).bind fun p130 =>
  (jpf 6 h p130 14 (.int x2)).bind fun h134 =>
  some h134)
noncomputable def F_X9_readLine_33 (n : Nat) (a0 : Nat) (x1 : Int32) (h : jH) : Option (Int32 × jH) :=
  (jgR 7 h a0 0).bind fun p34 =>
  (jcv 8 h p34 (F_X10_skip n p34 h)).bind fun h37 =>
  if x1 = 0 then ((jcv 7 h37 a0 (F_X9_readRing n a0 h37)).bind fun q45 =>
  if q45.1 = 0 ∨ q45.1 = 1 then some (q45.1, q45.2) else none)
  else ((jcv 7 h37 a0 (F_X9_readNumber n a0 x1 h37)).bind fun q51 =>
  if q51.1 = (-1 : Int32) then (some ((0 : Int32), q51.2))
  else ((jcv 7 q51.2 a0 (F_X9_keepNumber n a0 x1 q51.1 q51.2)).bind fun h65 =>
  some ((1 : Int32), h65)))
noncomputable def F_X9_readLine (n : Nat) (a0 : Nat) (h : jH) : Option (Int32 × jH) :=
  (jgR 7 h a0 0).bind fun p1 =>
  (jcv 8 h p1 (F_X10_kind n p1 h)).bind fun v4 =>
  (F_X9_beginsLine n v4 h).bind fun v9 =>
  if v9 = 0 then (some ((0 : Int32), h))
  else (if v4 = 0 then ((jgR 7 h a0 2).bind fun p20 =>
  (jgI 6 h p20 5).bind fun v23 =>
  if v23 < (8 : Int32) then (F_X9_readLine_33 n a0 v4 h)
  else (some ((0 : Int32), h)))
  else (F_X9_readLine_33 n a0 v4 h))
noncomputable def F_X10_init (n : Nat) (a0 : Nat) (h : jH) : Option jH :=
  (jnw h (.inr (.inl (1, 400, fun _ => 0)))).bind fun h8 =>
  (jpf 8 h8 a0 0 (.ref h.1)).bind fun h10 =>
  (jnw h10 (.inr (.inl (0, 400, fun _ => 0)))).bind fun h17 =>
  (jpf 8 h17 a0 1 (.ref h10.1)).bind fun h19 =>
  (jnw h19 (.inr (.inl (0, 400, fun _ => 0)))).bind fun h26 =>
  (jpf 8 h26 a0 2 (.ref h19.1)).bind fun h28 =>
  (jnw h28 (.inr (.inl (0, 400, fun _ => 0)))).bind fun h35 =>
  (jpf 8 h35 a0 3 (.ref h28.1)).bind fun h37 =>
  some h37
noncomputable def F_X10_hasRoom (n : Nat) (a0 : Nat) (h : jH) : Option Int32 :=
  (jgI 8 h a0 6).bind fun v1 =>
  if (400 : Int32) < (v1 + (20 : Int32)) then (some (0 : Int32))
  else (some (1 : Int32))
noncomputable def F_X10_put_3_b (n : Nat) (rc3 : Nat → Int32 → Int32 → jH → Option jH) (a0 : Nat) (x1 : Int32) (x2 : Int32) (h : jH) : Option jH :=
  if x2 < 0 then (some h)
  else ((jgI 8 h a0 6).bind fun v8 =>
  if (400 : Int32) ≤ v8 then (some h)
  else ((jgR 8 h a0 0).bind fun p18 =>
  (jgI 8 h a0 6).bind fun v22 =>
  (jas 1 h p18 v22 ((jushr x1 x2).toInt8.toInt32)).bind fun h29 =>
  (jgI 8 h29 a0 6).bind fun v32 =>
  (jpf 8 h29 a0 6 (.int (v32 + (1 : Int32)))).bind fun h37 =>
  rc3 a0 x1 (x2 + (-8 : Int32)) h37))
noncomputable def F_X10_put_3 (n : Nat) : Nat → Nat → Int32 → Int32 → jH → Option jH
  | 0 => fun _ _ _ _ => none
  | k + 1 => F_X10_put_3_b n (F_X10_put_3 n k)
noncomputable def F_X10_put (n : Nat) (a0 : Nat) (x1 : Int32) (h : jH) : Option jH :=
  F_X10_put_3 n n a0 x1 (24 : Int32) h
noncomputable def F_X10_endOfRow_3_b (n : Nat) (rc3 : Nat → Int32 → Int32 → Int32 → jH → Option Int32) (a0 : Nat) (x2 : Int32) (x3 : Int32) (x4 : Int32) (h : jH) : Option Int32 :=
  (jgI 8 h a0 6).bind fun v6 =>
  if v6 ≤ x4 then (some x4)
  else ((jcv 8 h a0 (F_X10_at n a0 x4 h)).bind fun v15 =>
  if v15 < x2 then (some x4)
  else ((jcv 8 h a0 (F_X10_at n a0 x4 h)).bind fun v25 =>
  if x3 < v25 then (some x4)
  else (rc3 a0 x2 x3 (x4 + (1 : Int32)) h)))
noncomputable def F_X10_endOfRow_3 (n : Nat) : Nat → Nat → Int32 → Int32 → Int32 → jH → Option Int32
  | 0 => fun _ _ _ _ _ => none
  | k + 1 => F_X10_endOfRow_3_b n (F_X10_endOfRow_3 n k)
noncomputable def F_X10_endOfRow (n : Nat) (a0 : Nat) (x1 : Int32) (x2 : Int32) (x3 : Int32) (h : jH) : Option Int32 :=
  F_X10_endOfRow_3 n n a0 x2 x3 x1 h
noncomputable def F_X10_standsAt_3_b (n : Nat) (rc3 : Nat → Int32 → Int32 → Int32 → Int32 → jH → Option Int32) (a0 : Nat) (x1 : Int32) (x2 : Int32) (x3 : Int32) (x4 : Int32) (h : jH) : Option Int32 :=
  if x3 ≤ x4 then (some (1 : Int32))
  else ((jcv 8 h a0 (F_X10_at n a0 ((x1 + x4) - x2) h)).bind fun v16 =>
  (jtc 0 x4).bind fun v23 =>
  if v16 = v23 then (rc3 a0 x1 x2 x3 (x4 + (1 : Int32)) h)
  else (some (0 : Int32)))
noncomputable def F_X10_standsAt_3 (n : Nat) : Nat → Nat → Int32 → Int32 → Int32 → Int32 → jH → Option Int32
  | 0 => fun _ _ _ _ _ _ => none
  | k + 1 => F_X10_standsAt_3_b n (F_X10_standsAt_3 n k)
noncomputable def F_X10_standsAt (n : Nat) (a0 : Nat) (x1 : Int32) (x2 : Int32) (x3 : Int32) (h : jH) : Option Int32 :=
  F_X10_standsAt_3 n n a0 x1 x2 x3 x2 h
noncomputable def F_X10_wordBetween_8_b (n : Nat) (rc8 : Nat → Int32 → Int32 → Int32 → Int32 → Int32 → jH → Option Int32) (a0 : Nat) (x1 : Int32) (x2 : Int32) (x3 : Int32) (x4 : Int32) (x5 : Int32) (h : jH) : Option Int32 :=
  (jtl 0).bind fun v12 =>
  if v12 ≤ x5 then (some (-2 : Int32))
  else ((jtc 0 x5).bind fun v22 =>
  if v22 = (32 : Int32) then (if (x5 - x4) = (x2 - x1) then ((jcv 8 h a0 (F_X10_standsAt n a0 x1 x4 x5 h)).bind fun v47 =>
  if v47 = 0 then (rc8 a0 x1 x2 (x3 + (1 : Int32)) (x5 + (1 : Int32)) (x5 + (1 : Int32)) h)
  else (some x3))
  else (rc8 a0 x1 x2 (x3 + (1 : Int32)) (x5 + (1 : Int32)) (x5 + (1 : Int32)) h))
  else (rc8 a0 x1 x2 x3 x4 (x5 + (1 : Int32)) h))
noncomputable def F_X10_wordBetween_8 (n : Nat) : Nat → Nat → Int32 → Int32 → Int32 → Int32 → Int32 → jH → Option Int32
  | 0 => fun _ _ _ _ _ _ _ => none
  | k + 1 => F_X10_wordBetween_8_b n (F_X10_wordBetween_8 n k)
noncomputable def F_X10_wordBetween (n : Nat) (a0 : Nat) (x1 : Int32) (x2 : Int32) (h : jH) : Option Int32 :=
  F_X10_wordBetween_8 n n a0 x1 x2 (0 : Int32) (0 : Int32) (0 : Int32) h
noncomputable def F_X10_numberBetween_16_b (n : Nat) (rc16 : Nat → Int32 → Int32 → Int32 → jH → Option Int32) (a0 : Nat) (x2 : Int32) (x3 : Int32) (x4 : Int32) (h : jH) : Option Int32 :=
  if x2 ≤ x4 then (some x3)
  else ((jcv 8 h a0 (F_X10_at n a0 x4 h)).bind fun v29 =>
  rc16 a0 x2 ((((10 : Int32) * x3) + v29) - (48 : Int32)) (x4 + (1 : Int32)) h)
noncomputable def F_X10_numberBetween_16 (n : Nat) : Nat → Nat → Int32 → Int32 → Int32 → jH → Option Int32
  | 0 => fun _ _ _ _ _ => none
  | k + 1 => F_X10_numberBetween_16_b n (F_X10_numberBetween_16 n k)
noncomputable def F_X10_numberBetween (n : Nat) (a0 : Nat) (x1 : Int32) (x2 : Int32) (h : jH) : Option Int32 :=
  if (x2 - x1) ≤ (3 : Int32) then (F_X10_numberBetween_16 n n a0 x2 (0 : Int32) x1 h)
  else (some (1000 : Int32))
noncomputable def F_X10_scanThing (n : Nat) (a0 : Nat) (x1 : Int32) (h : jH) : Option (Int32 × jH) :=
  (jcv 8 h a0 (F_X10_endOfRow n a0 x1 (97 : Int32) (122 : Int32) h)).bind fun v6 =>
  if v6 ≤ x1 then ((jcv 8 h a0 (F_X10_endOfRow n a0 x1 (48 : Int32) (57 : Int32) h)).bind fun v38 =>
  if v38 ≤ x1 then ((jcv 8 h a0 (F_X10_at n a0 x1 h)).bind fun v77 =>
  (jgR 8 h a0 1).bind fun p82 =>
  (jgI 8 h a0 4).bind fun v86 =>
  if (32 : Int32) ≤ v77 then ((jas 0 h p82 v86 v77).bind fun h101 =>
  some (x1 + (1 : Int32), h101))
  else ((jas 0 h p82 v86 (-2 : Int32)).bind fun h101 =>
  some (x1 + (1 : Int32), h101)))
  else ((jgR 8 h a0 1).bind fun p48 =>
  (jgI 8 h a0 4).bind fun v52 =>
  (jas 0 h p48 v52 (-3 : Int32)).bind fun h57 =>
  (jgR 8 h57 a0 3).bind fun p59 =>
  (jgI 8 h57 a0 4).bind fun v63 =>
  (jcv 8 h57 a0 (F_X10_numberBetween n a0 x1 v38 h57)).bind fun v69 =>
  (jas 0 h57 p59 v63 v69).bind fun h72 =>
  some (v38, h72)))
  else ((jgR 8 h a0 1).bind fun p16 =>
  (jgI 8 h a0 4).bind fun v20 =>
  (jcv 8 h a0 (F_X10_wordBetween n a0 x1 v6 h)).bind fun v26 =>
  (jas 0 h p16 v20 v26).bind fun h29 =>
  some (v6, h29))
noncomputable def F_X10_scan_12_b (n : Nat) (rc12 : Nat → Int32 → jH → Option jH) (a0 : Nat) (x1 : Int32) (h : jH) : Option jH :=
  (jgI 8 h a0 6).bind fun v14 =>
  if v14 ≤ x1 then (some h)
  else ((jgI 8 h a0 4).bind fun v21 =>
  if (400 : Int32) ≤ v21 then (some h)
  else ((jcv 8 h a0 (F_X10_at n a0 x1 h)).bind fun v36 =>
  if v36 = (32 : Int32) then (rc12 a0 (x1 + (1 : Int32)) h)
  else ((jcv 8 h a0 (F_X10_scanThing n a0 x1 h)).bind fun q46 =>
  (jgR 8 q46.2 a0 2).bind fun p51 =>
  (jgI 8 q46.2 a0 4).bind fun v55 =>
  (jas 0 q46.2 p51 v55 x1).bind fun h59 =>
  (jgI 8 h59 a0 4).bind fun v62 =>
  (jpf 8 h59 a0 4 (.int (v62 + (1 : Int32)))).bind fun h67 =>
  rc12 a0 q46.1 h67)))
noncomputable def F_X10_scan_12 (n : Nat) : Nat → Nat → Int32 → jH → Option jH
  | 0 => fun _ _ _ => none
  | k + 1 => F_X10_scan_12_b n (F_X10_scan_12 n k)
noncomputable def F_X10_scan (n : Nat) (a0 : Nat) (h : jH) : Option jH :=
  (jpf 8 h a0 4 (.int (0 : Int32))).bind fun h2 =>
  (jpf 8 h2 a0 5 (.int (0 : Int32))).bind fun h7 =>
  F_X10_scan_12 n n a0 (0 : Int32) h7
noncomputable def F_X10_start (n : Nat) (a0 : Nat) (h : jH) : Option Int32 :=
  (jgI 8 h a0 5).bind fun v1 =>
  (jgI 8 h a0 4).bind fun v5 =>
  if v5 ≤ v1 then ((jgI 8 h a0 6).bind fun v24 =>
  some v24)
  else ((jgR 8 h a0 2).bind fun p12 =>
  (jgI 8 h a0 5).bind fun v16 =>
  (jal 0 h p12 v16).bind fun v19 =>
  some v19)
noncomputable def F_X11_init (n : Nat) (a0 : Nat) (h : jH) : Option jH :=
  (jnw h (.inl (8, [.null, .null, .null, .null, .int 0, .int 0, .int 0]))).bind fun h5 =>
  (F_X10_init n h.1 h5).bind fun h9 =>
  (jpf 9 h9 a0 0 (.ref h.1)).bind fun h12 =>
  (jnw h12 (.inl (6, [.null, .null, .null, .null, .null, .int 0, .int 0, .int 0, .int 0, .int 0, .int 0, .int 0, .int 0, .int 0, .int 0, .int 0, .int 0, .int 0]))).bind fun h16 =>
  (F_X8_init n h12.1 h16).bind fun h20 =>
  (jpf 9 h20 a0 1 (.ref h12.1)).bind fun h23 =>
  (jnw h23 (.inl (2, [.null, .null, .null, .null, .null, .int 0, .int 0, .int 0, .int 0]))).bind fun h27 =>
  (F_X2_init n h23.1 h27).bind fun h31 =>
  (jpf 9 h31 a0 2 (.ref h23.1)).bind fun h34 =>
  (jnw h34 (.inl (0, [.null, .int 0, .int 0]))).bind fun h38 =>
  (F_X0_init n h34.1 h38).bind fun h42 =>
  (jpf 9 h42 a0 3 (.ref h34.1)).bind fun h45 =>
  (jnw h45 (.inl (6, [.null, .null, .null, .null, .null, .int 0, .int 0, .int 0, .int 0, .int 0, .int 0, .int 0, .int 0, .int 0, .int 0, .int 0, .int 0, .int 0]))).bind fun h49 =>
  (F_X8_init n h45.1 h49).bind fun h53 =>
  (jpf 9 h53 a0 4 (.ref h45.1)).bind fun h56 =>
  (jnw h56 (.inl (2, [.null, .null, .null, .null, .null, .int 0, .int 0, .int 0, .int 0]))).bind fun h60 =>
  (F_X2_init n h56.1 h60).bind fun h64 =>
  (jpf 9 h64 a0 5 (.ref h56.1)).bind fun h67 =>
  (jnw h67 (.inl (7, [.null, .int 0, .null]))).bind fun h71 =>
  (jgR 9 h71 a0 0).bind fun p76 =>
  (jgR 9 h71 a0 4).bind fun p80 =>
  (F_X9_init n h67.1 p76 p80 h71).bind fun h83 =>
  (jpf 9 h83 a0 6 (.ref h67.1)).bind fun h86 =>
  (jnw h86 (.inl (3, [.null, .int 0, .null]))).bind fun h90 =>
  (jgR 9 h90 a0 0).bind fun p95 =>
  (jgR 9 h90 a0 5).bind fun p99 =>
  (F_X3_init n h86.1 p95 p99 h90).bind fun h102 =>
  (jpf 9 h102 a0 7 (.ref h86.1)).bind fun h105 =>
  (jnw h105 (.inl (1, [.null, .null]))).bind fun h109 =>
  (jgR 9 h109 a0 2).bind fun p114 =>
  (jgR 9 h109 a0 4).bind fun p118 =>
  (F_X1_init n h105.1 p114 p118 h109).bind fun h121 =>
  (jpf 9 h121 a0 8 (.ref h105.1)).bind fun h124 =>
  (jnw h124 (.inl (5, [.null, .null, .null, .null, .int 0, .int 0, .int 0]))).bind fun h128 =>
  (jgR 9 h128 a0 0).bind fun p133 =>
  (jgR 9 h128 a0 4).bind fun p137 =>
  (F_X7_init n h124.1 p133 p137 h128).bind fun h140 =>
  (jpf 9 h140 a0 9 (.ref h124.1)).bind fun h143 =>
  (jpf 9 h143 a0 12 (.int (-1 : Int32))).bind fun h148 =>
  some h148
noncomputable def F_X11_feed (n : Nat) (a0 : Nat) (x1 : Int32) (x2 : Int32) (x3 : Int32) (x4 : Int32) (x5 : Int32) (h : jH) : Option (Int32 × jH) :=
  (jgR 9 h a0 0).bind fun p1 =>
  (jcv 8 h p1 (F_X10_hasRoom n p1 h)).bind fun v4 =>
  if v4 = 0 then (some ((-1 : Int32), h))
  else ((jgR 9 h a0 0).bind fun p13 =>
  (jcv 8 h p13 (F_X10_put n p13 x1 h)).bind fun h17 =>
  (jgR 9 h17 a0 0).bind fun p21 =>
  (jcv 8 h17 p21 (F_X10_put n p21 x2 h17)).bind fun h25 =>
  (jgR 9 h25 a0 0).bind fun p29 =>
  (jcv 8 h25 p29 (F_X10_put n p29 x3 h25)).bind fun h33 =>
  (jgR 9 h33 a0 0).bind fun p37 =>
  (jcv 8 h33 p37 (F_X10_put n p37 x4 h33)).bind fun h42 =>
  (jgR 9 h42 a0 0).bind fun p46 =>
  (jcv 8 h42 p46 (F_X10_put n p46 x5 h42)).bind fun h51 =>
  (jgR 9 h51 a0 0).bind fun p55 =>
  (jgI 8 h51 p55 6).bind fun v58 =>
  some (v58, h51))
noncomputable def F_X11_end (n : Nat) (a0 : Nat) (x1 : Int32) (h : jH) : Option (Int32 × jH) :=
  if x1 < 0 then (some ((0 : Int32), h))
  else ((jgR 9 h a0 0).bind fun p6 =>
  (jgI 8 h p6 6).bind fun v9 =>
  if x1 ≤ v9 then ((jgR 9 h a0 0).bind fun p18 =>
  (jpf 8 h p18 6 (.int x1)).bind fun h22 =>
  some ((1 : Int32), h22))
  else (some ((0 : Int32), h)))
noncomputable def F_X4_read_R_22_b (n : Nat) (rc22 : Nat → Int32 → jH → Option (Int32 × jH)) (a0 : Nat) (x1 : Int32) (h : jH) : Option (Int32 × jH) :=
  (jgI 7 h a0 1).bind fun v24 =>
  if v24 ≤ x1 then ((jgR 7 h a0 0).bind fun p85 =>
  (jcv 8 h p85 (F_X10_start n p85 h)).bind fun v88 =>
  some (v88, h))
  else ((jcv 7 h a0 (F_X9_readLine n a0 h)).bind fun q31 =>
  if q31.1 = 0 then ((jgR 7 q31.2 a0 0).bind fun p38 =>
  (jcv 8 q31.2 p38 (F_X10_start n p38 q31.2)).bind fun v41 =>
  some (v41, q31.2))
  else ((jgR 7 q31.2 a0 0).bind fun p46 =>
  (jcv 8 q31.2 p46 (F_X10_kind n p46 q31.2)).bind fun v49 =>
  if v49 = (-1 : Int32) then (some ((-1 : Int32), q31.2))
  else ((jgR 7 q31.2 a0 0).bind fun p59 =>
  (jcv 8 q31.2 p59 (F_X10_take n p59 (59 : Int32) q31.2)).bind fun q64 =>
  if q64.1 = 0 then ((jgR 7 q64.2 a0 0).bind fun p71 =>
  (jcv 8 q64.2 p71 (F_X10_start n p71 q64.2)).bind fun v74 =>
  some (v74, q64.2))
  else (rc22 a0 (x1 + (1 : Int32)) q64.2))))
noncomputable def F_X4_read_R_22 (n : Nat) : Nat → Nat → Int32 → jH → Option (Int32 × jH)
  | 0 => fun _ _ _ => none
  | k + 1 => F_X4_read_R_22_b n (F_X4_read_R_22 n k)
noncomputable def F_X4_read_R (n : Nat) (a0 : Nat) (h : jH) : Option (Int32 × jH) :=
  (jgR 7 h a0 0).bind fun p1 =>
  (jcv 8 h p1 (F_X10_scan n p1 h)).bind fun h4 =>
  (jgR 7 h4 a0 0).bind fun p8 =>
  (jcv 8 h4 p8 (F_X10_kind n p8 h4)).bind fun v11 =>
  if v11 = (-1 : Int32) then (some ((-1 : Int32), h4))
  else (F_X4_read_R_22 n n a0 (0 : Int32) h4)
noncomputable def F_X11_pole (n : Nat) (a0 : Nat) (h : jH) : Option (jR × jH) :=
  (jgR 9 h a0 4).bind fun p1 =>
  (jgR 9 h a0 1).bind fun p5 =>
  (jcv 6 h p1 (F_X8_copyFrom n p1 p5 h)).bind fun h8 =>
  (jgR 9 h8 a0 6).bind fun p13 =>
  (jcv 7 h8 p13 (F_X4_read_R n p13 h8)).bind fun q16 =>
  (jpf 9 q16.2 a0 12 (.int q16.1)).bind fun h19 =>
  (jgR 9 h19 a0 0).bind fun p23 =>
  (jpf 8 h19 p23 6 (.int (0 : Int32))).bind fun h27 =>
  (jgI 9 h27 a0 12).bind fun v31 =>
  if v31 = (-1 : Int32) then ((jgR 9 h27 a0 1).bind fun p49 =>
  (jgI 6 h27 p49 17).bind fun v52 =>
  if v52 < (12 : Int32) then ((jgR 9 h27 a0 4).bind fun p71 =>
  (jgI 6 h27 p71 17).bind fun v75 =>
  (jpf 6 h27 p71 17 (.int (v75 + (1 : Int32)))).bind fun h80 =>
  (jgR 9 h80 a0 1).bind fun p84 =>
  (jgR 9 h80 a0 4).bind fun p88 =>
  (jcv 6 h80 p84 (F_X8_copyFrom n p84 p88 h80)).bind fun h91 =>
  (jgR 9 h91 a0 3).bind fun p95 =>
  (jcv 0 h91 p95 (F_X0_forget n p95 h91)).bind fun h98 =>
  (jgR 9 h98 a0 1).bind fun p102 =>
  (jgI 6 h98 p102 17).bind fun v105 =>
  some (.inl v105, h98))
  else (some (.inr 3, h27)))
  else (some (.inr 0, h27))
noncomputable def F_X4_read_L_22_b (n : Nat) (rc22 : Nat → Int32 → jH → Option (Int32 × jH)) (a0 : Nat) (x1 : Int32) (h : jH) : Option (Int32 × jH) :=
  (jgI 3 h a0 1).bind fun v24 =>
  if v24 ≤ x1 then ((jgR 3 h a0 0).bind fun p85 =>
  (jcv 8 h p85 (F_X10_start n p85 h)).bind fun v88 =>
  some (v88, h))
  else ((jcv 3 h a0 (F_X3_readLine n a0 h)).bind fun q31 =>
  if q31.1 = 0 then ((jgR 3 q31.2 a0 0).bind fun p38 =>
  (jcv 8 q31.2 p38 (F_X10_start n p38 q31.2)).bind fun v41 =>
  some (v41, q31.2))
  else ((jgR 3 q31.2 a0 0).bind fun p46 =>
  (jcv 8 q31.2 p46 (F_X10_kind n p46 q31.2)).bind fun v49 =>
  if v49 = (-1 : Int32) then (some ((-1 : Int32), q31.2))
  else ((jgR 3 q31.2 a0 0).bind fun p59 =>
  (jcv 8 q31.2 p59 (F_X10_take n p59 (59 : Int32) q31.2)).bind fun q64 =>
  if q64.1 = 0 then ((jgR 3 q64.2 a0 0).bind fun p71 =>
  (jcv 8 q64.2 p71 (F_X10_start n p71 q64.2)).bind fun v74 =>
  some (v74, q64.2))
  else (rc22 a0 (x1 + (1 : Int32)) q64.2))))
noncomputable def F_X4_read_L_22 (n : Nat) : Nat → Nat → Int32 → jH → Option (Int32 × jH)
  | 0 => fun _ _ _ => none
  | k + 1 => F_X4_read_L_22_b n (F_X4_read_L_22 n k)
noncomputable def F_X4_read_L (n : Nat) (a0 : Nat) (h : jH) : Option (Int32 × jH) :=
  (jgR 3 h a0 0).bind fun p1 =>
  (jcv 8 h p1 (F_X10_scan n p1 h)).bind fun h4 =>
  (jgR 3 h4 a0 0).bind fun p8 =>
  (jcv 8 h4 p8 (F_X10_kind n p8 h4)).bind fun v11 =>
  if v11 = (-1 : Int32) then (some ((-1 : Int32), h4))
  else (F_X4_read_L_22 n n a0 (0 : Int32) h4)
noncomputable def F_X11_law (n : Nat) (a0 : Nat) (h : jH) : Option (jR × jH) :=
  (jgR 9 h a0 5).bind fun p1 =>
  (jcv 2 h p1 (F_X2_begin n p1 h)).bind fun h4 =>
  (jgR 9 h4 a0 7).bind fun p9 =>
  (jcv 3 h4 p9 (F_X4_read_L n p9 h4)).bind fun q12 =>
  (jpf 9 q12.2 a0 12 (.int q12.1)).bind fun h15 =>
  (jgR 9 h15 a0 0).bind fun p19 =>
  (jpf 8 h15 p19 6 (.int (0 : Int32))).bind fun h23 =>
  (jgI 9 h23 a0 12).bind fun v27 =>
  if v27 = (-1 : Int32) then ((jgR 9 h23 a0 2).bind fun p45 =>
  (jgR 9 h23 a0 5).bind fun p49 =>
  (jcv 2 h23 p45 (F_X2_copyFrom n p45 p49 h23)).bind fun h52 =>
  (jgR 9 h52 a0 3).bind fun p56 =>
  (jcv 0 h52 p56 (F_X0_forget n p56 h52)).bind fun h59 =>
  (jgR 9 h59 a0 2).bind fun p63 =>
  (jgI 2 h59 p63 8).bind fun v66 =>
  some (.inl v66, h59))
  else (some (.inr 0, h23))
noncomputable def F_X11_fault (n : Nat) (a0 : Nat) (h : jH) : Option Int32 :=
  (jgI 9 h a0 12).bind fun v1 =>
  some v1
noncomputable def F_X11_requireRing (n : Nat) (a0 : Nat) (x1 : Int32) (h : jH) : Option (jR × jH) :=
  if x1 < 0 then (some (.inr 2, h))
  else ((jgR 9 h a0 1).bind fun p6 =>
  (jgI 6 h p6 5).bind fun v9 =>
  if x1 < v9 then (some (.inl 0, h))
  else (some (.inr 2, h)))
noncomputable def F_X11_ring (n : Nat) (a0 : Nat) (x1 : Int32) (x2 : Int32) (h : jH) : Option (jR × jH) :=
  (jcv 9 h a0 (F_X11_requireRing n a0 x1 h)).bind fun q2 => jthen q2 fun r2 h2 =>
  if x2 = (0 : Int32) then ((jgR 9 h2 a0 1).bind fun p77 =>
  (jgR 6 h2 p77 0).bind fun p80 =>
  (jal 0 h2 p80 x1).bind fun v84 =>
  some (.inl v84, h2))
  else if x2 = (1 : Int32) then ((jgR 9 h2 a0 1).bind fun p87 =>
  (jgR 6 h2 p87 1).bind fun p90 =>
  (jal 0 h2 p90 x1).bind fun v94 =>
  some (.inl v94, h2))
  else if x2 = (2 : Int32) then ((jgR 9 h2 a0 1).bind fun p97 =>
  (jgI 6 h2 p97 6).bind fun v100 =>
  (F_X11_bit n v100 x1 h2).bind fun v104 =>
  some (.inl v104, h2))
  else if x2 = (3 : Int32) then ((jgR 9 h2 a0 1).bind fun p109 =>
  (jgI 6 h2 p109 7).bind fun v112 =>
  (F_X11_bit n v112 x1 h2).bind fun v116 =>
  some (.inl v116, h2))
  else if x2 = (4 : Int32) then ((jgR 9 h2 a0 1).bind fun p121 =>
  (jgR 6 h2 p121 2).bind fun p124 =>
  (jal 0 h2 p124 x1).bind fun v128 =>
  some (.inl v128, h2))
  else if x2 = (5 : Int32) then ((jgR 9 h2 a0 1).bind fun p131 =>
  (jgR 6 h2 p131 3).bind fun p134 =>
  (jal 0 h2 p134 x1).bind fun v138 =>
  some (.inl v138, h2))
  else if x2 = (6 : Int32) then ((jgR 9 h2 a0 1).bind fun p141 =>
  (jgI 6 h2 p141 8).bind fun v144 =>
  (F_X11_bit n v144 x1 h2).bind fun v148 =>
  some (.inl v148, h2))
  else if x2 = (7 : Int32) then ((jgR 9 h2 a0 1).bind fun p153 =>
  (jgI 6 h2 p153 9).bind fun v156 =>
  (F_X11_bit n v156 x1 h2).bind fun v160 =>
  some (.inl v160, h2))
  else if x2 = (8 : Int32) then ((jgR 9 h2 a0 1).bind fun p165 =>
  (jcv 6 h2 p165 (F_X8_gap n p165 x1 (-1 : Int32) h2)).bind fun v170 =>
  some (.inl v170, h2))
  else if x2 = (9 : Int32) then ((jgR 9 h2 a0 2).bind fun p175 =>
  (jgR 9 h2 a0 1).bind fun p180 =>
  (jcv 2 h2 p175 (F_X2_amount n p175 (0 : Int32) p180 x1 h2)).bind fun q184 =>
  some (.inl q184.1, q184.2))
  else if x2 = (10 : Int32) then ((jgR 9 h2 a0 2).bind fun p189 =>
  (jgR 9 h2 a0 1).bind fun p194 =>
  (jcv 2 h2 p189 (F_X2_amount n p189 (1 : Int32) p194 x1 h2)).bind fun q198 =>
  some (.inl q198.1, q198.2))
  else if x2 = (11 : Int32) then ((jgR 9 h2 a0 2).bind fun p203 =>
  (jgR 9 h2 a0 1).bind fun p208 =>
  (jcv 2 h2 p203 (F_X2_amount n p203 (2 : Int32) p208 x1 h2)).bind fun q212 =>
  some (.inl q212.1, q212.2))
  else if x2 = (12 : Int32) then ((jgR 9 h2 a0 1).bind fun p217 =>
  (F_X6_hangsBy n p217 x1 h2).bind fun v221 =>
  some (.inl v221, h2))
  else if x2 = (13 : Int32) then ((jgR 9 h2 a0 1).bind fun p226 =>
  (F_X6_share n p226 x1 h2).bind fun v230 =>
  some (.inl v230, h2))
  else (some (.inr 4, h2))
noncomputable def F_X11_requireNumber (n : Nat) (a0 : Nat) (x1 : Int32) (x2 : Int32) (x3 : Int32) (h : jH) : Option (jR × jH) :=
  if x1 < x2 then (some (.inr 0, h))
  else (if x1 ≤ x3 then (some (.inl 0, h))
  else (some (.inr 0, h)))
noncomputable def F_X11_pull (n : Nat) (a0 : Nat) (x1 : Int32) (x2 : Int32) (x3 : Int32) (h : jH) : Option (jR × jH) :=
  (jcv 9 h a0 (F_X11_requireRing n a0 x1 h)).bind fun q2 => jthen q2 fun r2 h2 =>
  (jcv 9 h2 a0 (F_X11_requireNumber n a0 x3 (1 : Int32) (31 : Int32) h2)).bind fun q10 => jthen q10 fun r10 h10 =>
  (jgR 9 h10 a0 3).bind fun p14 =>
  (jgR 9 h10 a0 1).bind fun p18 =>
  (jcv 0 h10 p14 (F_X0_remember n p14 p18 h10)).bind fun h21 =>
  (jgR 9 h21 a0 1).bind fun p25 =>
  (jcv 6 h21 p25 (F_X8_move n p25 x1 x2 x3 h21)).bind fun q31 =>
  (jgR 9 q31.2 a0 1).bind fun p37 =>
  (jgR 6 q31.2 p37 4).bind fun p40 =>
  (jgR 9 q31.2 a0 1).bind fun p44 =>
  (jcv 4 q31.2 p40 (F_X5_add n p40 p44 x1 (0 : Int32) q31.1 q31.2)).bind fun h51 =>
  some (.inl q31.1, h51)
noncomputable def F_X11_free (n : Nat) (a0 : Nat) (x1 : Int32) (h : jH) : Option (jR × jH) :=
  (jcv 9 h a0 (F_X11_requireRing n a0 x1 h)).bind fun q2 => jthen q2 fun r2 h2 =>
  (jgR 9 h2 a0 1).bind fun p6 =>
  (jgI 6 h2 p6 9).bind fun v9 =>
  (F_X11_bit n v9 x1 h2).bind fun v13 =>
  if v13 = 0 then (some (.inr 1, h2))
  else ((jgR 9 h2 a0 3).bind fun p30 =>
  (jgR 9 h2 a0 1).bind fun p34 =>
  (jcv 0 h2 p30 (F_X0_remember n p30 p34 h2)).bind fun h37 =>
  (jgR 9 h37 a0 1).bind fun p41 =>
  (jgR 9 h37 a0 1).bind fun p45 =>
  (jgI 6 h37 p45 9).bind fun v48 =>
  (F_X11_withBit n v48 x1 (0 : Int32) h37).bind fun v53 =>
  (jpf 6 h37 p41 9 (.int v53)).bind fun h56 =>
  (jgR 9 h56 a0 1).bind fun p60 =>
  (jcv 6 h56 p60 (F_X8_gap n p60 x1 (-1 : Int32) h56)).bind fun v65 =>
  some (.inl v65, h56))
noncomputable def F_X11_snag (n : Nat) (a0 : Nat) (x1 : Int32) (h : jH) : Option (jR × jH) :=
  (jcv 9 h a0 (F_X11_requireRing n a0 x1 h)).bind fun q2 => jthen q2 fun r2 h2 =>
  (jgR 9 h2 a0 1).bind fun p7 =>
  (jgI 6 h2 p7 5).bind fun v10 =>
  if x1 = (v10 - (1 : Int32)) then (some (.inr 1, h2))
  else ((jgR 9 h2 a0 1).bind fun p19 =>
  (jgI 6 h2 p19 9).bind fun v22 =>
  (F_X11_bit n v22 x1 h2).bind fun v26 =>
  if v26 = (1 : Int32) then (some (.inr 1, h2))
  else ((jgR 9 h2 a0 3).bind fun p44 =>
  (jgR 9 h2 a0 1).bind fun p48 =>
  (jcv 0 h2 p44 (F_X0_remember n p44 p48 h2)).bind fun h51 =>
  (jgR 9 h51 a0 1).bind fun p55 =>
  (jgR 9 h51 a0 1).bind fun p59 =>
  (jgI 6 h51 p59 9).bind fun v62 =>
  (F_X11_withBit n v62 x1 (1 : Int32) h51).bind fun v67 =>
  (jpf 6 h51 p55 9 (.int v67)).bind fun h70 =>
  (jgR 9 h70 a0 1).bind fun p74 =>
  (jcv 6 h70 p74 (F_X8_gap n p74 x1 (-1 : Int32) h70)).bind fun v79 =>
  some (.inl v79, h70)))
noncomputable def F_X11_hook (n : Nat) (a0 : Nat) (x1 : Int32) (x2 : Int32) (h : jH) : Option (jR × jH) :=
  (jcv 9 h a0 (F_X11_requireRing n a0 x1 h)).bind fun q2 => jthen q2 fun r2 h2 =>
  (jgR 9 h2 a0 3).bind fun p6 =>
  (jgR 9 h2 a0 1).bind fun p10 =>
  (jcv 0 h2 p6 (F_X0_remember n p6 p10 h2)).bind fun h13 =>
  (jgR 9 h13 a0 1).bind fun p17 =>
  (jgI 6 h13 p17 8).bind fun v20 =>
  (jgR 9 h13 a0 1).bind fun p25 =>
  (F_X11_withBit n v20 x1 x2 h13).bind fun v31 =>
  (jpf 6 h13 p25 8 (.int v31)).bind fun h34 =>
  (jgR 9 h34 a0 1).bind fun p38 =>
  (jgI 6 h34 p38 8).bind fun v41 =>
  if v41 = v20 then (some (.inl (0 : Int32), h34))
  else (some (.inl (1 : Int32), h34))
noncomputable def F_X11_requirePlace (n : Nat) (a0 : Nat) (x1 : Int32) (h : jH) : Option (jR × jH) :=
  if x1 < 0 then (some (.inr 2, h))
  else (if x1 ≤ (31 : Int32) then (some (.inl 0, h))
  else (some (.inr 2, h)))
noncomputable def F_X11_sew (n : Nat) (a0 : Nat) (x1 : Int32) (x2 : Int32) (h : jH) : Option (jR × jH) :=
  (jcv 9 h a0 (F_X11_requirePlace n a0 x1 h)).bind fun q2 => jthen q2 fun r2 h2 =>
  (jcv 9 h2 a0 (F_X11_requireNumber n a0 x2 (1 : Int32) (9 : Int32) h2)).bind fun q10 => jthen q10 fun r10 h10 =>
  (jgR 9 h10 a0 1).bind fun p14 =>
  (jgI 6 h10 p14 5).bind fun v17 =>
  if (8 : Int32) ≤ v17 then (some (.inr 1, h10))
  else ((jgR 9 h10 a0 1).bind fun p27 =>
  (jcv 6 h10 p27 (F_X8_nearestNew n p27 h10)).bind fun v30 =>
  if x1 < v30 then (some (.inr 1, h10))
  else ((jgR 9 h10 a0 1).bind fun p38 =>
  (jcv 6 h10 p38 (F_X8_farthestNew n p38 h10)).bind fun v41 =>
  if x1 ≤ v41 then ((jgR 9 h10 a0 3).bind fun p58 =>
  (jgR 9 h10 a0 1).bind fun p62 =>
  (jcv 0 h10 p58 (F_X0_remember n p58 p62 h10)).bind fun h65 =>
  (jgR 9 h65 a0 1).bind fun p69 =>
  (jcv 6 h65 p69 (F_X8_add n p69 x1 x2 h65)).bind fun h74 =>
  (jgR 9 h74 a0 1).bind fun p78 =>
  (jgI 6 h74 p78 5).bind fun v81 =>
  some (.inl (v81 - (1 : Int32)), h74))
  else (some (.inr 1, h10))))
noncomputable def F_X11_let (n : Nat) (a0 : Nat) (x1 : Int32) (x2 : Int32) (h : jH) : Option (jR × jH) :=
  (jcv 9 h a0 (F_X11_requireRing n a0 x1 h)).bind fun q2 => jthen q2 fun r2 h2 =>
  (jcv 9 h2 a0 (F_X11_requireNumber n a0 x2 (0 : Int32) (9 : Int32) h2)).bind fun q10 => jthen q10 fun r10 h10 =>
  (jgR 9 h10 a0 3).bind fun p14 =>
  (jgR 9 h10 a0 1).bind fun p18 =>
  (jcv 0 h10 p14 (F_X0_remember n p14 p18 h10)).bind fun h21 =>
  (jgR 9 h21 a0 1).bind fun p25 =>
  (jgR 6 h21 p25 3).bind fun p28 =>
  (jal 0 h21 p28 x1).bind fun v32 =>
  (jgR 9 h21 a0 1).bind fun p35 =>
  (jgR 6 h21 p35 3).bind fun p38 =>
  (jas 0 h21 p38 x1 x2).bind fun h43 =>
  some (.inl v32, h43)
noncomputable def F_X11_chair (n : Nat) (a0 : Nat) (x1 : Int32) (x2 : Int32) (h : jH) : Option (jR × jH) :=
  (jcv 9 h a0 (F_X11_requirePlace n a0 x1 h)).bind fun q2 => jthen q2 fun r2 h2 =>
  (jgR 9 h2 a0 3).bind fun p6 =>
  (jgR 9 h2 a0 1).bind fun p10 =>
  (jcv 0 h2 p6 (F_X0_remember n p6 p10 h2)).bind fun h13 =>
  (jgR 9 h13 a0 1).bind fun p17 =>
  (jgI 6 h13 p17 10).bind fun v20 =>
  (jgR 9 h13 a0 1).bind fun p25 =>
  (F_X11_withBit n v20 x1 x2 h13).bind fun v31 =>
  (jpf 6 h13 p25 10 (.int v31)).bind fun h34 =>
  (jgR 9 h34 a0 1).bind fun p38 =>
  (jgI 6 h34 p38 10).bind fun v41 =>
  if v41 = v20 then (some (.inl (0 : Int32), h34))
  else (some (.inl (1 : Int32), h34))
noncomputable def F_X11_hours (n : Nat) (a0 : Nat) (x1 : Int32) (h : jH) : Option (jR × jH) :=
  (jcv 9 h a0 (F_X11_requireNumber n a0 x1 (1 : Int32) (80 : Int32) h)).bind fun q5 => jthen q5 fun r5 h5 =>
  (jgR 9 h5 a0 3).bind fun p9 =>
  (jgR 9 h5 a0 1).bind fun p13 =>
  (jcv 0 h5 p9 (F_X0_remember n p9 p13 h5)).bind fun h16 =>
  (jgR 9 h16 a0 8).bind fun p20 =>
  (jgR 9 h16 a0 1).bind fun p24 =>
  (jcv 1 h16 p20 (F_X1_run n p20 p24 x1 h16)).bind fun q28 =>
  some (.inl q28.1, q28.2)
noncomputable def F_X11_shade (n : Nat) (a0 : Nat) (h : jH) : Option Int32 :=
  (jgR 9 h a0 1).bind fun p1 =>
  (jcv 6 h p1 (F_X8_shadow n p1 h)).bind fun v4 =>
  some v4
noncomputable def F_X11_dark (n : Nat) (a0 : Nat) (h : jH) : Option Int32 :=
  (jgR 9 h a0 1).bind fun p1 =>
  (jcv 6 h p1 (F_X8_shadedChairs n p1 h)).bind fun v4 =>
  some v4
noncomputable def F_X11_bare (n : Nat) (a0 : Nat) (h : jH) : Option Int32 :=
  (jgR 9 h a0 1).bind fun p1 =>
  (jgI 6 h p1 10).bind fun v4 =>
  (jgR 9 h a0 1).bind fun p8 =>
  (jcv 6 h p8 (F_X8_shadow n p8 h)).bind fun v11 =>
  some (v4 &&& (v11 ^^^ (-1 : Int32)))
noncomputable def F_X11_goes (n : Nat) (a0 : Nat) (x1 : Int32) (x2 : Int32) (h : jH) : Option (jR × jH) :=
  (jcv 9 h a0 (F_X11_requireRing n a0 x1 h)).bind fun q2 => jthen q2 fun r2 h2 =>
  (jgR 9 h2 a0 4).bind fun p6 =>
  (jgR 9 h2 a0 1).bind fun p10 =>
  (jcv 6 h2 p6 (F_X8_copyFrom n p6 p10 h2)).bind fun h13 =>
  (jgR 9 h13 a0 4).bind fun p17 =>
  (jcv 6 h13 p17 (F_X8_move n p17 x1 x2 (31 : Int32) h13)).bind fun q24 =>
  some (.inl q24.1, q24.2)
noncomputable def F_X11_with (n : Nat) (a0 : Nat) (x1 : Int32) (x2 : Int32) (h : jH) : Option (jR × jH) :=
  (jcv 9 h a0 (F_X11_requireRing n a0 x1 h)).bind fun q2 => jthen q2 fun r2 h2 =>
  (jgR 9 h2 a0 1).bind fun p6 =>
  (jcv 6 h2 p6 (F_X8_goers n p6 x1 x2 h2)).bind fun v11 =>
  some (.inl v11, h2)
noncomputable def F_X11_would (n : Nat) (a0 : Nat) (x1 : Int32) (x2 : Int32) (x3 : Int32) (x4 : Int32) (h : jH) : Option (jR × jH) :=
  (jcv 9 h a0 (F_X11_requireRing n a0 x1 h)).bind fun q2 => jthen q2 fun r2 h2 =>
  (jcv 9 h2 a0 (F_X11_requireNumber n a0 x3 (1 : Int32) (31 : Int32) h2)).bind fun q10 => jthen q10 fun r10 h10 =>
  (jgR 9 h10 a0 4).bind fun p14 =>
  (jgR 9 h10 a0 1).bind fun p18 =>
  (jcv 6 h10 p14 (F_X8_copyFrom n p14 p18 h10)).bind fun h21 =>
  (jgR 9 h21 a0 4).bind fun p25 =>
  (jcv 6 h21 p25 (F_X8_move n p25 x1 x2 x3 h21)).bind fun q31 =>
  if x4 = 0 then ((jgR 9 q31.2 a0 4).bind fun p59 =>
  (jcv 6 q31.2 p59 (F_X8_shadedChairs n p59 q31.2)).bind fun v62 =>
  some (.inl v62, q31.2))
  else ((jgR 9 q31.2 a0 4).bind fun p41 =>
  (jgI 6 q31.2 p41 15).bind fun v44 =>
  (jgR 9 q31.2 a0 1).bind fun p48 =>
  (jgI 6 q31.2 p48 15).bind fun v51 =>
  some (.inl (v44 - v51), q31.2))
noncomputable def F_X11_best (n : Nat) (a0 : Nat) (h : jH) : Option (Int32 × jH) :=
  (jgR 9 h a0 9).bind fun p1 =>
  (jgR 9 h a0 1).bind fun p5 =>
  (jcv 5 h p1 (F_X7_shadiest n p1 p5 h)).bind fun q8 =>
  some (q8.1, q8.2)
noncomputable def F_X11_fewest (n : Nat) (a0 : Nat) (x1 : Int32) (h : jH) : Option (Int32 × jH) :=
  (jgR 9 h a0 9).bind fun p1 =>
  (jgR 9 h a0 1).bind fun p5 =>
  (jcv 5 h p1 (F_X7_seekShade n p1 p5 x1 h)).bind fun h9 =>
  (jgR 9 h9 a0 9).bind fun p13 =>
  (jgI 5 h9 p13 5).bind fun v16 =>
  some (v16, h9)
noncomputable def F_X11_first (n : Nat) (a0 : Nat) (x1 : Int32) (h : jH) : Option (Int32 × jH) :=
  (jgR 9 h a0 9).bind fun p1 =>
  (jgR 9 h a0 1).bind fun p5 =>
  (jcv 5 h p1 (F_X7_seekShade n p1 p5 x1 h)).bind fun h9 =>
  (jgR 9 h9 a0 9).bind fun p13 =>
  (jgI 5 h9 p13 6).bind fun v16 =>
  some (v16, h9)
noncomputable def F_X11_readSnags (n : Nat) (a0 : Nat) (h : jH) : Option (jR × jH) :=
  (jgR 9 h a0 9).bind fun p1 =>
  (jgR 9 h a0 1).bind fun p5 =>
  (jgI 6 h p5 5).bind fun v8 =>
  (jcv 5 h p1 (F_X7_areRows n p1 v8 h)).bind fun v11 =>
  if v11 = 0 then ((jgR 9 h a0 0).bind fun p31 =>
  (jpf 8 h p31 6 (.int (0 : Int32))).bind fun h35 =>
  if v11 = 0 then (some (.inr 0, h35))
  else (some (.inl 0, h35)))
  else ((jgR 9 h a0 9).bind fun p20 =>
  (jgR 9 h a0 1).bind fun p24 =>
  (jcv 5 h p20 (F_X7_seekSnags n p20 p24 h)).bind fun h27 =>
  (jgR 9 h27 a0 0).bind fun p31 =>
  (jpf 8 h27 p31 6 (.int (0 : Int32))).bind fun h35 =>
  if v11 = 0 then (some (.inr 0, h35))
  else (some (.inl 0, h35)))
noncomputable def F_X11_snags (n : Nat) (a0 : Nat) (x1 : Int32) (h : jH) : Option (jR × jH) :=
  (jcv 9 h a0 (F_X11_readSnags n a0 h)).bind fun q1 => jthen q1 fun r1 h1 =>
  if x1 = 0 then ((jgR 9 h1 a0 9).bind fun p19 =>
  (jgI 5 h1 p19 4).bind fun v22 =>
  some (.inl v22, h1))
  else ((jgR 9 h1 a0 9).bind fun p9 =>
  (jcv 5 h1 p9 (F_X7_inAllFitting n p9 h1)).bind fun v12 =>
  some (.inl v12, h1))
noncomputable def F_X11_tries (n : Nat) (a0 : Nat) (h : jH) : Option (jR × jH) :=
  (jcv 9 h a0 (F_X11_readSnags n a0 h)).bind fun q1 => jthen q1 fun r1 h1 =>
  (jgR 9 h1 a0 9).bind fun p5 =>
  (jgR 9 h1 a0 1).bind fun p9 =>
  (jcv 5 h1 p5 (F_X7_partingPull n p5 p9 h1)).bind fun q12 =>
  some (.inl q12.1, q12.2)
noncomputable def F_X11_loosen (n : Nat) (a0 : Nat) (x1 : Int32) (x2 : Int32) (x3 : Int32) (h : jH) : Option (jR × jH) :=
  (jcv 9 h a0 (F_X11_requireRing n a0 x1 h)).bind fun q2 => jthen q2 fun r2 h2 =>
  (jcv 9 h2 a0 (F_X11_requireNumber n a0 x3 (1 : Int32) (31 : Int32) h2)).bind fun q10 => jthen q10 fun r10 h10 =>
  (jgR 9 h10 a0 9).bind fun p14 =>
  (jgR 9 h10 a0 1).bind fun p18 =>
  (jcv 5 h10 p14 (F_X7_fewestFreed n p14 p18 x1 x2 x3 h10)).bind fun q24 =>
  some (.inl q24.1, q24.2)
noncomputable def F_X11_order (n : Nat) (a0 : Nat) (h : jH) : Option Int32 :=
  (jgR 9 h a0 1).bind fun p1 =>
  (F_X6_outOfOrder n p1 h).bind fun v4 =>
  some v4
noncomputable def F_X11_tight (n : Nat) (a0 : Nat) (x1 : Int32) (h : jH) : Option (jR × jH) :=
  (jcv 9 h a0 (F_X11_requireNumber n a0 x1 (2 : Int32) (8 : Int32) h)).bind fun q5 => jthen q5 fun r5 h5 =>
  (jgR 9 h5 a0 1).bind fun p9 =>
  (F_X6_tightest n p9 x1 h5).bind fun v13 =>
  some (.inl v13, h5)
noncomputable def F_X11_slack (n : Nat) (a0 : Nat) (h : jH) : Option Int32 :=
  (jgR 9 h a0 1).bind fun p1 =>
  (F_X6_spareCloth n p1 h).bind fun v4 =>
  some v4
noncomputable def F_X11_taut (n : Nat) (a0 : Nat) (h : jH) : Option Int32 :=
  (jgR 9 h a0 1).bind fun p1 =>
  (F_X6_tautRings n p1 h).bind fun v4 =>
  some v4
noncomputable def F_X11_lit (n : Nat) (a0 : Nat) (x1 : Int32) (h : jH) : Option (jR × jH) :=
  if x1 < 0 then (some (.inr 2, h))
  else (if x1 < (8 : Int32) then ((jgR 9 h a0 1).bind fun p22 =>
  (F_X6_litRings n p22 x1 h).bind fun v26 =>
  some (.inl v26, h))
  else (some (.inr 2, h)))
noncomputable def F_X11_sunny (n : Nat) (a0 : Nat) (h : jH) : Option Int32 :=
  (jgR 9 h a0 1).bind fun p1 =>
  (F_X6_sunniest n p1 h).bind fun v4 =>
  some v4
noncomputable def F_X11_faded (n : Nat) (a0 : Nat) (x1 : Int32) (h : jH) : Option (jR × jH) :=
  (jcv 9 h a0 (F_X11_requireNumber n a0 x1 (0 : Int32) (80 : Int32) h)).bind fun q5 => jthen q5 fun r5 h5 =>
  (jgR 9 h5 a0 8).bind fun p9 =>
  (jgR 9 h5 a0 1).bind fun p13 =>
  (jcv 1 h5 p9 (F_X1_goAhead n p9 p13 x1 h5)).bind fun h17 =>
  (jgR 9 h17 a0 4).bind fun p21 =>
  (jcv 6 h17 p21 (F_X8_allFades n p21 h17)).bind fun v24 =>
  some (.inl v24, h17)
noncomputable def F_X11_pale (n : Nat) (a0 : Nat) (h : jH) : Option (Int32 × jH) :=
  (jgR 9 h a0 8).bind fun p1 =>
  (jgR 9 h a0 1).bind fun p5 =>
  (jcv 1 h p1 (F_X1_firstPale n p1 p5 h)).bind fun q8 =>
  some (q8.1, q8.2)
noncomputable def F_X11_lets (n : Nat) (a0 : Nat) (x1 : Int32) (x2 : Int32) (h : jH) : Option (jR × jH) :=
  (jcv 9 h a0 (F_X11_requireRing n a0 x1 h)).bind fun q2 => jthen q2 fun r2 h2 =>
  (jcv 9 h2 a0 (F_X11_requireNumber n a0 x2 (0 : Int32) (9 : Int32) h2)).bind fun q10 => jthen q10 fun r10 h10 =>
  (jgR 9 h10 a0 1).bind fun p14 =>
  (F_X6_evenLength n p14 x1 x2 h10).bind fun v19 =>
  some (.inl v19, h10)
noncomputable def F_X11_envy (n : Nat) (a0 : Nat) (h : jH) : Option Int32 :=
  (jgR 9 h a0 1).bind fun p1 =>
  (F_X6_enviousPairs n p1 h).bind fun v4 =>
  some v4
noncomputable def F_X11_rests (n : Nat) (a0 : Nat) (x1 : Int32) (h : jH) : Option (jR × jH) :=
  (jcv 9 h a0 (F_X11_requireRing n a0 x1 h)).bind fun q2 => jthen q2 fun r2 h2 =>
  (jgR 9 h2 a0 1).bind fun p6 =>
  (F_X6_restingChoices n p6 x1 h2).bind fun v10 =>
  some (.inl v10, h2)
noncomputable def F_X11_bunch (n : Nat) (a0 : Nat) (h : jH) : Option Int32 :=
  (jgR 9 h a0 1).bind fun p1 =>
  (F_X6_largestBunch n p1 h).bind fun v4 =>
  some v4
noncomputable def F_X11_wooden (n : Nat) (a0 : Nat) (h : jH) : Option Int32 :=
  (jgR 9 h a0 1).bind fun p1 =>
  (jgI 6 h p1 7).bind fun v4 =>
  some v4
noncomputable def F_X11_caught (n : Nat) (a0 : Nat) (h : jH) : Option Int32 :=
  (jgR 9 h a0 1).bind fun p1 =>
  (jgI 6 h p1 9).bind fun v4 =>
  some v4
noncomputable def F_X11_loose (n : Nat) (a0 : Nat) (h : jH) : Option Int32 :=
  (jgR 9 h a0 1).bind fun p1 =>
  (jcv 6 h p1 (F_X8_unhooked n p1 h)).bind fun v4 =>
  some v4
noncomputable def F_X11_beyond (n : Nat) (a0 : Nat) (h : jH) : Option Int32 :=
  (jgR 9 h a0 1).bind fun p1 =>
  (F_X6_thickBeyondJoin n p1 h).bind fun v4 =>
  some v4
noncomputable def F_X11_odds (n : Nat) (a0 : Nat) (x1 : Int32) (x2 : Int32) (h : jH) : Option (jR × jH) :=
  (jcv 9 h a0 (F_X11_requireRing n a0 x1 h)).bind fun q2 => jthen q2 fun r2 h2 =>
  (jcv 9 h2 a0 (F_X11_requireNumber n a0 x2 (0 : Int32) (4 : Int32) h2)).bind fun q9 => jthen q9 fun r9 h9 =>
  (jgR 9 h9 a0 8).bind fun p13 =>
  (jgR 9 h9 a0 1).bind fun p17 =>
  (jcv 1 h9 p13 (F_X1_oddsToStay n p13 p17 x1 x2 h9)).bind fun q22 =>
  some (.inl q22.1, q22.2)
noncomputable def F_X11_twins (n : Nat) (a0 : Nat) (h : jH) : Option Int32 :=
  (jgR 9 h a0 1).bind fun p1 =>
  (F_X6_likePairs n p1 h).bind fun v4 =>
  some v4
noncomputable def F_X11_ahead (n : Nat) (a0 : Nat) (x1 : Int32) (x2 : Int32) (h : jH) : Option (jR × jH) :=
  (jcv 9 h a0 (F_X11_requireRing n a0 x1 h)).bind fun q2 => jthen q2 fun r2 h2 =>
  (jcv 9 h2 a0 (F_X11_requireNumber n a0 x2 (0 : Int32) (80 : Int32) h2)).bind fun q10 => jthen q10 fun r10 h10 =>
  (jgR 9 h10 a0 8).bind fun p14 =>
  (jgR 9 h10 a0 1).bind fun p18 =>
  (jcv 1 h10 p14 (F_X1_goAhead n p14 p18 x2 h10)).bind fun h22 =>
  (jgR 9 h22 a0 4).bind fun p26 =>
  (jgR 6 h22 p26 2).bind fun p29 =>
  (jal 0 h22 p29 x1).bind fun v33 =>
  some (.inl v33, h22)
noncomputable def F_X11_trial (n : Nat) (a0 : Nat) (x1 : Int32) (x2 : Int32) (h : jH) : Option (jR × jH) :=
  (jcv 9 h a0 (F_X11_requireNumber n a0 x1 (0 : Int32) (80 : Int32) h)).bind fun q5 => jthen q5 fun r5 h5 =>
  (jgR 9 h5 a0 8).bind fun p9 =>
  (jgR 9 h5 a0 1).bind fun p13 =>
  (jgR 9 h5 a0 1).bind fun p18 =>
  (jgI 6 h5 p18 16).bind fun v21 =>
  (jcv 1 h5 p9 (F_X1_tryHours n p9 p13 x1 v21 h5)).bind fun h24 =>
  if x2 = 0 then ((jgR 9 h24 a0 4).bind fun p42 =>
  (jgI 6 h24 p42 9).bind fun v45 =>
  some (.inl v45, h24))
  else ((jgR 9 h24 a0 4).bind fun p32 =>
  (jcv 6 h24 p32 (F_X8_unhooked n p32 h24)).bind fun v35 =>
  some (.inl v35, h24))
noncomputable def F_X11_span_13_b (n : Nat) (rc13 : Nat → Int32 → Int32 → Int32 → Int32 → jH → Option (jR × jH)) (a0 : Nat) (x1 : Int32) (x2 : Int32) (x3 : Int32) (x4 : Int32) (h : jH) : Option (jR × jH) :=
  if (6 : Int32) < x4 then (some (.inl x3, h))
  else ((jgR 9 h a0 8).bind fun p21 =>
  (jgR 9 h a0 1).bind fun p25 =>
  (jcv 1 h p21 (F_X1_tryHours n p21 p25 x1 x4 h)).bind fun h31 =>
  (jgR 9 h31 a0 4).bind fun p35 =>
  (jgI 6 h31 p35 9).bind fun v38 =>
  (F_J6_bitCount_0f7a4 n v38 h31).bind fun v41 =>
  (jgR 9 h31 a0 4).bind fun p45 =>
  (jcv 6 h31 p45 (F_X8_unhooked n p45 h31)).bind fun v48 =>
  (F_J6_bitCount_0f7a4 n v48 h31).bind fun v51 =>
  if x3 = (-1 : Int32) then (rc13 a0 x1 x2 (v41 + v51) (x4 + (1 : Int32)) h31)
  else (if x2 = 0 then (if x3 ≤ (v41 + v51) then (rc13 a0 x1 x2 x3 (x4 + (1 : Int32)) h31)
  else (rc13 a0 x1 x2 (v41 + v51) (x4 + (1 : Int32)) h31))
  else (if (v41 + v51) ≤ x3 then (rc13 a0 x1 x2 x3 (x4 + (1 : Int32)) h31)
  else (rc13 a0 x1 x2 (v41 + v51) (x4 + (1 : Int32)) h31))))
noncomputable def F_X11_span_13 (n : Nat) : Nat → Nat → Int32 → Int32 → Int32 → Int32 → jH → Option (jR × jH)
  | 0 => fun _ _ _ _ _ _ => none
  | k + 1 => F_X11_span_13_b n (F_X11_span_13 n k)
noncomputable def F_X11_span (n : Nat) (a0 : Nat) (x1 : Int32) (x2 : Int32) (h : jH) : Option (jR × jH) :=
  (jcv 9 h a0 (F_X11_requireNumber n a0 x1 (0 : Int32) (80 : Int32) h)).bind fun q5 => jthen q5 fun r5 h5 =>
  F_X11_span_13 n n a0 x1 x2 (-1 : Int32) (1 : Int32) h5
noncomputable def F_X11_led (n : Nat) (a0 : Nat) (x1 : Int32) (x2 : Int32) (h : jH) : Option (jR × jH) :=
  (jcv 9 h a0 (F_X11_requireRing n a0 x1 h)).bind fun q2 => jthen q2 fun r2 h2 =>
  if x2 = 0 then ((jgR 9 h2 a0 1).bind fun p24 =>
  (jgR 6 h2 p24 4).bind fun p27 =>
  (jcv 4 h2 p27 (F_X5_rowsOf n p27 x1 h2)).bind fun v31 =>
  some (.inl v31, h2))
  else ((jgR 9 h2 a0 1).bind fun p10 =>
  (jgR 6 h2 p10 4).bind fun p13 =>
  (jcv 4 h2 p13 (F_X5_latestPlace n p13 x1 h2)).bind fun v17 =>
  some (.inl v17, h2))
noncomputable def F_X11_log (n : Nat) (a0 : Nat) (x1 : Int32) (x2 : Int32) (h : jH) : Option (jR × jH) :=
  if x2 < 0 then (some (.inr 4, h))
  else (if x2 < (6 : Int32) then ((jgR 9 h a0 1).bind fun p22 =>
  (jgR 6 h p22 4).bind fun p25 =>
  (jcv 4 h p25 (F_X5_read n p25 x1 x2 h)).bind fun v30 =>
  some (.inl v30, h))
  else (some (.inr 4, h)))
noncomputable def F_X11_seed (n : Nat) (a0 : Nat) (x1 : Int32) (h : jH) : Option (Int32 × jH) :=
  (jgR 9 h a0 1).bind fun p1 =>
  (jgI 6 h p1 16).bind fun v4 =>
  (jgR 9 h a0 1).bind fun p9 =>
  (jpf 6 h p9 16 (.int x1)).bind fun h13 =>
  some (v4, h13)
noncomputable def F_X11_undo (n : Nat) (a0 : Nat) (h : jH) : Option (Int32 × jH) :=
  (jgR 9 h a0 3).bind fun p1 =>
  (jgR 9 h a0 1).bind fun p5 =>
  (jcv 0 h p1 (F_X0_takeBack n p1 p5 h)).bind fun q8 =>
  if q8.1 = 0 ∨ q8.1 = 1 then some (q8.1, q8.2) else none
noncomputable def F_X11_image_36 (n : Nat) (a0 : Nat) (h : jH) : Option jH :=
  (jgQ 9 h a0 10).bind fun o37 =>
  (jgR 9 h a0 1).bind fun p41 =>
  match o37 with
  | none => none
  | some p44 =>
  ((jcv 6 h p44 (F_X8_copyFrom n p44 p41 h)).bind fun h44 =>
  (jgQ 9 h44 a0 11).bind fun o48 =>
  (jgR 9 h44 a0 2).bind fun p52 =>
  match o48 with
  | none => none
  | some p55 =>
  ((jcv 2 h44 p55 (F_X2_copyFrom n p55 p52 h44)).bind fun h55 =>
  some h55))
noncomputable def F_X11_image_18 (n : Nat) (a0 : Nat) (h : jH) : Option jH :=
  (jgQ 9 h a0 11).bind fun o19 =>
  match o19 with
  | none => ((jnw h (.inl (2, [.null, .null, .null, .null, .null, .int 0, .int 0, .int 0, .int 0]))).bind fun h26 =>
  (F_X2_init n h.1 h26).bind fun h30 =>
  (jpf 9 h30 a0 11 (.ref h.1)).bind fun h33 =>
  F_X11_image_36 n a0 h33)
  | some p22 => (F_X11_image_36 n a0 h)
noncomputable def F_X11_image (n : Nat) (a0 : Nat) (h : jH) : Option jH :=
  (jgQ 9 h a0 10).bind fun o1 =>
  match o1 with
  | none => ((jnw h (.inl (6, [.null, .null, .null, .null, .null, .int 0, .int 0, .int 0, .int 0, .int 0, .int 0, .int 0, .int 0, .int 0, .int 0, .int 0, .int 0, .int 0]))).bind fun h8 =>
  (F_X8_init n h.1 h8).bind fun h12 =>
  (jpf 9 h12 a0 10 (.ref h.1)).bind fun h15 =>
  F_X11_image_18 n a0 h15)
  | some p4 => (F_X11_image_18 n a0 h)
noncomputable def F_X11_back (n : Nat) (a0 : Nat) (h : jH) : Option (Int32 × jH) :=
  (jgQ 9 h a0 10).bind fun o1 =>
  match o1 with
  | none => (some ((0 : Int32), h))
  | some p4 => ((jgQ 9 h a0 11).bind fun o8 =>
  match o8 with
  | none => (some ((0 : Int32), h))
  | some p11 => ((jgR 9 h a0 1).bind fun p17 =>
  (jgQ 9 h a0 10).bind fun o21 =>
  match o21 with
  | none => none
  | some p24_0 =>
  ((jcv 6 h p17 (F_X8_copyFrom n p17 p24_0 h)).bind fun h24 =>
  (jgR 9 h24 a0 2).bind fun p28 =>
  (jgQ 9 h24 a0 11).bind fun o32 =>
  match o32 with
  | none => none
  | some p35_0 =>
  ((jcv 2 h24 p28 (F_X2_copyFrom n p28 p35_0 h24)).bind fun h35 =>
  (jgR 9 h35 a0 3).bind fun p39 =>
  (jcv 0 h35 p39 (F_X0_forget n p39 h35)).bind fun h42 =>
  some ((1 : Int32), h42)))))
noncomputable def F_X11_count (n : Nat) (a0 : Nat) (x1 : Int32) (h : jH) : Option Int32 :=
  if x1 = (0 : Int32) then ((jgR 9 h a0 1).bind fun p61 =>
  (jgI 6 h p61 5).bind fun v64 =>
  some v64)
  else if x1 = (1 : Int32) then ((jgR 9 h a0 1).bind fun p69 =>
  (jgI 6 h p69 17).bind fun v72 =>
  some v72)
  else if x1 = (2 : Int32) then ((jgR 9 h a0 2).bind fun p77 =>
  (jgI 2 h p77 7).bind fun v80 =>
  if v80 = 0 then (some (-1 : Int32))
  else ((jgR 9 h a0 2).bind fun p87 =>
  (jgI 2 h p87 8).bind fun v90 =>
  some v90))
  else if x1 = (3 : Int32) then ((jgR 9 h a0 1).bind fun p99 =>
  (jgI 6 h p99 13).bind fun v102 =>
  some v102)
  else if x1 = (4 : Int32) then ((jgR 9 h a0 1).bind fun p107 =>
  (jgI 6 h p107 14).bind fun v110 =>
  some v110)
  else if x1 = (5 : Int32) then ((jgR 9 h a0 1).bind fun p115 =>
  (jgI 6 h p115 11).bind fun v118 =>
  some v118)
  else if x1 = (6 : Int32) then ((jgR 9 h a0 1).bind fun p123 =>
  (jgI 6 h p123 12).bind fun v126 =>
  some v126)
  else if x1 = (7 : Int32) then ((jgR 9 h a0 1).bind fun p131 =>
  (jgI 6 h p131 10).bind fun v134 =>
  some v134)
  else if x1 = (8 : Int32) then ((jgR 9 h a0 1).bind fun p139 =>
  (jgI 6 h p139 15).bind fun v142 =>
  some v142)
  else if x1 = (9 : Int32) then ((jgR 9 h a0 1).bind fun p147 =>
  (jgR 6 h p147 4).bind fun p150 =>
  (jgI 4 h p150 1).bind fun v153 =>
  some v153)
  else if x1 = (10 : Int32) then ((jgR 9 h a0 3).bind fun p158 =>
  (jgI 0 h p158 2).bind fun v161 =>
  some v161)
  else (some (-1 : Int32))
noncomputable def F_X12_throwsIf (n : Nat) (a0 : Nat) (x1 : Int32) (x2 : Int32) (h : jH) : Option (Int32 × jH) :=
  if x1 = 0 then (if x1 = 0 ∨ x1 = 1 then some (x1, h) else none)
  else ((jpf 10 h a0 0 (.int x2)).bind fun h6 =>
  if x1 = 0 ∨ x1 = 1 then some (x1, h6) else none)
noncomputable def F_X12_in (n : Nat) (x0 : Int32) (x1 : Int32) (x2 : Int32) (h : jH) : Option Int32 :=
  if x0 < x1 then (some (0 : Int32))
  else (if x2 < x0 then (some (0 : Int32))
  else (some (1 : Int32)))
noncomputable def F_X12_has (n : Nat) (x0 : Int32) (x1 : Int32) (h : jH) : Option Int32 :=
  if ((x0 >>> (x1 &&& 31)) &&& (1 : Int32)) = (1 : Int32) then (some (1 : Int32))
  else (some (0 : Int32))
noncomputable def F_X12_init (n : Nat) (a0 : Nat) (h : jH) : Option jH :=
  (jnw h (.inr (.inl (0, 2133, fun _ => 0)))).bind fun h8 =>
  (jpf 10 h8 a0 1 (.ref h.1)).bind fun h10 =>
  (jnw h10 (.inr (.inl (0, 1284, fun _ => 0)))).bind fun h17 =>
  (jpf 10 h17 a0 2 (.ref h10.1)).bind fun h19 =>
  (jnw h19 (.inr (.inl (0, 1284, fun _ => 0)))).bind fun h26 =>
  (jpf 10 h26 a0 3 (.ref h19.1)).bind fun h28 =>
  (jnw h28 (.inr (.inl (0, 435, fun _ => 0)))).bind fun h35 =>
  (jpf 10 h35 a0 4 (.ref h28.1)).bind fun h37 =>
  (jnw h37 (.inr (.inl (0, 5220, fun _ => 0)))).bind fun h44 =>
  (jpf 10 h44 a0 5 (.ref h37.1)).bind fun h46 =>
  (jnw h46 (.inr (.inl (1, 400, fun _ => 0)))).bind fun h53 =>
  (jpf 10 h53 a0 8 (.ref h46.1)).bind fun h55 =>
  (jpf 10 h55 a0 14 (.int (-1 : Int32))).bind fun h60 =>
  (jnw h60 (.inr (.inl (0, 5, fun _ => 0)))).bind fun h65 =>
  (jpf 10 h65 a0 15 (.ref h60.1)).bind fun h67 =>
  (jnw h67 (.inr (.inl (0, 400, fun _ => 0)))).bind fun h74 =>
  (jpf 10 h74 a0 17 (.ref h67.1)).bind fun h76 =>
  (jnw h76 (.inr (.inl (2, 256, fun _ => 0)))).bind fun h83 =>
  (jpf 10 h83 a0 19 (.ref h76.1)).bind fun h85 =>
  (jnw h85 (.inr (.inl (0, 32, fun _ => 0)))).bind fun h91 =>
  (jpf 10 h91 a0 20 (.ref h85.1)).bind fun h93 =>
  (jnw h93 (.inr (.inl (0, 8, fun _ => 0)))).bind fun h99 =>
  (jpf 10 h99 a0 21 (.ref h93.1)).bind fun h101 =>
  (jgR 10 h101 a0 1).bind fun p105 =>
  (jas 0 h101 p105 (5 : Int32) (16 : Int32)).bind fun h111 =>
  (jgR 10 h111 a0 1).bind fun p113 =>
  (jas 0 h111 p113 (6 : Int32) (8 : Int32)).bind fun h120 =>
  (jgR 10 h120 a0 1).bind fun p122 =>
  (jas 0 h120 p122 (10 : Int32) (1 : Int32)).bind fun h128 =>
  some h128
noncomputable def F_X12_image_7_b (n : Nat) (rc7 : Nat → Int32 → jH → Option jH) (a0 : Nat) (x1 : Int32) (h : jH) : Option jH :=
  if (1284 : Int32) ≤ x1 then ((jpf 10 h a0 6 (.int (1 : Int32))).bind fun h34 =>
  some h34)
  else ((jgR 10 h a0 2).bind fun p15 =>
  (jgR 10 h a0 1).bind fun p20 =>
  (jal 0 h p20 x1).bind fun v24 =>
  (jas 0 h p15 x1 v24).bind fun h25 =>
  rc7 a0 (x1 + (1 : Int32)) h25)
noncomputable def F_X12_image_7 (n : Nat) : Nat → Nat → Int32 → jH → Option jH
  | 0 => fun _ _ _ => none
  | k + 1 => F_X12_image_7_b n (F_X12_image_7 n k)
noncomputable def F_X12_image (n : Nat) (a0 : Nat) (h : jH) : Option jH :=
  (jpf 10 h a0 0 (.int (0 : Int32))).bind fun h2 =>
  F_X12_image_7 n n a0 (0 : Int32) h2
noncomputable def F_X12_back_16_b (n : Nat) (rc16 : Nat → Int32 → jH → Option (Int32 × jH)) (a0 : Nat) (x1 : Int32) (h : jH) : Option (Int32 × jH) :=
  if (1284 : Int32) ≤ x1 then ((jpf 10 h a0 7 (.int (0 : Int32))).bind fun h43 =>
  some ((1 : Int32), h43))
  else ((jgR 10 h a0 1).bind fun p24 =>
  (jgR 10 h a0 2).bind fun p29 =>
  (jal 0 h p29 x1).bind fun v33 =>
  (jas 0 h p24 x1 v33).bind fun h34 =>
  rc16 a0 (x1 + (1 : Int32)) h34)
noncomputable def F_X12_back_16 (n : Nat) : Nat → Nat → Int32 → jH → Option (Int32 × jH)
  | 0 => fun _ _ _ => none
  | k + 1 => F_X12_back_16_b n (F_X12_back_16 n k)
noncomputable def F_X12_back (n : Nat) (a0 : Nat) (h : jH) : Option (Int32 × jH) :=
  (jpf 10 h a0 0 (.int (0 : Int32))).bind fun h2 =>
  (jgI 10 h2 a0 6).bind fun v6 =>
  if v6 = 0 then (some ((0 : Int32), h2))
  else (F_X12_back_16 n n a0 (0 : Int32) h2)
noncomputable def F_X12_remembers_55_b (n : Nat) (rc55 : Nat → Int32 → jH → Option jH) (a0 : Nat) (x1 : Int32) (h : jH) : Option jH :=
  if (435 : Int32) ≤ x1 then (some h)
  else ((jgR 10 h a0 5).bind fun p63 =>
  (jgI 10 h a0 7).bind fun v70 =>
  (jgR 10 h a0 1).bind fun p79 =>
  (jal 0 h p79 x1).bind fun v83 =>
  (jas 0 h p63 (((435 : Int32) * (v70 - (1 : Int32))) + x1) v83).bind fun h84 =>
  rc55 a0 (x1 + (1 : Int32)) h84)
noncomputable def F_X12_remembers_55 (n : Nat) : Nat → Nat → Int32 → jH → Option jH
  | 0 => fun _ _ _ => none
  | k + 1 => F_X12_remembers_55_b n (F_X12_remembers_55 n k)
noncomputable def F_X12_remembers_11_b (n : Nat) (rc11 : Nat → Int32 → jH → Option jH) (a0 : Nat) (x1 : Int32) (h : jH) : Option jH :=
  if (4785 : Int32) ≤ x1 then (F_X12_remembers_55 n n a0 (0 : Int32) h)
  else ((jgR 10 h a0 5).bind fun p19 =>
  (jgR 10 h a0 5).bind fun p24 =>
  (jal 0 h p24 (x1 + (435 : Int32))).bind fun v32 =>
  (jas 0 h p19 x1 v32).bind fun h33 =>
  rc11 a0 (x1 + (1 : Int32)) h33)
noncomputable def F_X12_remembers_11 (n : Nat) : Nat → Nat → Int32 → jH → Option jH
  | 0 => fun _ _ _ => none
  | k + 1 => F_X12_remembers_11_b n (F_X12_remembers_11 n k)
noncomputable def F_X12_remembers (n : Nat) (a0 : Nat) (h : jH) : Option jH :=
  (jgI 10 h a0 7).bind fun v1 =>
  if v1 = (12 : Int32) then (F_X12_remembers_11 n n a0 (0 : Int32) h)
  else ((jgI 10 h a0 7).bind fun v45 =>
  (jpf 10 h a0 7 (.int (v45 + (1 : Int32)))).bind fun h50 =>
  F_X12_remembers_55 n n a0 (0 : Int32) h50)
noncomputable def F_X12_undo_26_b (n : Nat) (rc26 : Nat → Int32 → jH → Option (Int32 × jH)) (a0 : Nat) (x1 : Int32) (h : jH) : Option (Int32 × jH) :=
  if (435 : Int32) ≤ x1 then (some ((1 : Int32), h))
  else ((jgR 10 h a0 1).bind fun p34 =>
  (jgR 10 h a0 5).bind fun p39 =>
  (jgI 10 h a0 7).bind fun v46 =>
  (jal 0 h p39 (((435 : Int32) * v46) + x1)).bind fun v52 =>
  (jas 0 h p34 x1 v52).bind fun h53 =>
  rc26 a0 (x1 + (1 : Int32)) h53)
noncomputable def F_X12_undo_26 (n : Nat) : Nat → Nat → Int32 → jH → Option (Int32 × jH)
  | 0 => fun _ _ _ => none
  | k + 1 => F_X12_undo_26_b n (F_X12_undo_26 n k)
noncomputable def F_X12_undo (n : Nat) (a0 : Nat) (h : jH) : Option (Int32 × jH) :=
  (jpf 10 h a0 0 (.int (0 : Int32))).bind fun h2 =>
  (jgI 10 h2 a0 7).bind fun v6 =>
  if v6 = 0 then (some ((0 : Int32), h2))
  else ((jgI 10 h2 a0 7).bind fun v16 =>
  (jpf 10 h2 a0 7 (.int (v16 - (1 : Int32)))).bind fun h21 =>
  F_X12_undo_26 n n a0 (0 : Int32) h21)
noncomputable def F_X12_rings (n : Nat) (a0 : Nat) (h : jH) : Option Int32 :=
  (jgR 10 h a0 1).bind fun p1 =>
  (jal 0 h p1 (0 : Int32)).bind fun v5 =>
  some v5
noncomputable def F_X12_lastRing (n : Nat) (a0 : Nat) (h : jH) : Option Int32 :=
  (jcv 10 h a0 (F_X12_rings n a0 h)).bind fun v1 =>
  some (v1 - (1 : Int32))
noncomputable def F_X12_at (n : Nat) (x0 : Int32) (x1 : Int32) (h : jH) : Option Int32 :=
  some (((11 : Int32) + ((8 : Int32) * x0)) + x1)
noncomputable def F_X12_of (n : Nat) (a0 : Nat) (x1 : Int32) (x2 : Int32) (h : jH) : Option Int32 :=
  (jgR 10 h a0 1).bind fun p1 =>
  (F_X12_at n x1 x2 h).bind fun v6 =>
  (jal 0 h p1 v6).bind fun v9 =>
  some v9
noncomputable def F_X12_is (n : Nat) (a0 : Nat) (x1 : Int32) (x2 : Int32) (h : jH) : Option Int32 :=
  (jcv 10 h a0 (F_X12_of n a0 x1 x2 h)).bind fun v3 =>
  if v3 = (1 : Int32) then (some (1 : Int32))
  else (some (0 : Int32))
noncomputable def F_X12_gapOf (n : Nat) (a0 : Nat) (x1 : Int32) (h : jH) : Option Int32 :=
  (jcv 10 h a0 (F_X12_lastRing n a0 h)).bind fun v2 =>
  if x1 = v2 then (some (99 : Int32))
  else ((jcv 10 h a0 (F_X12_of n a0 (x1 + (1 : Int32)) (0 : Int32) h)).bind fun v18 =>
  (jcv 10 h a0 (F_X12_of n a0 x1 (0 : Int32) h)).bind fun v24 =>
  some (v18 - v24))
noncomputable def F_X12_ringsThat_4_b (n : Nat) (rc4 : Nat → Int32 → Int32 → Int32 → jH → Option Int32) (a0 : Nat) (x1 : Int32) (x2 : Int32) (x3 : Int32) (h : jH) : Option Int32 :=
  (jcv 10 h a0 (F_X12_rings n a0 h)).bind fun v6 =>
  if v6 ≤ x3 then (some x2)
  else ((jcv 10 h a0 (F_X12_is n a0 x3 x1 h)).bind fun v16 =>
  if v16 = 0 then (rc4 a0 x1 (x2 ||| (0 : Int32)) (x3 + (1 : Int32)) h)
  else (rc4 a0 x1 (x2 ||| ((1 : Int32) <<< (x3 &&& 31))) (x3 + (1 : Int32)) h))
noncomputable def F_X12_ringsThat_4 (n : Nat) : Nat → Nat → Int32 → Int32 → Int32 → jH → Option Int32
  | 0 => fun _ _ _ _ _ => none
  | k + 1 => F_X12_ringsThat_4_b n (F_X12_ringsThat_4 n k)
noncomputable def F_X12_ringsThat (n : Nat) (a0 : Nat) (x1 : Int32) (h : jH) : Option Int32 :=
  F_X12_ringsThat_4 n n a0 x1 (0 : Int32) (0 : Int32) h
noncomputable def F_X12_noRing (n : Nat) (a0 : Nat) (x1 : Int32) (h : jH) : Option Int32 :=
  (jcv 10 h a0 (F_X12_lastRing n a0 h)).bind fun v3 =>
  (F_X12_in n x1 (0 : Int32) v3 h).bind fun v6 =>
  if v6 = 0 then (some (1 : Int32))
  else (some (0 : Int32))
noncomputable def F_X12_noPlace (n : Nat) (x0 : Int32) (h : jH) : Option Int32 :=
  (F_X12_in n x0 (0 : Int32) (31 : Int32) h).bind fun v4 =>
  if v4 = 0 then (some (1 : Int32))
  else (some (0 : Int32))
noncomputable def F_X12_noSteps (n : Nat) (x0 : Int32) (h : jH) : Option Int32 :=
  (F_X12_in n x0 (1 : Int32) (31 : Int32) h).bind fun v4 =>
  if v4 = 0 then (some (1 : Int32))
  else (some (0 : Int32))
noncomputable def F_X12_drawn (n : Nat) (a0 : Nat) (x1 : Int32) (h : jH) : Option (Int32 × jH) :=
  (jgR 10 h a0 1).bind fun p1 =>
  (jgR 10 h a0 1).bind fun p9 =>
  (jal 0 h p9 (10 : Int32)).bind fun v14 =>
  (jas 0 h p1 (10 : Int32) (((1103515245 : Int32) * v14) + (12345 : Int32))).bind fun h20 =>
  (jgR 10 h20 a0 1).bind fun p22 =>
  (jal 0 h20 p22 (10 : Int32)).bind fun v27 =>
  if x1 = 0 then none else
  some (((v27 >>> ((16 : Int32) &&& 31)) &&& (32767 : Int32)) - ((v27 >>> ((16 : Int32) &&& 31)) &&& (32767 : Int32)) / x1 * x1, h20)
noncomputable def F_X12_feed_60_b (n : Nat) (rc60 : Nat → Int32 → jH → Option (Int32 × jH)) (a0 : Nat) (x6 : Int32) (h : jH) : Option (Int32 × jH) :=
  if (20 : Int32) ≤ x6 then ((jgI 10 h a0 9).bind fun v108 =>
  (jpf 10 h a0 9 (.int (v108 + (20 : Int32)))).bind fun h114 =>
  (jgI 10 h114 a0 9).bind fun v118 =>
  some (v118, h114))
  else ((jgR 10 h a0 8).bind fun p68 =>
  (jgI 10 h a0 9).bind fun v72 =>
  (jgR 10 h a0 15).bind fun p79 =>
  (jal 0 h p79 (x6 / (4 : Int32))).bind fun v86 =>
  (jas 1 h p68 (v72 + x6) ((v86 >>> (((24 : Int32) - ((8 : Int32) * (x6 - x6 / (4 : Int32) * (4 : Int32)))) &&& 31)).toInt8.toInt32)).bind fun h99 =>
  rc60 a0 (x6 + (1 : Int32)) h99)
noncomputable def F_X12_feed_60 (n : Nat) : Nat → Nat → Int32 → jH → Option (Int32 × jH)
  | 0 => fun _ _ _ => none
  | k + 1 => F_X12_feed_60_b n (F_X12_feed_60 n k)
noncomputable def F_X12_feed (n : Nat) (a0 : Nat) (x1 : Int32) (x2 : Int32) (x3 : Int32) (x4 : Int32) (x5 : Int32) (h : jH) : Option (Int32 × jH) :=
  (jpf 10 h a0 0 (.int (0 : Int32))).bind fun h2 =>
  (jgI 10 h2 a0 9).bind fun v6 =>
  if (v6 + (20 : Int32)) ≤ (400 : Int32) then ((jgR 10 h2 a0 15).bind fun p21 =>
  (jas 0 h2 p21 (0 : Int32) x1).bind fun h26 =>
  (jgR 10 h26 a0 15).bind fun p28 =>
  (jas 0 h26 p28 (1 : Int32) x2).bind fun h33 =>
  (jgR 10 h33 a0 15).bind fun p35 =>
  (jas 0 h33 p35 (2 : Int32) x3).bind fun h40 =>
  (jgR 10 h40 a0 15).bind fun p42 =>
  (jas 0 h40 p42 (3 : Int32) x4).bind fun h48 =>
  (jgR 10 h48 a0 15).bind fun p50 =>
  (jas 0 h48 p50 (4 : Int32) x5).bind fun h56 =>
  F_X12_feed_60 n n a0 (0 : Int32) h56)
  else (some ((-1 : Int32), h2))
noncomputable def F_X12_end (n : Nat) (a0 : Nat) (x1 : Int32) (h : jH) : Option (Int32 × jH) :=
  (jpf 10 h a0 0 (.int (0 : Int32))).bind fun h2 =>
  if x1 < 0 then (some ((0 : Int32), h2))
  else ((jgI 10 h2 a0 9).bind fun v11 =>
  if x1 ≤ v11 then ((jpf 10 h2 a0 9 (.int x1)).bind fun h21 =>
  some ((1 : Int32), h21))
  else (some ((0 : Int32), h2)))
noncomputable def F_X12_isAt (n : Nat) (a0 : Nat) (x1 : Int32) (x2 : Int32) (h : jH) : Option Int32 :=
  (jgI 10 h a0 10).bind fun v1 =>
  (jgI 10 h a0 11).bind fun v5 =>
  if v5 ≤ v1 then (some (0 : Int32))
  else ((jgR 10 h a0 8).bind fun p12 =>
  (jgI 10 h a0 10).bind fun v16 =>
  (jal 1 h p12 v16).bind fun v19 =>
  if v19 < x1 then (some (0 : Int32))
  else ((jgR 10 h a0 8).bind fun p25 =>
  (jgI 10 h a0 10).bind fun v29 =>
  (jal 1 h p25 v29).bind fun v32 =>
  if x2 < v32 then (some (0 : Int32))
  else (some (1 : Int32))))
noncomputable def F_X12_blanks_0_b (n : Nat) (rc0 : Nat → jH → Option jH) (a0 : Nat) (h : jH) : Option jH :=
  (jcv 10 h a0 (F_X12_isAt n a0 (32 : Int32) (32 : Int32) h)).bind fun v5 =>
  if v5 = 0 then ((jgI 10 h a0 10).bind fun v26 =>
  (jpf 10 h a0 12 (.int v26)).bind fun h29 =>
  some h29)
  else ((jgI 10 h a0 10).bind fun v13 =>
  (jpf 10 h a0 10 (.int (v13 + (1 : Int32)))).bind fun h18 =>
  rc0 a0 h18)
noncomputable def F_X12_blanks_0 (n : Nat) : Nat → Nat → jH → Option jH
  | 0 => fun _ _ => none
  | k + 1 => F_X12_blanks_0_b n (F_X12_blanks_0 n k)
noncomputable def F_X12_blanks (n : Nat) (a0 : Nat) (h : jH) : Option jH :=
  F_X12_blanks_0 n n a0 h
noncomputable def F_X12_letters_4_b (n : Nat) (rc4 : Nat → jH → Option jH) (a0 : Nat) (h : jH) : Option jH :=
  (jcv 10 h a0 (F_X12_isAt n a0 (97 : Int32) (122 : Int32) h)).bind fun v9 =>
  if v9 = 0 then (some h)
  else ((jgI 10 h a0 10).bind fun v17 =>
  (jpf 10 h a0 10 (.int (v17 + (1 : Int32)))).bind fun h22 =>
  rc4 a0 h22)
noncomputable def F_X12_letters_4 (n : Nat) : Nat → Nat → jH → Option jH
  | 0 => fun _ _ => none
  | k + 1 => F_X12_letters_4_b n (F_X12_letters_4 n k)
noncomputable def F_X12_letters (n : Nat) (a0 : Nat) (h : jH) : Option jH :=
  (jcv 10 h a0 (F_X12_blanks n a0 h)).bind fun h1 =>
  F_X12_letters_4 n n a0 h1
noncomputable def F_X12_isWord_24_b (n : Nat) (rc24 : Nat → Nat → Int32 → Int32 → jH → Option Int32) (a0 : Nat) (t1 : Nat) (x2 : Int32) (x3 : Int32) (h : jH) : Option Int32 :=
  if x2 = 0 then (if x2 = 0 ∨ x2 = 1 then some x2 else none)
  else ((jtl t1).bind fun v30 =>
  if v30 ≤ x3 then (if x2 = 0 ∨ x2 = 1 then some x2 else none)
  else ((jgR 10 h a0 8).bind fun p37 =>
  (jgI 10 h a0 12).bind fun v41 =>
  (jal 1 h p37 (v41 + x3)).bind fun v46 =>
  (jtc t1 x3).bind fun v49 =>
  if v46 = v49 then (rc24 a0 t1 (1 : Int32) (x3 + (1 : Int32)) h)
  else (rc24 a0 t1 (0 : Int32) (x3 + (1 : Int32)) h)))
noncomputable def F_X12_isWord_24 (n : Nat) : Nat → Nat → Nat → Int32 → Int32 → jH → Option Int32
  | 0 => fun _ _ _ _ _ => none
  | k + 1 => F_X12_isWord_24_b n (F_X12_isWord_24 n k)
noncomputable def F_X12_isWord (n : Nat) (a0 : Nat) (t1 : Nat) (h : jH) : Option Int32 :=
  (jgI 10 h a0 10).bind fun v1 =>
  (jgI 10 h a0 12).bind fun v5 =>
  (jtl t1).bind fun v10 =>
  if (v1 - v5) = v10 then (F_X12_isWord_24 n n a0 t1 (1 : Int32) (0 : Int32) h)
  else (F_X12_isWord_24 n n a0 t1 (0 : Int32) (0 : Int32) h)
noncomputable def F_X12_passes (n : Nat) (a0 : Nat) (t1 : Nat) (h : jH) : Option (Int32 × jH) :=
  (jcv 10 h a0 (F_X12_letters n a0 h)).bind fun h1 =>
  (jcv 10 h1 a0 (F_X12_isWord n a0 t1 h1)).bind fun v6 =>
  if v6 = 0 then ((jgI 10 h1 a0 12).bind fun v16 =>
  (jpf 10 h1 a0 10 (.int v16)).bind fun h19 =>
  some ((0 : Int32), h19))
  else (some ((1 : Int32), h1))
noncomputable def F_X12_sign (n : Nat) (a0 : Nat) (x1 : Int32) (h : jH) : Option (Int32 × jH) :=
  (jcv 10 h a0 (F_X12_blanks n a0 h)).bind fun h1 =>
  (jcv 10 h1 a0 (F_X12_isAt n a0 x1 x1 h1)).bind fun v7 =>
  if v7 = 0 then (some ((0 : Int32), h1))
  else ((jgI 10 h1 a0 10).bind fun v17 =>
  (jpf 10 h1 a0 10 (.int (v17 + (1 : Int32)))).bind fun h22 =>
  some ((1 : Int32), h22))
noncomputable def F_X12_number_6_b (n : Nat) (rc6 : Nat → Int32 → Int32 → Int32 → jH → Option (Int32 × jH)) (a0 : Nat) (x1 : Int32) (x2 : Int32) (x3 : Int32) (h : jH) : Option (Int32 × jH) :=
  (jcv 10 h a0 (F_X12_isAt n a0 (48 : Int32) (57 : Int32) h)).bind fun v11 =>
  if v11 = 0 then ((jgI 10 h a0 10).bind fun v66 =>
  (jgI 10 h a0 12).bind fun v70 =>
  if v66 = v70 then (some ((-1 : Int32), h))
  else ((jgI 10 h a0 10).bind fun v77 =>
  (jgI 10 h a0 12).bind fun v81 =>
  if (3 : Int32) < (v77 - v81) then (some ((-1 : Int32), h))
  else (if x3 < x1 then (some ((-1 : Int32), h))
  else (if x3 ≤ x2 then (some (x3, h))
  else (some ((-1 : Int32), h))))))
  else ((jgI 10 h a0 10).bind fun v18 =>
  (jgI 10 h a0 12).bind fun v22 =>
  if (3 : Int32) ≤ (v18 - v22) then ((jgI 10 h a0 10).bind fun v54 =>
  (jpf 10 h a0 10 (.int (v54 + (1 : Int32)))).bind fun h59 =>
  rc6 a0 x1 x2 x3 h59)
  else ((jgR 10 h a0 8).bind fun p35 =>
  (jgI 10 h a0 10).bind fun v39 =>
  (jal 1 h p35 v39).bind fun v42 =>
  (jgI 10 h a0 10).bind fun v54 =>
  (jpf 10 h a0 10 (.int (v54 + (1 : Int32)))).bind fun h59 =>
  rc6 a0 x1 x2 ((((10 : Int32) * x3) + v42) - (48 : Int32)) h59))
noncomputable def F_X12_number_6 (n : Nat) : Nat → Nat → Int32 → Int32 → Int32 → jH → Option (Int32 × jH)
  | 0 => fun _ _ _ _ _ => none
  | k + 1 => F_X12_number_6_b n (F_X12_number_6 n k)
noncomputable def F_X12_number (n : Nat) (a0 : Nat) (x1 : Int32) (x2 : Int32) (h : jH) : Option (Int32 × jH) :=
  (jcv 10 h a0 (F_X12_blanks n a0 h)).bind fun h1 =>
  F_X12_number_6 n n a0 x1 x2 (0 : Int32) h1
noncomputable def F_X12_after (n : Nat) (a0 : Nat) (t1 : Nat) (x2 : Int32) (x3 : Int32) (h : jH) : Option (Int32 × jH) :=
  (jcv 10 h a0 (F_X12_letters n a0 h)).bind fun h1 =>
  (jcv 10 h1 a0 (F_X12_isWord n a0 t1 h1)).bind fun v6 =>
  if v6 = 0 then (some ((-1 : Int32), h1))
  else ((jcv 10 h1 a0 (F_X12_number n a0 x2 x3 h1)).bind fun q15 =>
  some (q15.1, q15.2))
noncomputable def F_X12_fault (n : Nat) (a0 : Nat) (h : jH) : Option (Int32 × jH) :=
  (jpf 10 h a0 0 (.int (0 : Int32))).bind fun h2 =>
  (jgI 10 h2 a0 14).bind fun v6 =>
  some (v6, h2)
noncomputable def F_X12_uses (n : Nat) (a0 : Nat) (h : jH) : Option jH :=
  (jpf 10 h a0 0 (.int (0 : Int32))).bind fun h2 =>
  (jgI 10 h2 a0 9).bind fun v7 =>
  (jpf 10 h2 a0 11 (.int v7)).bind fun h10 =>
  (jpf 10 h10 a0 9 (.int (0 : Int32))).bind fun h15 =>
  (jpf 10 h15 a0 10 (.int (0 : Int32))).bind fun h20 =>
  some h20
noncomputable def F_X12_readNumber (n : Nat) (a0 : Nat) (x1 : Int32) (x2 : Int32) (x3 : Int32) (h : jH) : Option (Int32 × jH) :=
  (jcv 10 h a0 (F_X12_number n a0 x2 x3 h)).bind fun q3 =>
  (jgR 10 q3.2 a0 1).bind fun p9 =>
  if 0 ≤ q3.1 then ((jas 0 q3.2 p9 x1 q3.1).bind fun h29 =>
  if q3.1 < 0 then (some ((0 : Int32), h29))
  else (some ((1 : Int32), h29)))
  else ((jgR 10 q3.2 a0 1).bind fun p19 =>
  (jal 0 q3.2 p19 x1).bind fun v23 =>
  (jas 0 q3.2 p9 x1 v23).bind fun h29 =>
  if q3.1 < 0 then (some ((0 : Int32), h29))
  else (some ((1 : Int32), h29)))
noncomputable def F_X12_leastPlace (n : Nat) (a0 : Nat) (h : jH) : Option Int32 :=
  (jcv 10 h a0 (F_X12_rings n a0 h)).bind fun v1 =>
  if v1 = 0 then (some (0 : Int32))
  else ((jcv 10 h a0 (F_X12_lastRing n a0 h)).bind fun v13 =>
  (jcv 10 h a0 (F_X12_of n a0 v13 (0 : Int32) h)).bind fun v17 =>
  some (v17 + (1 : Int32)))
noncomputable def F_X12_mostPlace (n : Nat) (a0 : Nat) (h : jH) : Option Int32 :=
  (jcv 10 h a0 (F_X12_rings n a0 h)).bind fun v1 =>
  if v1 = 0 then (some (31 : Int32))
  else ((jcv 10 h a0 (F_X12_lastRing n a0 h)).bind fun v16 =>
  (jcv 10 h a0 (F_X12_of n a0 v16 (0 : Int32) h)).bind fun v20 =>
  (jcv 10 h a0 (F_X12_lastRing n a0 h)).bind fun v25 =>
  (jcv 10 h a0 (F_X12_of n a0 v25 (1 : Int32) h)).bind fun v29 =>
  some (if (v20 + v29) < (31 : Int32) then v20 + v29 else (31 : Int32)))
noncomputable def F_X12_hangs_8_b (n : Nat) (rc8 : Nat → Int32 → Int32 → Int32 → Int32 → jH → Option jH) (a0 : Nat) (x1 : Int32) (x2 : Int32) (x3 : Int32) (x4 : Int32) (h : jH) : Option jH :=
  if (8 : Int32) ≤ x4 then ((jgR 10 h a0 1).bind fun p34 =>
  (F_X12_at n x3 (0 : Int32) h).bind fun v39 =>
  (jas 0 h p34 v39 x1).bind fun h43 =>
  (jgR 10 h43 a0 1).bind fun p45 =>
  (F_X12_at n x3 (1 : Int32) h43).bind fun v50 =>
  (jas 0 h43 p45 v50 x2).bind fun h54 =>
  (jgR 10 h54 a0 1).bind fun p56 =>
  (F_X12_at n x3 (6 : Int32) h54).bind fun v62 =>
  (jas 0 h54 p56 v62 (1 : Int32)).bind fun h66 =>
  (jgR 10 h66 a0 1).bind fun p68 =>
  (jal 0 h66 p68 (0 : Int32)).bind fun v73 =>
  (jas 0 h66 p68 (0 : Int32) (v73 + (1 : Int32))).bind fun h76 =>
  some h76)
  else ((jgR 10 h a0 1).bind fun p16 =>
  (F_X12_at n x3 x4 h).bind fun v22 =>
  (jas 0 h p16 v22 (0 : Int32)).bind fun h26 =>
  rc8 a0 x1 x2 x3 (x4 + (1 : Int32)) h26)
noncomputable def F_X12_hangs_8 (n : Nat) : Nat → Nat → Int32 → Int32 → Int32 → Int32 → jH → Option jH
  | 0 => fun _ _ _ _ _ _ => none
  | k + 1 => F_X12_hangs_8_b n (F_X12_hangs_8 n k)
noncomputable def F_X12_hangs (n : Nat) (a0 : Nat) (x1 : Int32) (x2 : Int32) (h : jH) : Option jH :=
  (jcv 10 h a0 (F_X12_rings n a0 h)).bind fun v1 =>
  F_X12_hangs_8 n n a0 x1 x2 v1 (0 : Int32) h
noncomputable def F_X12_readRing_171 (n : Nat) (a0 : Nat) (x1 : Int32) (x6 : Int32) (x7 : Int32) (sa0 : Nat) (s1 : Int32) (s2 : Int32) (h : jH) : Option (Int32 × jH) :=
  (jas 0 h sa0 s1 s2).bind fun h171 =>
  (jgR 10 h171 a0 1).bind fun p173 =>
  (F_X12_at n x1 (4 : Int32) h171).bind fun v178 =>
  (jas 0 h171 p173 v178 x6).bind fun h183 =>
  (jgR 10 h183 a0 1).bind fun p185 =>
  (F_X12_at n x1 (5 : Int32) h183).bind fun v190 =>
  (jas 0 h183 p185 v190 x7).bind fun h195 =>
  some ((1 : Int32), h195)
noncomputable def F_X12_readRing_151 (n : Nat) (a0 : Nat) (x1 : Int32) (x5 : Int32) (x6 : Int32) (x7 : Int32) (sa0 : Nat) (s1 : Int32) (s2 : Int32) (h : jH) : Option (Int32 × jH) :=
  (jas 0 h sa0 s1 s2).bind fun h151 =>
  (jgR 10 h151 a0 1).bind fun p153 =>
  (F_X12_at n x1 (3 : Int32) h151).bind fun v158 =>
  if x5 = 0 then (F_X12_readRing_171 n a0 x1 x6 x7 p153 v158 (0 : Int32) h151)
  else (F_X12_readRing_171 n a0 x1 x6 x7 p153 v158 (1 : Int32) h151)
noncomputable def F_X12_readRing_117 (n : Nat) (a0 : Nat) (x1 : Int32) (x2 : Int32) (x3 : Int32) (x4 : Int32) (x5 : Int32) (x6 : Int32) (s0 : Int32) (h : jH) : Option (Int32 × jH) :=
  if 0 ≤ s0 then ((jcv 10 h a0 (F_X12_hangs n a0 x2 x3 h)).bind fun h129 =>
  (jgR 10 h129 a0 1).bind fun p133 =>
  (F_X12_at n x1 (2 : Int32) h129).bind fun v138 =>
  if x4 = 0 then (F_X12_readRing_151 n a0 x1 x5 x6 s0 p133 v138 (0 : Int32) h129)
  else (F_X12_readRing_151 n a0 x1 x5 x6 s0 p133 v138 (1 : Int32) h129))
  else (some ((0 : Int32), h))
noncomputable def F_X12_readRing_88 (n : Nat) (a0 : Nat) (x1 : Int32) (x2 : Int32) (x3 : Int32) (x4 : Int32) (x5 : Int32) (s0 : Int32) (h : jH) : Option (Int32 × jH) :=
  if 0 ≤ s0 then ((jcv 10 h a0 (F_X12_passes n a0 19 h)).bind fun q100 =>
  if q100.1 = 0 then (F_X12_readRing_117 n a0 x1 x2 x3 x4 x5 s0 (0 : Int32) q100.2)
  else ((jcv 10 q100.2 a0 (F_X12_number n a0 (0 : Int32) (9 : Int32) q100.2)).bind fun q110 =>
  F_X12_readRing_117 n a0 x1 x2 x3 x4 x5 s0 q110.1 q110.2))
  else (some ((0 : Int32), h))
noncomputable def F_X12_readRing_45 (n : Nat) (a0 : Nat) (x1 : Int32) (x2 : Int32) (s0 : Int32) (h : jH) : Option (Int32 × jH) :=
  if 0 ≤ s0 then ((jcv 10 h a0 (F_X12_passes n a0 16 h)).bind fun q55 =>
  (jcv 10 q55.2 a0 (F_X12_passes n a0 17 q55.2)).bind fun q63 =>
  (jcv 10 q63.2 a0 (F_X12_passes n a0 18 q63.2)).bind fun q71 =>
  if q71.1 = 0 then (F_X12_readRing_88 n a0 x1 x2 s0 q55.1 q63.1 (0 : Int32) q71.2)
  else ((jcv 10 q71.2 a0 (F_X12_number n a0 (0 : Int32) (99 : Int32) q71.2)).bind fun q81 =>
  F_X12_readRing_88 n a0 x1 x2 s0 q55.1 q63.1 q81.1 q81.2))
  else (some ((0 : Int32), h))
noncomputable def F_X12_readRing (n : Nat) (a0 : Nat) (h : jH) : Option (Int32 × jH) :=
  (jcv 10 h a0 (F_X12_rings n a0 h)).bind fun v1 =>
  if v1 = (8 : Int32) then (some ((0 : Int32), h))
  else ((jcv 10 h a0 (F_X12_leastPlace n a0 h)).bind fun v17 =>
  (jcv 10 h a0 (F_X12_mostPlace n a0 h)).bind fun v21 =>
  (jcv 10 h a0 (F_X12_after n a0 14 v17 v21 h)).bind fun q24 =>
  if 0 ≤ q24.1 then ((jcv 10 q24.2 a0 (F_X12_after n a0 15 (1 : Int32) (9 : Int32) q24.2)).bind fun q42 =>
  F_X12_readRing_45 n a0 v1 q24.1 q42.1 q42.2)
  else (F_X12_readRing_45 n a0 v1 q24.1 (-1 : Int32) q24.2))
noncomputable def F_X12_readCaught (n : Nat) (a0 : Nat) (h : jH) : Option (Int32 × jH) :=
  (jcv 10 h a0 (F_X12_lastRing n a0 h)).bind fun v3 =>
  (jcv 10 h a0 (F_X12_number n a0 (0 : Int32) (v3 - (1 : Int32)) h)).bind fun q8 =>
  if 0 ≤ q8.1 then ((jgR 10 q8.2 a0 1).bind fun p19 =>
  (F_X12_at n q8.1 (7 : Int32) q8.2).bind fun v25 =>
  (jas 0 q8.2 p19 v25 (1 : Int32)).bind fun h29 =>
  some ((1 : Int32), h29))
  else (some ((0 : Int32), q8.2))
noncomputable def F_X12_readChair (n : Nat) (a0 : Nat) (h : jH) : Option (Int32 × jH) :=
  (jcv 10 h a0 (F_X12_number n a0 (0 : Int32) (31 : Int32) h)).bind fun q4 =>
  if 0 ≤ q4.1 then ((jgR 10 q4.2 a0 1).bind fun p15 =>
  (jal 0 q4.2 p15 (7 : Int32)).bind fun v21 =>
  (jas 0 q4.2 p15 (7 : Int32) (v21 ||| ((1 : Int32) <<< (q4.1 &&& 31)))).bind fun h26 =>
  some ((1 : Int32), h26))
  else (some ((0 : Int32), q4.2))
noncomputable def F_X12_readPoleLine (n : Nat) (a0 : Nat) (h : jH) : Option (Int32 × jH) :=
  (jcv 10 h a0 (F_X12_isWord n a0 13 h)).bind fun v3 =>
  if v3 = 0 then ((jcv 10 h a0 (F_X12_isWord n a0 20 h)).bind fun v17 =>
  if v17 = 0 then ((jcv 10 h a0 (F_X12_isWord n a0 21 h)).bind fun v31 =>
  if v31 = 0 then ((jcv 10 h a0 (F_X12_isWord n a0 22 h)).bind fun v45 =>
  if v45 = 0 then ((jcv 10 h a0 (F_X12_isWord n a0 23 h)).bind fun v63 =>
  if v63 = 0 then ((jcv 10 h a0 (F_X12_isWord n a0 24 h)).bind fun v82 =>
  if v82 = 0 then ((jcv 10 h a0 (F_X12_isWord n a0 25 h)).bind fun v100 =>
  if v100 = 0 then (some ((0 : Int32), h))
  else ((jcv 10 h a0 (F_X12_readNumber n a0 (4 : Int32) (0 : Int32) (999 : Int32) h)).bind fun q112 =>
  if q112.1 = 0 then (some ((0 : Int32), q112.2))
  else (some ((1 : Int32), q112.2))))
  else ((jcv 10 h a0 (F_X12_readNumber n a0 (3 : Int32) (0 : Int32) (7 : Int32) h)).bind fun q93 =>
  if q93.1 = 0 ∨ q93.1 = 1 then some (q93.1, q93.2) else none))
  else ((jcv 10 h a0 (F_X12_readNumber n a0 (6 : Int32) (0 : Int32) (31 : Int32) h)).bind fun q75 =>
  if q75.1 = 0 ∨ q75.1 = 1 then some (q75.1, q75.2) else none))
  else ((jcv 10 h a0 (F_X12_readNumber n a0 (5 : Int32) (1 : Int32) (31 : Int32) h)).bind fun q56 =>
  if q56.1 = 0 ∨ q56.1 = 1 then some (q56.1, q56.2) else none))
  else ((jcv 10 h a0 (F_X12_readChair n a0 h)).bind fun q38 =>
  if q38.1 = 0 ∨ q38.1 = 1 then some (q38.1, q38.2) else none))
  else ((jcv 10 h a0 (F_X12_readCaught n a0 h)).bind fun q24 =>
  if q24.1 = 0 ∨ q24.1 = 1 then some (q24.1, q24.2) else none))
  else ((jcv 10 h a0 (F_X12_readRing n a0 h)).bind fun q10 =>
  if q10.1 = 0 ∨ q10.1 = 1 then some (q10.1, q10.2) else none)
noncomputable def F_X12_emits (n : Nat) (a0 : Nat) (x1 : Int32) (x2 : Int32) (h : jH) : Option jH :=
  (jgR 10 h a0 1).bind fun p1 =>
  (jgI 10 h a0 16).bind fun v9 =>
  (jas 0 h p1 ((1333 : Int32) + ((2 : Int32) * v9)) x1).bind fun h15 =>
  (jgR 10 h15 a0 1).bind fun p17 =>
  (jgI 10 h15 a0 16).bind fun v25 =>
  (jas 0 h15 p17 (((1333 : Int32) + ((2 : Int32) * v25)) + (1 : Int32)) x2).bind fun h33 =>
  (jgI 10 h33 a0 16).bind fun v36 =>
  (jpf 10 h33 a0 16 (.int (v36 + (1 : Int32)))).bind fun h41 =>
  some h41
noncomputable def F_X12_wordOfPart (n : Nat) (a0 : Nat) (h : jH) : Option Int32 :=
  (jcv 10 h a0 (F_X12_isWord n a0 13 h)).bind fun v3 =>
  if v3 = 0 then ((jcv 10 h a0 (F_X12_isWord n a0 32 h)).bind fun v14 =>
  if v14 = 0 then ((jcv 10 h a0 (F_X12_isWord n a0 33 h)).bind fun v25 =>
  if v25 = 0 then ((jcv 10 h a0 (F_X12_isWord n a0 18 h)).bind fun v36 =>
  if v36 = 0 then ((jcv 10 h a0 (F_X12_isWord n a0 19 h)).bind fun v47 =>
  if v47 = 0 then ((jcv 10 h a0 (F_X12_isWord n a0 24 h)).bind fun v58 =>
  if v58 = 0 then ((jcv 10 h a0 (F_X12_isWord n a0 25 h)).bind fun v69 =>
  if v69 = 0 then (some (-1 : Int32))
  else (some (6 : Int32)))
  else (some (5 : Int32)))
  else (some (4 : Int32)))
  else (some (3 : Int32)))
  else (some (2 : Int32)))
  else (some (1 : Int32)))
  else (some (0 : Int32))
noncomputable def F_X12_readPart_61 (n : Nat) (x2 : Int32) (sa0 : Nat) (s1 : Int32) (s2 : Int32) (h : jH) : Option (Int32 × jH) :=
  (jcv 10 h sa0 (F_X12_emits n sa0 s1 s2 h)).bind fun h61 =>
  if x2 < 0 then (some ((0 : Int32), h61))
  else (some ((1 : Int32), h61))
noncomputable def F_X12_readPart_40 (n : Nat) (a0 : Nat) (x1 : Int32) (s0 : Int32) (h : jH) : Option (Int32 × jH) :=
  if x1 = 0 then (if x1 = 0 then (F_X12_readPart_61 n s0 a0 s0 (0 : Int32) h)
  else (F_X12_readPart_61 n s0 a0 s0 s0 h))
  else (if x1 = 0 then (F_X12_readPart_61 n s0 a0 (11 : Int32) (0 : Int32) h)
  else (F_X12_readPart_61 n s0 a0 (11 : Int32) s0 h))
noncomputable def F_X12_readPart_20 (n : Nat) (a0 : Nat) (s0 : Int32) (h : jH) : Option (Int32 × jH) :=
  if s0 = 0 then ((jcv 10 h a0 (F_X12_wordOfPart n a0 h)).bind fun v37 =>
  F_X12_readPart_40 n a0 s0 v37 h)
  else ((jcv 10 h a0 (F_X12_number n a0 (0 : Int32) (999 : Int32) h)).bind fun q30 =>
  F_X12_readPart_40 n a0 s0 q30.1 q30.2)
noncomputable def F_X12_readPart (n : Nat) (a0 : Nat) (h : jH) : Option (Int32 × jH) :=
  (jcv 10 h a0 (F_X12_letters n a0 h)).bind fun h1 =>
  (jgI 10 h1 a0 10).bind fun v5 =>
  (jgI 10 h1 a0 12).bind fun v9 =>
  if v5 = v9 then (F_X12_readPart_20 n a0 (1 : Int32) h1)
  else (F_X12_readPart_20 n a0 (0 : Int32) h1)
noncomputable def F_X12_readSum_9_b (n : Nat) (rc9 : Nat → jH → Option (Int32 × jH)) (a0 : Nat) (h : jH) : Option (Int32 × jH) :=
  (jcv 10 h a0 (F_X12_sign n a0 (43 : Int32) h)).bind fun q12 =>
  if q12.1 = 0 then (some ((1 : Int32), q12.2))
  else ((jcv 10 q12.2 a0 (F_X12_readPart n a0 q12.2)).bind fun q19 =>
  if q19.1 = 0 then (some ((0 : Int32), q19.2))
  else ((jcv 10 q19.2 a0 (F_X12_emits n a0 (12 : Int32) (0 : Int32) q19.2)).bind fun h31 =>
  rc9 a0 h31))
noncomputable def F_X12_readSum_9 (n : Nat) : Nat → Nat → jH → Option (Int32 × jH)
  | 0 => fun _ _ => none
  | k + 1 => F_X12_readSum_9_b n (F_X12_readSum_9 n k)
noncomputable def F_X12_readSum (n : Nat) (a0 : Nat) (h : jH) : Option (Int32 × jH) :=
  (jcv 10 h a0 (F_X12_readPart n a0 h)).bind fun q1 =>
  if q1.1 = 0 then (some ((0 : Int32), q1.2))
  else (F_X12_readSum_9 n n a0 q1.2)
noncomputable def F_X12_readTag_61 (n : Nat) (a0 : Nat) (s0 : Int32) (h : jH) : Option (Int32 × jH) :=
  if s0 < 0 then ((jgI 10 h a0 12).bind fun v77 =>
  (jpf 10 h a0 10 (.int v77)).bind fun h80 =>
  if s0 < 0 then (some ((0 : Int32), h80))
  else (some ((1 : Int32), h80)))
  else ((jcv 10 h a0 (F_X12_emits n a0 s0 (0 : Int32) h)).bind fun h69 =>
  if s0 < 0 then (some ((0 : Int32), h69))
  else (some ((1 : Int32), h69)))
noncomputable def F_X12_readTag (n : Nat) (a0 : Nat) (h : jH) : Option (Int32 × jH) :=
  (jcv 10 h a0 (F_X12_letters n a0 h)).bind fun h1 =>
  (jcv 10 h1 a0 (F_X12_isWord n a0 17 h1)).bind fun v7 =>
  if v7 = 0 then ((jcv 10 h1 a0 (F_X12_isWord n a0 16 h1)).bind fun v21 =>
  if v21 = 0 then ((jcv 10 h1 a0 (F_X12_isWord n a0 30 h1)).bind fun v35 =>
  if v35 = 0 then ((jcv 10 h1 a0 (F_X12_isWord n a0 31 h1)).bind fun v49 =>
  if v49 = 0 then (F_X12_readTag_61 n a0 (-1 : Int32) h1)
  else (F_X12_readTag_61 n a0 (10 : Int32) h1))
  else (F_X12_readTag_61 n a0 (9 : Int32) h1))
  else (F_X12_readTag_61 n a0 (8 : Int32) h1))
  else (F_X12_readTag_61 n a0 (7 : Int32) h1)
noncomputable def F_X12_readCond_9_b (n : Nat) (g0 : Nat → jH → Option (Int32 × jH)) (g1 : Nat → jH → Option (Int32 × jH)) (g2 : Nat → jH → Option (Int32 × jH)) (rc9 : Nat → jH → Option (Int32 × jH)) (a0 : Nat) (h : jH) : Option (Int32 × jH) :=
  (jcv 10 h a0 (F_X12_passes n a0 35 h)).bind fun q12 =>
  if q12.1 = 0 then (some ((1 : Int32), q12.2))
  else ((jcv 10 q12.2 a0 (g2 a0 q12.2)).bind fun q19 =>
  if q19.1 = 0 then (some ((0 : Int32), q19.2))
  else ((jcv 10 q19.2 a0 (F_X12_emits n a0 (17 : Int32) (0 : Int32) q19.2)).bind fun h31 =>
  rc9 a0 h31))
noncomputable def F_X12_readCond_9 (n : Nat) (g0 : Nat → jH → Option (Int32 × jH)) (g1 : Nat → jH → Option (Int32 × jH)) (g2 : Nat → jH → Option (Int32 × jH)) : Nat → Nat → jH → Option (Int32 × jH)
  | 0 => fun _ _ => none
  | k + 1 => F_X12_readCond_9_b n g0 g1 g2 (F_X12_readCond_9 n g0 g1 g2 k)
noncomputable def F_X12_readCond (n : Nat) (g0 : Nat → jH → Option (Int32 × jH)) (g1 : Nat → jH → Option (Int32 × jH)) (g2 : Nat → jH → Option (Int32 × jH)) (a0 : Nat) (h : jH) : Option (Int32 × jH) :=
  (jcv 10 h a0 (g2 a0 h)).bind fun q1 =>
  if q1.1 = 0 then (some ((0 : Int32), q1.2))
  else (F_X12_readCond_9 n g0 g1 g2 n a0 q1.2)
noncomputable def F_X12_readAtom_173 (n : Nat) (g0 : Nat → jH → Option (Int32 × jH)) (g1 : Nat → jH → Option (Int32 × jH)) (g2 : Nat → jH → Option (Int32 × jH)) (sa0 : Nat) (s1 : Int32) (h : jH) : Option (Int32 × jH) :=
  (jcv 10 h sa0 (F_X12_emits n sa0 s1 (0 : Int32) h)).bind fun h174 =>
  some ((1 : Int32), h174)
noncomputable def F_X12_readAtom_152 (n : Nat) (g0 : Nat → jH → Option (Int32 × jH)) (g1 : Nat → jH → Option (Int32 × jH)) (g2 : Nat → jH → Option (Int32 × jH)) (a0 : Nat) (x1 : Int32) (h : jH) : Option (Int32 × jH) :=
  (jcv 10 h a0 (F_X12_readSum n a0 h)).bind fun q153 =>
  if q153.1 = 0 then (some ((0 : Int32), q153.2))
  else (if x1 = 0 then (F_X12_readAtom_173 n g0 g1 g2 a0 (14 : Int32) q153.2)
  else (F_X12_readAtom_173 n g0 g1 g2 a0 (13 : Int32) q153.2))
noncomputable def F_X12_readAtom (n : Nat) (g0 : Nat → jH → Option (Int32 × jH)) (g1 : Nat → jH → Option (Int32 × jH)) (g2 : Nat → jH → Option (Int32 × jH)) (a0 : Nat) (h : jH) : Option (Int32 × jH) :=
  (jcv 10 h a0 (F_X12_sign n a0 (40 : Int32) h)).bind fun q3 =>
  if q3.1 = 0 then ((jcv 10 q3.2 a0 (F_X12_passes n a0 29 q3.2)).bind fun q59 =>
  if q59.1 = 0 then ((jcv 10 q59.2 a0 (F_X12_readTag n a0 q59.2)).bind fun q115 =>
  if q115.1 = 0 then ((jcv 10 q115.2 a0 (F_X12_readSum n a0 q115.2)).bind fun q124 =>
  if q124.1 = 0 then (some ((0 : Int32), q124.2))
  else ((jcv 10 q124.2 a0 (F_X12_sign n a0 (60 : Int32) q124.2)).bind fun q135 =>
  if q135.1 = 0 then ((jcv 10 q135.2 a0 (F_X12_sign n a0 (62 : Int32) q135.2)).bind fun q146 =>
  if q146.1 = 0 then (some ((0 : Int32), q146.2))
  else (F_X12_readAtom_152 n g0 g1 g2 a0 q135.1 q146.2))
  else (F_X12_readAtom_152 n g0 g1 g2 a0 q135.1 q135.2)))
  else (some ((1 : Int32), q115.2)))
  else ((jgI 10 q59.2 a0 13).bind fun v66 =>
  if v66 = (6 : Int32) then (some ((0 : Int32), q59.2))
  else ((jgI 10 q59.2 a0 13).bind fun v78 =>
  (jpf 10 q59.2 a0 13 (.int (v78 + (1 : Int32)))).bind fun h83 =>
  (jcv 10 h83 a0 (g1 a0 h83)).bind fun q87 =>
  if q87.1 = 0 then (some ((0 : Int32), q87.2))
  else ((jgI 10 q87.2 a0 13).bind fun v97 =>
  (jpf 10 q87.2 a0 13 (.int (v97 - (1 : Int32)))).bind fun h102 =>
  (jcv 10 h102 a0 (F_X12_emits n a0 (15 : Int32) (0 : Int32) h102)).bind fun h109 =>
  some ((1 : Int32), h109)))))
  else ((jgI 10 q3.2 a0 13).bind fun v10 =>
  if v10 = (6 : Int32) then (some ((0 : Int32), q3.2))
  else ((jgI 10 q3.2 a0 13).bind fun v22 =>
  (jpf 10 q3.2 a0 13 (.int (v22 + (1 : Int32)))).bind fun h27 =>
  (jcv 10 h27 a0 (g0 a0 h27)).bind fun q31 =>
  if q31.1 = 0 then (some ((0 : Int32), q31.2))
  else ((jgI 10 q31.2 a0 13).bind fun v41 =>
  (jpf 10 q31.2 a0 13 (.int (v41 - (1 : Int32)))).bind fun h46 =>
  (jcv 10 h46 a0 (F_X12_sign n a0 (41 : Int32) h46)).bind fun q52 =>
  if q52.1 = 0 ∨ q52.1 = 1 then some (q52.1, q52.2) else none)))
noncomputable def F_X12_readAllOf_9_b (n : Nat) (g0 : Nat → jH → Option (Int32 × jH)) (g1 : Nat → jH → Option (Int32 × jH)) (g2 : Nat → jH → Option (Int32 × jH)) (rc9 : Nat → jH → Option (Int32 × jH)) (a0 : Nat) (h : jH) : Option (Int32 × jH) :=
  (jcv 10 h a0 (F_X12_passes n a0 34 h)).bind fun q12 =>
  if q12.1 = 0 then (some ((1 : Int32), q12.2))
  else ((jcv 10 q12.2 a0 (g1 a0 q12.2)).bind fun q19 =>
  if q19.1 = 0 then (some ((0 : Int32), q19.2))
  else ((jcv 10 q19.2 a0 (F_X12_emits n a0 (16 : Int32) (0 : Int32) q19.2)).bind fun h31 =>
  rc9 a0 h31))
noncomputable def F_X12_readAllOf_9 (n : Nat) (g0 : Nat → jH → Option (Int32 × jH)) (g1 : Nat → jH → Option (Int32 × jH)) (g2 : Nat → jH → Option (Int32 × jH)) : Nat → Nat → jH → Option (Int32 × jH)
  | 0 => fun _ _ => none
  | k + 1 => F_X12_readAllOf_9_b n g0 g1 g2 (F_X12_readAllOf_9 n g0 g1 g2 k)
noncomputable def F_X12_readAllOf (n : Nat) (g0 : Nat → jH → Option (Int32 × jH)) (g1 : Nat → jH → Option (Int32 × jH)) (g2 : Nat → jH → Option (Int32 × jH)) (a0 : Nat) (h : jH) : Option (Int32 × jH) :=
  (jcv 10 h a0 (g1 a0 h)).bind fun q1 =>
  if q1.1 = 0 then (some ((0 : Int32), q1.2))
  else (F_X12_readAllOf_9 n g0 g1 g2 n a0 q1.2)
noncomputable def FG_MC (n : Nat) : Nat → Nat → Nat → jH → Option (Int32 × jH)
  | 0 => fun _ _ _ => none
  | d + 1 => fun w =>
    if w = 0 then F_X12_readCond n (FG_MC n d 0) (FG_MC n d 1) (FG_MC n d 2) else     if w = 1 then F_X12_readAtom n (FG_MC n d 0) (FG_MC n d 1) (FG_MC n d 2) else F_X12_readAllOf n (FG_MC n d 0) (FG_MC n d 1) (FG_MC n d 2)
noncomputable def F_X12_readLawLine_53 (n : Nat) (a0 : Nat) (x2 : Int32) (sa0 : Nat) (s1 : Int32) (s2 : Int32) (h : jH) : Option (Int32 × jH) :=
  (jas 0 h sa0 s1 s2).bind fun h53 =>
  (jgR 10 h53 a0 1).bind fun p55 =>
  (jal 0 h53 p55 x2).bind fun v59 =>
  if 0 ≤ v59 then ((jgR 10 h53 a0 1).bind fun p66 =>
  (jcv 10 h53 a0 (F_X12_number n a0 (0 : Int32) (100 : Int32) h53)).bind fun q76 =>
  (jas 0 q76.2 p66 (x2 + (1 : Int32)) q76.1).bind fun h79 =>
  (jgR 10 h79 a0 1).bind fun p81 =>
  (jal 0 h79 p81 (x2 + (1 : Int32))).bind fun v87 =>
  if 0 ≤ v87 then ((jgR 10 h79 a0 1).bind fun p94 =>
  (jgI 10 h79 a0 16).bind fun v101 =>
  (jas 0 h79 p94 (x2 + (2 : Int32)) v101).bind fun h104 =>
  (jpf 10 h104 a0 13 (.int (0 : Int32))).bind fun h107 =>
  (jcv 10 h107 a0 (F_X12_passes n a0 28 h107)).bind fun q113 =>
  if q113.1 = 0 then ((jgR 10 q113.2 a0 1).bind fun p129 =>
  (jgI 10 q113.2 a0 16).bind fun v136 =>
  (jas 0 q113.2 p129 (x2 + (3 : Int32)) v136).bind fun h139 =>
  some ((1 : Int32), h139))
  else ((jcv 10 q113.2 a0 (FG_MC n 30 0 a0 q113.2)).bind fun q120 =>
  if q120.1 = 0 then (some ((0 : Int32), q120.2))
  else ((jgR 10 q120.2 a0 1).bind fun p129 =>
  (jgI 10 q120.2 a0 16).bind fun v136 =>
  (jas 0 q120.2 p129 (x2 + (3 : Int32)) v136).bind fun h139 =>
  some ((1 : Int32), h139))))
  else (some ((0 : Int32), h79)))
  else (some ((0 : Int32), h53))
noncomputable def F_X12_readLawLine (n : Nat) (a0 : Nat) (x1 : Int32) (h : jH) : Option (Int32 × jH) :=
  (jgR 10 h a0 1).bind fun p9 =>
  (jcv 10 h a0 (F_X12_isWord n a0 18 h)).bind fun v16 =>
  if v16 = 0 then ((jcv 10 h a0 (F_X12_isWord n a0 26 h)).bind fun v29 =>
  if v29 = 0 then ((jcv 10 h a0 (F_X12_isWord n a0 27 h)).bind fun v42 =>
  if v42 = 0 then (F_X12_readLawLine_53 n a0 ((1285 : Int32) + ((4 : Int32) * x1)) p9 ((1285 : Int32) + ((4 : Int32) * x1)) (-1 : Int32) h)
  else (F_X12_readLawLine_53 n a0 ((1285 : Int32) + ((4 : Int32) * x1)) p9 ((1285 : Int32) + ((4 : Int32) * x1)) (2 : Int32) h))
  else (F_X12_readLawLine_53 n a0 ((1285 : Int32) + ((4 : Int32) * x1)) p9 ((1285 : Int32) + ((4 : Int32) * x1)) (1 : Int32) h))
  else (F_X12_readLawLine_53 n a0 ((1285 : Int32) + ((4 : Int32) * x1)) p9 ((1285 : Int32) + ((4 : Int32) * x1)) (0 : Int32) h)
noncomputable def F_X12_readLine_16 (n : Nat) (a0 : Nat) (x1 : Int32) (x2 : Int32) (s0 : Int32) (s1 : Int32) (h : jH) : Option (Int32 × jH) :=
  if s1 ≤ s0 then (some ((0 : Int32), h))
  else (if x1 = 0 then ((jcv 10 h a0 (F_X12_readLawLine n a0 x2 h)).bind fun q35 =>
  if q35.1 = 0 then (some ((0 : Int32), q35.2))
  else (some ((1 : Int32), q35.2)))
  else ((jcv 10 h a0 (F_X12_readPoleLine n a0 h)).bind fun q24 =>
  if q24.1 = 0 then (some ((0 : Int32), q24.2))
  else (some ((1 : Int32), q24.2))))
noncomputable def F_X12_readLine (n : Nat) (a0 : Nat) (x1 : Int32) (x2 : Int32) (h : jH) : Option (Int32 × jH) :=
  (jcv 10 h a0 (F_X12_letters n a0 h)).bind fun h1 =>
  if x1 = 0 then (F_X12_readLine_16 n a0 x1 x2 x2 (12 : Int32) h1)
  else (F_X12_readLine_16 n a0 x1 x2 x2 (14 : Int32) h1)
noncomputable def F_X12_readAll_28_b (n : Nat) (rc28 : Nat → Int32 → Int32 → jH → Option (Int32 × jH)) (a0 : Nat) (x1 : Int32) (x2 : Int32) (h : jH) : Option (Int32 × jH) :=
  (jcv 10 h a0 (F_X12_readLine n a0 x1 x2 h)).bind fun q31 =>
  if q31.1 = 0 then (some ((-1 : Int32), q31.2))
  else ((jcv 10 q31.2 a0 (F_X12_blanks n a0 q31.2)).bind fun h40 =>
  (jgI 10 h40 a0 10).bind fun v44 =>
  (jgI 10 h40 a0 11).bind fun v48 =>
  if v44 = v48 then (some (x2 + (1 : Int32), h40))
  else ((jcv 10 h40 a0 (F_X12_isAt n a0 (59 : Int32) (59 : Int32) h40)).bind fun v63 =>
  if v63 = 0 then (some ((-1 : Int32), h40))
  else ((jgI 10 h40 a0 10).bind fun v73 =>
  (jpf 10 h40 a0 10 (.int (v73 + (1 : Int32)))).bind fun h78 =>
  rc28 a0 x1 (x2 + (1 : Int32)) h78)))
noncomputable def F_X12_readAll_28 (n : Nat) : Nat → Nat → Int32 → Int32 → jH → Option (Int32 × jH)
  | 0 => fun _ _ _ _ => none
  | k + 1 => F_X12_readAll_28_b n (F_X12_readAll_28 n k)
noncomputable def F_X12_readAll (n : Nat) (a0 : Nat) (x1 : Int32) (h : jH) : Option (Int32 × jH) :=
  (jcv 10 h a0 (F_X12_uses n a0 h)).bind fun h1 =>
  (jpf 10 h1 a0 16 (.int (0 : Int32))).bind fun h6 =>
  (jcv 10 h6 a0 (F_X12_blanks n a0 h6)).bind fun h10 =>
  (jgI 10 h10 a0 10).bind fun v14 =>
  (jgI 10 h10 a0 11).bind fun v18 =>
  if v14 = v18 then (some ((0 : Int32), h10))
  else (F_X12_readAll_28 n n a0 x1 (0 : Int32) h10)
noncomputable def F_X12_pole_92_b (n : Nat) (rc92 : Nat → Int32 → jH → Option (Int32 × jH)) (a0 : Nat) (x2 : Int32) (h : jH) : Option (Int32 × jH) :=
  if (1284 : Int32) ≤ x2 then (some ((0 : Int32), h))
  else ((jgR 10 h a0 1).bind fun p100 =>
  (jgR 10 h a0 3).bind fun p105 =>
  (jal 0 h p105 x2).bind fun v109 =>
  (jas 0 h p100 x2 v109).bind fun h110 =>
  rc92 a0 (x2 + (1 : Int32)) h110)
noncomputable def F_X12_pole_92 (n : Nat) : Nat → Nat → Int32 → jH → Option (Int32 × jH)
  | 0 => fun _ _ _ => none
  | k + 1 => F_X12_pole_92_b n (F_X12_pole_92 n k)
noncomputable def F_X12_pole_83 (n : Nat) (a0 : Nat) (sa0 : Nat) (s1 : Int32) (h : jH) : Option (Int32 × jH) :=
  (jcv 10 h sa0 (F_X12_throwsIf n sa0 s1 (2 : Int32) h)).bind fun q84 =>
  if q84.1 = 0 then ((jgR 10 q84.2 a0 1).bind fun p120 =>
  (jal 0 q84.2 p120 (1 : Int32)).bind fun v125 =>
  (jas 0 q84.2 p120 (1 : Int32) (v125 + (1 : Int32))).bind fun h128 =>
  (jpf 10 h128 a0 7 (.int (0 : Int32))).bind fun h131 =>
  (jgR 10 h131 a0 1).bind fun p135 =>
  (jal 0 h131 p135 (1 : Int32)).bind fun v139 =>
  some (v139, h131))
  else (F_X12_pole_92 n n a0 (0 : Int32) q84.2)
noncomputable def F_X12_pole_59 (n : Nat) (a0 : Nat) (sa0 : Nat) (s1 : Int32) (h : jH) : Option (Int32 × jH) :=
  (jcv 10 h sa0 (F_X12_throwsIf n sa0 s1 (1 : Int32) h)).bind fun q60 =>
  if q60.1 = 0 then ((jgR 10 q60.2 a0 1).bind fun p68 =>
  (jal 0 q60.2 p68 (1 : Int32)).bind fun v72 =>
  if v72 = (12 : Int32) then (F_X12_pole_83 n a0 a0 (1 : Int32) q60.2)
  else (F_X12_pole_83 n a0 a0 (0 : Int32) q60.2))
  else (F_X12_pole_92 n n a0 (0 : Int32) q60.2)
noncomputable def F_X12_pole_2_b (n : Nat) (rc2 : Nat → Int32 → jH → Option (Int32 × jH)) (a0 : Nat) (x1 : Int32) (h : jH) : Option (Int32 × jH) :=
  if (1284 : Int32) ≤ x1 then ((jcv 10 h a0 (F_X12_readAll n a0 (1 : Int32) h)).bind fun q29 =>
  if 0 ≤ q29.1 then ((jpf 10 q29.2 a0 14 (.int (-1 : Int32))).bind fun h46 =>
  if 0 ≤ q29.1 then (F_X12_pole_59 n a0 a0 (0 : Int32) h46)
  else (F_X12_pole_59 n a0 a0 (1 : Int32) h46))
  else ((jgI 10 q29.2 a0 12).bind fun v39 =>
  (jpf 10 q29.2 a0 14 (.int v39)).bind fun h46 =>
  if 0 ≤ q29.1 then (F_X12_pole_59 n a0 a0 (0 : Int32) h46)
  else (F_X12_pole_59 n a0 a0 (1 : Int32) h46)))
  else ((jgR 10 h a0 3).bind fun p10 =>
  (jgR 10 h a0 1).bind fun p15 =>
  (jal 0 h p15 x1).bind fun v19 =>
  (jas 0 h p10 x1 v19).bind fun h20 =>
  rc2 a0 (x1 + (1 : Int32)) h20)
noncomputable def F_X12_pole_2 (n : Nat) : Nat → Nat → Int32 → jH → Option (Int32 × jH)
  | 0 => fun _ _ _ => none
  | k + 1 => F_X12_pole_2_b n (F_X12_pole_2 n k)
noncomputable def F_X12_pole (n : Nat) (a0 : Nat) (h : jH) : Option (Int32 × jH) :=
  F_X12_pole_2 n n a0 (0 : Int32) h
noncomputable def F_X12_law_52_b (n : Nat) (rc52 : Nat → Int32 → Int32 → jH → Option (Int32 × jH)) (a0 : Nat) (x1 : Int32) (x2 : Int32) (h : jH) : Option (Int32 × jH) :=
  if (849 : Int32) ≤ x2 then ((jgR 10 h a0 1).bind fun p86 =>
  (jas 0 h p86 (2 : Int32) (1 : Int32)).bind fun h91 =>
  (jpf 10 h91 a0 7 (.int (0 : Int32))).bind fun h94 =>
  some (x1, h94))
  else ((jgR 10 h a0 1).bind fun p60 =>
  (jgR 10 h a0 1).bind fun p69 =>
  (jal 0 h p69 ((1284 : Int32) + x2)).bind fun v77 =>
  (jas 0 h p60 ((435 : Int32) + x2) v77).bind fun h78 =>
  rc52 a0 x1 (x2 + (1 : Int32)) h78)
noncomputable def F_X12_law_52 (n : Nat) : Nat → Nat → Int32 → Int32 → jH → Option (Int32 × jH)
  | 0 => fun _ _ _ _ => none
  | k + 1 => F_X12_law_52_b n (F_X12_law_52 n k)
noncomputable def F_X12_law_32 (n : Nat) (a0 : Nat) (x1 : Int32) (sa0 : Nat) (s1 : Int32) (h : jH) : Option (Int32 × jH) :=
  (jcv 10 h sa0 (F_X12_throwsIf n sa0 s1 (1 : Int32) h)).bind fun q33 =>
  if q33.1 = 0 then ((jgR 10 q33.2 a0 1).bind fun p42 =>
  (jas 0 q33.2 p42 (1284 : Int32) x1).bind fun h49 =>
  F_X12_law_52 n n a0 x1 (0 : Int32) h49)
  else (some ((0 : Int32), q33.2))
noncomputable def F_X12_law (n : Nat) (a0 : Nat) (h : jH) : Option (Int32 × jH) :=
  (jcv 10 h a0 (F_X12_readAll n a0 (0 : Int32) h)).bind fun q2 =>
  if 0 ≤ q2.1 then ((jpf 10 q2.2 a0 14 (.int (-1 : Int32))).bind fun h19 =>
  if 0 ≤ q2.1 then (F_X12_law_32 n a0 q2.1 a0 (0 : Int32) h19)
  else (F_X12_law_32 n a0 q2.1 a0 (1 : Int32) h19))
  else ((jgI 10 q2.2 a0 12).bind fun v12 =>
  (jpf 10 q2.2 a0 14 (.int v12)).bind fun h19 =>
  if 0 ≤ q2.1 then (F_X12_law_32 n a0 q2.1 a0 (0 : Int32) h19)
  else (F_X12_law_32 n a0 q2.1 a0 (1 : Int32) h19))
noncomputable def F_X12_isLit (n : Nat) (a0 : Nat) (x1 : Int32) (x2 : Int32) (h : jH) : Option Int32 :=
  (jcv 10 h a0 (F_X12_of n a0 x1 (0 : Int32) h)).bind fun v3 =>
  (jgR 10 h a0 1).bind fun p13 =>
  (jal 0 h p13 (6 : Int32)).bind fun v18 =>
  (F_X12_in n v3 ((4 : Int32) * x2) (((4 : Int32) * x2) + v18) h).bind fun v20 =>
  if v20 = 0 ∨ v20 = 1 then some v20 else none
noncomputable def F_X12_factOf (n : Nat) (a0 : Nat) (x1 : Int32) (x2 : Int32) (x3 : Int32) (h : jH) : Option Int32 :=
  if x1 = (0 : Int32) then (some x3)
  else if x1 = (1 : Int32) then ((jcv 10 h a0 (F_X12_of n a0 x3 (0 : Int32) h)).bind fun v65 =>
  some v65)
  else if x1 = (2 : Int32) then ((jcv 10 h a0 (F_X12_gapOf n a0 x3 h)).bind fun v71 =>
  some v71)
  else if x1 = (3 : Int32) then ((jcv 10 h a0 (F_X12_of n a0 x3 (4 : Int32) h)).bind fun v78 =>
  some v78)
  else if x1 = (4 : Int32) then ((jcv 10 h a0 (F_X12_of n a0 x3 (5 : Int32) h)).bind fun v85 =>
  some v85)
  else if x1 = (5 : Int32) then ((jgR 10 h a0 1).bind fun p90 =>
  (jal 0 h p90 (3 : Int32)).bind fun v94 =>
  some v94)
  else if x1 = (6 : Int32) then ((jgR 10 h a0 1).bind fun p97 =>
  (jal 0 h p97 (4 : Int32)).bind fun v101 =>
  some v101)
  else if x1 = (7 : Int32) then ((jcv 10 h a0 (F_X12_of n a0 x3 (3 : Int32) h)).bind fun v106 =>
  some v106)
  else if x1 = (8 : Int32) then ((jcv 10 h a0 (F_X12_of n a0 x3 (2 : Int32) h)).bind fun v113 =>
  some v113)
  else if x1 = (9 : Int32) then ((jgR 10 h a0 1).bind fun p120 =>
  (jal 0 h p120 (3 : Int32)).bind fun v124 =>
  (jcv 10 h a0 (F_X12_isLit n a0 x3 v124 h)).bind fun v125 =>
  if v125 = 0 then (some (0 : Int32))
  else (some (1 : Int32)))
  else if x1 = (10 : Int32) then ((jcv 10 h a0 (F_X12_of n a0 x3 (6 : Int32) h)).bind fun v141 =>
  some v141)
  else (some x2)
noncomputable def F_X12_holdsLine_222 (n : Nat) (rc22 : Nat → Int32 → Int32 → Int32 → Int32 → jH → Option (Int32 × jH)) (a0 : Nat) (x2 : Int32) (x3 : Int32) (x4 : Int32) (x5 : Int32) (x6 : Int32) (x7 : Int32) (x8 : Int32) (s0 : Int32) (h : jH) : Option (Int32 × jH) :=
  (jgR 10 h a0 17).bind fun p225 =>
  if x6 = (12 : Int32) then ((jas 0 h p225 (x3 - (1 : Int32)) (x7 + x8)).bind fun h256 =>
  rc22 a0 x2 x3 x4 (x5 + (1 : Int32)) h256)
  else (if s0 = 0 then ((jas 0 h p225 (x3 - (1 : Int32)) (0 : Int32)).bind fun h256 =>
  rc22 a0 x2 x3 x4 (x5 + (1 : Int32)) h256)
  else ((jas 0 h p225 (x3 - (1 : Int32)) (1 : Int32)).bind fun h256 =>
  rc22 a0 x2 x3 x4 (x5 + (1 : Int32)) h256))
noncomputable def F_X12_holdsLine_22_b (n : Nat) (rc22 : Nat → Int32 → Int32 → Int32 → Int32 → jH → Option (Int32 × jH)) (a0 : Nat) (x2 : Int32) (x3 : Int32) (x4 : Int32) (x5 : Int32) (h : jH) : Option (Int32 × jH) :=
  (jgR 10 h a0 1).bind fun p25 =>
  (jal 0 h p25 (x4 + (3 : Int32))).bind fun v32 =>
  if v32 ≤ x5 then (if x3 = 0 then (some ((1 : Int32), h))
  else ((jgR 10 h a0 17).bind fun p268 =>
  (jal 0 h p268 (0 : Int32)).bind fun v272 =>
  if v272 = (1 : Int32) then (some ((1 : Int32), h))
  else (some ((0 : Int32), h))))
  else ((jgR 10 h a0 1).bind fun p37 =>
  (jal 0 h p37 ((484 : Int32) + ((2 : Int32) * x5))).bind fun v48 =>
  if (11 : Int32) < v48 then (if v48 = (15 : Int32) then ((jgR 10 h a0 17).bind fun p100 =>
  (jgR 10 h a0 17).bind fun p108 =>
  (jal 0 h p108 (x3 - (1 : Int32))).bind fun v114 =>
  (jas 0 h p100 (x3 - (1 : Int32)) ((1 : Int32) - v114)).bind fun h116 =>
  rc22 a0 x2 x3 x4 (x5 + (1 : Int32)) h116)
  else ((jgR 10 h a0 17).bind fun p124 =>
  (jal 0 h p124 ((x3 + (-1 : Int32)) - (1 : Int32))).bind fun v130 =>
  (jgR 10 h a0 17).bind fun p134 =>
  (jal 0 h p134 (x3 + (-1 : Int32))).bind fun v138 =>
  if v48 = (13 : Int32) then (if v138 ≤ v130 then (F_X12_holdsLine_222 n rc22 a0 x2 (x3 + (-1 : Int32)) x4 x5 v48 v130 v138 (0 : Int32) h)
  else (F_X12_holdsLine_222 n rc22 a0 x2 (x3 + (-1 : Int32)) x4 x5 v48 v130 v138 (1 : Int32) h))
  else (if v48 = (14 : Int32) then (if v130 ≤ v138 then (F_X12_holdsLine_222 n rc22 a0 x2 (x3 + (-1 : Int32)) x4 x5 v48 v130 v138 (0 : Int32) h)
  else (F_X12_holdsLine_222 n rc22 a0 x2 (x3 + (-1 : Int32)) x4 x5 v48 v130 v138 (1 : Int32) h))
  else (if v48 = (16 : Int32) then (if (v130 + v138) = (2 : Int32) then (F_X12_holdsLine_222 n rc22 a0 x2 (x3 + (-1 : Int32)) x4 x5 v48 v130 v138 (1 : Int32) h)
  else (F_X12_holdsLine_222 n rc22 a0 x2 (x3 + (-1 : Int32)) x4 x5 v48 v130 v138 (0 : Int32) h))
  else (if (v130 + v138) ≤ 0 then (F_X12_holdsLine_222 n rc22 a0 x2 (x3 + (-1 : Int32)) x4 x5 v48 v130 v138 (0 : Int32) h)
  else (F_X12_holdsLine_222 n rc22 a0 x2 (x3 + (-1 : Int32)) x4 x5 v48 v130 v138 (1 : Int32) h))))))
  else ((jgR 10 h a0 17).bind fun p59 =>
  (jgR 10 h a0 1).bind fun p67 =>
  (jal 0 h p67 (((484 : Int32) + ((2 : Int32) * x5)) + (1 : Int32))).bind fun v80 =>
  (jcv 10 h a0 (F_X12_factOf n a0 v48 v80 x2 h)).bind fun v82 =>
  (jas 0 h p59 x3 v82).bind fun h85 =>
  rc22 a0 x2 (x3 + (1 : Int32)) x4 (x5 + (1 : Int32)) h85))
noncomputable def F_X12_holdsLine_22 (n : Nat) : Nat → Nat → Int32 → Int32 → Int32 → Int32 → jH → Option (Int32 × jH)
  | 0 => fun _ _ _ _ _ _ => none
  | k + 1 => F_X12_holdsLine_22_b n (F_X12_holdsLine_22 n k)
noncomputable def F_X12_holdsLine (n : Nat) (a0 : Nat) (x1 : Int32) (x2 : Int32) (h : jH) : Option (Int32 × jH) :=
  (jgR 10 h a0 1).bind fun p12 =>
  (jal 0 h p12 (((436 : Int32) + ((4 : Int32) * x1)) + (2 : Int32))).bind fun v19 =>
  F_X12_holdsLine_22 n n a0 x2 (0 : Int32) ((436 : Int32) + ((4 : Int32) * x1)) v19 h
noncomputable def F_X12_sumOf_5_b (n : Nat) (rc5 : Nat → Int32 → Int32 → Int32 → Int32 → jH → Option (Int32 × jH)) (a0 : Nat) (x1 : Int32) (x2 : Int32) (x3 : Int32) (x4 : Int32) (h : jH) : Option (Int32 × jH) :=
  (jgR 10 h a0 1).bind fun p8 =>
  (jal 0 h p8 (435 : Int32)).bind fun v14 =>
  if v14 ≤ x4 then (some (x3, h))
  else ((jgR 10 h a0 1).bind fun p19 =>
  (jal 0 h p19 ((436 : Int32) + ((4 : Int32) * x4))).bind fun v30 =>
  if v30 = x1 then ((jcv 10 h a0 (F_X12_holdsLine n a0 x4 x2 h)).bind fun q39 =>
  if q39.1 = 0 then (rc5 a0 x1 x2 x3 (x4 + (1 : Int32)) q39.2)
  else ((jgR 10 q39.2 a0 1).bind fun p47 =>
  (jal 0 q39.2 p47 (((436 : Int32) + ((4 : Int32) * x4)) + (1 : Int32))).bind fun v60 =>
  rc5 a0 x1 x2 (x3 + v60) (x4 + (1 : Int32)) q39.2))
  else (rc5 a0 x1 x2 x3 (x4 + (1 : Int32)) h))
noncomputable def F_X12_sumOf_5 (n : Nat) : Nat → Nat → Int32 → Int32 → Int32 → Int32 → jH → Option (Int32 × jH)
  | 0 => fun _ _ _ _ _ _ => none
  | k + 1 => F_X12_sumOf_5_b n (F_X12_sumOf_5 n k)
noncomputable def F_X12_sumOf (n : Nat) (a0 : Nat) (x1 : Int32) (x2 : Int32) (h : jH) : Option (Int32 × jH) :=
  F_X12_sumOf_5 n n a0 x1 x2 (0 : Int32) (0 : Int32) h
noncomputable def F_X12_byLaw (n : Nat) (a0 : Nat) (x1 : Int32) (x2 : Int32) (h : jH) : Option (Int32 × jH) :=
  (jgR 10 h a0 1).bind fun p1 =>
  (jal 0 h p1 (2 : Int32)).bind fun v5 =>
  if v5 = (1 : Int32) then ((jcv 10 h a0 (F_X12_sumOf n a0 x1 x2 h)).bind fun q13 =>
  some (q13.1, q13.2))
  else (if x1 = 0 then ((jgR 10 h a0 1).bind fun p24 =>
  (jal 0 h p24 (3 : Int32)).bind fun v28 =>
  (jcv 10 h a0 (F_X12_isLit n a0 x2 v28 h)).bind fun v29 =>
  if v29 = 0 then (some ((0 : Int32), h))
  else (some ((1 : Int32), h)))
  else (if x1 = (1 : Int32) then (some ((10 : Int32), h))
  else (some ((0 : Int32), h))))
noncomputable def F_X12_fadesOfAll_4_b (n : Nat) (rc4 : Nat → Int32 → Int32 → jH → Option Int32) (a0 : Nat) (x1 : Int32) (x2 : Int32) (h : jH) : Option Int32 :=
  (jcv 10 h a0 (F_X12_rings n a0 h)).bind fun v6 =>
  if v6 ≤ x2 then (some x1)
  else ((jcv 10 h a0 (F_X12_of n a0 x2 (4 : Int32) h)).bind fun v16 =>
  rc4 a0 (x1 + v16) (x2 + (1 : Int32)) h)
noncomputable def F_X12_fadesOfAll_4 (n : Nat) : Nat → Nat → Int32 → Int32 → jH → Option Int32
  | 0 => fun _ _ _ _ => none
  | k + 1 => F_X12_fadesOfAll_4_b n (F_X12_fadesOfAll_4 n k)
noncomputable def F_X12_fadesOfAll (n : Nat) (a0 : Nat) (h : jH) : Option Int32 :=
  F_X12_fadesOfAll_4 n n a0 (0 : Int32) (0 : Int32) h
noncomputable def F_X12_shareOf (n : Nat) (a0 : Nat) (x1 : Int32) (h : jH) : Option Int32 :=
  (jcv 10 h a0 (F_X12_fadesOfAll n a0 h)).bind fun v1 =>
  if v1 = 0 then (some (0 : Int32))
  else ((jcv 10 h a0 (F_X12_of n a0 x1 (4 : Int32) h)).bind fun v18 =>
  if v1 = 0 then none else
  some (((100 : Int32) * v18) / v1))
noncomputable def F_X12_hangsOn_78 (n : Nat) (rc21 : Nat → Int32 → Int32 → Int32 → Int32 → jH → Option Int32) (a0 : Nat) (x1 : Int32) (x3 : Int32) (x4 : Int32) (x5 : Int32) (s0 : Int32) (h : jH) : Option Int32 :=
  rc21 a0 x1 s0 (if x5 < x3 then x5 else x3) (x4 + (1 : Int32)) h
noncomputable def F_X12_hangsOn_21_b (n : Nat) (rc21 : Nat → Int32 → Int32 → Int32 → Int32 → jH → Option Int32) (a0 : Nat) (x1 : Int32) (x2 : Int32) (x3 : Int32) (x4 : Int32) (h : jH) : Option Int32 :=
  (jcv 10 h a0 (F_X12_rings n a0 h)).bind fun v24 =>
  if v24 ≤ x4 then (some x2)
  else ((jcv 10 h a0 (F_X12_is n a0 x4 (6 : Int32) h)).bind fun v35 =>
  if v35 = 0 then (if x3 ≤ (1000000 : Int32) then (F_X12_hangsOn_78 n rc21 a0 x1 x3 x4 (1000000 : Int32) x2 h)
  else (F_X12_hangsOn_78 n rc21 a0 x1 x3 x4 (1000000 : Int32) x4 h))
  else ((jcv 10 h a0 (F_X12_of n a0 x4 (0 : Int32) h)).bind fun v45 =>
  (jcv 10 h a0 (F_X12_of n a0 x1 (0 : Int32) h)).bind fun v51 =>
  if x3 ≤ (if 0 ≤ v45 - v51 then v45 - v51 else 0 - (v45 - v51)) then (F_X12_hangsOn_78 n rc21 a0 x1 x3 x4 (if 0 ≤ v45 - v51 then v45 - v51 else 0 - (v45 - v51)) x2 h)
  else (F_X12_hangsOn_78 n rc21 a0 x1 x3 x4 (if 0 ≤ v45 - v51 then v45 - v51 else 0 - (v45 - v51)) x4 h)))
noncomputable def F_X12_hangsOn_21 (n : Nat) : Nat → Nat → Int32 → Int32 → Int32 → Int32 → jH → Option Int32
  | 0 => fun _ _ _ _ _ _ => none
  | k + 1 => F_X12_hangsOn_21_b n (F_X12_hangsOn_21 n k)
noncomputable def F_X12_hangsOn (n : Nat) (a0 : Nat) (x1 : Int32) (h : jH) : Option Int32 :=
  (jcv 10 h a0 (F_X12_is n a0 x1 (6 : Int32) h)).bind fun v4 =>
  if v4 = 0 then (F_X12_hangsOn_21 n n a0 x1 (-1 : Int32) (1000000 : Int32) (0 : Int32) h)
  else (some x1)
noncomputable def F_X12_ring_34 (n : Nat) (a0 : Nat) (x1 : Int32) (x2 : Int32) (sa0 : Nat) (s1 : Int32) (h : jH) : Option (Int32 × jH) :=
  (jcv 10 h sa0 (F_X12_throwsIf n sa0 s1 (2 : Int32) h)).bind fun q35 =>
  if q35.1 = 0 then (if x2 = (8 : Int32) then ((jcv 10 q35.2 a0 (F_X12_lastRing n a0 q35.2)).bind fun v86 =>
  if x1 = v86 then (some ((-1 : Int32), q35.2))
  else ((jcv 10 q35.2 a0 (F_X12_gapOf n a0 x1 q35.2)).bind fun v98 =>
  some (v98, q35.2)))
  else if x2 = (9 : Int32) then ((jcv 10 q35.2 a0 (F_X12_byLaw n a0 (0 : Int32) x1 q35.2)).bind fun q105 =>
  some (q105.1, q105.2))
  else if x2 = (10 : Int32) then ((jcv 10 q35.2 a0 (F_X12_byLaw n a0 (1 : Int32) x1 q35.2)).bind fun q112 =>
  some (q112.1, q112.2))
  else if x2 = (11 : Int32) then ((jcv 10 q35.2 a0 (F_X12_byLaw n a0 (2 : Int32) x1 q35.2)).bind fun q119 =>
  some (q119.1, q119.2))
  else if x2 = (12 : Int32) then ((jcv 10 q35.2 a0 (F_X12_hangsOn n a0 x1 q35.2)).bind fun v125 =>
  some (v125, q35.2))
  else if x2 = (13 : Int32) then ((jcv 10 q35.2 a0 (F_X12_shareOf n a0 x1 q35.2)).bind fun v131 =>
  some (v131, q35.2))
  else ((jcv 10 q35.2 a0 (F_X12_of n a0 x1 x2 q35.2)).bind fun v138 =>
  some (v138, q35.2)))
  else (some ((0 : Int32), q35.2))
noncomputable def F_X12_ring (n : Nat) (a0 : Nat) (x1 : Int32) (x2 : Int32) (h : jH) : Option (Int32 × jH) :=
  (jpf 10 h a0 0 (.int (0 : Int32))).bind fun h2 =>
  (jcv 10 h2 a0 (F_X12_noRing n a0 x1 h2)).bind fun v8 =>
  (jcv 10 h2 a0 (F_X12_throwsIf n a0 v8 (1 : Int32) h2)).bind fun q12 =>
  if q12.1 = 0 then ((F_X12_in n x2 (0 : Int32) (13 : Int32) q12.2).bind fun v23 =>
  if v23 = 0 then (F_X12_ring_34 n a0 x1 x2 a0 (1 : Int32) q12.2)
  else (F_X12_ring_34 n a0 x1 x2 a0 (0 : Int32) q12.2))
  else (some ((0 : Int32), q12.2))
noncomputable def F_X12_takesAlong_30 (n : Nat) (a0 : Nat) (x3 : Int32) (x4 : Int32) (s0 : Int32) (h : jH) : Option Int32 :=
  if s0 = x3 then ((jcv 10 h a0 (F_X12_gapOf n a0 x4 h)).bind fun v37 =>
  if v37 = (1 : Int32) then (some (1 : Int32))
  else (some (0 : Int32)))
  else ((jcv 10 h a0 (F_X12_gapOf n a0 x4 h)).bind fun v55 =>
  (jcv 10 h a0 (F_X12_of n a0 x4 (1 : Int32) h)).bind fun v62 =>
  if v55 < v62 then (some (0 : Int32))
  else (some (1 : Int32)))
noncomputable def F_X12_takesAlong (n : Nat) (a0 : Nat) (x1 : Int32) (x2 : Int32) (x3 : Int32) (h : jH) : Option Int32 :=
  (jcv 10 h a0 (F_X12_is n a0 (if x2 < x1 then x2 else x1) (7 : Int32) h)).bind fun v12 =>
  if v12 = 0 then (if x2 ≤ x1 then (F_X12_takesAlong_30 n a0 x3 (if x2 < x1 then x2 else x1) (0 : Int32) h)
  else (F_X12_takesAlong_30 n a0 x3 (if x2 < x1 then x2 else x1) (1 : Int32) h))
  else (some (1 : Int32))
noncomputable def F_X12_allWith_72 (n : Nat) (rc7 : Nat → Int32 → Int32 → Int32 → jH → Option Int32) (rc17 : Nat → Int32 → Int32 → Int32 → Int32 → jH → Option Int32) (a0 : Nat) (x2 : Int32) (x4 : Int32) (x5 : Int32) (s0 : Int32) (s1 : Int32) (h : jH) : Option Int32 :=
  if x5 ≤ 0 then (rc17 a0 x2 ((s0 ||| s1) ||| (0 : Int32)) x4 (x5 + (1 : Int32)) h)
  else ((jcv 10 h a0 (F_X12_takesAlong n a0 x5 (x5 - (1 : Int32)) x2 h)).bind fun v88 =>
  if v88 = 0 then (rc17 a0 x2 ((s0 ||| s1) ||| (0 : Int32)) x4 (x5 + (1 : Int32)) h)
  else (rc17 a0 x2 ((s0 ||| s1) ||| ((1 : Int32) <<< ((x5 - (1 : Int32)) &&& 31))) x4 (x5 + (1 : Int32)) h))
noncomputable def F_X12_allWith_17_b (n : Nat) (rc7 : Nat → Int32 → Int32 → Int32 → jH → Option Int32) (rc17 : Nat → Int32 → Int32 → Int32 → Int32 → jH → Option Int32) (a0 : Nat) (x2 : Int32) (x3 : Int32) (x4 : Int32) (x5 : Int32) (h : jH) : Option Int32 :=
  (jcv 10 h a0 (F_X12_rings n a0 h)).bind fun v20 =>
  if v20 ≤ x5 then (rc7 a0 x2 x3 (x4 + (1 : Int32)) h)
  else ((F_X12_has n x3 x5 h).bind fun v29 =>
  if v29 = 0 then (rc17 a0 x2 x3 x4 (x5 + (1 : Int32)) h)
  else ((jcv 10 h a0 (F_X12_lastRing n a0 h)).bind fun v42 =>
  if v42 ≤ x5 then (F_X12_allWith_72 n rc7 rc17 a0 x2 x4 x5 x3 (0 : Int32) h)
  else ((jcv 10 h a0 (F_X12_takesAlong n a0 x5 (x5 + (1 : Int32)) x2 h)).bind fun v56 =>
  if v56 = 0 then (F_X12_allWith_72 n rc7 rc17 a0 x2 x4 x5 x3 (0 : Int32) h)
  else (F_X12_allWith_72 n rc7 rc17 a0 x2 x4 x5 x3 ((1 : Int32) <<< ((x5 + (1 : Int32)) &&& 31)) h))))
noncomputable def F_X12_allWith_17 (n : Nat) (rc7 : Nat → Int32 → Int32 → Int32 → jH → Option Int32) : Nat → Nat → Int32 → Int32 → Int32 → Int32 → jH → Option Int32
  | 0 => fun _ _ _ _ _ _ => none
  | k + 1 => F_X12_allWith_17_b n rc7 (F_X12_allWith_17 n rc7 k)
noncomputable def F_X12_allWith_7_b (n : Nat) (rc7 : Nat → Int32 → Int32 → Int32 → jH → Option Int32) (a0 : Nat) (x2 : Int32) (x3 : Int32) (x4 : Int32) (h : jH) : Option Int32 :=
  if (8 : Int32) ≤ x4 then (some x3)
  else (F_X12_allWith_17 n rc7 n a0 x2 x3 x4 (0 : Int32) h)
noncomputable def F_X12_allWith_7 (n : Nat) : Nat → Nat → Int32 → Int32 → Int32 → jH → Option Int32
  | 0 => fun _ _ _ _ _ => none
  | k + 1 => F_X12_allWith_7_b n (F_X12_allWith_7 n k)
noncomputable def F_X12_allWith (n : Nat) (a0 : Nat) (x1 : Int32) (x2 : Int32) (h : jH) : Option Int32 :=
  F_X12_allWith_7 n n a0 x2 ((1 : Int32) <<< (x1 &&& 31)) (0 : Int32) h
noncomputable def F_X12_mayGo_20 (n : Nat) (a0 : Nat) (x1 : Int32) (x2 : Int32) (x3 : Int32) (s0 : Int32) (h : jH) : Option Int32 :=
  (F_X12_noPlace n s0 h).bind fun v20 =>
  if v20 = 0 then ((jcv 10 h a0 (F_X12_is n a0 x1 (2 : Int32) h)).bind fun v31 =>
  if v31 = 0 then (some (1 : Int32))
  else (if x2 = 0 then ((jgR 10 h a0 1).bind fun p49 =>
  (jal 0 h p49 (5 : Int32)).bind fun v53 =>
  if x3 = v53 then (some (0 : Int32))
  else (some (1 : Int32)))
  else ((jgR 10 h a0 1).bind fun p49 =>
  (jal 0 h p49 (5 : Int32)).bind fun v53 =>
  if (x3 + (1 : Int32)) = v53 then (some (0 : Int32))
  else (some (1 : Int32)))))
  else (some (0 : Int32))
noncomputable def F_X12_mayGo (n : Nat) (a0 : Nat) (x1 : Int32) (x2 : Int32) (h : jH) : Option Int32 :=
  (jcv 10 h a0 (F_X12_of n a0 x1 (0 : Int32) h)).bind fun v3 =>
  if x2 = 0 then (F_X12_mayGo_20 n a0 x1 x2 v3 (v3 - (1 : Int32)) h)
  else (F_X12_mayGo_20 n a0 x1 x2 v3 (v3 + (1 : Int32)) h)
noncomputable def F_X12_goingBy_13_b (n : Nat) (rc13 : Nat → Int32 → Int32 → Int32 → Int32 → jH → Option Int32) (a0 : Nat) (x2 : Int32) (x3 : Int32) (x4 : Int32) (x5 : Int32) (h : jH) : Option Int32 :=
  (jcv 10 h a0 (F_X12_rings n a0 h)).bind fun v16 =>
  if v16 ≤ x5 then (if x4 = 0 then (some (0 : Int32))
  else (some x3))
  else (if x4 = 0 then (rc13 a0 x2 x3 (0 : Int32) (x5 + (1 : Int32)) h)
  else ((F_X12_has n x3 x5 h).bind fun v30 =>
  if v30 = 0 then (rc13 a0 x2 x3 (1 : Int32) (x5 + (1 : Int32)) h)
  else ((jcv 10 h a0 (F_X12_mayGo n a0 x5 x2 h)).bind fun v40 =>
  if v40 = 0 then (rc13 a0 x2 x3 (0 : Int32) (x5 + (1 : Int32)) h)
  else (rc13 a0 x2 x3 (1 : Int32) (x5 + (1 : Int32)) h))))
noncomputable def F_X12_goingBy_13 (n : Nat) : Nat → Nat → Int32 → Int32 → Int32 → Int32 → jH → Option Int32
  | 0 => fun _ _ _ _ _ _ => none
  | k + 1 => F_X12_goingBy_13_b n (F_X12_goingBy_13 n k)
noncomputable def F_X12_goingBy (n : Nat) (a0 : Nat) (x1 : Int32) (x2 : Int32) (h : jH) : Option Int32 :=
  (jcv 10 h a0 (F_X12_allWith n a0 x1 x2 h)).bind fun v3 =>
  F_X12_goingBy_13 n n a0 x2 v3 (1 : Int32) (0 : Int32) h
noncomputable def F_X12_goesOne_52 (n : Nat) (rc10 : Nat → Int32 → Int32 → Int32 → jH → Option (Int32 × jH)) (a0 : Nat) (x2 : Int32) (x3 : Int32) (x4 : Int32) (sa0 : Nat) (s1 : Int32) (s2 : Int32) (s3 : Int32) (h : jH) : Option (Int32 × jH) :=
  (jas 0 h sa0 s1 (s2 + s3)).bind fun h53 =>
  (jgI 10 h53 a0 18).bind fun v56 =>
  (jcv 10 h53 a0 (F_X12_is n a0 x4 (3 : Int32) h53)).bind fun v63 =>
  if v63 = 0 then ((jpf 10 h53 a0 18 (.int (v56 + (1 : Int32)))).bind fun h75 =>
  rc10 a0 x2 x3 (x4 + (1 : Int32)) h75)
  else ((jpf 10 h53 a0 18 (.int (v56 + (0 : Int32)))).bind fun h75 =>
  rc10 a0 x2 x3 (x4 + (1 : Int32)) h75)
noncomputable def F_X12_goesOne_10_b (n : Nat) (rc10 : Nat → Int32 → Int32 → Int32 → jH → Option (Int32 × jH)) (a0 : Nat) (x2 : Int32) (x3 : Int32) (x4 : Int32) (h : jH) : Option (Int32 × jH) :=
  (jcv 10 h a0 (F_X12_rings n a0 h)).bind fun v13 =>
  if v13 ≤ x4 then (if x3 = 0 then (some ((0 : Int32), h))
  else (some ((1 : Int32), h)))
  else ((F_X12_has n x3 x4 h).bind fun v22 =>
  if v22 = 0 then (rc10 a0 x2 x3 (x4 + (1 : Int32)) h)
  else ((jgR 10 h a0 1).bind fun p32 =>
  (F_X12_at n x4 (0 : Int32) h).bind fun v38 =>
  (jal 0 h p32 v38).bind fun v42 =>
  if x2 = 0 then (F_X12_goesOne_52 n rc10 a0 x2 x3 x4 p32 v38 v42 (-1 : Int32) h)
  else (F_X12_goesOne_52 n rc10 a0 x2 x3 x4 p32 v38 v42 (1 : Int32) h)))
noncomputable def F_X12_goesOne_10 (n : Nat) : Nat → Nat → Int32 → Int32 → Int32 → jH → Option (Int32 × jH)
  | 0 => fun _ _ _ _ _ => none
  | k + 1 => F_X12_goesOne_10_b n (F_X12_goesOne_10 n k)
noncomputable def F_X12_goesOne (n : Nat) (a0 : Nat) (x1 : Int32) (x2 : Int32) (h : jH) : Option (Int32 × jH) :=
  (jcv 10 h a0 (F_X12_goingBy n a0 x1 x2 h)).bind fun v3 =>
  F_X12_goesOne_10 n n a0 x2 v3 (0 : Int32) h
noncomputable def F_X12_pulls_29 (n : Nat) (a0 : Nat) (x4 : Int32) (h : jH) : Option (Int32 × jH) :=
  (jgR 10 h a0 1).bind fun p30 =>
  (jgR 10 h a0 1).bind fun p39 =>
  (jal 0 h p39 (8 : Int32)).bind fun v44 =>
  (jgI 10 h a0 18).bind fun v46 =>
  (jas 0 h p30 (8 : Int32) (if (v44 + v46) < (9999 : Int32) then v44 + v46 else (9999 : Int32))).bind fun h53 =>
  some (x4, h53)
noncomputable def F_X12_pulls_8_b (n : Nat) (rc8 : Nat → Int32 → Int32 → Int32 → Int32 → jH → Option (Int32 × jH)) (a0 : Nat) (x1 : Int32) (x2 : Int32) (x3 : Int32) (x4 : Int32) (h : jH) : Option (Int32 × jH) :=
  if x3 ≤ x4 then (F_X12_pulls_29 n a0 x4 h)
  else ((jcv 10 h a0 (F_X12_goesOne n a0 x1 x2 h)).bind fun q17 =>
  if q17.1 = 0 then (F_X12_pulls_29 n a0 x4 q17.2)
  else (rc8 a0 x1 x2 x3 (x4 + (1 : Int32)) q17.2))
noncomputable def F_X12_pulls_8 (n : Nat) : Nat → Nat → Int32 → Int32 → Int32 → Int32 → jH → Option (Int32 × jH)
  | 0 => fun _ _ _ _ _ _ => none
  | k + 1 => F_X12_pulls_8_b n (F_X12_pulls_8 n k)
noncomputable def F_X12_pulls (n : Nat) (a0 : Nat) (x1 : Int32) (x2 : Int32) (x3 : Int32) (h : jH) : Option (Int32 × jH) :=
  (jpf 10 h a0 18 (.int (0 : Int32))).bind fun h2 =>
  F_X12_pulls_8 n n a0 x1 x2 x3 (0 : Int32) h2
noncomputable def F_X12_tells_5_b (n : Nat) (rc5 : Nat → Int32 → Int32 → Int32 → Int32 → jH → Option jH) (a0 : Nat) (x1 : Int32) (x2 : Int32) (x3 : Int32) (x4 : Int32) (h : jH) : Option jH :=
  if x4 < (6 : Int32) then ((jgR 10 h a0 1).bind fun p42 =>
  (jgR 10 h a0 1).bind fun p48 =>
  (jal 0 h p48 (4 : Int32)).bind fun v52 =>
  (jas 0 h p42 (75 : Int32) v52).bind fun h53 =>
  (jgR 10 h53 a0 1).bind fun p55 =>
  (jgR 10 h53 a0 1).bind fun p61 =>
  (jal 0 h53 p61 (3 : Int32)).bind fun v65 =>
  (jas 0 h53 p55 (76 : Int32) v65).bind fun h66 =>
  (jgR 10 h66 a0 1).bind fun p68 =>
  (jas 0 h66 p68 (77 : Int32) x1).bind fun h74 =>
  (jgR 10 h74 a0 1).bind fun p76 =>
  (jas 0 h74 p76 (78 : Int32) x2).bind fun h82 =>
  (jgR 10 h82 a0 1).bind fun p84 =>
  (jas 0 h82 p84 (79 : Int32) x3).bind fun h90 =>
  (jgR 10 h90 a0 1).bind fun p92 =>
  (jcv 10 h90 a0 (F_X12_of n a0 x1 (0 : Int32) h90)).bind fun v100 =>
  (jas 0 h90 p92 (80 : Int32) v100).bind fun h103 =>
  (jgR 10 h103 a0 1).bind fun p105 =>
  (jgR 10 h103 a0 1).bind fun p113 =>
  (jal 0 h103 p113 (9 : Int32)).bind fun v118 =>
  (jas 0 h103 p105 (9 : Int32) (if (v118 + (1 : Int32)) < (60 : Int32) then v118 + (1 : Int32) else (60 : Int32))).bind fun h124 =>
  some h124)
  else ((jgR 10 h a0 1).bind fun p13 =>
  (jgR 10 h a0 1).bind fun p22 =>
  (jal 0 h p22 (((75 : Int32) + x4) - (6 : Int32))).bind fun v33 =>
  (jas 0 h p13 ((75 : Int32) + x4) v33).bind fun h34 =>
  rc5 a0 x1 x2 x3 (x4 + (-1 : Int32)) h34)
noncomputable def F_X12_tells_5 (n : Nat) : Nat → Nat → Int32 → Int32 → Int32 → Int32 → jH → Option jH
  | 0 => fun _ _ _ _ _ _ => none
  | k + 1 => F_X12_tells_5_b n (F_X12_tells_5 n k)
noncomputable def F_X12_tells (n : Nat) (a0 : Nat) (x1 : Int32) (x2 : Int32) (x3 : Int32) (h : jH) : Option jH :=
  F_X12_tells_5 n n a0 x1 x2 x3 (359 : Int32) h
noncomputable def F_X12_pull (n : Nat) (a0 : Nat) (x1 : Int32) (x2 : Int32) (x3 : Int32) (h : jH) : Option (Int32 × jH) :=
  (jpf 10 h a0 0 (.int (0 : Int32))).bind fun h2 =>
  (jcv 10 h2 a0 (F_X12_noRing n a0 x1 h2)).bind fun v8 =>
  (jcv 10 h2 a0 (F_X12_throwsIf n a0 v8 (1 : Int32) h2)).bind fun q12 =>
  if q12.1 = 0 then ((F_X12_noSteps n x3 q12.2).bind fun v20 =>
  (jcv 10 q12.2 a0 (F_X12_throwsIf n a0 v20 (2 : Int32) q12.2)).bind fun q24 =>
  if q24.1 = 0 then ((jcv 10 q24.2 a0 (F_X12_remembers n a0 q24.2)).bind fun h33 =>
  (jcv 10 h33 a0 (F_X12_pulls n a0 x1 x2 x3 h33)).bind fun q40 =>
  (jcv 10 q40.2 a0 (F_X12_tells n a0 x1 (0 : Int32) q40.1 q40.2)).bind fun h50 =>
  some (q40.1, h50))
  else (some ((0 : Int32), q24.2)))
  else (some ((0 : Int32), q12.2))
noncomputable def F_X12_free_34 (n : Nat) (a0 : Nat) (x1 : Int32) (sa0 : Nat) (s1 : Int32) (h : jH) : Option (Int32 × jH) :=
  (jcv 10 h sa0 (F_X12_throwsIf n sa0 s1 (2 : Int32) h)).bind fun q35 =>
  if q35.1 = 0 then ((jcv 10 q35.2 a0 (F_X12_remembers n a0 q35.2)).bind fun h44 =>
  (jgR 10 h44 a0 1).bind fun p48 =>
  (F_X12_at n x1 (7 : Int32) h44).bind fun v54 =>
  (jas 0 h44 p48 v54 (0 : Int32)).bind fun h58 =>
  (jcv 10 h58 a0 (F_X12_gapOf n a0 x1 h58)).bind fun v61 =>
  some (v61, h58))
  else (some ((0 : Int32), q35.2))
noncomputable def F_X12_free (n : Nat) (a0 : Nat) (x1 : Int32) (h : jH) : Option (Int32 × jH) :=
  (jpf 10 h a0 0 (.int (0 : Int32))).bind fun h2 =>
  (jcv 10 h2 a0 (F_X12_noRing n a0 x1 h2)).bind fun v8 =>
  (jcv 10 h2 a0 (F_X12_throwsIf n a0 v8 (1 : Int32) h2)).bind fun q12 =>
  if q12.1 = 0 then ((jcv 10 q12.2 a0 (F_X12_is n a0 x1 (7 : Int32) q12.2)).bind fun v23 =>
  if v23 = 0 then (F_X12_free_34 n a0 x1 a0 (1 : Int32) q12.2)
  else (F_X12_free_34 n a0 x1 a0 (0 : Int32) q12.2))
  else (some ((0 : Int32), q12.2))
noncomputable def F_X12_snag_42 (n : Nat) (a0 : Nat) (x1 : Int32) (sa0 : Nat) (s1 : Int32) (h : jH) : Option (Int32 × jH) :=
  (jcv 10 h sa0 (F_X12_throwsIf n sa0 s1 (2 : Int32) h)).bind fun q43 =>
  if q43.1 = 0 then ((jcv 10 q43.2 a0 (F_X12_remembers n a0 q43.2)).bind fun h52 =>
  (jgR 10 h52 a0 1).bind fun p56 =>
  (F_X12_at n x1 (7 : Int32) h52).bind fun v62 =>
  (jas 0 h52 p56 v62 (1 : Int32)).bind fun h66 =>
  (jcv 10 h66 a0 (F_X12_gapOf n a0 x1 h66)).bind fun v69 =>
  some (v69, h66))
  else (some ((0 : Int32), q43.2))
noncomputable def F_X12_snag (n : Nat) (a0 : Nat) (x1 : Int32) (h : jH) : Option (Int32 × jH) :=
  (jpf 10 h a0 0 (.int (0 : Int32))).bind fun h2 =>
  (jcv 10 h2 a0 (F_X12_noRing n a0 x1 h2)).bind fun v8 =>
  (jcv 10 h2 a0 (F_X12_throwsIf n a0 v8 (1 : Int32) h2)).bind fun q12 =>
  if q12.1 = 0 then ((jcv 10 q12.2 a0 (F_X12_lastRing n a0 q12.2)).bind fun v21 =>
  if x1 = v21 then (F_X12_snag_42 n a0 x1 a0 (1 : Int32) q12.2)
  else ((jcv 10 q12.2 a0 (F_X12_is n a0 x1 (7 : Int32) q12.2)).bind fun v31 =>
  if v31 = 0 then (F_X12_snag_42 n a0 x1 a0 (0 : Int32) q12.2)
  else (F_X12_snag_42 n a0 x1 a0 (1 : Int32) q12.2)))
  else (some ((0 : Int32), q12.2))
noncomputable def F_X12_hook (n : Nat) (a0 : Nat) (x1 : Int32) (x2 : Int32) (h : jH) : Option (Int32 × jH) :=
  (jpf 10 h a0 0 (.int (0 : Int32))).bind fun h2 =>
  (jcv 10 h2 a0 (F_X12_noRing n a0 x1 h2)).bind fun v8 =>
  (jcv 10 h2 a0 (F_X12_throwsIf n a0 v8 (1 : Int32) h2)).bind fun q12 =>
  if q12.1 = 0 then ((jcv 10 q12.2 a0 (F_X12_remembers n a0 q12.2)).bind fun h21 =>
  (jcv 10 h21 a0 (F_X12_is n a0 x1 (6 : Int32) h21)).bind fun v28 =>
  (jgR 10 h21 a0 1).bind fun p33 =>
  (F_X12_at n x1 (6 : Int32) h21).bind fun v39 =>
  if x2 = 0 then ((jas 0 h21 p33 v39 (0 : Int32)).bind fun h51 =>
  if v28 = x2 then (some ((0 : Int32), h51))
  else (some ((1 : Int32), h51)))
  else ((jas 0 h21 p33 v39 (1 : Int32)).bind fun h51 =>
  if v28 = x2 then (some ((0 : Int32), h51))
  else (some ((1 : Int32), h51))))
  else (some ((0 : Int32), q12.2))
noncomputable def F_X12_sew_70 (n : Nat) (a0 : Nat) (x1 : Int32) (x2 : Int32) (sa0 : Nat) (s1 : Int32) (h : jH) : Option (Int32 × jH) :=
  (jcv 10 h sa0 (F_X12_throwsIf n sa0 s1 (3 : Int32) h)).bind fun q71 =>
  if q71.1 = 0 then ((jcv 10 q71.2 a0 (F_X12_remembers n a0 q71.2)).bind fun h80 =>
  (jcv 10 h80 a0 (F_X12_hangs n a0 x1 x2 h80)).bind fun h86 =>
  (jcv 10 h86 a0 (F_X12_lastRing n a0 h86)).bind fun v90 =>
  some (v90, h86))
  else (some ((0 : Int32), q71.2))
noncomputable def F_X12_sew_33 (n : Nat) (a0 : Nat) (x1 : Int32) (x2 : Int32) (sa0 : Nat) (s1 : Int32) (h : jH) : Option (Int32 × jH) :=
  (jcv 10 h sa0 (F_X12_throwsIf n sa0 s1 (2 : Int32) h)).bind fun q34 =>
  if q34.1 = 0 then ((jcv 10 q34.2 a0 (F_X12_rings n a0 q34.2)).bind fun v42 =>
  if v42 = (8 : Int32) then (F_X12_sew_70 n a0 x1 x2 a0 (1 : Int32) q34.2)
  else ((jcv 10 q34.2 a0 (F_X12_leastPlace n a0 q34.2)).bind fun v52 =>
  (jcv 10 q34.2 a0 (F_X12_mostPlace n a0 q34.2)).bind fun v56 =>
  (F_X12_in n x1 v52 v56 q34.2).bind fun v59 =>
  if v59 = 0 then (F_X12_sew_70 n a0 x1 x2 a0 (1 : Int32) q34.2)
  else (F_X12_sew_70 n a0 x1 x2 a0 (0 : Int32) q34.2)))
  else (some ((0 : Int32), q34.2))
noncomputable def F_X12_sew (n : Nat) (a0 : Nat) (x1 : Int32) (x2 : Int32) (h : jH) : Option (Int32 × jH) :=
  (jpf 10 h a0 0 (.int (0 : Int32))).bind fun h2 =>
  (F_X12_noPlace n x1 h2).bind fun v7 =>
  (jcv 10 h2 a0 (F_X12_throwsIf n a0 v7 (1 : Int32) h2)).bind fun q11 =>
  if q11.1 = 0 then ((F_X12_in n x2 (1 : Int32) (9 : Int32) q11.2).bind fun v22 =>
  if v22 = 0 then (F_X12_sew_33 n a0 x1 x2 a0 (1 : Int32) q11.2)
  else (F_X12_sew_33 n a0 x1 x2 a0 (0 : Int32) q11.2))
  else (some ((0 : Int32), q11.2))
noncomputable def F_X12_let_34 (n : Nat) (a0 : Nat) (x1 : Int32) (x2 : Int32) (sa0 : Nat) (s1 : Int32) (h : jH) : Option (Int32 × jH) :=
  (jcv 10 h sa0 (F_X12_throwsIf n sa0 s1 (2 : Int32) h)).bind fun q35 =>
  if q35.1 = 0 then ((jcv 10 q35.2 a0 (F_X12_remembers n a0 q35.2)).bind fun h44 =>
  (jcv 10 h44 a0 (F_X12_of n a0 x1 (5 : Int32) h44)).bind fun v50 =>
  (jgR 10 h44 a0 1).bind fun p55 =>
  (F_X12_at n x1 (5 : Int32) h44).bind fun v60 =>
  (jas 0 h44 p55 v60 x2).bind fun h64 =>
  some (v50, h64))
  else (some ((0 : Int32), q35.2))
noncomputable def F_X12_let (n : Nat) (a0 : Nat) (x1 : Int32) (x2 : Int32) (h : jH) : Option (Int32 × jH) :=
  (jpf 10 h a0 0 (.int (0 : Int32))).bind fun h2 =>
  (jcv 10 h2 a0 (F_X12_noRing n a0 x1 h2)).bind fun v8 =>
  (jcv 10 h2 a0 (F_X12_throwsIf n a0 v8 (1 : Int32) h2)).bind fun q12 =>
  if q12.1 = 0 then ((F_X12_in n x2 (0 : Int32) (9 : Int32) q12.2).bind fun v23 =>
  if v23 = 0 then (F_X12_let_34 n a0 x1 x2 a0 (1 : Int32) q12.2)
  else (F_X12_let_34 n a0 x1 x2 a0 (0 : Int32) q12.2))
  else (some ((0 : Int32), q12.2))
noncomputable def F_X12_chair (n : Nat) (a0 : Nat) (x1 : Int32) (x2 : Int32) (h : jH) : Option (Int32 × jH) :=
  (jpf 10 h a0 0 (.int (0 : Int32))).bind fun h2 =>
  (F_X12_noPlace n x1 h2).bind fun v7 =>
  (jcv 10 h2 a0 (F_X12_throwsIf n a0 v7 (1 : Int32) h2)).bind fun q11 =>
  if q11.1 = 0 then ((jcv 10 q11.2 a0 (F_X12_remembers n a0 q11.2)).bind fun h20 =>
  (jgR 10 h20 a0 1).bind fun p24 =>
  (jal 0 h20 p24 (7 : Int32)).bind fun v29 =>
  (F_X12_has n v29 x1 h20).bind fun v31 =>
  (jgR 10 h20 a0 1).bind fun p36 =>
  (jal 0 h20 p36 (7 : Int32)).bind fun v41 =>
  (jgR 10 h20 a0 1).bind fun p51 =>
  if x2 = 0 then ((jas 0 h20 p51 (7 : Int32) (v41 &&& (((1 : Int32) <<< (x1 &&& 31)) ^^^ (-1 : Int32)))).bind fun h71 =>
  if v31 = x2 then (some ((0 : Int32), h71))
  else (some ((1 : Int32), h71)))
  else ((jas 0 h20 p51 (7 : Int32) ((v41 &&& (((1 : Int32) <<< (x1 &&& 31)) ^^^ (-1 : Int32))) ||| ((1 : Int32) <<< (x1 &&& 31)))).bind fun h71 =>
  if v31 = x2 then (some ((0 : Int32), h71))
  else (some ((1 : Int32), h71))))
  else (some ((0 : Int32), q11.2))
noncomputable def F_X12_catches_4_b (n : Nat) (rc4 : Nat → Int32 → Int32 → jH → Option (Int32 × jH)) (a0 : Nat) (x1 : Int32) (x2 : Int32) (h : jH) : Option (Int32 × jH) :=
  (jcv 10 h a0 (F_X12_lastRing n a0 h)).bind fun v6 =>
  if v6 ≤ x2 then (some (x1, h))
  else ((jcv 10 h a0 (F_X12_gapOf n a0 x2 h)).bind fun v14 =>
  if v14 = (1 : Int32) then ((jcv 10 h a0 (F_X12_is n a0 x2 (7 : Int32) h)).bind fun v25 =>
  if v25 = 0 then ((jcv 10 h a0 (F_X12_drawn n a0 (100 : Int32) h)).bind fun q34 =>
  (jcv 10 q34.2 a0 (F_X12_byLaw n a0 (1 : Int32) x2 q34.2)).bind fun q40 =>
  if q34.1 < q40.1 then ((jgR 10 q40.2 a0 1).bind fun p50 =>
  (F_X12_at n x2 (7 : Int32) q40.2).bind fun v56 =>
  (jas 0 q40.2 p50 v56 (1 : Int32)).bind fun h60 =>
  (jcv 10 h60 a0 (F_X12_tells n a0 x2 (1 : Int32) (0 : Int32) h60)).bind fun h65 =>
  rc4 a0 (x1 + (1 : Int32)) (x2 + (1 : Int32)) h65)
  else (rc4 a0 x1 (x2 + (1 : Int32)) q40.2))
  else (rc4 a0 x1 (x2 + (1 : Int32)) h))
  else (rc4 a0 x1 (x2 + (1 : Int32)) h))
noncomputable def F_X12_catches_4 (n : Nat) : Nat → Nat → Int32 → Int32 → jH → Option (Int32 × jH)
  | 0 => fun _ _ _ _ => none
  | k + 1 => F_X12_catches_4_b n (F_X12_catches_4 n k)
noncomputable def F_X12_catches (n : Nat) (a0 : Nat) (h : jH) : Option (Int32 × jH) :=
  F_X12_catches_4 n n a0 (0 : Int32) (0 : Int32) h
noncomputable def F_X12_falls_4_b (n : Nat) (rc4 : Nat → Int32 → Int32 → jH → Option (Int32 × jH)) (a0 : Nat) (x1 : Int32) (x2 : Int32) (h : jH) : Option (Int32 × jH) :=
  (jcv 10 h a0 (F_X12_rings n a0 h)).bind fun v6 =>
  if v6 ≤ x2 then (some (x1, h))
  else ((jcv 10 h a0 (F_X12_is n a0 x2 (6 : Int32) h)).bind fun v16 =>
  if v16 = 0 then (rc4 a0 x1 (x2 + (1 : Int32)) h)
  else ((jcv 10 h a0 (F_X12_drawn n a0 (100 : Int32) h)).bind fun q25 =>
  (jcv 10 q25.2 a0 (F_X12_byLaw n a0 (2 : Int32) x2 q25.2)).bind fun q31 =>
  if q25.1 < q31.1 then ((jgR 10 q31.2 a0 1).bind fun p41 =>
  (F_X12_at n x2 (6 : Int32) q31.2).bind fun v47 =>
  (jas 0 q31.2 p41 v47 (0 : Int32)).bind fun h51 =>
  (jcv 10 h51 a0 (F_X12_tells n a0 x2 (2 : Int32) (0 : Int32) h51)).bind fun h56 =>
  rc4 a0 (x1 + (1 : Int32)) (x2 + (1 : Int32)) h56)
  else (rc4 a0 x1 (x2 + (1 : Int32)) q31.2)))
noncomputable def F_X12_falls_4 (n : Nat) : Nat → Nat → Int32 → Int32 → jH → Option (Int32 × jH)
  | 0 => fun _ _ _ _ => none
  | k + 1 => F_X12_falls_4_b n (F_X12_falls_4 n k)
noncomputable def F_X12_falls (n : Nat) (a0 : Nat) (h : jH) : Option (Int32 × jH) :=
  F_X12_falls_4 n n a0 (0 : Int32) (0 : Int32) h
noncomputable def F_X12_oneHour_61 (n : Nat) (a0 : Nat) (s0 : Int32) (h : jH) : Option (Int32 × jH) :=
  (jgR 10 h a0 1).bind fun p63 =>
  (jal 0 h p63 (3 : Int32)).bind fun v68 =>
  (jas 0 h p63 (3 : Int32) (v68 + (1 : Int32))).bind fun h71 =>
  (jgR 10 h71 a0 1).bind fun p73 =>
  (jal 0 h71 p73 (3 : Int32)).bind fun v77 =>
  if v77 = (8 : Int32) then ((jgR 10 h71 a0 1).bind fun p84 =>
  (jas 0 h71 p84 (3 : Int32) (0 : Int32)).bind fun h89 =>
  (jgR 10 h89 a0 1).bind fun p91 =>
  (jgR 10 h89 a0 1).bind fun p99 =>
  (jal 0 h89 p99 (4 : Int32)).bind fun v103 =>
  (jas 0 h89 p91 (4 : Int32) (if (v103 + (1 : Int32)) < (9999 : Int32) then v103 + (1 : Int32) else (9999 : Int32))).bind fun h109 =>
  some (s0, h109))
  else (some (s0, h71))
noncomputable def F_X12_oneHour_2_b (n : Nat) (rc2 : Nat → Int32 → Int32 → jH → Option (Int32 × jH)) (a0 : Nat) (x1 : Int32) (x2 : Int32) (h : jH) : Option (Int32 × jH) :=
  (jcv 10 h a0 (F_X12_rings n a0 h)).bind fun v4 =>
  if v4 ≤ x2 then (if x1 = 0 then ((jcv 10 h a0 (F_X12_catches n a0 h)).bind fun q53 =>
  (jcv 10 q53.2 a0 (F_X12_falls n a0 q53.2)).bind fun q57 =>
  F_X12_oneHour_61 n a0 (q53.1 + q57.1) q57.2)
  else (F_X12_oneHour_61 n a0 (0 : Int32) h))
  else ((jgR 10 h a0 1).bind fun p11 =>
  (F_X12_at n x2 (4 : Int32) h).bind fun v16 =>
  (jcv 10 h a0 (F_X12_of n a0 x2 (4 : Int32) h)).bind fun v24 =>
  (jcv 10 h a0 (F_X12_byLaw n a0 (0 : Int32) x2 h)).bind fun q30 =>
  (jas 0 q30.2 p11 v16 (if (v24 + q30.1) < (99 : Int32) then v24 + q30.1 else (99 : Int32))).bind fun h37 =>
  rc2 a0 x1 (x2 + (1 : Int32)) h37)
noncomputable def F_X12_oneHour_2 (n : Nat) : Nat → Nat → Int32 → Int32 → jH → Option (Int32 × jH)
  | 0 => fun _ _ _ _ => none
  | k + 1 => F_X12_oneHour_2_b n (F_X12_oneHour_2 n k)
noncomputable def F_X12_oneHour (n : Nat) (a0 : Nat) (x1 : Int32) (h : jH) : Option (Int32 × jH) :=
  F_X12_oneHour_2 n n a0 x1 (0 : Int32) h
noncomputable def F_X12_goesOn_5_b (n : Nat) (rc5 : Nat → Int32 → Int32 → Int32 → Int32 → jH → Option (Int32 × jH)) (a0 : Nat) (x1 : Int32) (x2 : Int32) (x3 : Int32) (x4 : Int32) (h : jH) : Option (Int32 × jH) :=
  if x1 ≤ x4 then (some (x3, h))
  else ((jcv 10 h a0 (F_X12_oneHour n a0 x2 h)).bind fun q14 =>
  rc5 a0 x1 x2 (x3 + q14.1) (x4 + (1 : Int32)) q14.2)
noncomputable def F_X12_goesOn_5 (n : Nat) : Nat → Nat → Int32 → Int32 → Int32 → Int32 → jH → Option (Int32 × jH)
  | 0 => fun _ _ _ _ _ _ => none
  | k + 1 => F_X12_goesOn_5_b n (F_X12_goesOn_5 n k)
noncomputable def F_X12_goesOn (n : Nat) (a0 : Nat) (x1 : Int32) (x2 : Int32) (h : jH) : Option (Int32 × jH) :=
  F_X12_goesOn_5 n n a0 x1 x2 (0 : Int32) (0 : Int32) h
noncomputable def F_X12_keepsAll_2_b (n : Nat) (rc2 : Nat → Int32 → jH → Option jH) (a0 : Nat) (x1 : Int32) (h : jH) : Option jH :=
  if (435 : Int32) ≤ x1 then (some h)
  else ((jgR 10 h a0 4).bind fun p10 =>
  (jgR 10 h a0 1).bind fun p15 =>
  (jal 0 h p15 x1).bind fun v19 =>
  (jas 0 h p10 x1 v19).bind fun h20 =>
  rc2 a0 (x1 + (1 : Int32)) h20)
noncomputable def F_X12_keepsAll_2 (n : Nat) : Nat → Nat → Int32 → jH → Option jH
  | 0 => fun _ _ _ => none
  | k + 1 => F_X12_keepsAll_2_b n (F_X12_keepsAll_2 n k)
noncomputable def F_X12_keepsAll (n : Nat) (a0 : Nat) (h : jH) : Option jH :=
  F_X12_keepsAll_2 n n a0 (0 : Int32) h
noncomputable def F_X12_bringsBack_2_b (n : Nat) (rc2 : Nat → Int32 → jH → Option jH) (a0 : Nat) (x1 : Int32) (h : jH) : Option jH :=
  if (435 : Int32) ≤ x1 then (some h)
  else ((jgR 10 h a0 1).bind fun p10 =>
  (jgR 10 h a0 4).bind fun p15 =>
  (jal 0 h p15 x1).bind fun v19 =>
  (jas 0 h p10 x1 v19).bind fun h20 =>
  rc2 a0 (x1 + (1 : Int32)) h20)
noncomputable def F_X12_bringsBack_2 (n : Nat) : Nat → Nat → Int32 → jH → Option jH
  | 0 => fun _ _ _ => none
  | k + 1 => F_X12_bringsBack_2_b n (F_X12_bringsBack_2 n k)
noncomputable def F_X12_bringsBack (n : Nat) (a0 : Nat) (h : jH) : Option jH :=
  F_X12_bringsBack_2 n n a0 (0 : Int32) h
noncomputable def F_X12_hours_21 (n : Nat) (a0 : Nat) (x1 : Int32) (sa0 : Nat) (s1 : Int32) (h : jH) : Option (Int32 × jH) :=
  (jcv 10 h sa0 (F_X12_throwsIf n sa0 s1 (1 : Int32) h)).bind fun q22 =>
  if q22.1 = 0 then ((jcv 10 q22.2 a0 (F_X12_remembers n a0 q22.2)).bind fun h31 =>
  (jcv 10 h31 a0 (F_X12_goesOn n a0 x1 (0 : Int32) h31)).bind fun q37 =>
  some (q37.1, q37.2))
  else (some ((0 : Int32), q22.2))
noncomputable def F_X12_hours (n : Nat) (a0 : Nat) (x1 : Int32) (h : jH) : Option (Int32 × jH) :=
  (jpf 10 h a0 0 (.int (0 : Int32))).bind fun h2 =>
  (F_X12_in n x1 (1 : Int32) (80 : Int32) h2).bind fun v10 =>
  if v10 = 0 then (F_X12_hours_21 n a0 x1 a0 (1 : Int32) h2)
  else (F_X12_hours_21 n a0 x1 a0 (0 : Int32) h2)
noncomputable def F_X12_noAhead (n : Nat) (x0 : Int32) (h : jH) : Option Int32 :=
  (F_X12_in n x0 (0 : Int32) (80 : Int32) h).bind fun v4 =>
  if v4 = 0 then (some (1 : Int32))
  else (some (0 : Int32))
noncomputable def F_X12_ahead (n : Nat) (a0 : Nat) (x1 : Int32) (x2 : Int32) (h : jH) : Option (Int32 × jH) :=
  (jpf 10 h a0 0 (.int (0 : Int32))).bind fun h2 =>
  (jcv 10 h2 a0 (F_X12_noRing n a0 x1 h2)).bind fun v8 =>
  (jcv 10 h2 a0 (F_X12_throwsIf n a0 v8 (1 : Int32) h2)).bind fun q12 =>
  if q12.1 = 0 then ((F_X12_noAhead n x2 q12.2).bind fun v20 =>
  (jcv 10 q12.2 a0 (F_X12_throwsIf n a0 v20 (2 : Int32) q12.2)).bind fun q24 =>
  if q24.1 = 0 then ((jcv 10 q24.2 a0 (F_X12_keepsAll n a0 q24.2)).bind fun h33 =>
  (jcv 10 h33 a0 (F_X12_goesOn n a0 x2 (1 : Int32) h33)).bind fun q39 =>
  (jcv 10 q39.2 a0 (F_X12_of n a0 x1 (4 : Int32) q39.2)).bind fun v46 =>
  (jcv 10 q39.2 a0 (F_X12_bringsBack n a0 q39.2)).bind fun h51 =>
  some (v46, h51))
  else (some ((0 : Int32), q24.2)))
  else (some ((0 : Int32), q12.2))
noncomputable def F_X12_faded (n : Nat) (a0 : Nat) (x1 : Int32) (h : jH) : Option (Int32 × jH) :=
  (jpf 10 h a0 0 (.int (0 : Int32))).bind fun h2 =>
  (F_X12_noAhead n x1 h2).bind fun v7 =>
  (jcv 10 h2 a0 (F_X12_throwsIf n a0 v7 (1 : Int32) h2)).bind fun q11 =>
  if q11.1 = 0 then ((jcv 10 q11.2 a0 (F_X12_keepsAll n a0 q11.2)).bind fun h20 =>
  (jcv 10 h20 a0 (F_X12_goesOn n a0 x1 (1 : Int32) h20)).bind fun q26 =>
  (jcv 10 q26.2 a0 (F_X12_fadesOfAll n a0 q26.2)).bind fun v31 =>
  (jcv 10 q26.2 a0 (F_X12_bringsBack n a0 q26.2)).bind fun h36 =>
  some (v31, h36))
  else (some ((0 : Int32), q11.2))
noncomputable def F_X12_somePale_4_b (n : Nat) (rc4 : Nat → Int32 → Int32 → jH → Option Int32) (a0 : Nat) (x1 : Int32) (x2 : Int32) (h : jH) : Option Int32 :=
  (jcv 10 h a0 (F_X12_rings n a0 h)).bind fun v6 =>
  if v6 ≤ x2 then (if x1 = 0 ∨ x1 = 1 then some x1 else none)
  else (if x1 = 0 then ((jcv 10 h a0 (F_X12_of n a0 x2 (4 : Int32) h)).bind fun v19 =>
  if v19 = (99 : Int32) then (rc4 a0 (1 : Int32) (x2 + (1 : Int32)) h)
  else (rc4 a0 (0 : Int32) (x2 + (1 : Int32)) h))
  else (rc4 a0 (1 : Int32) (x2 + (1 : Int32)) h))
noncomputable def F_X12_somePale_4 (n : Nat) : Nat → Nat → Int32 → Int32 → jH → Option Int32
  | 0 => fun _ _ _ _ => none
  | k + 1 => F_X12_somePale_4_b n (F_X12_somePale_4 n k)
noncomputable def F_X12_somePale (n : Nat) (a0 : Nat) (h : jH) : Option Int32 :=
  F_X12_somePale_4 n n a0 (0 : Int32) (0 : Int32) h
noncomputable def F_X12_pale_49 (n : Nat) (a0 : Nat) (x1 : Int32) (h : jH) : Option (Int32 × jH) :=
  (jcv 10 h a0 (F_X12_bringsBack n a0 h)).bind fun h50 =>
  some (x1, h50)
noncomputable def F_X12_pale_36 (n : Nat) (rc13 : Nat → Int32 → Int32 → jH → Option (Int32 × jH)) (a0 : Nat) (x2 : Int32) (s0 : Int32) (h : jH) : Option (Int32 × jH) :=
  (jcv 10 h a0 (F_X12_oneHour n a0 (1 : Int32) h)).bind fun q39 =>
  rc13 a0 s0 (x2 + (1 : Int32)) q39.2
noncomputable def F_X12_pale_13_b (n : Nat) (rc13 : Nat → Int32 → Int32 → jH → Option (Int32 × jH)) (a0 : Nat) (x1 : Int32) (x2 : Int32) (h : jH) : Option (Int32 × jH) :=
  if (80 : Int32) < x2 then (F_X12_pale_49 n a0 x1 h)
  else (if x1 = (-1 : Int32) then ((jcv 10 h a0 (F_X12_somePale n a0 h)).bind fun v25 =>
  if v25 = 0 then (F_X12_pale_36 n rc13 a0 x2 (-1 : Int32) h)
  else (F_X12_pale_36 n rc13 a0 x2 x2 h))
  else (F_X12_pale_49 n a0 x1 h))
noncomputable def F_X12_pale_13 (n : Nat) : Nat → Nat → Int32 → Int32 → jH → Option (Int32 × jH)
  | 0 => fun _ _ _ _ => none
  | k + 1 => F_X12_pale_13_b n (F_X12_pale_13 n k)
noncomputable def F_X12_pale (n : Nat) (a0 : Nat) (h : jH) : Option (Int32 × jH) :=
  (jpf 10 h a0 0 (.int (0 : Int32))).bind fun h2 =>
  (jcv 10 h2 a0 (F_X12_keepsAll n a0 h2)).bind fun h8 =>
  F_X12_pale_13 n n a0 (-1 : Int32) (0 : Int32) h8
noncomputable def F_X12_shadeNow_44_b (n : Nat) (rc4 : Nat → Int32 → Int32 → jH → Option Int32) (rc44 : Nat → Int32 → Int32 → Int32 → jH → Option Int32) (a0 : Nat) (x1 : Int32) (x2 : Int32) (x3 : Int32) (h : jH) : Option Int32 :=
  (jcv 10 h a0 (F_X12_of n a0 (x2 + (1 : Int32)) (0 : Int32) h)).bind fun v50 =>
  if v50 < x3 then (rc4 a0 x1 (x2 + (1 : Int32)) h)
  else (rc44 a0 (x1 ||| ((1 : Int32) <<< (x3 &&& 31))) x2 (x3 + (1 : Int32)) h)
noncomputable def F_X12_shadeNow_44 (n : Nat) (rc4 : Nat → Int32 → Int32 → jH → Option Int32) : Nat → Nat → Int32 → Int32 → Int32 → jH → Option Int32
  | 0 => fun _ _ _ _ _ => none
  | k + 1 => F_X12_shadeNow_44_b n rc4 (F_X12_shadeNow_44 n rc4 k)
noncomputable def F_X12_shadeNow_4_b (n : Nat) (rc4 : Nat → Int32 → Int32 → jH → Option Int32) (a0 : Nat) (x1 : Int32) (x2 : Int32) (h : jH) : Option Int32 :=
  (jcv 10 h a0 (F_X12_lastRing n a0 h)).bind fun v6 =>
  if v6 ≤ x2 then (some x1)
  else ((jcv 10 h a0 (F_X12_is n a0 x2 (6 : Int32) h)).bind fun v16 =>
  if v16 = 0 then (rc4 a0 x1 (x2 + (1 : Int32)) h)
  else ((jcv 10 h a0 (F_X12_is n a0 (x2 + (1 : Int32)) (6 : Int32) h)).bind fun v28 =>
  if v28 = 0 then (rc4 a0 x1 (x2 + (1 : Int32)) h)
  else ((jcv 10 h a0 (F_X12_of n a0 x2 (0 : Int32) h)).bind fun v40 =>
  F_X12_shadeNow_44 n rc4 n a0 x1 x2 v40 h)))
noncomputable def F_X12_shadeNow_4 (n : Nat) : Nat → Nat → Int32 → Int32 → jH → Option Int32
  | 0 => fun _ _ _ _ => none
  | k + 1 => F_X12_shadeNow_4_b n (F_X12_shadeNow_4 n k)
noncomputable def F_X12_shadeNow (n : Nat) (a0 : Nat) (h : jH) : Option Int32 :=
  F_X12_shadeNow_4 n n a0 (0 : Int32) (0 : Int32) h
noncomputable def F_X12_darkNow (n : Nat) (a0 : Nat) (h : jH) : Option Int32 :=
  (jgR 10 h a0 1).bind fun p1 =>
  (jal 0 h p1 (7 : Int32)).bind fun v6 =>
  (jcv 10 h a0 (F_X12_shadeNow n a0 h)).bind fun v8 =>
  (F_J6_bitCount_0f7a4 n (v6 &&& v8) h).bind fun v12 =>
  some v12
noncomputable def F_X12_shade (n : Nat) (a0 : Nat) (h : jH) : Option (Int32 × jH) :=
  (jpf 10 h a0 0 (.int (0 : Int32))).bind fun h2 =>
  (jcv 10 h2 a0 (F_X12_shadeNow n a0 h2)).bind fun v6 =>
  some (v6, h2)
noncomputable def F_X12_dark (n : Nat) (a0 : Nat) (h : jH) : Option (Int32 × jH) :=
  (jpf 10 h a0 0 (.int (0 : Int32))).bind fun h2 =>
  (jcv 10 h2 a0 (F_X12_darkNow n a0 h2)).bind fun v6 =>
  some (v6, h2)
noncomputable def F_X12_bare (n : Nat) (a0 : Nat) (h : jH) : Option (Int32 × jH) :=
  (jpf 10 h a0 0 (.int (0 : Int32))).bind fun h2 =>
  (jgR 10 h2 a0 1).bind fun p6 =>
  (jal 0 h2 p6 (7 : Int32)).bind fun v11 =>
  (jcv 10 h2 a0 (F_X12_shadeNow n a0 h2)).bind fun v13 =>
  some (v11 &&& (v13 ^^^ (-1 : Int32)), h2)
noncomputable def F_X12_goes (n : Nat) (a0 : Nat) (x1 : Int32) (x2 : Int32) (h : jH) : Option (Int32 × jH) :=
  (jpf 10 h a0 0 (.int (0 : Int32))).bind fun h2 =>
  (jcv 10 h2 a0 (F_X12_noRing n a0 x1 h2)).bind fun v8 =>
  (jcv 10 h2 a0 (F_X12_throwsIf n a0 v8 (1 : Int32) h2)).bind fun q12 =>
  if q12.1 = 0 then ((jcv 10 q12.2 a0 (F_X12_keepsAll n a0 q12.2)).bind fun h21 =>
  (jcv 10 h21 a0 (F_X12_pulls n a0 x1 x2 (31 : Int32) h21)).bind fun q29 =>
  (jcv 10 q29.2 a0 (F_X12_bringsBack n a0 q29.2)).bind fun h34 =>
  some (q29.1, h34))
  else (some ((0 : Int32), q12.2))
noncomputable def F_X12_with (n : Nat) (a0 : Nat) (x1 : Int32) (x2 : Int32) (h : jH) : Option (Int32 × jH) :=
  (jpf 10 h a0 0 (.int (0 : Int32))).bind fun h2 =>
  (jcv 10 h2 a0 (F_X12_noRing n a0 x1 h2)).bind fun v8 =>
  (jcv 10 h2 a0 (F_X12_throwsIf n a0 v8 (1 : Int32) h2)).bind fun q12 =>
  if q12.1 = 0 then ((jcv 10 q12.2 a0 (F_X12_goingBy n a0 x1 x2 q12.2)).bind fun v25 =>
  some (v25, q12.2))
  else (some ((0 : Int32), q12.2))
noncomputable def F_X12_would_60 (n : Nat) (a0 : Nat) (s0 : Int32) (h : jH) : Option (Int32 × jH) :=
  (jcv 10 h a0 (F_X12_bringsBack n a0 h)).bind fun h63 =>
  some (s0, h63)
noncomputable def F_X12_would (n : Nat) (a0 : Nat) (x1 : Int32) (x2 : Int32) (x3 : Int32) (x4 : Int32) (h : jH) : Option (Int32 × jH) :=
  (jpf 10 h a0 0 (.int (0 : Int32))).bind fun h2 =>
  (jcv 10 h2 a0 (F_X12_noRing n a0 x1 h2)).bind fun v8 =>
  (jcv 10 h2 a0 (F_X12_throwsIf n a0 v8 (1 : Int32) h2)).bind fun q12 =>
  if q12.1 = 0 then ((F_X12_noSteps n x3 q12.2).bind fun v20 =>
  (jcv 10 q12.2 a0 (F_X12_throwsIf n a0 v20 (2 : Int32) q12.2)).bind fun q24 =>
  if q24.1 = 0 then ((jcv 10 q24.2 a0 (F_X12_keepsAll n a0 q24.2)).bind fun h33 =>
  (jcv 10 h33 a0 (F_X12_pulls n a0 x1 x2 x3 h33)).bind fun q40 =>
  if x4 = 0 then ((jcv 10 q40.2 a0 (F_X12_darkNow n a0 q40.2)).bind fun v57 =>
  F_X12_would_60 n a0 v57 q40.2)
  else ((jgI 10 q40.2 a0 18).bind fun v50 =>
  F_X12_would_60 n a0 v50 q40.2))
  else (some ((0 : Int32), q24.2)))
  else (some ((0 : Int32), q12.2))
noncomputable def F_X12_best_113 (n : Nat) (rc14 : Nat → Int32 → Int32 → Int32 → jH → Option (Int32 × jH)) (a0 : Nat) (x1 : Int32) (x2 : Int32) (x3 : Int32) (h : jH) : Option (Int32 × jH) :=
  (jcv 10 h a0 (F_X12_bringsBack n a0 h)).bind fun h114 =>
  rc14 a0 x1 x2 (x3 + (1 : Int32)) h114
noncomputable def F_X12_best_99 (n : Nat) (rc14 : Nat → Int32 → Int32 → Int32 → jH → Option (Int32 × jH)) (rc34 : Nat → Int32 → Int32 → Int32 → Int32 → Int32 → jH → Option (Int32 × jH)) (a0 : Nat) (x2 : Int32) (x3 : Int32) (x4 : Int32) (x5 : Int32) (x6 : Int32) (s0 : Int32) (h : jH) : Option (Int32 × jH) :=
  rc34 a0 s0 (if x2 < x6 then x6 else x2) x3 x4 (x5 + (1 : Int32)) h
noncomputable def F_X12_best_62 (n : Nat) (rc14 : Nat → Int32 → Int32 → Int32 → jH → Option (Int32 × jH)) (rc34 : Nat → Int32 → Int32 → Int32 → Int32 → Int32 → jH → Option (Int32 × jH)) (a0 : Nat) (x1 : Int32) (x2 : Int32) (x3 : Int32) (x5 : Int32) (sa0 : Nat) (s1 : Int32) (s2 : Int32) (h : jH) : Option (Int32 × jH) :=
  (jcv 10 h sa0 (F_X12_goesOne n sa0 s1 s2 h)).bind fun q62 =>
  if q62.1 = 0 then (if (0 : Int32) ≤ x2 then (F_X12_best_99 n rc14 rc34 a0 x2 x3 q62.1 x5 (0 : Int32) x1 q62.2)
  else (F_X12_best_99 n rc14 rc34 a0 x2 x3 q62.1 x5 (0 : Int32) (((32 : Int32) * x3) + x5) q62.2))
  else ((jcv 10 q62.2 a0 (F_X12_darkNow n a0 q62.2)).bind fun v73 =>
  if v73 ≤ x2 then (F_X12_best_99 n rc14 rc34 a0 x2 x3 q62.1 x5 v73 x1 q62.2)
  else (F_X12_best_99 n rc14 rc34 a0 x2 x3 q62.1 x5 v73 (((32 : Int32) * x3) + x5) q62.2))
noncomputable def F_X12_best_34_b (n : Nat) (rc14 : Nat → Int32 → Int32 → Int32 → jH → Option (Int32 × jH)) (rc34 : Nat → Int32 → Int32 → Int32 → Int32 → Int32 → jH → Option (Int32 × jH)) (a0 : Nat) (x1 : Int32) (x2 : Int32) (x3 : Int32) (x4 : Int32) (x5 : Int32) (h : jH) : Option (Int32 × jH) :=
  if (31 : Int32) < x5 then (F_X12_best_113 n rc14 a0 x1 x2 x3 h)
  else (if x4 = 0 then (F_X12_best_113 n rc14 a0 x1 x2 x3 h)
  else (if (x3 - x3 / (2 : Int32) * (2 : Int32)) = (1 : Int32) then (F_X12_best_62 n rc14 rc34 a0 x1 x2 x3 x5 a0 (x3 / (2 : Int32)) (1 : Int32) h)
  else (F_X12_best_62 n rc14 rc34 a0 x1 x2 x3 x5 a0 (x3 / (2 : Int32)) (0 : Int32) h)))
noncomputable def F_X12_best_34 (n : Nat) (rc14 : Nat → Int32 → Int32 → Int32 → jH → Option (Int32 × jH)) : Nat → Nat → Int32 → Int32 → Int32 → Int32 → Int32 → jH → Option (Int32 × jH)
  | 0 => fun _ _ _ _ _ _ _ => none
  | k + 1 => F_X12_best_34_b n rc14 (F_X12_best_34 n rc14 k)
noncomputable def F_X12_best_14_b (n : Nat) (rc14 : Nat → Int32 → Int32 → Int32 → jH → Option (Int32 × jH)) (a0 : Nat) (x1 : Int32) (x2 : Int32) (x3 : Int32) (h : jH) : Option (Int32 × jH) :=
  (jcv 10 h a0 (F_X12_rings n a0 h)).bind fun v17 =>
  if ((2 : Int32) * v17) ≤ x3 then (some (x1, h))
  else ((jcv 10 h a0 (F_X12_keepsAll n a0 h)).bind fun h28 =>
  F_X12_best_34 n rc14 n a0 x1 x2 x3 (1 : Int32) (1 : Int32) h28)
noncomputable def F_X12_best_14 (n : Nat) : Nat → Nat → Int32 → Int32 → Int32 → jH → Option (Int32 × jH)
  | 0 => fun _ _ _ _ _ => none
  | k + 1 => F_X12_best_14_b n (F_X12_best_14 n k)
noncomputable def F_X12_best (n : Nat) (a0 : Nat) (h : jH) : Option (Int32 × jH) :=
  (jpf 10 h a0 0 (.int (0 : Int32))).bind fun h2 =>
  (jcv 10 h2 a0 (F_X12_darkNow n a0 h2)).bind fun v8 =>
  F_X12_best_14 n n a0 (-1 : Int32) v8 (0 : Int32) h2
noncomputable def F_X12_shadesAll (n : Nat) (a0 : Nat) (x1 : Int32) (h : jH) : Option Int32 :=
  (jcv 10 h a0 (F_X12_shadeNow n a0 h)).bind fun v2 =>
  if (x1 &&& (v2 ^^^ (-1 : Int32))) = 0 then (some (1 : Int32))
  else (some (0 : Int32))
noncomputable def F_X12_stepsTo_72 (n : Nat) (a0 : Nat) (x4 : Int32) (h : jH) : Option (Int32 × jH) :=
  (jcv 10 h a0 (F_X12_bringsBack n a0 h)).bind fun h73 =>
  some (x4, h73)
noncomputable def F_X12_stepsTo_15_b (n : Nat) (rc15 : Nat → Int32 → Int32 → Int32 → Int32 → Int32 → Int32 → jH → Option (Int32 × jH)) (a0 : Nat) (x1 : Int32) (x2 : Int32) (x3 : Int32) (x4 : Int32) (x5 : Int32) (x6 : Int32) (h : jH) : Option (Int32 × jH) :=
  if (31 : Int32) < x6 then (F_X12_stepsTo_72 n a0 x4 h)
  else (if x5 = 0 then (F_X12_stepsTo_72 n a0 x4 h)
  else (if x4 = (1000000 : Int32) then ((jcv 10 h a0 (F_X12_goesOne n a0 x2 x3 h)).bind fun q38 =>
  if q38.1 = 0 then (rc15 a0 x1 x2 x3 (1000000 : Int32) q38.1 (x6 + (1 : Int32)) q38.2)
  else ((jcv 10 q38.2 a0 (F_X12_shadesAll n a0 x1 q38.2)).bind fun v50 =>
  if v50 = 0 then (rc15 a0 x1 x2 x3 (1000000 : Int32) q38.1 (x6 + (1 : Int32)) q38.2)
  else (rc15 a0 x1 x2 x3 x6 q38.1 (x6 + (1 : Int32)) q38.2)))
  else (F_X12_stepsTo_72 n a0 x4 h)))
noncomputable def F_X12_stepsTo_15 (n : Nat) : Nat → Nat → Int32 → Int32 → Int32 → Int32 → Int32 → Int32 → jH → Option (Int32 × jH)
  | 0 => fun _ _ _ _ _ _ _ _ => none
  | k + 1 => F_X12_stepsTo_15_b n (F_X12_stepsTo_15 n k)
noncomputable def F_X12_stepsTo (n : Nat) (a0 : Nat) (x1 : Int32) (x2 : Int32) (x3 : Int32) (h : jH) : Option (Int32 × jH) :=
  (jcv 10 h a0 (F_X12_keepsAll n a0 h)).bind fun h9 =>
  F_X12_stepsTo_15 n n a0 x1 x2 x3 (1000000 : Int32) (1 : Int32) (1 : Int32) h9
noncomputable def F_X12_fewestTo_58 (n : Nat) (rc10 : Nat → Int32 → Int32 → Int32 → Int32 → Int32 → jH → Option (Int32 × jH)) (a0 : Nat) (x1 : Int32) (x2 : Int32) (x4 : Int32) (x5 : Int32) (x6 : Int32) (s0 : Int32) (h : jH) : Option (Int32 × jH) :=
  rc10 a0 x1 x2 s0 (if x6 < x4 then x6 else x4) (x5 + (1 : Int32)) h
noncomputable def F_X12_fewestTo_40 (n : Nat) (rc10 : Nat → Int32 → Int32 → Int32 → Int32 → Int32 → jH → Option (Int32 × jH)) (a0 : Nat) (x1 : Int32) (x2 : Int32) (x3 : Int32) (x4 : Int32) (x5 : Int32) (sa0 : Nat) (s1 : Int32) (s2 : Int32) (s3 : Int32) (h : jH) : Option (Int32 × jH) :=
  (jcv 10 h sa0 (F_X12_stepsTo n sa0 s1 s2 s3 h)).bind fun q40 =>
  if x4 ≤ q40.1 then (F_X12_fewestTo_58 n rc10 a0 x1 x2 x4 x5 q40.1 x3 q40.2)
  else (F_X12_fewestTo_58 n rc10 a0 x1 x2 x4 x5 q40.1 x5 q40.2)
noncomputable def F_X12_fewestTo_10_b (n : Nat) (rc10 : Nat → Int32 → Int32 → Int32 → Int32 → Int32 → jH → Option (Int32 × jH)) (a0 : Nat) (x1 : Int32) (x2 : Int32) (x3 : Int32) (x4 : Int32) (x5 : Int32) (h : jH) : Option (Int32 × jH) :=
  (jcv 10 h a0 (F_X12_rings n a0 h)).bind fun v14 =>
  if ((2 : Int32) * v14) ≤ x5 then (if x2 = 0 then (if x3 = (-1 : Int32) then (some (x3, h))
  else (some (x4, h)))
  else (some (x3, h)))
  else (if (x5 - x5 / (2 : Int32) * (2 : Int32)) = (1 : Int32) then (F_X12_fewestTo_40 n rc10 a0 x1 x2 x3 x4 x5 a0 x1 (x5 / (2 : Int32)) (1 : Int32) h)
  else (F_X12_fewestTo_40 n rc10 a0 x1 x2 x3 x4 x5 a0 x1 (x5 / (2 : Int32)) (0 : Int32) h))
noncomputable def F_X12_fewestTo_10 (n : Nat) : Nat → Nat → Int32 → Int32 → Int32 → Int32 → Int32 → jH → Option (Int32 × jH)
  | 0 => fun _ _ _ _ _ _ _ => none
  | k + 1 => F_X12_fewestTo_10_b n (F_X12_fewestTo_10 n k)
noncomputable def F_X12_fewestTo (n : Nat) (a0 : Nat) (x1 : Int32) (x2 : Int32) (h : jH) : Option (Int32 × jH) :=
  F_X12_fewestTo_10 n n a0 x1 x2 (-1 : Int32) (1000000 : Int32) (0 : Int32) h
noncomputable def F_X12_fewest (n : Nat) (a0 : Nat) (x1 : Int32) (h : jH) : Option (Int32 × jH) :=
  (jpf 10 h a0 0 (.int (0 : Int32))).bind fun h2 =>
  (jcv 10 h2 a0 (F_X12_shadesAll n a0 x1 h2)).bind fun v7 =>
  if v7 = 0 then ((jcv 10 h2 a0 (F_X12_fewestTo n a0 x1 (0 : Int32) h2)).bind fun q20 =>
  some (q20.1, q20.2))
  else (some ((0 : Int32), h2))
noncomputable def F_X12_first (n : Nat) (a0 : Nat) (x1 : Int32) (h : jH) : Option (Int32 × jH) :=
  (jpf 10 h a0 0 (.int (0 : Int32))).bind fun h2 =>
  (jcv 10 h2 a0 (F_X12_shadesAll n a0 x1 h2)).bind fun v7 =>
  if v7 = 0 then ((jcv 10 h2 a0 (F_X12_fewestTo n a0 x1 (1 : Int32) h2)).bind fun q20 =>
  some (q20.1, q20.2))
  else (some ((-1 : Int32), h2))
noncomputable def F_X12_isTold_26_b (n : Nat) (rc26 : Nat → Int32 → Int32 → jH → Option Int32) (a0 : Nat) (x1 : Int32) (x2 : Int32) (h : jH) : Option Int32 :=
  (jgI 10 h a0 11).bind fun v28 =>
  if v28 ≤ x2 then (if x1 = 0 ∨ x1 = 1 then some x1 else none)
  else (if x1 = 0 then (if x1 = 0 ∨ x1 = 1 then some x1 else none)
  else ((jgR 10 h a0 8).bind fun p40 =>
  (jal 1 h p40 x2).bind fun v44 =>
  (jcv 10 h a0 (F_X12_noRing n a0 v44 h)).bind fun v45 =>
  if v45 = 0 then ((jgR 10 h a0 8).bind fun p52 =>
  (jal 1 h p52 (x2 + (1 : Int32))).bind fun v58 =>
  (F_X12_in n v58 (0 : Int32) (1 : Int32) h).bind fun v61 =>
  if v61 = 0 then (rc26 a0 (0 : Int32) (x2 + (4 : Int32)) h)
  else ((jgR 10 h a0 8).bind fun p68 =>
  (jal 1 h p68 (x2 + (2 : Int32))).bind fun v74 =>
  (F_X12_noSteps n v74 h).bind fun v75 =>
  if v75 = 0 then ((jgR 10 h a0 8).bind fun p82 =>
  (jal 1 h p82 (x2 + (3 : Int32))).bind fun v88 =>
  (F_X12_in n v88 (0 : Int32) (31 : Int32) h).bind fun v92 =>
  if v92 = 0 then (rc26 a0 (0 : Int32) (x2 + (4 : Int32)) h)
  else (rc26 a0 (1 : Int32) (x2 + (4 : Int32)) h))
  else (rc26 a0 (0 : Int32) (x2 + (4 : Int32)) h)))
  else (rc26 a0 (0 : Int32) (x2 + (4 : Int32)) h)))
noncomputable def F_X12_isTold_26 (n : Nat) : Nat → Nat → Int32 → Int32 → jH → Option Int32
  | 0 => fun _ _ _ _ => none
  | k + 1 => F_X12_isTold_26_b n (F_X12_isTold_26 n k)
noncomputable def F_X12_isTold (n : Nat) (a0 : Nat) (h : jH) : Option Int32 :=
  (jgI 10 h a0 11).bind fun v1 =>
  if (v1 - v1 / (4 : Int32) * (4 : Int32)) = 0 then ((jgI 10 h a0 11).bind fun v10 =>
  if (40 : Int32) < v10 then (F_X12_isTold_26 n n a0 (0 : Int32) (0 : Int32) h)
  else (F_X12_isTold_26 n n a0 (1 : Int32) (0 : Int32) h))
  else (F_X12_isTold_26 n n a0 (0 : Int32) (0 : Int32) h)
noncomputable def F_X12_thatCanCatch (n : Nat) (a0 : Nat) (h : jH) : Option Int32 :=
  (jcv 10 h a0 (F_X12_rings n a0 h)).bind fun v1 =>
  if (2 : Int32) ≤ v1 then ((jcv 10 h a0 (F_X12_lastRing n a0 h)).bind fun v14 =>
  some (((1 : Int32) <<< (v14 &&& 31)) - (1 : Int32)))
  else (some (0 : Int32))
noncomputable def F_X12_areCaught_2_b (n : Nat) (rc2 : Nat → Int32 → Int32 → jH → Option jH) (a0 : Nat) (x1 : Int32) (x2 : Int32) (h : jH) : Option jH :=
  (jcv 10 h a0 (F_X12_rings n a0 h)).bind fun v4 =>
  if v4 ≤ x2 then (some h)
  else ((jgR 10 h a0 1).bind fun p11 =>
  (F_X12_at n x2 (7 : Int32) h).bind fun v17 =>
  (F_X12_has n x1 x2 h).bind fun v22 =>
  if v22 = 0 then ((jas 0 h p11 v17 (0 : Int32)).bind fun h33 =>
  rc2 a0 x1 (x2 + (1 : Int32)) h33)
  else ((jas 0 h p11 v17 (1 : Int32)).bind fun h33 =>
  rc2 a0 x1 (x2 + (1 : Int32)) h33))
noncomputable def F_X12_areCaught_2 (n : Nat) : Nat → Nat → Int32 → Int32 → jH → Option jH
  | 0 => fun _ _ _ _ => none
  | k + 1 => F_X12_areCaught_2_b n (F_X12_areCaught_2 n k)
noncomputable def F_X12_areCaught (n : Nat) (a0 : Nat) (x1 : Int32) (h : jH) : Option jH :=
  F_X12_areCaught_2 n n a0 x1 (0 : Int32) h
noncomputable def F_X12_wentWith (n : Nat) (a0 : Nat) (x1 : Int32) (x2 : Int32) (x3 : Int32) (x4 : Int32) (h : jH) : Option (Int32 × jH) :=
  (jcv 10 h a0 (F_X12_keepsAll n a0 h)).bind fun h1 =>
  (jcv 10 h1 a0 (F_X12_areCaught n a0 x1 h1)).bind fun h6 =>
  (jcv 10 h6 a0 (F_X12_pulls n a0 x2 x3 x4 h6)).bind fun q14 =>
  (jcv 10 q14.2 a0 (F_X12_bringsBack n a0 q14.2)).bind fun h20 =>
  some (q14.1, h20)
noncomputable def F_X12_fits_41 (n : Nat) (rc4 : Nat → Int32 → Int32 → Int32 → jH → Option (Int32 × jH)) (a0 : Nat) (x1 : Int32) (x3 : Int32) (sa0 : Nat) (s1 : Int32) (s2 : Int32) (s3 : Int32) (h : jH) : Option (Int32 × jH) :=
  (jgR 10 h a0 8).bind fun p42 =>
  (jal 1 h p42 (x3 + (2 : Int32))).bind fun v48 =>
  (jcv 10 h sa0 (F_X12_wentWith n sa0 s1 s2 s3 v48 h)).bind fun q49 =>
  (jgR 10 q49.2 a0 8).bind fun p53 =>
  (jal 1 q49.2 p53 (x3 + (3 : Int32))).bind fun v59 =>
  if q49.1 = v59 then (rc4 a0 x1 (1 : Int32) (x3 + (4 : Int32)) q49.2)
  else (rc4 a0 x1 (0 : Int32) (x3 + (4 : Int32)) q49.2)
noncomputable def F_X12_fits_4_b (n : Nat) (rc4 : Nat → Int32 → Int32 → Int32 → jH → Option (Int32 × jH)) (a0 : Nat) (x1 : Int32) (x2 : Int32) (x3 : Int32) (h : jH) : Option (Int32 × jH) :=
  (jgI 10 h a0 11).bind fun v6 =>
  if v6 ≤ x3 then (if x2 = 0 ∨ x2 = 1 then some (x2, h) else none)
  else (if x2 = 0 then (if x2 = 0 ∨ x2 = 1 then some (x2, h) else none)
  else ((jgR 10 h a0 8).bind fun p19 =>
  (jal 1 h p19 x3).bind fun v23 =>
  (jgR 10 h a0 8).bind fun p25 =>
  (jal 1 h p25 (x3 + (1 : Int32))).bind fun v31 =>
  if v31 = (1 : Int32) then (F_X12_fits_41 n rc4 a0 x1 x3 a0 x1 v23 (1 : Int32) h)
  else (F_X12_fits_41 n rc4 a0 x1 x3 a0 x1 v23 (0 : Int32) h)))
noncomputable def F_X12_fits_4 (n : Nat) : Nat → Nat → Int32 → Int32 → Int32 → jH → Option (Int32 × jH)
  | 0 => fun _ _ _ _ _ => none
  | k + 1 => F_X12_fits_4_b n (F_X12_fits_4 n k)
noncomputable def F_X12_fits (n : Nat) (a0 : Nat) (x1 : Int32) (h : jH) : Option (Int32 × jH) :=
  F_X12_fits_4 n n a0 x1 (1 : Int32) (0 : Int32) h
noncomputable def F_X12_snags_36_b (n : Nat) (rc36 : Nat → Int32 → Int32 → Int32 → Int32 → jH → Option (Int32 × jH)) (a0 : Nat) (x1 : Int32) (x2 : Int32) (x3 : Int32) (x4 : Int32) (h : jH) : Option (Int32 × jH) :=
  (jcv 10 h a0 (F_X12_thatCanCatch n a0 h)).bind fun v39 =>
  if v39 < x4 then (if x1 = 0 then (some (x2, h))
  else (if x2 = 0 then (some ((0 : Int32), h))
  else (some (x3, h))))
  else ((jcv 10 h a0 (F_X12_fits n a0 x4 h)).bind fun q48 =>
  if q48.1 = 0 then (rc36 a0 x1 x2 x3 (x4 + (1 : Int32)) q48.2)
  else (rc36 a0 x1 (x2 + (1 : Int32)) (x3 &&& x4) (x4 + (1 : Int32)) q48.2))
noncomputable def F_X12_snags_36 (n : Nat) : Nat → Nat → Int32 → Int32 → Int32 → Int32 → jH → Option (Int32 × jH)
  | 0 => fun _ _ _ _ _ _ => none
  | k + 1 => F_X12_snags_36_b n (F_X12_snags_36 n k)
noncomputable def F_X12_snags_17 (n : Nat) (a0 : Nat) (x1 : Int32) (sa0 : Nat) (s1 : Int32) (h : jH) : Option (Int32 × jH) :=
  (jcv 10 h sa0 (F_X12_throwsIf n sa0 s1 (1 : Int32) h)).bind fun q18 =>
  if q18.1 = 0 then ((jcv 10 q18.2 a0 (F_X12_thatCanCatch n a0 q18.2)).bind fun v29 =>
  F_X12_snags_36 n n a0 x1 (0 : Int32) v29 (0 : Int32) q18.2)
  else (some ((0 : Int32), q18.2))
noncomputable def F_X12_snags (n : Nat) (a0 : Nat) (x1 : Int32) (h : jH) : Option (Int32 × jH) :=
  (jcv 10 h a0 (F_X12_uses n a0 h)).bind fun h1 =>
  (jcv 10 h1 a0 (F_X12_isTold n a0 h1)).bind fun v6 =>
  if v6 = 0 then (F_X12_snags_17 n a0 x1 a0 (1 : Int32) h1)
  else (F_X12_snags_17 n a0 x1 a0 (0 : Int32) h1)
noncomputable def F_X12_partBy_29_b (n : Nat) (rc29 : Nat → Int32 → Int32 → Int32 → Int32 → jH → Option (Int32 × jH)) (a0 : Nat) (x1 : Int32) (x2 : Int32) (x3 : Int32) (x4 : Int32) (h : jH) : Option (Int32 × jH) :=
  (jcv 10 h a0 (F_X12_thatCanCatch n a0 h)).bind fun v32 =>
  if v32 < x4 then (some (x3, h))
  else ((jgR 10 h a0 19).bind fun p39 =>
  (jal 2 h p39 x4).bind fun v44 =>
  if v44 = 0 then (rc29 a0 x1 x2 x3 (x4 + (1 : Int32)) h)
  else ((jcv 10 h a0 (F_X12_wentWith n a0 x4 x1 x2 (31 : Int32) h)).bind fun q58 =>
  (jgR 10 q58.2 a0 20).bind fun p64 =>
  (jal 0 q58.2 p64 q58.1).bind fun v70 =>
  (jas 0 q58.2 p64 q58.1 (v70 + (1 : Int32))).bind fun h73 =>
  (jgR 10 h73 a0 20).bind fun p76 =>
  (jal 0 h73 p76 q58.1).bind fun v81 =>
  rc29 a0 x1 x2 (if x3 < v81 then v81 else x3) (x4 + (1 : Int32)) h73))
noncomputable def F_X12_partBy_29 (n : Nat) : Nat → Nat → Int32 → Int32 → Int32 → Int32 → jH → Option (Int32 × jH)
  | 0 => fun _ _ _ _ _ _ => none
  | k + 1 => F_X12_partBy_29_b n (F_X12_partBy_29 n k)
noncomputable def F_X12_partBy_5_b (n : Nat) (rc5 : Nat → Int32 → Int32 → Int32 → Int32 → jH → Option (Int32 × jH)) (a0 : Nat) (x1 : Int32) (x2 : Int32) (x3 : Int32) (x4 : Int32) (h : jH) : Option (Int32 × jH) :=
  if (31 : Int32) < x4 then (F_X12_partBy_29 n n a0 x1 x2 x3 (0 : Int32) h)
  else ((jgR 10 h a0 20).bind fun p13 =>
  (jas 0 h p13 x4 (0 : Int32)).bind fun h19 =>
  rc5 a0 x1 x2 x3 (x4 + (1 : Int32)) h19)
noncomputable def F_X12_partBy_5 (n : Nat) : Nat → Nat → Int32 → Int32 → Int32 → Int32 → jH → Option (Int32 × jH)
  | 0 => fun _ _ _ _ _ _ => none
  | k + 1 => F_X12_partBy_5_b n (F_X12_partBy_5 n k)
noncomputable def F_X12_partBy (n : Nat) (a0 : Nat) (x1 : Int32) (x2 : Int32) (h : jH) : Option (Int32 × jH) :=
  F_X12_partBy_5 n n a0 x1 x2 (0 : Int32) (0 : Int32) h
noncomputable def F_X12_tries_132 (n : Nat) (rc81 : Nat → Int32 → Int32 → Int32 → Int32 → jH → Option (Int32 × jH)) (a0 : Nat) (x1 : Int32) (x3 : Int32) (x4 : Int32) (x5 : Int32) (s0 : Int32) (h : jH) : Option (Int32 × jH) :=
  rc81 a0 x1 s0 (if x5 < x3 then x5 else x3) (x4 + (1 : Int32)) h
noncomputable def F_X12_tries_115 (n : Nat) (rc81 : Nat → Int32 → Int32 → Int32 → Int32 → jH → Option (Int32 × jH)) (a0 : Nat) (x1 : Int32) (x2 : Int32) (x3 : Int32) (x4 : Int32) (sa0 : Nat) (s1 : Int32) (s2 : Int32) (h : jH) : Option (Int32 × jH) :=
  (jcv 10 h sa0 (F_X12_partBy n sa0 s1 s2 h)).bind fun q115 =>
  if x3 ≤ q115.1 then (F_X12_tries_132 n rc81 a0 x1 x3 x4 q115.1 x2 q115.2)
  else (F_X12_tries_132 n rc81 a0 x1 x3 x4 q115.1 x4 q115.2)
noncomputable def F_X12_tries_81_b (n : Nat) (rc81 : Nat → Int32 → Int32 → Int32 → Int32 → jH → Option (Int32 × jH)) (a0 : Nat) (x1 : Int32) (x2 : Int32) (x3 : Int32) (x4 : Int32) (h : jH) : Option (Int32 × jH) :=
  (jcv 10 h a0 (F_X12_rings n a0 h)).bind fun v85 =>
  if ((2 : Int32) * v85) ≤ x4 then (some (x2, h))
  else (if x1 ≤ (1 : Int32) then (some (x2, h))
  else (if (x4 - x4 / (2 : Int32) * (2 : Int32)) = (1 : Int32) then (F_X12_tries_115 n rc81 a0 x1 x2 x3 x4 a0 (x4 / (2 : Int32)) (1 : Int32) h)
  else (F_X12_tries_115 n rc81 a0 x1 x2 x3 x4 a0 (x4 / (2 : Int32)) (0 : Int32) h)))
noncomputable def F_X12_tries_81 (n : Nat) : Nat → Nat → Int32 → Int32 → Int32 → Int32 → jH → Option (Int32 × jH)
  | 0 => fun _ _ _ _ _ _ => none
  | k + 1 => F_X12_tries_81_b n (F_X12_tries_81 n k)
noncomputable def F_X12_tries_30_b (n : Nat) (rc30 : Nat → Int32 → Int32 → jH → Option (Int32 × jH)) (a0 : Nat) (x1 : Int32) (x2 : Int32) (h : jH) : Option (Int32 × jH) :=
  (jcv 10 h a0 (F_X12_thatCanCatch n a0 h)).bind fun v32 =>
  if v32 < x2 then (F_X12_tries_81 n n a0 x1 (-1 : Int32) (1000000 : Int32) (0 : Int32) h)
  else ((jgR 10 h a0 19).bind fun p39 =>
  (jcv 10 h a0 (F_X12_fits n a0 x2 h)).bind fun q45 =>
  (jas 2 q45.2 p39 x2 q45.1).bind fun h48 =>
  (jgR 10 h48 a0 19).bind fun p51 =>
  (jal 2 h48 p51 x2).bind fun v55 =>
  if v55 = 0 then (rc30 a0 (x1 + (0 : Int32)) (x2 + (1 : Int32)) h48)
  else (rc30 a0 (x1 + (1 : Int32)) (x2 + (1 : Int32)) h48))
noncomputable def F_X12_tries_30 (n : Nat) : Nat → Nat → Int32 → Int32 → jH → Option (Int32 × jH)
  | 0 => fun _ _ _ _ => none
  | k + 1 => F_X12_tries_30_b n (F_X12_tries_30 n k)
noncomputable def F_X12_tries_17 (n : Nat) (a0 : Nat) (sa0 : Nat) (s1 : Int32) (h : jH) : Option (Int32 × jH) :=
  (jcv 10 h sa0 (F_X12_throwsIf n sa0 s1 (1 : Int32) h)).bind fun q18 =>
  if q18.1 = 0 then (F_X12_tries_30 n n a0 (0 : Int32) (0 : Int32) q18.2)
  else (some ((0 : Int32), q18.2))
noncomputable def F_X12_tries (n : Nat) (a0 : Nat) (h : jH) : Option (Int32 × jH) :=
  (jcv 10 h a0 (F_X12_uses n a0 h)).bind fun h1 =>
  (jcv 10 h1 a0 (F_X12_isTold n a0 h1)).bind fun v6 =>
  if v6 = 0 then (F_X12_tries_17 n a0 a0 (1 : Int32) h1)
  else (F_X12_tries_17 n a0 a0 (0 : Int32) h1)
noncomputable def F_X12_loosen_51_b (n : Nat) (rc51 : Nat → Int32 → Int32 → Int32 → Int32 → Int32 → Int32 → Int32 → jH → Option (Int32 × jH)) (a0 : Nat) (x1 : Int32) (x2 : Int32) (x3 : Int32) (x4 : Int32) (x5 : Int32) (x6 : Int32) (x7 : Int32) (h : jH) : Option (Int32 × jH) :=
  if x4 < x7 then (some (x5, h))
  else (if (x7 &&& (x4 ^^^ (-1 : Int32))) = 0 then ((F_J6_bitCount_0f7a4 n x7 h).bind fun v70 =>
  if x6 ≤ v70 then (rc51 a0 x1 x2 x3 x4 x5 x6 (x7 + (1 : Int32)) h)
  else ((jcv 10 h a0 (F_X12_wentWith n a0 (x4 &&& (x7 ^^^ (-1 : Int32))) x1 x2 x3 h)).bind fun q89 =>
  if x3 ≤ q89.1 then ((F_J6_bitCount_0f7a4 n x7 q89.2).bind fun v105 =>
  rc51 a0 x1 x2 x3 x4 x7 v105 (x7 + (1 : Int32)) q89.2)
  else (rc51 a0 x1 x2 x3 x4 x5 x6 (x7 + (1 : Int32)) q89.2)))
  else (rc51 a0 x1 x2 x3 x4 x5 x6 (x7 + (1 : Int32)) h))
noncomputable def F_X12_loosen_51 (n : Nat) : Nat → Nat → Int32 → Int32 → Int32 → Int32 → Int32 → Int32 → Int32 → jH → Option (Int32 × jH)
  | 0 => fun _ _ _ _ _ _ _ _ _ => none
  | k + 1 => F_X12_loosen_51_b n (F_X12_loosen_51 n k)
noncomputable def F_X12_loosen (n : Nat) (a0 : Nat) (x1 : Int32) (x2 : Int32) (x3 : Int32) (h : jH) : Option (Int32 × jH) :=
  (jpf 10 h a0 0 (.int (0 : Int32))).bind fun h2 =>
  (jcv 10 h2 a0 (F_X12_noRing n a0 x1 h2)).bind fun v8 =>
  (jcv 10 h2 a0 (F_X12_throwsIf n a0 v8 (1 : Int32) h2)).bind fun q12 =>
  if q12.1 = 0 then ((F_X12_noSteps n x3 q12.2).bind fun v20 =>
  (jcv 10 q12.2 a0 (F_X12_throwsIf n a0 v20 (2 : Int32) q12.2)).bind fun q24 =>
  if q24.1 = 0 then ((jcv 10 q24.2 a0 (F_X12_ringsThat n a0 (7 : Int32) q24.2)).bind fun v35 =>
  F_X12_loosen_51 n n a0 x1 x2 x3 v35 (-1 : Int32) (1000000 : Int32) (0 : Int32) q24.2)
  else (some ((0 : Int32), q24.2)))
  else (some ((0 : Int32), q12.2))
noncomputable def F_X12_order_26_b (n : Nat) (rc9 : Nat → Int32 → Int32 → jH → Option (Int32 × jH)) (rc26 : Nat → Int32 → Int32 → Int32 → jH → Option (Int32 × jH)) (a0 : Nat) (x1 : Int32) (x2 : Int32) (x3 : Int32) (h : jH) : Option (Int32 × jH) :=
  if x2 ≤ x3 then ((jgR 10 h a0 21).bind fun p86 =>
  (jal 0 h p86 x2).bind fun v90 =>
  rc9 a0 (if x1 < v90 then v90 else x1) (x2 + (1 : Int32)) h)
  else ((jgR 10 h a0 21).bind fun p32 =>
  (jcv 10 h a0 (F_X12_of n a0 x3 (4 : Int32) h)).bind fun v39 =>
  (jcv 10 h a0 (F_X12_of n a0 x2 (4 : Int32) h)).bind fun v45 =>
  if v45 < v39 then ((jgR 10 h a0 21).bind fun p72 =>
  (jal 0 h p72 x2).bind fun v76 =>
  (jas 0 h p32 x2 v76).bind fun h77 =>
  rc26 a0 x1 x2 (x3 + (1 : Int32)) h77)
  else ((jgR 10 h a0 21).bind fun p52 =>
  (jal 0 h p52 x2).bind fun v56 =>
  (jgR 10 h a0 21).bind fun p58 =>
  (jal 0 h p58 x3).bind fun v62 =>
  (jas 0 h p32 x2 (if v56 < (v62 + (1 : Int32)) then v62 + (1 : Int32) else v56)).bind fun h77 =>
  rc26 a0 x1 x2 (x3 + (1 : Int32)) h77))
noncomputable def F_X12_order_26 (n : Nat) (rc9 : Nat → Int32 → Int32 → jH → Option (Int32 × jH)) : Nat → Nat → Int32 → Int32 → Int32 → jH → Option (Int32 × jH)
  | 0 => fun _ _ _ _ _ => none
  | k + 1 => F_X12_order_26_b n rc9 (F_X12_order_26 n rc9 k)
noncomputable def F_X12_order_9_b (n : Nat) (rc9 : Nat → Int32 → Int32 → jH → Option (Int32 × jH)) (a0 : Nat) (x1 : Int32) (x2 : Int32) (h : jH) : Option (Int32 × jH) :=
  (jcv 10 h a0 (F_X12_rings n a0 h)).bind fun v11 =>
  if v11 ≤ x2 then ((jcv 10 h a0 (F_X12_rings n a0 h)).bind fun v102 =>
  some (v102 - x1, h))
  else ((jgR 10 h a0 21).bind fun p18 =>
  (jas 0 h p18 x2 (1 : Int32)).bind fun h23 =>
  F_X12_order_26 n rc9 n a0 x1 x2 (0 : Int32) h23)
noncomputable def F_X12_order_9 (n : Nat) : Nat → Nat → Int32 → Int32 → jH → Option (Int32 × jH)
  | 0 => fun _ _ _ _ => none
  | k + 1 => F_X12_order_9_b n (F_X12_order_9 n k)
noncomputable def F_X12_order (n : Nat) (a0 : Nat) (h : jH) : Option (Int32 × jH) :=
  (jpf 10 h a0 0 (.int (0 : Int32))).bind fun h2 =>
  F_X12_order_9 n n a0 (0 : Int32) (0 : Int32) h2
noncomputable def F_X12_tight_83 (n : Nat) (rc39 : Nat → Int32 → Int32 → Int32 → Int32 → jH → Option (Int32 × jH)) (a0 : Nat) (x1 : Int32) (x3 : Int32) (x4 : Int32) (x5 : Int32) (s0 : Int32) (h : jH) : Option (Int32 × jH) :=
  rc39 a0 x1 s0 (if x5 < x3 then x5 else x3) (x4 + (1 : Int32)) h
noncomputable def F_X12_tight_39_b (n : Nat) (rc39 : Nat → Int32 → Int32 → Int32 → Int32 → jH → Option (Int32 × jH)) (a0 : Nat) (x1 : Int32) (x2 : Int32) (x3 : Int32) (x4 : Int32) (h : jH) : Option (Int32 × jH) :=
  (jcv 10 h a0 (F_X12_rings n a0 h)).bind fun v44 =>
  if v44 < (x4 + x1) then (some (x2, h))
  else ((jcv 10 h a0 (F_X12_of n a0 ((x4 + x1) - (1 : Int32)) (0 : Int32) h)).bind fun v58 =>
  (jcv 10 h a0 (F_X12_of n a0 x4 (0 : Int32) h)).bind fun v65 =>
  if x3 ≤ (v58 - v65) then (F_X12_tight_83 n rc39 a0 x1 x3 x4 (v58 - v65) x2 h)
  else (F_X12_tight_83 n rc39 a0 x1 x3 x4 (v58 - v65) x4 h))
noncomputable def F_X12_tight_39 (n : Nat) : Nat → Nat → Int32 → Int32 → Int32 → Int32 → jH → Option (Int32 × jH)
  | 0 => fun _ _ _ _ _ _ => none
  | k + 1 => F_X12_tight_39_b n (F_X12_tight_39 n k)
noncomputable def F_X12_tight_21 (n : Nat) (a0 : Nat) (x1 : Int32) (sa0 : Nat) (s1 : Int32) (h : jH) : Option (Int32 × jH) :=
  (jcv 10 h sa0 (F_X12_throwsIf n sa0 s1 (1 : Int32) h)).bind fun q22 =>
  if q22.1 = 0 then (F_X12_tight_39 n n a0 x1 (-1 : Int32) (1000000 : Int32) (0 : Int32) q22.2)
  else (some ((0 : Int32), q22.2))
noncomputable def F_X12_tight (n : Nat) (a0 : Nat) (x1 : Int32) (h : jH) : Option (Int32 × jH) :=
  (jpf 10 h a0 0 (.int (0 : Int32))).bind fun h2 =>
  (F_X12_in n x1 (2 : Int32) (8 : Int32) h2).bind fun v10 =>
  if v10 = 0 then (F_X12_tight_21 n a0 x1 a0 (1 : Int32) h2)
  else (F_X12_tight_21 n a0 x1 a0 (0 : Int32) h2)
noncomputable def F_X12_slack_9_b (n : Nat) (rc9 : Nat → Int32 → Int32 → jH → Option (Int32 × jH)) (a0 : Nat) (x1 : Int32) (x2 : Int32) (h : jH) : Option (Int32 × jH) :=
  (jcv 10 h a0 (F_X12_lastRing n a0 h)).bind fun v11 =>
  if v11 ≤ x2 then (some (x1, h))
  else ((jcv 10 h a0 (F_X12_of n a0 x2 (1 : Int32) h)).bind fun v21 =>
  (jcv 10 h a0 (F_X12_gapOf n a0 x2 h)).bind fun v26 =>
  rc9 a0 (x1 + (v21 - v26)) (x2 + (1 : Int32)) h)
noncomputable def F_X12_slack_9 (n : Nat) : Nat → Nat → Int32 → Int32 → jH → Option (Int32 × jH)
  | 0 => fun _ _ _ _ => none
  | k + 1 => F_X12_slack_9_b n (F_X12_slack_9 n k)
noncomputable def F_X12_slack (n : Nat) (a0 : Nat) (h : jH) : Option (Int32 × jH) :=
  (jpf 10 h a0 0 (.int (0 : Int32))).bind fun h2 =>
  F_X12_slack_9 n n a0 (0 : Int32) (0 : Int32) h2
noncomputable def F_X12_taut_9_b (n : Nat) (rc9 : Nat → Int32 → Int32 → jH → Option (Int32 × jH)) (a0 : Nat) (x1 : Int32) (x2 : Int32) (h : jH) : Option (Int32 × jH) :=
  (jcv 10 h a0 (F_X12_lastRing n a0 h)).bind fun v11 =>
  if v11 ≤ x2 then (some (x1, h))
  else ((jcv 10 h a0 (F_X12_gapOf n a0 x2 h)).bind fun v20 =>
  (jcv 10 h a0 (F_X12_of n a0 x2 (1 : Int32) h)).bind fun v26 =>
  if v20 = v26 then (rc9 a0 (x1 ||| ((1 : Int32) <<< (x2 &&& 31))) (x2 + (1 : Int32)) h)
  else (rc9 a0 (x1 ||| (0 : Int32)) (x2 + (1 : Int32)) h))
noncomputable def F_X12_taut_9 (n : Nat) : Nat → Nat → Int32 → Int32 → jH → Option (Int32 × jH)
  | 0 => fun _ _ _ _ => none
  | k + 1 => F_X12_taut_9_b n (F_X12_taut_9 n k)
noncomputable def F_X12_taut (n : Nat) (a0 : Nat) (h : jH) : Option (Int32 × jH) :=
  (jpf 10 h a0 0 (.int (0 : Int32))).bind fun h2 =>
  F_X12_taut_9 n n a0 (0 : Int32) (0 : Int32) h2
noncomputable def F_X12_bunch_41 (n : Nat) (rc11 : Nat → Int32 → Int32 → Int32 → jH → Option (Int32 × jH)) (a0 : Nat) (x1 : Int32) (x3 : Int32) (s0 : Int32) (h : jH) : Option (Int32 × jH) :=
  rc11 a0 (if x1 < s0 then s0 else x1) s0 (x3 + (1 : Int32)) h
noncomputable def F_X12_bunch_11_b (n : Nat) (rc11 : Nat → Int32 → Int32 → Int32 → jH → Option (Int32 × jH)) (a0 : Nat) (x1 : Int32) (x2 : Int32) (x3 : Int32) (h : jH) : Option (Int32 × jH) :=
  (jcv 10 h a0 (F_X12_rings n a0 h)).bind fun v13 =>
  if v13 ≤ x3 then (some (x1, h))
  else (if x3 ≤ 0 then (F_X12_bunch_41 n rc11 a0 x1 x3 (1 : Int32) h)
  else ((jcv 10 h a0 (F_X12_gapOf n a0 (x3 - (1 : Int32)) h)).bind fun v27 =>
  if v27 = (1 : Int32) then (F_X12_bunch_41 n rc11 a0 x1 x3 (x2 + (1 : Int32)) h)
  else (F_X12_bunch_41 n rc11 a0 x1 x3 (1 : Int32) h)))
noncomputable def F_X12_bunch_11 (n : Nat) : Nat → Nat → Int32 → Int32 → Int32 → jH → Option (Int32 × jH)
  | 0 => fun _ _ _ _ _ => none
  | k + 1 => F_X12_bunch_11_b n (F_X12_bunch_11 n k)
noncomputable def F_X12_bunch (n : Nat) (a0 : Nat) (h : jH) : Option (Int32 × jH) :=
  (jpf 10 h a0 0 (.int (0 : Int32))).bind fun h2 =>
  F_X12_bunch_11 n n a0 (0 : Int32) (0 : Int32) (0 : Int32) h2
noncomputable def F_X12_litIn_4_b (n : Nat) (rc4 : Nat → Int32 → Int32 → Int32 → jH → Option Int32) (a0 : Nat) (x1 : Int32) (x2 : Int32) (x3 : Int32) (h : jH) : Option Int32 :=
  (jcv 10 h a0 (F_X12_rings n a0 h)).bind fun v6 =>
  if v6 ≤ x3 then (some x2)
  else ((jcv 10 h a0 (F_X12_isLit n a0 x3 x1 h)).bind fun v16 =>
  if v16 = 0 then (rc4 a0 x1 (x2 ||| (0 : Int32)) (x3 + (1 : Int32)) h)
  else (rc4 a0 x1 (x2 ||| ((1 : Int32) <<< (x3 &&& 31))) (x3 + (1 : Int32)) h))
noncomputable def F_X12_litIn_4 (n : Nat) : Nat → Nat → Int32 → Int32 → Int32 → jH → Option Int32
  | 0 => fun _ _ _ _ _ => none
  | k + 1 => F_X12_litIn_4_b n (F_X12_litIn_4 n k)
noncomputable def F_X12_litIn (n : Nat) (a0 : Nat) (x1 : Int32) (h : jH) : Option Int32 :=
  F_X12_litIn_4 n n a0 x1 (0 : Int32) (0 : Int32) h
noncomputable def F_X12_lit_21 (n : Nat) (a0 : Nat) (x1 : Int32) (sa0 : Nat) (s1 : Int32) (h : jH) : Option (Int32 × jH) :=
  (jcv 10 h sa0 (F_X12_throwsIf n sa0 s1 (1 : Int32) h)).bind fun q22 =>
  if q22.1 = 0 then ((jcv 10 q22.2 a0 (F_X12_litIn n a0 x1 q22.2)).bind fun v34 =>
  some (v34, q22.2))
  else (some ((0 : Int32), q22.2))
noncomputable def F_X12_lit (n : Nat) (a0 : Nat) (x1 : Int32) (h : jH) : Option (Int32 × jH) :=
  (jpf 10 h a0 0 (.int (0 : Int32))).bind fun h2 =>
  (F_X12_in n x1 (0 : Int32) (7 : Int32) h2).bind fun v10 =>
  if v10 = 0 then (F_X12_lit_21 n a0 x1 a0 (1 : Int32) h2)
  else (F_X12_lit_21 n a0 x1 a0 (0 : Int32) h2)
noncomputable def F_X12_sunny_69 (n : Nat) (rc11 : Nat → Int32 → Int32 → Int32 → jH → Option (Int32 × jH)) (a0 : Nat) (x2 : Int32) (x3 : Int32) (x4 : Int32) (s0 : Int32) (h : jH) : Option (Int32 × jH) :=
  rc11 a0 s0 (if x2 < x4 then x4 else x2) (x3 + (1 : Int32)) h
noncomputable def F_X12_sunny_25_b (n : Nat) (rc11 : Nat → Int32 → Int32 → Int32 → jH → Option (Int32 × jH)) (rc25 : Nat → Int32 → Int32 → Int32 → Int32 → Int32 → jH → Option (Int32 × jH)) (a0 : Nat) (x1 : Int32) (x2 : Int32) (x3 : Int32) (x4 : Int32) (x5 : Int32) (h : jH) : Option (Int32 × jH) :=
  if (8 : Int32) ≤ x5 then (if x4 ≤ x2 then (F_X12_sunny_69 n rc11 a0 x2 x3 x4 x1 h)
  else (F_X12_sunny_69 n rc11 a0 x2 x3 x4 x3 h))
  else ((jcv 10 h a0 (F_X12_isLit n a0 x3 x5 h)).bind fun v38 =>
  if v38 = 0 then (rc25 a0 x1 x2 x3 (x4 + (0 : Int32)) (x5 + (1 : Int32)) h)
  else (rc25 a0 x1 x2 x3 (x4 + (1 : Int32)) (x5 + (1 : Int32)) h))
noncomputable def F_X12_sunny_25 (n : Nat) (rc11 : Nat → Int32 → Int32 → Int32 → jH → Option (Int32 × jH)) : Nat → Nat → Int32 → Int32 → Int32 → Int32 → Int32 → jH → Option (Int32 × jH)
  | 0 => fun _ _ _ _ _ _ _ => none
  | k + 1 => F_X12_sunny_25_b n rc11 (F_X12_sunny_25 n rc11 k)
noncomputable def F_X12_sunny_11_b (n : Nat) (rc11 : Nat → Int32 → Int32 → Int32 → jH → Option (Int32 × jH)) (a0 : Nat) (x1 : Int32) (x2 : Int32) (x3 : Int32) (h : jH) : Option (Int32 × jH) :=
  (jcv 10 h a0 (F_X12_rings n a0 h)).bind fun v13 =>
  if v13 ≤ x3 then (some (x1, h))
  else (F_X12_sunny_25 n rc11 n a0 x1 x2 x3 (0 : Int32) (0 : Int32) h)
noncomputable def F_X12_sunny_11 (n : Nat) : Nat → Nat → Int32 → Int32 → Int32 → jH → Option (Int32 × jH)
  | 0 => fun _ _ _ _ _ => none
  | k + 1 => F_X12_sunny_11_b n (F_X12_sunny_11 n k)
noncomputable def F_X12_sunny (n : Nat) (a0 : Nat) (h : jH) : Option (Int32 × jH) :=
  (jpf 10 h a0 0 (.int (0 : Int32))).bind fun h2 =>
  F_X12_sunny_11 n n a0 (-1 : Int32) (-1 : Int32) (0 : Int32) h2
noncomputable def F_X12_lets_103 (n : Nat) (x1 : Int32) (x2 : Int32) (x4 : Int32) (x5 : Int32) (s0 : Int32) (h : jH) : Option (Int32 × jH) :=
  if s0 ≤ x2 then (if x5 ≤ x1 then (some (x4, h))
  else (some (x4 + (1 : Int32), h)))
  else (some ((-1 : Int32), h))
noncomputable def F_X12_lets_48_b (n : Nat) (rc48 : Nat → Int32 → Int32 → Int32 → Int32 → jH → Option (Int32 × jH)) (a0 : Nat) (x1 : Int32) (x2 : Int32) (x3 : Int32) (x4 : Int32) (h : jH) : Option (Int32 × jH) :=
  (jcv 10 h a0 (F_X12_rings n a0 h)).bind fun v51 =>
  if v51 ≤ x4 then ((jcv 10 h a0 (F_X12_rings n a0 h)).bind fun v75 =>
  if v75 = 0 then none else
  (jcv 10 h a0 (F_X12_rings n a0 h)).bind fun v83 =>
  if v83 = 0 then none else
  if (x3 - x3 / v83 * v83) ≤ 0 then (F_X12_lets_103 n x1 x2 (x3 / v75) (x3 - x3 / v83 * v83) (x3 / v75) h)
  else (F_X12_lets_103 n x1 x2 (x3 / v75) (x3 - x3 / v83 * v83) ((x3 / v75) + (1 : Int32)) h))
  else ((jcv 10 h a0 (F_X12_of n a0 x4 (5 : Int32) h)).bind fun v62 =>
  rc48 a0 x1 x2 (x3 + v62) (x4 + (1 : Int32)) h)
noncomputable def F_X12_lets_48 (n : Nat) : Nat → Nat → Int32 → Int32 → Int32 → Int32 → jH → Option (Int32 × jH)
  | 0 => fun _ _ _ _ _ _ => none
  | k + 1 => F_X12_lets_48_b n (F_X12_lets_48 n k)
noncomputable def F_X12_lets_34 (n : Nat) (a0 : Nat) (x1 : Int32) (x2 : Int32) (sa0 : Nat) (s1 : Int32) (h : jH) : Option (Int32 × jH) :=
  (jcv 10 h sa0 (F_X12_throwsIf n sa0 s1 (2 : Int32) h)).bind fun q35 =>
  if q35.1 = 0 then (F_X12_lets_48 n n a0 x1 x2 (0 : Int32) (0 : Int32) q35.2)
  else (some ((0 : Int32), q35.2))
noncomputable def F_X12_lets (n : Nat) (a0 : Nat) (x1 : Int32) (x2 : Int32) (h : jH) : Option (Int32 × jH) :=
  (jpf 10 h a0 0 (.int (0 : Int32))).bind fun h2 =>
  (jcv 10 h2 a0 (F_X12_noRing n a0 x1 h2)).bind fun v8 =>
  (jcv 10 h2 a0 (F_X12_throwsIf n a0 v8 (1 : Int32) h2)).bind fun q12 =>
  if q12.1 = 0 then ((F_X12_in n x2 (0 : Int32) (9 : Int32) q12.2).bind fun v23 =>
  if v23 = 0 then (F_X12_lets_34 n a0 x1 x2 a0 (1 : Int32) q12.2)
  else (F_X12_lets_34 n a0 x1 x2 a0 (0 : Int32) q12.2))
  else (some ((0 : Int32), q12.2))
noncomputable def F_X12_envy_9_b (n : Nat) (rc9 : Nat → Int32 → Int32 → jH → Option (Int32 × jH)) (a0 : Nat) (x1 : Int32) (x2 : Int32) (h : jH) : Option (Int32 × jH) :=
  (jcv 10 h a0 (F_X12_lastRing n a0 h)).bind fun v11 =>
  if v11 ≤ x2 then (some (x1, h))
  else ((jcv 10 h a0 (F_X12_of n a0 x2 (5 : Int32) h)).bind fun v21 =>
  (jcv 10 h a0 (F_X12_of n a0 (x2 + (1 : Int32)) (5 : Int32) h)).bind fun v29 =>
  if (if 0 ≤ v21 - v29 then v21 - v29 else 0 - (v21 - v29)) ≤ (1 : Int32) then (rc9 a0 (x1 + (0 : Int32)) (x2 + (1 : Int32)) h)
  else (rc9 a0 (x1 + (1 : Int32)) (x2 + (1 : Int32)) h))
noncomputable def F_X12_envy_9 (n : Nat) : Nat → Nat → Int32 → Int32 → jH → Option (Int32 × jH)
  | 0 => fun _ _ _ _ => none
  | k + 1 => F_X12_envy_9_b n (F_X12_envy_9 n k)
noncomputable def F_X12_envy (n : Nat) (a0 : Nat) (h : jH) : Option (Int32 × jH) :=
  (jpf 10 h a0 0 (.int (0 : Int32))).bind fun h2 =>
  F_X12_envy_9 n n a0 (0 : Int32) (0 : Int32) h2
noncomputable def F_X12_eachHas (n : Nat) (a0 : Nat) (x1 : Int32) (x2 : Int32) (x3 : Int32) (h : jH) : Option Int32 :=
  if x2 = x3 then (some (2 : Int32))
  else (if x2 = (1 : Int32) then ((jcv 10 h a0 (F_X12_gapOf n a0 x1 h)).bind fun v14 =>
  some (v14 - (1 : Int32)))
  else ((jcv 10 h a0 (F_X12_is n a0 x1 (7 : Int32) h)).bind fun v26 =>
  if v26 = 0 then (some (1 : Int32))
  else (some (-2 : Int32))))
noncomputable def F_X12_rests_42_b (n : Nat) (rc34 : Nat → Int32 → Int32 → Int32 → jH → Option (Int32 × jH)) (rc42 : Nat → Int32 → Int32 → Int32 → Int32 → jH → Option (Int32 × jH)) (a0 : Nat) (x1 : Int32) (x2 : Int32) (x3 : Int32) (x4 : Int32) (h : jH) : Option (Int32 × jH) :=
  if (2 : Int32) ≤ x4 then (rc34 a0 x1 x2 (x3 + (1 : Int32)) h)
  else ((jcv 10 h a0 (F_X12_eachHas n a0 x1 x3 x4 h)).bind fun v54 =>
  (jcv 10 h a0 (F_X12_eachHas n a0 x1 ((1 : Int32) - x3) x4 h)).bind fun v64 =>
  if v54 < v64 then (rc42 a0 x1 (x2 ||| (0 : Int32)) x3 (x4 + (1 : Int32)) h)
  else ((jcv 10 h a0 (F_X12_eachHas n a0 x1 x3 x4 h)).bind fun v75 =>
  (jcv 10 h a0 (F_X12_eachHas n a0 x1 x3 ((1 : Int32) - x4) h)).bind fun v85 =>
  if v75 < v85 then (rc42 a0 x1 (x2 ||| (0 : Int32)) x3 (x4 + (1 : Int32)) h)
  else (rc42 a0 x1 (x2 ||| ((1 : Int32) <<< ((((2 : Int32) * x3) + x4) &&& 31))) x3 (x4 + (1 : Int32)) h)))
noncomputable def F_X12_rests_42 (n : Nat) (rc34 : Nat → Int32 → Int32 → Int32 → jH → Option (Int32 × jH)) : Nat → Nat → Int32 → Int32 → Int32 → Int32 → jH → Option (Int32 × jH)
  | 0 => fun _ _ _ _ _ _ => none
  | k + 1 => F_X12_rests_42_b n rc34 (F_X12_rests_42 n rc34 k)
noncomputable def F_X12_rests_34_b (n : Nat) (rc34 : Nat → Int32 → Int32 → Int32 → jH → Option (Int32 × jH)) (a0 : Nat) (x1 : Int32) (x2 : Int32) (x3 : Int32) (h : jH) : Option (Int32 × jH) :=
  if (2 : Int32) ≤ x3 then (some (x2, h))
  else (F_X12_rests_42 n rc34 n a0 x1 x2 x3 (0 : Int32) h)
noncomputable def F_X12_rests_34 (n : Nat) : Nat → Nat → Int32 → Int32 → Int32 → jH → Option (Int32 × jH)
  | 0 => fun _ _ _ _ _ => none
  | k + 1 => F_X12_rests_34_b n (F_X12_rests_34 n k)
noncomputable def F_X12_rests (n : Nat) (a0 : Nat) (x1 : Int32) (h : jH) : Option (Int32 × jH) :=
  (jpf 10 h a0 0 (.int (0 : Int32))).bind fun h2 =>
  (jcv 10 h2 a0 (F_X12_noRing n a0 x1 h2)).bind fun v8 =>
  (jcv 10 h2 a0 (F_X12_throwsIf n a0 v8 (1 : Int32) h2)).bind fun q12 =>
  if q12.1 = 0 then ((jcv 10 q12.2 a0 (F_X12_lastRing n a0 q12.2)).bind fun v22 =>
  if x1 = v22 then (some ((-1 : Int32), q12.2))
  else (F_X12_rests_34 n n a0 x1 (0 : Int32) (0 : Int32) q12.2))
  else (some ((0 : Int32), q12.2))
noncomputable def F_X12_wooden (n : Nat) (a0 : Nat) (h : jH) : Option (Int32 × jH) :=
  (jpf 10 h a0 0 (.int (0 : Int32))).bind fun h2 =>
  (jcv 10 h2 a0 (F_X12_ringsThat n a0 (3 : Int32) h2)).bind fun v7 =>
  some (v7, h2)
noncomputable def F_X12_caught (n : Nat) (a0 : Nat) (h : jH) : Option (Int32 × jH) :=
  (jpf 10 h a0 0 (.int (0 : Int32))).bind fun h2 =>
  (jcv 10 h2 a0 (F_X12_ringsThat n a0 (7 : Int32) h2)).bind fun v8 =>
  some (v8, h2)
noncomputable def F_X12_looseOnes (n : Nat) (a0 : Nat) (h : jH) : Option Int32 :=
  (jcv 10 h a0 (F_X12_rings n a0 h)).bind fun v2 =>
  (jcv 10 h a0 (F_X12_ringsThat n a0 (6 : Int32) h)).bind fun v11 =>
  some ((((1 : Int32) <<< (v2 &&& 31)) - (1 : Int32)) &&& (v11 ^^^ (-1 : Int32)))
noncomputable def F_X12_loose (n : Nat) (a0 : Nat) (h : jH) : Option (Int32 × jH) :=
  (jpf 10 h a0 0 (.int (0 : Int32))).bind fun h2 =>
  (jcv 10 h2 a0 (F_X12_looseOnes n a0 h2)).bind fun v6 =>
  some (v6, h2)
noncomputable def F_X12_beyond_9_b (n : Nat) (rc9 : Nat → Int32 → Int32 → jH → Option (Int32 × jH)) (a0 : Nat) (x1 : Int32) (x2 : Int32) (h : jH) : Option (Int32 × jH) :=
  (jcv 10 h a0 (F_X12_rings n a0 h)).bind fun v11 =>
  if v11 ≤ x2 then (some (x1, h))
  else ((jcv 10 h a0 (F_X12_is n a0 x2 (2 : Int32) h)).bind fun v21 =>
  if v21 = 0 then (rc9 a0 (x1 ||| (0 : Int32)) (x2 + (1 : Int32)) h)
  else ((jcv 10 h a0 (F_X12_of n a0 x2 (0 : Int32) h)).bind fun v30 =>
  (jgR 10 h a0 1).bind fun p34 =>
  (jal 0 h p34 (5 : Int32)).bind fun v38 =>
  if v30 < v38 then (rc9 a0 (x1 ||| (0 : Int32)) (x2 + (1 : Int32)) h)
  else (rc9 a0 (x1 ||| ((1 : Int32) <<< (x2 &&& 31))) (x2 + (1 : Int32)) h)))
noncomputable def F_X12_beyond_9 (n : Nat) : Nat → Nat → Int32 → Int32 → jH → Option (Int32 × jH)
  | 0 => fun _ _ _ _ => none
  | k + 1 => F_X12_beyond_9_b n (F_X12_beyond_9 n k)
noncomputable def F_X12_beyond (n : Nat) (a0 : Nat) (h : jH) : Option (Int32 × jH) :=
  (jpf 10 h a0 0 (.int (0 : Int32))).bind fun h2 =>
  F_X12_beyond_9 n n a0 (0 : Int32) (0 : Int32) h2
noncomputable def F_X12_odds_65_b (n : Nat) (rc65 : Int32 → Int32 → Int32 → Int32 → jH → Option (Int32 × jH)) (x2 : Int32) (x3 : Int32) (x4 : Int32) (x5 : Int32) (h : jH) : Option (Int32 × jH) :=
  if x2 ≤ x5 then (some (x4, h))
  else (rc65 x2 x3 ((x4 * x3) / (100 : Int32)) (x5 + (1 : Int32)) h)
noncomputable def F_X12_odds_65 (n : Nat) : Nat → Int32 → Int32 → Int32 → Int32 → jH → Option (Int32 × jH)
  | 0 => fun _ _ _ _ _ => none
  | k + 1 => F_X12_odds_65_b n (F_X12_odds_65 n k)
noncomputable def F_X12_odds_33 (n : Nat) (a0 : Nat) (x1 : Int32) (x2 : Int32) (sa0 : Nat) (s1 : Int32) (h : jH) : Option (Int32 × jH) :=
  (jcv 10 h sa0 (F_X12_throwsIf n sa0 s1 (2 : Int32) h)).bind fun q34 =>
  if q34.1 = 0 then ((jcv 10 q34.2 a0 (F_X12_byLaw n a0 (2 : Int32) x1 q34.2)).bind fun q49 =>
  F_X12_odds_65 n n x2 ((100 : Int32) - (if q49.1 < (100 : Int32) then q49.1 else (100 : Int32))) (10000 : Int32) (0 : Int32) q49.2)
  else (some ((0 : Int32), q34.2))
noncomputable def F_X12_odds (n : Nat) (a0 : Nat) (x1 : Int32) (x2 : Int32) (h : jH) : Option (Int32 × jH) :=
  (jpf 10 h a0 0 (.int (0 : Int32))).bind fun h2 =>
  (jcv 10 h2 a0 (F_X12_noRing n a0 x1 h2)).bind fun v8 =>
  (jcv 10 h2 a0 (F_X12_throwsIf n a0 v8 (1 : Int32) h2)).bind fun q12 =>
  if q12.1 = 0 then ((F_X12_in n x2 (0 : Int32) (4 : Int32) q12.2).bind fun v22 =>
  if v22 = 0 then (F_X12_odds_33 n a0 x1 x2 a0 (1 : Int32) q12.2)
  else (F_X12_odds_33 n a0 x1 x2 a0 (0 : Int32) q12.2))
  else (some ((0 : Int32), q12.2))
noncomputable def F_X12_likens (n : Nat) (a0 : Nat) (x1 : Int32) (x2 : Int32) (h : jH) : Option Int32 :=
  (jcv 10 h a0 (F_X12_of n a0 x1 (1 : Int32) h)).bind fun v3 =>
  (jcv 10 h a0 (F_X12_of n a0 x2 (1 : Int32) h)).bind fun v9 =>
  if v3 = v9 then ((jcv 10 h a0 (F_X12_of n a0 x1 (5 : Int32) h)).bind fun v18 =>
  (jcv 10 h a0 (F_X12_of n a0 x2 (5 : Int32) h)).bind fun v24 =>
  if v18 = v24 then ((jcv 10 h a0 (F_X12_of n a0 x1 (4 : Int32) h)).bind fun v33 =>
  (jcv 10 h a0 (F_X12_of n a0 x2 (4 : Int32) h)).bind fun v39 =>
  if v33 = v39 then (some (1 : Int32))
  else (some (0 : Int32)))
  else (some (0 : Int32)))
  else (some (0 : Int32))
noncomputable def F_X12_twins_19_b (n : Nat) (rc9 : Nat → Int32 → Int32 → jH → Option (Int32 × jH)) (rc19 : Nat → Int32 → Int32 → Int32 → jH → Option (Int32 × jH)) (a0 : Nat) (x1 : Int32) (x2 : Int32) (x3 : Int32) (h : jH) : Option (Int32 × jH) :=
  if x2 ≤ x3 then (rc9 a0 x1 (x2 + (1 : Int32)) h)
  else ((jcv 10 h a0 (F_X12_likens n a0 x2 x3 h)).bind fun v28 =>
  if v28 = 0 then (rc19 a0 (x1 + (0 : Int32)) x2 (x3 + (1 : Int32)) h)
  else (rc19 a0 (x1 + (1 : Int32)) x2 (x3 + (1 : Int32)) h))
noncomputable def F_X12_twins_19 (n : Nat) (rc9 : Nat → Int32 → Int32 → jH → Option (Int32 × jH)) : Nat → Nat → Int32 → Int32 → Int32 → jH → Option (Int32 × jH)
  | 0 => fun _ _ _ _ _ => none
  | k + 1 => F_X12_twins_19_b n rc9 (F_X12_twins_19 n rc9 k)
noncomputable def F_X12_twins_9_b (n : Nat) (rc9 : Nat → Int32 → Int32 → jH → Option (Int32 × jH)) (a0 : Nat) (x1 : Int32) (x2 : Int32) (h : jH) : Option (Int32 × jH) :=
  (jcv 10 h a0 (F_X12_rings n a0 h)).bind fun v11 =>
  if v11 ≤ x2 then (some (x1, h))
  else (F_X12_twins_19 n rc9 n a0 x1 x2 (0 : Int32) h)
noncomputable def F_X12_twins_9 (n : Nat) : Nat → Nat → Int32 → Int32 → jH → Option (Int32 × jH)
  | 0 => fun _ _ _ _ => none
  | k + 1 => F_X12_twins_9_b n (F_X12_twins_9 n k)
noncomputable def F_X12_twins (n : Nat) (a0 : Nat) (h : jH) : Option (Int32 × jH) :=
  (jpf 10 h a0 0 (.int (0 : Int32))).bind fun h2 =>
  F_X12_twins_9 n n a0 (0 : Int32) (0 : Int32) h2
noncomputable def F_X12_trial_47 (n : Nat) (a0 : Nat) (s0 : Int32) (h : jH) : Option (Int32 × jH) :=
  (jcv 10 h a0 (F_X12_bringsBack n a0 h)).bind fun h49 =>
  some (s0, h49)
noncomputable def F_X12_trial (n : Nat) (a0 : Nat) (x1 : Int32) (x2 : Int32) (h : jH) : Option (Int32 × jH) :=
  (jpf 10 h a0 0 (.int (0 : Int32))).bind fun h2 =>
  (F_X12_noAhead n x1 h2).bind fun v7 =>
  (jcv 10 h2 a0 (F_X12_throwsIf n a0 v7 (1 : Int32) h2)).bind fun q11 =>
  if q11.1 = 0 then ((jcv 10 q11.2 a0 (F_X12_keepsAll n a0 q11.2)).bind fun h20 =>
  (jcv 10 h20 a0 (F_X12_goesOn n a0 x1 (0 : Int32) h20)).bind fun q26 =>
  if x2 = 0 then ((jcv 10 q26.2 a0 (F_X12_ringsThat n a0 (7 : Int32) q26.2)).bind fun v44 =>
  F_X12_trial_47 n a0 v44 q26.2)
  else ((jcv 10 q26.2 a0 (F_X12_looseOnes n a0 q26.2)).bind fun v35 =>
  F_X12_trial_47 n a0 v35 q26.2))
  else (some ((0 : Int32), q11.2))
noncomputable def F_X12_span_28_b (n : Nat) (rc28 : Nat → Int32 → Int32 → Int32 → Int32 → jH → Option (Int32 × jH)) (a0 : Nat) (x1 : Int32) (x2 : Int32) (x3 : Int32) (x4 : Int32) (h : jH) : Option (Int32 × jH) :=
  if (6 : Int32) < x4 then (some (x3, h))
  else ((jgR 10 h a0 1).bind fun p36 =>
  (jas 0 h p36 (10 : Int32) x4).bind fun h43 =>
  (jcv 10 h43 a0 (F_X12_goesOn n a0 x1 (0 : Int32) h43)).bind fun q47 =>
  (jcv 10 q47.2 a0 (F_X12_ringsThat n a0 (7 : Int32) q47.2)).bind fun v54 =>
  (F_J6_bitCount_0f7a4 n v54 q47.2).bind fun v57 =>
  (jcv 10 q47.2 a0 (F_X12_looseOnes n a0 q47.2)).bind fun v61 =>
  (F_J6_bitCount_0f7a4 n v61 q47.2).bind fun v64 =>
  (jcv 10 q47.2 a0 (F_X12_bringsBack n a0 q47.2)).bind fun h71 =>
  if 0 ≤ x3 then (if x2 = 0 then (rc28 a0 x1 x2 (if (v57 + v64) < x3 then v57 + v64 else x3) (x4 + (1 : Int32)) h71)
  else (rc28 a0 x1 x2 (if x3 < (v57 + v64) then v57 + v64 else x3) (x4 + (1 : Int32)) h71))
  else (rc28 a0 x1 x2 (v57 + v64) (x4 + (1 : Int32)) h71))
noncomputable def F_X12_span_28 (n : Nat) : Nat → Nat → Int32 → Int32 → Int32 → Int32 → jH → Option (Int32 × jH)
  | 0 => fun _ _ _ _ _ _ => none
  | k + 1 => F_X12_span_28_b n (F_X12_span_28 n k)
noncomputable def F_X12_span (n : Nat) (a0 : Nat) (x1 : Int32) (x2 : Int32) (h : jH) : Option (Int32 × jH) :=
  (jpf 10 h a0 0 (.int (0 : Int32))).bind fun h2 =>
  (F_X12_noAhead n x1 h2).bind fun v7 =>
  (jcv 10 h2 a0 (F_X12_throwsIf n a0 v7 (1 : Int32) h2)).bind fun q11 =>
  if q11.1 = 0 then ((jcv 10 q11.2 a0 (F_X12_keepsAll n a0 q11.2)).bind fun h20 =>
  F_X12_span_28 n n a0 x1 x2 (-1 : Int32) (1 : Int32) h20)
  else (some ((0 : Int32), q11.2))
noncomputable def F_X12_ofLog (n : Nat) (a0 : Nat) (x1 : Int32) (x2 : Int32) (h : jH) : Option Int32 :=
  (jgR 10 h a0 1).bind fun p1 =>
  (jal 0 h p1 (((75 : Int32) + ((6 : Int32) * x1)) + x2)).bind fun v13 =>
  some v13
noncomputable def F_X12_led_36_b (n : Nat) (rc36 : Nat → Int32 → Int32 → Int32 → Int32 → Int32 → jH → Option (Int32 × jH)) (a0 : Nat) (x1 : Int32) (x2 : Int32) (x3 : Int32) (x4 : Int32) (x5 : Int32) (h : jH) : Option (Int32 × jH) :=
  if x5 < 0 then (if x2 = 0 then (some (x3, h))
  else (some (x4, h)))
  else ((jcv 10 h a0 (F_X12_ofLog n a0 x5 (2 : Int32) h)).bind fun v45 =>
  if v45 = x1 then ((jcv 10 h a0 (F_X12_ofLog n a0 x5 (5 : Int32) h)).bind fun v62 =>
  rc36 a0 x1 x2 (x3 + (1 : Int32)) v62 (x5 + (-1 : Int32)) h)
  else (rc36 a0 x1 x2 x3 x4 (x5 + (-1 : Int32)) h))
noncomputable def F_X12_led_36 (n : Nat) : Nat → Nat → Int32 → Int32 → Int32 → Int32 → Int32 → jH → Option (Int32 × jH)
  | 0 => fun _ _ _ _ _ _ _ => none
  | k + 1 => F_X12_led_36_b n (F_X12_led_36 n k)
noncomputable def F_X12_led (n : Nat) (a0 : Nat) (x1 : Int32) (x2 : Int32) (h : jH) : Option (Int32 × jH) :=
  (jpf 10 h a0 0 (.int (0 : Int32))).bind fun h2 =>
  (jcv 10 h2 a0 (F_X12_noRing n a0 x1 h2)).bind fun v8 =>
  (jcv 10 h2 a0 (F_X12_throwsIf n a0 v8 (1 : Int32) h2)).bind fun q12 =>
  if q12.1 = 0 then ((jgR 10 q12.2 a0 1).bind fun p26 =>
  (jal 0 q12.2 p26 (9 : Int32)).bind fun v31 =>
  F_X12_led_36 n n a0 x1 x2 (0 : Int32) (-1 : Int32) (v31 - (1 : Int32)) q12.2)
  else (some ((0 : Int32), q12.2))
noncomputable def F_X12_log_20 (n : Nat) (a0 : Nat) (x1 : Int32) (x2 : Int32) (sa0 : Nat) (s1 : Int32) (h : jH) : Option (Int32 × jH) :=
  (jcv 10 h sa0 (F_X12_throwsIf n sa0 s1 (1 : Int32) h)).bind fun q21 =>
  if q21.1 = 0 then ((jgR 10 q21.2 a0 1).bind fun p32 =>
  (jal 0 q21.2 p32 (9 : Int32)).bind fun v37 =>
  (F_X12_in n x1 (0 : Int32) (v37 - (1 : Int32)) q21.2).bind fun v40 =>
  if v40 = 0 then (some ((-1 : Int32), q21.2))
  else ((jcv 10 q21.2 a0 (F_X12_ofLog n a0 x1 x2 q21.2)).bind fun v49 =>
  some (v49, q21.2)))
  else (some ((0 : Int32), q21.2))
noncomputable def F_X12_log (n : Nat) (a0 : Nat) (x1 : Int32) (x2 : Int32) (h : jH) : Option (Int32 × jH) :=
  (jpf 10 h a0 0 (.int (0 : Int32))).bind fun h2 =>
  (F_X12_in n x2 (0 : Int32) (5 : Int32) h2).bind fun v9 =>
  if v9 = 0 then (F_X12_log_20 n a0 x1 x2 a0 (1 : Int32) h2)
  else (F_X12_log_20 n a0 x1 x2 a0 (0 : Int32) h2)
noncomputable def F_X12_seed (n : Nat) (a0 : Nat) (x1 : Int32) (h : jH) : Option (Int32 × jH) :=
  (jpf 10 h a0 0 (.int (0 : Int32))).bind fun h2 =>
  (jgR 10 h2 a0 1).bind fun p6 =>
  (jal 0 h2 p6 (10 : Int32)).bind fun v11 =>
  (jgR 10 h2 a0 1).bind fun p14 =>
  (jas 0 h2 p14 (10 : Int32) x1).bind fun h20 =>
  some (v11, h20)
noncomputable def F_X12_count (n : Nat) (a0 : Nat) (x1 : Int32) (h : jH) : Option (Int32 × jH) :=
  (jpf 10 h a0 0 (.int (0 : Int32))).bind fun h2 =>
  if x1 = (2 : Int32) then ((jgR 10 h2 a0 1).bind fun p41 =>
  (jal 0 h2 p41 (2 : Int32)).bind fun v45 =>
  if v45 = (1 : Int32) then ((jgR 10 h2 a0 1).bind fun p51 =>
  (jal 0 h2 p51 (435 : Int32)).bind fun v57 =>
  some (v57, h2))
  else (some ((-1 : Int32), h2)))
  else if x1 = (9 : Int32) then ((jgR 10 h2 a0 1).bind fun p64 =>
  (jal 0 h2 p64 (9 : Int32)).bind fun v69 =>
  some (v69, h2))
  else if x1 = (10 : Int32) then ((jgI 10 h2 a0 7).bind fun v72 =>
  some (v72, h2))
  else ((F_X12_in n x1 (0 : Int32) (8 : Int32) h2).bind fun v80 =>
  if v80 = 0 then (some ((-1 : Int32), h2))
  else ((jgR 10 h2 a0 1).bind fun p87 =>
  (jal 0 h2 p87 x1).bind fun v91 =>
  some (v91, h2)))
end
section
/-! throw new NoSuchElementException("text"): her own constructor stands at another entry -/
section JTN
variable {p : Program} {l : Launch} {e : Env} {R : Room} {s : State} {m₀ : MethodId} {args : Array Value} {below : List Frame} {meth : Method} {c : Code} {W9 : State} {locs : List Loc} {cells slots : Nat}
theorem jnsi_0 : decode jnsi 0 = .ok (.aload_n 0, 1) := by decide +kernel
theorem jnsi_1 : decode jnsi 1 = .ok (.aload_n 1, 1) := by decide +kernel
theorem jnsi_2 : decode jnsi 2 = .ok (.invokespecial 13, 3) := by decide +kernel
theorem jnsi_5 : decode jnsi 5 = .ok (.return_, 1) := by decide +kernel
set_option maxHeartbeats 1000000 in
theorem jctorN (X : Stand p l e R s m₀ args below meth c W9 locs cells slots) (hexec : p.tables.exec = Jvm.exec) (htr : e.platform.stackTraces = false) {own cls : String} {ic : Nat}
    (hown : s.vm.findClass own = some m₀.cls) (hcls : Bundle.fit cls = true) (h : ∀ a ∈ jatN0 own ic cls, a.before args s = true)
    (hlocs : ∀ x ∈ locs, ∀ cell, s.heap[x.base]? = some cell → cell.vm.isStatics = false)
    {a : Addr} {cX : ClassId} {kX : Class} (hfoundX : s.vm.findClass cls = some cX) (hkX : s.vm.classes[cX]? = some kX) (hcell : W9.heap[a]? = some (freshCell cX kX)) (hnew : s.heap.size ≤ a)
    {msg : Value} (hmsg : msg.isRef = true)
    {g : JFrame} (hg : g.method = m₀) (hsize : g.locals.size = c.maxLocals) (hlocked : g.locked = none) (hentered : g.entered = []) {rest : List Value} (hstack : g.stack = msg :: .ref a :: .ref a :: rest)
    (hd6 : decode c.code g.pc = .ok (.invokespecial ic, 3)) (hd9 : decode c.code (g.pc + 3) = .ok (.athrow, 1)) (hout : ∀ x ∈ c.exceptionTable.toList, covers x (g.pc + 3) = false)
    (hRframes : 5 < R.frames) (hRlocals : 2 * g.monitorRoom + ((Value.ref a :: rest).map fun v => v.category).sum + 81 ≤ R.locals) (hlocks : meth.locks = false) :
    ∃ U : State, Steps p.tables e below (W9.setTop g) U ∧ U.status = .running ∧ Ended U below (.threw a) ∧ s.WarmedH U.vm ∧ s.sameButNew ({ U with vm := s.vm } : State) locs cells slots ∧
      ∃ ce, U.heap[a]? = some ce ∧ s.vm.findClass cls = some ce.cls ∧ ce.vm = .none := by
  have howns : e.platform.frameOwnsMonitors = true := by rw [X.admits.platform]
  have hfin : e.platform.finalization = false := by rw [X.admits.platform]
  have hpl : e.platform.magicAccessors = ({} : Platform).magicAccessors := by rw [X.admits.platform]
  have a' : ∀ x, x ∈ jatN0 own ic cls → x.holds args s none s [] = true := fun x hx => h x hx
  obtain ⟨T, Z0, L, -, Y⟩ := ThrowableC.of_atoms (args := args) howns hfin hpl (fun x hx => h x (by simp [jatN0, hx]))
  obtain ⟨Z, M, LZ, LM, hnZ⟩ := Init0T.ofS_atoms (args := args) hpl L Y (fun x hx => h x (by simp [jatN0, hx]))
  obtain ⟨P1, L1, hP1m, hs1⟩ := PassC.ofS_atoms (args := args) (s := s) hpl (X := cls) (Y := "java/lang/RuntimeException") (Bundle.fit_spec hcls).1 (by decide) jnsi_0 jnsi_1 jnsi_2 jnsi_5 (fun x hx => h x (by simp [jatN0, hx]))
  obtain ⟨P2, Ps, hlen, L2, hL, hP2m, hsup, hpass⟩ := Bundle.chainS (args := args) hpl hnZ ["java/lang/Exception"] "java/lang/RuntimeException" (by decide +kernel) (by decide +kernel) (fun x hx => h x (by simp [jatN0, hx]))
  have hlink1 := Option.some.inj (hs1.symm.trans hP2m)
  have hlen1 : Ps.length = 1 := hlen
  have hfound : s.vm.findClass cls = some P1.m.cls := findClass_of_methodNamed hP1m
  cases Option.some.inj (hfoundX.symm.trans hfound)
  obtain ⟨c1, kX', hc1, hk, hord, -, -, hn6⟩ := Cond.instantiable_spec (a' (.instantiable cls 6) (by simp [jatN0]))
  cases Option.some.inj (hc1.symm.trans hfound)
  cases Option.some.inj (hkX.symm.trans hk)
  have hsel0 : selectMethod e.platform s.vm P1.m.cls T.fill0 = .method T.fill0 := by
    obtain ⟨c2, r2, m2, q1, q2, q3, q4, -⟩ := Cond.selects_spec (a' (.selects cls Bundle.tFill0 Bundle.tFill0) (by simp [jatN0]))
    cases Option.some.inj (q1.symm.trans hfound)
    cases Option.some.inj (q2.symm.trans (State.methodFound?_of_named Y.fill0 (by decide)))
    cases Option.some.inj (q3.symm.trans Y.fill0)
    rw [Launch.admits_selectMethod X.admits]; exact q4
  have hselF : selectMethod e.platform s.vm P1.m.cls T.fill = .method T.fill := by
    obtain ⟨c2, r2, m2, q1, q2, q3, q4, -⟩ := Cond.selects_spec (a' (.selects cls Bundle.tFill Bundle.tFill) (by simp [jatN0]))
    cases Option.some.inj (q1.symm.trans hfound)
    cases Option.some.inj (q2.symm.trans (State.methodFound?_of_named Y.fill (by decide)))
    cases Option.some.inj (q3.symm.trans Y.fill)
    rw [Launch.admits_selectMethod X.admits]; exact q4
  obtain ⟨cellS0, hcS0, hiss⟩ := Y.statics
  obtain ⟨u0, hu0⟩ := Cond.staticRefV Y.unassigned L.unassignedStatic L.statics hcS0 hiss (a' (.isRef (.static Bundle.tN "UNASSIGNED_STACK" Bundle.steD)) (by simp [jatN0]))
  obtain ⟨sen, hsen⟩ := Cond.staticRefV Y.sentinel L.sentinelStatic L.statics hcS0 hiss (a' (.isRef (.static Bundle.tN "SUPPRESSED_SENTINEL" Bundle.listD)) (by simp [jatN0]))
  obtain ⟨ci198, i198, fB, hk198, hg198, ha198, hsB, -, hnB, htB, hffB⟩ := Cond.ownField (t := .object "java/lang/Object") Y.found L.cls (by decide +kernel) (a' (.fieldLink Bundle.tN 198 Bundle.tN "backtrace" "Ljava/lang/Object;") (by simp [jatN0])) (a' (.lays Bundle.tN Bundle.tN "backtrace" "Ljava/lang/Object;") (by simp [jatN0])) e.platform hpl
  obtain ⟨cellS, hcS', heS, -, hkeep⟩ := X.same.2.2.2.2.2 T.aS cellS0 hcS0
  have hcellS : W9.heap[T.aS]? = some cellS := hcS'
  have hout' : ∀ i, (⟨T.aS, i⟩ : Loc) ∉ locs := fun i hmem => by
    have := hlocs _ hmem cellS0 hcS0
    rw [hiss] at this; cases this
  have hknownS : cellS.vm ≠ .unknown := by
    rw [heS]; intro hu
    rw [show cellS0.vm = .unknown from hu] at hiss
    cases hiss
  have hneS : T.aS ≠ a := Nat.ne_of_lt (Nat.lt_of_lt_of_le (Array.getElem?_eq_some_iff.mp hcS0).1 hnew)
  obtain ⟨iM, hffM⟩ := Y.msg
  obtain ⟨tyC, dC, hdC, hdnC⟩ := Cond.laysAt hfound hk Y.cause (a' (.lays cls Bundle.tN "cause" "Ljava/lang/Throwable;") (by simp [jatN0]))
  obtain ⟨tyS, dS, hdS, hdnS⟩ := Cond.laysAt hfound hk Y.stack (a' (.lays cls Bundle.tN "stackTrace" Bundle.steD) (by simp [jatN0]))
  obtain ⟨tyP, dP, hdP, hdnP⟩ := Cond.laysAt hfound hk Y.supp (a' (.lays cls Bundle.tN "suppressedExceptions" Bundle.listD) (by simp [jatN0]))
  obtain ⟨tyM, dM, hdM, hdnM⟩ := Cond.laysAt hfound hk hffM (a' (.lays cls Bundle.tN "detailMessage" "Ljava/lang/String;") (by simp [jatN0]))
  obtain ⟨tyB, dB, hdB, hdnB⟩ := Cond.laysAt hfound hk hffB (a' (.lays cls Bundle.tN "backtrace" "Ljava/lang/Object;") (by simp [jatN0]))
  have bC := Cond.laysApart hdB hdC hdnB hdnC (by rw [hnB, Y.causeName]; decide)
  have bS := Cond.laysApart hdB hdS hdnB hdnS (by rw [hnB, Y.stackName]; decide)
  have bP := Cond.laysApart hdB hdP hdnB hdnP (by rw [hnB, Y.suppName]; decide)
  have hskip : SkipFacts T e.platform s (fun u => u) u0 ((preparedCellV T.toThrowableT (freshCell P1.m.cls kX) a u0 sen).withEntry W9.cur) :=
    ⟨{ ci198 := ci198, i198 := i198, fBack := fB }, ⟨hk198, hg198, ha198, hsB⟩, by
      have := fresh_default (c := P1.m.cls) tyB
      rw [htB] at this
      simpa [preparedCellV, Cell.setSlot, Cell.withEntry, Array.getElem?_setIfInBounds, bC, bS, bP, bC.symm, bS.symm, bP.symm, defaultValue] using this, fun _ _ => rfl⟩
  obtain ⟨tm, methC, cdC, kC, vm₁, hnC, -, -, -, -, -, -, -, hW₁, st1⟩ := Steps.initColdS (tb := p.tables) (e := e) (below := below) (s := s) (U := W9) X.here hexec X.warmed hpl hown (t := Bundle.initS cls) rfl rfl (Bundle.fit_spec hcls).2
    (a' (.methodLink own ic (Bundle.initS cls)) (by simp [jatN0])) (h (.instanceMethod (Bundle.initS cls)) (by simp [jatN0, Bundle.passSAtoms])) (bytes := jnsi) (maxL := 2) (h (.code (Bundle.initS cls) jnsi 2 none) (by simp [jatN0, Bundle.passSAtoms]))
    (f := g) hg (a := a) (msg := msg) (rest := .ref a :: rest) hstack hd6
  cases Option.some.inj (hnC.symm.trans hP1m)
  have X₁ := X.noted hW₁
  obtain ⟨vm₂, X₂, st2⟩ := X₁.ctorMessageOffV hexec (g := { g with stack := .ref a :: rest }) hg hsize T L Z LZ M LM (P1 :: P2 :: Ps)
    (fun P hP => by
      rcases List.mem_cons.mp hP with rfl | hP
      · exact L1
      · rcases List.mem_cons.mp hP with rfl | hP
        · exact L2
        · exact hL P hP) ⟨hlink1, hsup, hpass⟩ (u0 := u0) (sen := sen) (self := a) hmsg (cell := freshCell P1.m.cls kX) (cellS := cellS)
    hcell (fun _ => by simp) (by simp) rfl rfl hsel0 hselF hcellS hneS hknownS (by rw [hkeep _ (hout' _)]; exact hu0) (by rw [hkeep _ (hout' _)]; exact hsen)
    (Takes.of_laid hk hord tyC (by rw [Y.causeType]; rfl)) (Takes.of_laid hk hord tyS (by rw [Y.stackType]; exact fits_refV_array _ u0)) (Takes.of_laid hk hord tyP (by rw [Y.suppType]; exact fits_refV_object _ sen))
    (Takes.of_laid hk hord tyM (by rw [Y.msgType]; exact fits_refV_object _ ⟨msg, hmsg⟩)) Y.objLocals hskip htr [] hd6
    (by simp only [List.length_cons, hlen1]; omega) (by simp only [List.length_cons, hlen1]; exact hRlocals)
  obtain ⟨hwalk, hrun, hended, hWU, hsame⟩ := X₂.athrowLeaves hexec (g := { g with stack := .ref a :: rest, pc := g.pc + 3 }) hg hlocked hentered hout (a := a) (rest := rest) rfl hd9
  have hlt : a < ((W9.setVm vm₁).setVm vm₂).heap.size := (Array.getElem?_eq_some_iff.mp hcell).1
  have hU := heapAt_setCell_self (s := (W9.setVm vm₁).setVm vm₂) (plainBareV T.toThrowableT (freshCell P1.m.cls kX) a u0 sen msg) hlt
  refine ⟨_, st1 _ (fun acts => ?_), hrun, hended, hWU, hsame.weaken (fun y hy hlt' => ?_) (Nat.le_refl _) (Nat.le_refl _), _, hU, hfound, rfl⟩
  · rw [doInvoke_state]
    exact st2 _ hwalk
  · rcases List.mem_append.mp hy with h1 | h1
    · exact h1
    · exfalso
      have hb : y.base = a := by
        simp only [List.mem_cons, List.not_mem_nil, or_false] at h1
        rcases h1 with rfl | rfl | rfl | rfl | rfl <;> rfl
      rw [hb] at hlt'
      exact Nat.not_lt.mpr hnew hlt'
end JTN
/-! the rows -/
section JTM
variable {p : Program} {l : Launch} {e : Env} {R : Room} {s : State} {m : MethodId} {args : Array Value} {below : List Frame} {meth : Method} {c : Code} {H : Heap} {locs : List Loc} {cells slots : Nat} {Qc : Array Value → State → Outcome → State → Prop} {XC : String → State → State → Prop} {free : Addr → Prop} {cc : ByteArray} {pc : Nat} {ls : Array Slot} {rest : List Value}
theorem jx_throwN (hexec : p.tables.exec = Jvm.exec) (hb : c.code = cc) (hl : l.stackTraces = false) {own cls text : String} {ik is ic mc ms sa : Nat} {A : Nat → Prop}
    (hown : s.vm.findClass own = some m.cls) (hcls : Bundle.fit cls = true)
    (hk : (Cond.classLink own ik cls).before args s = true) (hini : (Cond.initialized cls).before args s = true) (hstr : vk_R own is text sa s) (hat : ∀ w ∈ jatN own ic cls, w.before args s = true)
    (hgood : ∀ w ∈ Cond.classLink own ik cls :: Cond.initialized cls :: jatN own ic cls, vx_ot w = true)
    (hU : vx_Zq Bundle.tN "UNASSIGNED_STACK" Bundle.steD A s s.heap) (hN : vx_Zq Bundle.tN "SUPPRESSED_SENTINEL" Bundle.listD A s s.heap) (hS : va_S A s.heap H locs) (hsize : ls.size = c.maxLocals)
    (d0 : decode cc pc = .ok (.new ik, 3)) (d3 : decode cc (pc + 3) = .ok (.dup, 1)) (d4 : decode cc (pc + 4) = .ok (.ldc is, 2)) (d6 : decode cc (pc + 6) = .ok (.invokespecial ic, 3)) (d9 : decode cc (pc + 9) = .ok (.athrow, 1))
    (hout : ∀ x ∈ c.exceptionTable.toList, covers x (pc + 9) = false)
    (hRframes : 5 < R.frames) (hRlocals : (rest.map fun v => v.category).sum + 82 ≤ R.locals) (hRcells : cells + 1 ≤ R.cells) (hRslots : slots + 6 ≤ R.slots) (hlocks : meth.locks = false)
    (hx : ∀ t : State, s.vm.Alike t.vm → H.size ≤ t.heap.size → (∀ q : Nat, q < H.size → t.heap[q]? = H[q]?) → XC cls s t)
    (hf : ∀ z ∈ locs, free z.base) (hc : cells + 1 ≤ mc) (hs : slots + 6 ≤ ms) :
    W p l e R s m args below meth c H locs cells slots (vx_MQ below Qc XC args s mc ms free) (F0 m pc ls rest) := by
  intro T hT X
  have htr : e.platform.stackTraces = false := (show e.platform.stackTraces = l.stackTraces by rw [X.admits.platform]).trans hl
  have Y := vx_rebase X (R' := { frames := R.frames, locals := R.locals, cells := 1, slots := 6 }) (Nat.le_refl _) (Nat.le_refl _) hRcells hRslots
  obtain ⟨s', hA⟩ : ∃ z, z = (T.setVm s.vm).setFrames (.invoking m args :: below) := ⟨_, rfl⟩
  rw [← hA] at Y
  have hvm : s'.vm = s.vm := by rw [hA]; rfl
  have hhp : s'.heap = H := by rw [hA]; exact hT
  have hW0 : s.WarmedH s'.vm := by rw [hvm]; exact State.WarmedH.refl s
  have hat' : ∀ w ∈ (jatN0 own ic cls).filter vx_no, w.before args s' = true := fun w hw => vx_ot_at hW0 hvm.symm (hgood w (List.mem_cons_of_mem _ (List.mem_cons_of_mem _ hw))) (hat w hw)
  have hk' : (Cond.classLink own ik cls).before args s' = true := vx_ot_at hW0 hvm.symm (hgood _ List.mem_cons_self) hk
  have hini' : (Cond.initialized cls).before args s' = true := vx_ot_at hW0 hvm.symm (hgood _ (List.mem_cons_of_mem _ List.mem_cons_self)) hini
  have hU' : vx_Zq Bundle.tN "UNASSIGNED_STACK" Bundle.steD A s' s'.heap := by rw [hhp]; exact vx_Zq.moved hW0.alike (hU.kept hS.2.1)
  have hN' : vx_Zq Bundle.tN "SUPPRESSED_SENTINEL" Bundle.listD A s' s'.heap := by rw [hhp]; exact vx_Zq.moved hW0.alike (hN.kept hS.2.1)
  have h : ∀ w ∈ jatN0 own ic cls, w.before args s' = true := vx_own hat' (vx_isRefq hU'.1) (vx_isRefq hN'.1) hU'.2.word hN'.2.word
  have hown' : s'.vm.findClass own = some m.cls := by rw [hvm]; exact hown
  have hins : (Cond.instantiable cls 6).before args s' = true := h _ (by simp [jatN0])
  obtain ⟨vm₁, cX, kX, hfX, hkX, -, -, X₁, st1⟩ := Y.newCold hexec (own := own) (C := cls) (index := ik) (n := 6) hown' hk' hins hini'
    (g := F0 m pc ls rest) rfl (by rw [hb]; exact d0) (Nat.le_refl _) (Nat.le_refl _)
  generalize hT1 : (T.setVm vm₁).pushCell { cls := cX, slots := kX.instanceTypes.map defaultValue, vm := .none } = T1 at X₁ st1
  have hcat : (Value.ref T.heap.size).category = 1 := rfl
  have hcellA : T1.heap[T.heap.size]? = some (freshCell cX kX) := by rw [← hT1]; exact State.heap_pushCell_size _ _
  have d3' : decode c.code (pc + 3) = .ok (.dup, 1) := by rw [hb]; exact d3
  have d4' : decode c.code (pc + 4) = .ok (.ldc is, 2) := by rw [hb]; exact d4
  have hstr' : vk_R own is text sa s' := vk_R.warm hW0 hstr
  obtain ⟨U, hsteps, hrun, hend, hW, hsame, ce, hce, hcl0, hcv⟩ := jctorN X₁ hexec htr (own := own) (cls := cls) (ic := ic) hown' hcls h (fun x hx => nomatch hx) hfX hkX hcellA (by rw [hhp, hT]; exact Nat.le_refl _) (msg := .ref sa) rfl
    (g := { method := m, pc := pc + 6, locals := ls, stack := .ref sa :: .ref T.heap.size :: .ref T.heap.size :: rest, locked := none }) rfl hsize rfl rfl (rest := rest) rfl
    (by rw [hb]; exact d6) (by rw [hb]; exact d9) hout hRframes (by simp only [List.map_cons, List.sum_cons, hcat]; omega) hlocks
  obtain ⟨f1, f2⟩ := vx_frame hsame
  rw [hhp] at f1 f2
  have hWs : s.WarmedH U.vm := State.WarmedH.trans hW0 hW
  have hcl : s.vm.findClass cls = some ce.cls := by
    rw [hvm] at hcl0
    exact hcl0
  have hall : s.sameButNew ({ U with vm := s.vm } : State) locs mc ms := by
    subst hA
    obtain ⟨e1, e2⟩ := hsame
    rw [State.setFrames_setFrames] at e1
    have h2 : (T.setVm s.vm).sameButNew ({ U with vm := s.vm } : State) [] (0 + 1) (0 + 6) := ⟨e1, e2⟩
    have h3 := X.same.trans h2
    rw [List.append_nil] at h3
    exact h3.mono hc hs
  refine ⟨U, ?_, .threw T.heap.size, hrun, hend, Or.inr ⟨T.heap.size, rfl, cls, ce, locs, hx U hWs.alike f1 (fun q hq => f2 q hq (fun z hz => nomatch hz)), hce, hcv, hcl, hWs, hall, hf⟩⟩
  refine st1 _ ?_
  show Steps p.tables e below (T1.setTop { method := m, pc := pc + 3, locals := ls, stack := .ref T.heap.size :: rest, locked := none }) _
  jvm_step X₁.here [X₁.here.top, hexec, d3', Value.category]
  exact X₁.ldcString hexec (own := own) (text := text) (index := is) (a := sa) hown' hstr'.1 hstr'.2
    (g := { method := m, pc := pc + 4, locals := ls, stack := .ref T.heap.size :: .ref T.heap.size :: rest, locked := none }) rfl d4' _ hsteps
theorem jx_throwNW (hexec : p.tables.exec = Jvm.exec) (hb : c.code = cc) (hl : l.stackTraces = false) {own cls text : String} {ik is ic mc ms sa : Nat} {A : Nat → Prop}
    (hown : s.vm.findClass own = some m.cls) (hcls : Bundle.fit cls = true)
    (hk : (Cond.classLink own ik cls).before args s = true) (hini : (Cond.initialized cls).before args s = true) (hstr : vk_R own is text sa s) (hat : ∀ w ∈ jatN own ic cls, w.before args s = true)
    (hgood : ∀ w ∈ Cond.classLink own ik cls :: Cond.initialized cls :: jatN own ic cls, vx_ot w = true)
    (hU : vx_Zq Bundle.tN "UNASSIGNED_STACK" Bundle.steD A s s.heap) (hN : vx_Zq Bundle.tN "SUPPRESSED_SENTINEL" Bundle.listD A s s.heap) (hS : va_S A s.heap H locs) (hsize : ls.size = c.maxLocals)
    (d0 : decode cc pc = .ok (.new ik, 3)) (d3 : decode cc (pc + 3) = .ok (.dup, 1)) (d4 : decode cc (pc + 4) = .ok (.ldc_w is, 3)) (d6 : decode cc (pc + 7) = .ok (.invokespecial ic, 3)) (d9 : decode cc (pc + 10) = .ok (.athrow, 1))
    (hout : ∀ x ∈ c.exceptionTable.toList, covers x (pc + 10) = false)
    (hRframes : 5 < R.frames) (hRlocals : (rest.map fun v => v.category).sum + 82 ≤ R.locals) (hRcells : cells + 1 ≤ R.cells) (hRslots : slots + 6 ≤ R.slots) (hlocks : meth.locks = false)
    (hx : ∀ t : State, s.vm.Alike t.vm → H.size ≤ t.heap.size → (∀ q : Nat, q < H.size → t.heap[q]? = H[q]?) → XC cls s t)
    (hf : ∀ z ∈ locs, free z.base) (hc : cells + 1 ≤ mc) (hs : slots + 6 ≤ ms) :
    W p l e R s m args below meth c H locs cells slots (vx_MQ below Qc XC args s mc ms free) (F0 m pc ls rest) := by
  intro T hT X
  have htr : e.platform.stackTraces = false := (show e.platform.stackTraces = l.stackTraces by rw [X.admits.platform]).trans hl
  have Y := vx_rebase X (R' := { frames := R.frames, locals := R.locals, cells := 1, slots := 6 }) (Nat.le_refl _) (Nat.le_refl _) hRcells hRslots
  obtain ⟨s', hA⟩ : ∃ z, z = (T.setVm s.vm).setFrames (.invoking m args :: below) := ⟨_, rfl⟩
  rw [← hA] at Y
  have hvm : s'.vm = s.vm := by rw [hA]; rfl
  have hhp : s'.heap = H := by rw [hA]; exact hT
  have hW0 : s.WarmedH s'.vm := by rw [hvm]; exact State.WarmedH.refl s
  have hat' : ∀ w ∈ (jatN0 own ic cls).filter vx_no, w.before args s' = true := fun w hw => vx_ot_at hW0 hvm.symm (hgood w (List.mem_cons_of_mem _ (List.mem_cons_of_mem _ hw))) (hat w hw)
  have hk' : (Cond.classLink own ik cls).before args s' = true := vx_ot_at hW0 hvm.symm (hgood _ List.mem_cons_self) hk
  have hini' : (Cond.initialized cls).before args s' = true := vx_ot_at hW0 hvm.symm (hgood _ (List.mem_cons_of_mem _ List.mem_cons_self)) hini
  have hU' : vx_Zq Bundle.tN "UNASSIGNED_STACK" Bundle.steD A s' s'.heap := by rw [hhp]; exact vx_Zq.moved hW0.alike (hU.kept hS.2.1)
  have hN' : vx_Zq Bundle.tN "SUPPRESSED_SENTINEL" Bundle.listD A s' s'.heap := by rw [hhp]; exact vx_Zq.moved hW0.alike (hN.kept hS.2.1)
  have h : ∀ w ∈ jatN0 own ic cls, w.before args s' = true := vx_own hat' (vx_isRefq hU'.1) (vx_isRefq hN'.1) hU'.2.word hN'.2.word
  have hown' : s'.vm.findClass own = some m.cls := by rw [hvm]; exact hown
  have hins : (Cond.instantiable cls 6).before args s' = true := h _ (by simp [jatN0])
  obtain ⟨vm₁, cX, kX, hfX, hkX, -, -, X₁, st1⟩ := Y.newCold hexec (own := own) (C := cls) (index := ik) (n := 6) hown' hk' hins hini'
    (g := F0 m pc ls rest) rfl (by rw [hb]; exact d0) (Nat.le_refl _) (Nat.le_refl _)
  generalize hT1 : (T.setVm vm₁).pushCell { cls := cX, slots := kX.instanceTypes.map defaultValue, vm := .none } = T1 at X₁ st1
  have hcat : (Value.ref T.heap.size).category = 1 := rfl
  have hcellA : T1.heap[T.heap.size]? = some (freshCell cX kX) := by rw [← hT1]; exact State.heap_pushCell_size _ _
  have d3' : decode c.code (pc + 3) = .ok (.dup, 1) := by rw [hb]; exact d3
  have d4' : decode c.code (pc + 4) = .ok (.ldc_w is, 3) := by rw [hb]; exact d4
  have hstr' : vk_R own is text sa s' := vk_R.warm hW0 hstr
  obtain ⟨U, hsteps, hrun, hend, hW, hsame, ce, hce, hcl0, hcv⟩ := jctorN X₁ hexec htr (own := own) (cls := cls) (ic := ic) hown' hcls h (fun x hx => nomatch hx) hfX hkX hcellA (by rw [hhp, hT]; exact Nat.le_refl _) (msg := .ref sa) rfl
    (g := { method := m, pc := pc + 7, locals := ls, stack := .ref sa :: .ref T.heap.size :: .ref T.heap.size :: rest, locked := none }) rfl hsize rfl rfl (rest := rest) rfl
    (by rw [hb]; exact d6) (by rw [hb]; exact d9) hout hRframes (by simp only [List.map_cons, List.sum_cons, hcat]; omega) hlocks
  obtain ⟨f1, f2⟩ := vx_frame hsame
  rw [hhp] at f1 f2
  have hWs : s.WarmedH U.vm := State.WarmedH.trans hW0 hW
  have hcl : s.vm.findClass cls = some ce.cls := by
    rw [hvm] at hcl0
    exact hcl0
  have hall : s.sameButNew ({ U with vm := s.vm } : State) locs mc ms := by
    subst hA
    obtain ⟨e1, e2⟩ := hsame
    rw [State.setFrames_setFrames] at e1
    have h2 : (T.setVm s.vm).sameButNew ({ U with vm := s.vm } : State) [] (0 + 1) (0 + 6) := ⟨e1, e2⟩
    have h3 := X.same.trans h2
    rw [List.append_nil] at h3
    exact h3.mono hc hs
  refine ⟨U, ?_, .threw T.heap.size, hrun, hend, Or.inr ⟨T.heap.size, rfl, cls, ce, locs, hx U hWs.alike f1 (fun q hq => f2 q hq (fun z hz => nomatch hz)), hce, hcv, hcl, hWs, hall, hf⟩⟩
  refine st1 _ ?_
  show Steps p.tables e below (T1.setTop { method := m, pc := pc + 3, locals := ls, stack := .ref T.heap.size :: rest, locked := none }) _
  jvm_step X₁.here [X₁.here.top, hexec, d3', Value.category]
  exact X₁.ldcStringW hexec (own := own) (text := text) (index := is) (a := sa) hown' hstr'.1 hstr'.2
    (g := { method := m, pc := pc + 4, locals := ls, stack := .ref T.heap.size :: .ref T.heap.size :: rest, locked := none }) rfl d4' _ hsteps
end JTM
section JGN
variable {G : jG} {l : Launch} {M : jM} {dep : Nat} {X : jX} {h : jH} {kc ks pc : Nat} {L : List (Option Value)} {st : List Value} {P : jR → jH → Prop}
theorem jr_throwN (hst : l.stackTraces = false) (K : jOK G l M (dep + 6) X) (En : jEnd G M P X) {ik is ic i k : Nat} {E tx : String} {bs : List Int32} (d0 : decode M.2.1 pc = .ok (.new ik, 3)) (d3 : decode M.2.1 (pc + 3) = .ok (.dup, 1)) (d4 : decode M.2.1 (pc + 4) = .ok (.ldc is, 2)) (d6 : decode M.2.1 (pc + 6) = .ok (.invokespecial ic, 3)) (d9 : decode M.2.1 (pc + 9) = .ok (.athrow, 1))
    (hT : jThN M.1.cls ik ic E) (hx9 : jtxt[i]? = some (M.1.cls, is, tx, bs)) (hh : M.2.2.2.2 = []) (hk : jexn[k]? = some E) (hrm : (st.map fun v => v.category).sum ≤ 8) (hkc : 1 ≤ kc) (hks : 6 ≤ ks) (hP : P (.inr k) h) : jJ G X h kc ks pc L st := by
  obtain ⟨p, l9, e, R, s, m, args, below, meth, c, mc, ms, Q⟩ := X
  obtain ⟨hx, hb, hml, hr, hown, hts, hlk, hin, hE, hbs, hd1, hd2, hd3, hd4, rfl, hxt⟩ := K
  subst En
  intro H locs cells slots ls hR hS hc1 hc2 hc hl
  obtain ⟨t1, t2, t3, t4, t5⟩ := hT
  exact jx_throwN (A := jA G) hx hb hst hown t5 (hts _ t1) (hts _ t2) (hE.2.2.2.2.2.2.2.2.2.2 i _ hx9).1 (fun w hw => jtab hts hE (t3 w hw)) t4 hE.2.1 hE.2.2.1 hS hl.1 d0 d3 d4 d6 d9 (by rw [hxt, hh]; intro x hx; cases hx) (by omega) (by omega) (by omega) (by omega) hlk (jthrown hR hS hk hP) hS.2.2 (by omega) (by omega)
theorem jr_throwNW (hst : l.stackTraces = false) (K : jOK G l M (dep + 6) X) (En : jEnd G M P X) {ik is ic i k : Nat} {E tx : String} {bs : List Int32} (d0 : decode M.2.1 pc = .ok (.new ik, 3)) (d3 : decode M.2.1 (pc + 3) = .ok (.dup, 1)) (d4 : decode M.2.1 (pc + 4) = .ok (.ldc_w is, 3)) (d6 : decode M.2.1 (pc + 7) = .ok (.invokespecial ic, 3)) (d9 : decode M.2.1 (pc + 10) = .ok (.athrow, 1))
    (hT : jThN M.1.cls ik ic E) (hx9 : jtxt[i]? = some (M.1.cls, is, tx, bs)) (hh : M.2.2.2.2 = []) (hk : jexn[k]? = some E) (hrm : (st.map fun v => v.category).sum ≤ 8) (hkc : 1 ≤ kc) (hks : 6 ≤ ks) (hP : P (.inr k) h) : jJ G X h kc ks pc L st := by
  obtain ⟨p, l9, e, R, s, m, args, below, meth, c, mc, ms, Q⟩ := X
  obtain ⟨hx, hb, hml, hr, hown, hts, hlk, hin, hE, hbs, hd1, hd2, hd3, hd4, rfl, hxt⟩ := K
  subst En
  intro H locs cells slots ls hR hS hc1 hc2 hc hl
  obtain ⟨t1, t2, t3, t4, t5⟩ := hT
  exact jx_throwNW (A := jA G) hx hb hst hown t5 (hts _ t1) (hts _ t2) (hE.2.2.2.2.2.2.2.2.2.2 i _ hx9).1 (fun w hw => jtab hts hE (t3 w hw)) t4 hE.2.1 hE.2.2.1 hS hl.1 d0 d3 d4 d6 d9 (by rw [hxt, hh]; intro x hx; cases hx) (by omega) (by omega) (by omega) (by omega) hlk (jthrown hR hS hk hP) hS.2.2 (by omega) (by omega)
end JGN
end
