section
abbrev mX0_init : jM := (yX0_init, cX0_init, 1, none, [])
theorem oi_X0_1 : Cond.methodLink RX0 1 Lib.objectInit ∈ jall ∧ Cond.instanceMethod Lib.objectInit ∈ jall ∧ Cond.code Lib.objectInit ⟨#[0xb1]⟩ 1 none ∈ jall := ⟨(jw_2_0 7 rfl rfl), (jw_1_2 3 rfl rfl), (jw_1_2 4 rfl rfl)⟩
theorem cl_X0_9 : Cond.classLink RX0 9 "RodRings$Rod" ∈ jall := (jw_2_0 8 rfl rfl)
theorem fp_X0_11_0 : jFp RX0 11 0 0 true (.array (.object "RodRings$Rod")) := ⟨RX0, TX0, 3, tyX0, rfl, wsX00_tb, tyX0_ok, nmX0, by decide, (jw_2_0 10 rfl rfl), rfl, tyX0_ok 0 (by decide), fun _ => rfl⟩
abbrev mX0_remember : jM := (yX0_remember, cX0_remember, 2, none, [])
theorem fg_X0_11_0 : jFg RX0 11 0 0 := ⟨RX0, TX0, 3, _, rfl, wsX00_tb, by decide, (jw_2_0 10 rfl rfl), Or.inl rfl⟩
theorem fg_X0_15_0 : jFg RX0 15 0 1 := ⟨RX0, TX0, 3, _, rfl, wsX00_tb, by decide, (jw_2_0 11 rfl rfl), Or.inl rfl⟩
theorem fn_X0_9 : jFn RX0 9 6 18 [.null, .null, .null, .null, .null, .int 0, .int 0, .int 0, .int 0, .int 0, .int 0, .int 0, .int 0, .int 0, .int 0, .int 0, .int 0, .int 0] := ⟨RX8, TX8, tyX8, rfl, wsX80_tb, tyX8_ok, (jw_2_0 8 rfl rfl), (jw_1_4 6 rfl rfl), (jw_1_0 3 rfl rfl), by decide⟩
abbrev mX8_init : jM := (yX8_init, cX8_init, 1, none, [])
theorem sy_X8_init : jSY mX8_init 0 := ⟨(jw_1_4 9 rfl rfl), (jw_1_0 3 rfl rfl), ⟨lw_n0.1, lw_n0.2, dscr_0⟩, by decide⟩
theorem cin_X0_19_X8_init : jSiN RX0 19 mX8_init 0 := ⟨(jn_5_4 8 rfl rfl), (jw_1_4 8 rfl rfl), rfl, sy_X8_init⟩
abbrev mX8_copyFrom : jM := (yX8_copyFrom, cX8_copyFrom, 2, none, [])
theorem sy_X8_copyFrom : jSY mX8_copyFrom 1 := ⟨(jw_2_12 9 rfl rfl), (jw_1_0 3 rfl rfl), ⟨lw_n0.1, lw_n0.2, dscr_1⟩, by decide⟩
theorem cv_X0_20_X8_copyFrom : jSv RX0 20 mX8_copyFrom 1 := ⟨(jw_3_10 12 rfl rfl), (jw_2_12 7 rfl rfl), (jw_2_12 8 rfl rfl), sy_X8_copyFrom⟩
theorem fp_X0_15_0 : jFp RX0 15 0 1 false .int := ⟨RX0, TX0, 3, tyX0, rfl, wsX00_tb, tyX0_ok, nmX0, by decide, (jw_2_0 11 rfl rfl), rfl, tyX0_ok 1 (by decide), fun q => by cases q⟩
theorem fg_X0_24_0 : jFg RX0 24 0 2 := ⟨RX0, TX0, 3, _, rfl, wsX00_tb, by decide, (jw_2_0 12 rfl rfl), Or.inl rfl⟩
theorem mm_X0_27 : Cond.methodLink RX0 27 Lib.Math.min.name ∈ jall ∧ Cond.static Lib.Math.min.name ∈ jall ∧ Cond.initialized "java/lang/Math" ∈ jall ∧ Cond.code Lib.Math.min.name Lib.Math.min.code 2 (some .int) ∈ jall := ⟨(jw_5_4 9 rfl rfl), (jw_2_14 9 rfl rfl), (jw_1_1 2 rfl rfl), (jw_2_14 10 rfl rfl)⟩
theorem fp_X0_24_0 : jFp RX0 24 0 2 false .int := ⟨RX0, TX0, 3, tyX0, rfl, wsX00_tb, tyX0_ok, nmX0, by decide, (jw_2_0 12 rfl rfl), rfl, tyX0_ok 2 (by decide), fun q => by cases q⟩
abbrev mX0_takeBack : jM := (yX0_takeBack, cX0_takeBack, 3, (some .boolean), [])
abbrev mX0_forget : jM := (yX0_forget, cX0_forget, 1, none, [])
abbrev mX1_init : jM := (yX1_init, cX1_init, 3, none, [])
theorem oi_X1_3 : Cond.methodLink RX1 3 Lib.objectInit ∈ jall ∧ Cond.instanceMethod Lib.objectInit ∈ jall ∧ Cond.code Lib.objectInit ⟨#[0xb1]⟩ 1 none ∈ jall := ⟨(jw_2_3 13 rfl rfl), (jw_1_2 3 rfl rfl), (jw_1_2 4 rfl rfl)⟩
theorem fp_X1_9_1 : jFp RX1 9 1 0 true (.object "RodRings$Law") := ⟨RX1, TX1, 2, tyX1, rfl, wsX10_tb, tyX1_ok, nmX1, by decide, (jw_2_3 14 rfl rfl), rfl, tyX1_ok 0 (by decide), fun _ => rfl⟩
theorem fp_X1_15_1 : jFp RX1 15 1 1 true (.object "RodRings$Rod") := ⟨RX1, TX1, 2, tyX1, rfl, wsX10_tb, tyX1_ok, nmX1, by decide, (jw_2_3 15 rfl rfl), rfl, tyX1_ok 1 (by decide), fun _ => rfl⟩
abbrev mX1_run : jM := (yX1_run, cX1_run, 5, (some .int), [])
abbrev mX1_fadeAll : jM := (yX1_fadeAll, cX1_fadeAll, 3, none, [])
theorem sy_X1_fadeAll : jSY mX1_fadeAll 1 := ⟨(jw_3_4 13 rfl rfl), (jw_1_0 10 rfl rfl), ⟨lw_n2.1, lw_n2.2, dscr_1⟩, by decide⟩
theorem cv_X1_19_X1_fadeAll : jSv RX1 19 mX1_fadeAll 1 := ⟨(jw_3_4 10 rfl rfl), (jw_3_4 12 rfl rfl), (js_1 3 rfl), sy_X1_fadeAll⟩
abbrev mX1_catchSome : jM := (yX1_catchSome, cX1_catchSome, 4, (some .int), [])
theorem sy_X1_catchSome : jSY mX1_catchSome 1 := ⟨(jw_5_10 6 rfl rfl), (jw_1_0 10 rfl rfl), ⟨lw_n2.1, lw_n2.2, dscr_2⟩, by decide⟩
theorem cv_X1_23_X1_catchSome : jSv RX1 23 mX1_catchSome 1 := ⟨(jw_5_10 3 rfl rfl), (jw_5_10 5 rfl rfl), (js_2 8 rfl), sy_X1_catchSome⟩
abbrev mX1_dropSome : jM := (yX1_dropSome, cX1_dropSome, 4, (some .int), [])
theorem sy_X1_dropSome : jSY mX1_dropSome 1 := ⟨(jw_5_11 2 rfl rfl), (jw_1_0 10 rfl rfl), ⟨lw_n2.1, lw_n2.2, dscr_2⟩, by decide⟩
theorem cv_X1_27_X1_dropSome : jSv RX1 27 mX1_dropSome 1 := ⟨(jw_5_10 15 rfl rfl), (jw_5_11 1 rfl rfl), (js_2 9 rfl), sy_X1_dropSome⟩
abbrev mX1_turn : jM := (yX1_turn, cX1_turn, 1, none, [])
theorem sy_X1_turn : jSY mX1_turn 1 := ⟨(jw_3_7 0 rfl rfl), (jw_1_0 10 rfl rfl), ⟨lw_n2.1, lw_n2.2, dscr_1⟩, by decide⟩
theorem cs_X1_30_X1_turn : jSs RX1 30 mX1_turn 1 := ⟨(jw_3_6 14 rfl rfl), (jw_3_6 15 rfl rfl), sy_X1_turn⟩
abbrev mX1_tryHours : jM := (yX1_tryHours, cX1_tryHours, 4, none, [])
theorem fg_X1_15_1 : jFg RX1 15 1 1 := ⟨RX1, TX1, 2, _, rfl, wsX10_tb, by decide, (jw_2_3 15 rfl rfl), Or.inl rfl⟩
theorem cv_X1_33_X8_copyFrom : jSv RX1 33 mX8_copyFrom 1 := ⟨(jw_3_4 6 rfl rfl), (jw_2_12 7 rfl rfl), (jw_2_12 8 rfl rfl), sy_X8_copyFrom⟩
theorem fp_X1_38_6 : jFp RX1 38 6 16 false .int := ⟨RX8, TX8, 18, tyX8, rfl, wsX80_tb, tyX8_ok, nmX8, by decide, (jw_1_10 5 rfl rfl), rfl, tyX8_ok 16 (by decide), fun q => by cases q⟩
theorem sy_X1_run : jSY mX1_run 2 := ⟨(jw_5_10 2 rfl rfl), (jw_1_0 10 rfl rfl), ⟨lw_n2.1, lw_n2.2, dscr_3⟩, by decide⟩
theorem cv_X1_42_X1_run : jSv RX1 42 mX1_run 2 := ⟨(jw_6_6 11 rfl rfl), (jw_5_10 0 rfl rfl), (jw_5_10 1 rfl rfl), sy_X1_run⟩
abbrev mX1_goAhead : jM := (yX1_goAhead, cX1_goAhead, 4, none, [])
abbrev mX1_firstPale : jM := (yX1_firstPale, cX1_firstPale, 3, (some .int), [])
abbrev mX1_isSomePale : jM := (yX1_isSomePale, cX1_isSomePale, 2, (some .boolean), [])
theorem sy_X1_isSomePale : jSY mX1_isSomePale 1 := ⟨(jw_3_4 9 rfl rfl), (jw_1_0 10 rfl rfl), ⟨lw_n2.1, lw_n2.2, dscr_4⟩, by decide⟩
theorem cs_X1_46_X1_isSomePale : jSs RX1 46 mX1_isSomePale 1 := ⟨(jw_3_4 7 rfl rfl), (jw_3_4 8 rfl rfl), sy_X1_isSomePale⟩
abbrev mX1_oddsToStay : jM := (yX1_oddsToStay, cX1_oddsToStay, 7, (some .int), [])
theorem fg_X1_9_1 : jFg RX1 9 1 0 := ⟨RX1, TX1, 2, _, rfl, wsX10_tb, by decide, (jw_2_3 14 rfl rfl), Or.inl rfl⟩
abbrev mX2_amount : jM := (yX2_amount, cX2_amount, 6, (some .int), [])
theorem sy_X2_amount : jSY mX2_amount 3 := ⟨(jw_3_5 1 rfl rfl), (jw_1_0 5 rfl rfl), ⟨lw_n3.1, lw_n3.2, dscr_5⟩, by decide⟩
theorem cv_X1_50_X2_amount : jSv RX1 50 mX2_amount 3 := ⟨(jw_3_4 14 rfl rfl), (jw_3_4 15 rfl rfl), (jw_3_5 0 rfl rfl), sy_X2_amount⟩
theorem mm_X1_56 : Cond.methodLink RX1 56 Lib.Math.min.name ∈ jall ∧ Cond.static Lib.Math.min.name ∈ jall ∧ Cond.initialized "java/lang/Math" ∈ jall ∧ Cond.code Lib.Math.min.name Lib.Math.min.code 2 (some .int) ∈ jall := ⟨(jw_3_6 13 rfl rfl), (jw_2_14 9 rfl rfl), (jw_1_1 2 rfl rfl), (jw_2_14 10 rfl rfl)⟩
theorem fg_X1_62_6 : jFg RX1 62 6 5 := ⟨RX8, TX8, 18, _, rfl, wsX80_tb, by decide, (jw_1_7 6 rfl rfl), Or.inl rfl⟩
theorem fg_X1_65_6 : jFg RX1 65 6 2 := ⟨RX8, TX8, 18, _, rfl, wsX80_tb, by decide, (jw_1_6 7 rfl rfl), Or.inl rfl⟩
abbrev mX8_gap : jM := (yX8_gap, cX8_gap, 3, (some .int), [])
theorem sy_X8_gap : jSY mX8_gap 2 := ⟨(jw_3_2 5 rfl rfl), (jw_1_0 3 rfl rfl), ⟨lw_n0.1, lw_n0.2, dscr_6⟩, by decide⟩
theorem cv_X1_69_X8_gap : jSv RX1 69 mX8_gap 2 := ⟨(jw_5_10 7 rfl rfl), (jw_3_2 3 rfl rfl), (jw_3_2 4 rfl rfl), sy_X8_gap⟩
theorem fg_X1_72_6 : jFg RX1 72 6 9 := ⟨RX8, TX8, 18, _, rfl, wsX80_tb, by decide, (jw_1_8 10 rfl rfl), Or.inl rfl⟩
abbrev mX11_bit : jM := (yX11_bit, cX11_bit, 2, (some .int), [])
theorem sy_X11_bit : jSY mX11_bit 2 := ⟨(jw_2_10 10 rfl rfl), (jw_1_0 1 rfl rfl), ⟨lw_n8.1, lw_n8.2, dscr_6⟩, by decide⟩
theorem csn_X1_75_X11_bit : jSsN RX1 75 mX11_bit 2 := ⟨(jn_5_10 8 rfl rfl), (jw_2_10 9 rfl rfl), sy_X11_bit⟩
abbrev mX1_draw : jM := (yX1_draw, cX1_draw, 1, (some .int), [])
theorem sy_X1_draw : jSY mX1_draw 1 := ⟨(jw_5_10 11 rfl rfl), (jw_1_0 10 rfl rfl), ⟨lw_n2.1, lw_n2.2, dscr_2⟩, by decide⟩
theorem cs_X1_78_X1_draw : jSs RX1 78 mX1_draw 1 := ⟨(jw_5_10 9 rfl rfl), (jw_5_10 10 rfl rfl), sy_X1_draw⟩
abbrev mX11_withBit : jM := (yX11_withBit, cX11_withBit, 3, (some .int), [])
theorem sy_X11_withBit : jSY mX11_withBit 3 := ⟨(jw_3_2 15 rfl rfl), (jw_1_0 1 rfl rfl), ⟨lw_n8.1, lw_n8.2, dscr_7⟩, by decide⟩
theorem csn_X1_81_X11_withBit : jSsN RX1 81 mX11_withBit 3 := ⟨(jn_5_10 13 rfl rfl), (jw_3_2 14 rfl rfl), sy_X11_withBit⟩
theorem fp_X1_72_6 : jFp RX1 72 6 9 false .int := ⟨RX8, TX8, 18, tyX8, rfl, wsX80_tb, tyX8_ok, nmX8, by decide, (jw_1_8 10 rfl rfl), rfl, tyX8_ok 9 (by decide), fun q => by cases q⟩
theorem fg_X1_85_6 : jFg RX1 85 6 4 := ⟨RX8, TX8, 18, _, rfl, wsX80_tb, by decide, (jw_1_7 1 rfl rfl), Or.inl rfl⟩
abbrev mX5_add : jM := (yX5_add, cX5_add, 5, none, [])
theorem sy_X5_add : jSY mX5_add 4 := ⟨(jw_5_4 14 rfl rfl), (jw_1_0 4 rfl rfl), ⟨lw_n10.1, lw_n10.2, dscr_8⟩, by decide⟩
theorem cv_X1_89_X5_add : jSv RX1 89 mX5_add 4 := ⟨(jw_5_10 14 rfl rfl), (jw_5_4 12 rfl rfl), (jw_5_4 13 rfl rfl), sy_X5_add⟩
theorem fg_X1_95_6 : jFg RX1 95 6 8 := ⟨RX8, TX8, 18, _, rfl, wsX80_tb, by decide, (jw_1_8 4 rfl rfl), Or.inl rfl⟩
theorem fp_X1_95_6 : jFp RX1 95 6 8 false .int := ⟨RX8, TX8, 18, tyX8, rfl, wsX80_tb, tyX8_ok, nmX8, by decide, (jw_1_8 4 rfl rfl), rfl, tyX8_ok 8 (by decide), fun q => by cases q⟩
theorem kc_X1_98 : Cond.constant RX1 98 (1103515245 : Int32) ∈ jall := (jw_5_10 12 rfl rfl)
theorem fg_X1_38_6 : jFg RX1 38 6 16 := ⟨RX8, TX8, 18, _, rfl, wsX80_tb, by decide, (jw_1_10 5 rfl rfl), Or.inl rfl⟩
theorem fg_X1_99_6 : jFg RX1 99 6 13 := ⟨RX8, TX8, 18, _, rfl, wsX80_tb, by decide, (jw_1_9 10 rfl rfl), Or.inl rfl⟩
theorem fp_X1_99_6 : jFp RX1 99 6 13 false .int := ⟨RX8, TX8, 18, tyX8, rfl, wsX80_tb, tyX8_ok, nmX8, by decide, (jw_1_9 10 rfl rfl), rfl, tyX8_ok 13 (by decide), fun q => by cases q⟩
theorem fg_X1_102_6 : jFg RX1 102 6 14 := ⟨RX8, TX8, 18, _, rfl, wsX80_tb, by decide, (jw_1_9 15 rfl rfl), Or.inl rfl⟩
theorem fp_X1_102_6 : jFp RX1 102 6 14 false .int := ⟨RX8, TX8, 18, tyX8, rfl, wsX80_tb, tyX8_ok, nmX8, by decide, (jw_1_9 15 rfl rfl), rfl, tyX8_ok 14 (by decide), fun q => by cases q⟩
abbrev mX2_init : jM := (yX2_init, cX2_init, 1, none, [])
theorem oi_X2_3 : Cond.methodLink RX2 3 Lib.objectInit ∈ jall ∧ Cond.instanceMethod Lib.objectInit ∈ jall ∧ Cond.code Lib.objectInit ⟨#[0xb1]⟩ 1 none ∈ jall := ⟨(jw_1_13 3 rfl rfl), (jw_1_2 3 rfl rfl), (jw_1_2 4 rfl rfl)⟩
theorem ac_int : Cond.arrayClass .int ∈ jall := (jw_1_4 4 rfl rfl)
theorem fp_X2_11_2 : jFp RX2 11 2 0 true (.array .int) := ⟨RX2, TX2, 9, tyX2, rfl, wsX20_tb, tyX2_ok, nmX2, by decide, (jw_1_13 4 rfl rfl), rfl, tyX2_ok 0 (by decide), fun _ => rfl⟩
theorem fp_X2_15_2 : jFp RX2 15 2 1 true (.array .int) := ⟨RX2, TX2, 9, tyX2, rfl, wsX20_tb, tyX2_ok, nmX2, by decide, (jw_1_13 5 rfl rfl), rfl, tyX2_ok 1 (by decide), fun _ => rfl⟩
theorem fp_X2_18_2 : jFp RX2 18 2 2 true (.array .int) := ⟨RX2, TX2, 9, tyX2, rfl, wsX20_tb, tyX2_ok, nmX2, by decide, (jw_1_13 6 rfl rfl), rfl, tyX2_ok 2 (by decide), fun _ => rfl⟩
theorem fp_X2_21_2 : jFp RX2 21 2 3 true (.array .int) := ⟨RX2, TX2, 9, tyX2, rfl, wsX20_tb, tyX2_ok, nmX2, by decide, (jw_1_13 7 rfl rfl), rfl, tyX2_ok 3 (by decide), fun _ => rfl⟩
theorem fp_X2_24_2 : jFp RX2 24 2 4 true (.array .int) := ⟨RX2, TX2, 9, tyX2, rfl, wsX20_tb, tyX2_ok, nmX2, by decide, (jw_1_13 8 rfl rfl), rfl, tyX2_ok 4 (by decide), fun _ => rfl⟩
abbrev mX2_begin : jM := (yX2_begin, cX2_begin, 1, none, [])
theorem fp_X2_27_2 : jFp RX2 27 2 7 false .boolean := ⟨RX2, TX2, 9, tyX2, rfl, wsX20_tb, tyX2_ok, nmX2, by decide, (jw_1_13 11 rfl rfl), rfl, tyX2_ok 7 (by decide), fun q => by cases q⟩
theorem fp_X2_31_2 : jFp RX2 31 2 8 false .int := ⟨RX2, TX2, 9, tyX2, rfl, wsX20_tb, tyX2_ok, nmX2, by decide, (jw_1_13 13 rfl rfl), rfl, tyX2_ok 8 (by decide), fun q => by cases q⟩
theorem fp_X2_35_2 : jFp RX2 35 2 6 false .int := ⟨RX2, TX2, 9, tyX2, rfl, wsX20_tb, tyX2_ok, nmX2, by decide, (jw_1_13 10 rfl rfl), rfl, tyX2_ok 6 (by decide), fun q => by cases q⟩
abbrev mX2_copyFrom : jM := (yX2_copyFrom, cX2_copyFrom, 2, none, [])
theorem fg_X2_11_2 : jFg RX2 11 2 0 := ⟨RX2, TX2, 9, _, rfl, wsX20_tb, by decide, (jw_1_13 4 rfl rfl), Or.inl rfl⟩
theorem cy_X2_38 : Cond.methodLink RX2 38 arraycopyName ∈ jall ∧ Cond.native arraycopyName ∈ jall ∧ Cond.static arraycopyName ∈ jall ∧ Cond.initialized "java/lang/System" ∈ jall := ⟨(jw_3_11 6 rfl rfl), (jw_2_12 12 rfl rfl), (jw_2_12 11 rfl rfl), (jw_1_0 13 rfl rfl)⟩
theorem fg_X2_15_2 : jFg RX2 15 2 1 := ⟨RX2, TX2, 9, _, rfl, wsX20_tb, by decide, (jw_1_13 5 rfl rfl), Or.inl rfl⟩
theorem fg_X2_18_2 : jFg RX2 18 2 2 := ⟨RX2, TX2, 9, _, rfl, wsX20_tb, by decide, (jw_1_13 6 rfl rfl), Or.inl rfl⟩
theorem fg_X2_21_2 : jFg RX2 21 2 3 := ⟨RX2, TX2, 9, _, rfl, wsX20_tb, by decide, (jw_1_13 7 rfl rfl), Or.inl rfl⟩
theorem fg_X2_35_2 : jFg RX2 35 2 6 := ⟨RX2, TX2, 9, _, rfl, wsX20_tb, by decide, (jw_1_13 10 rfl rfl), Or.inl rfl⟩
theorem fg_X2_27_2 : jFg RX2 27 2 7 := ⟨RX2, TX2, 9, _, rfl, wsX20_tb, by decide, (jw_1_13 11 rfl rfl), Or.inl rfl⟩
theorem fg_X2_31_2 : jFg RX2 31 2 8 := ⟨RX2, TX2, 9, _, rfl, wsX20_tb, by decide, (jw_1_13 13 rfl rfl), Or.inl rfl⟩
abbrev mX2_addLine : jM := (yX2_addLine, cX2_addLine, 3, none, [])
abbrev mX2_addCode : jM := (yX2_addCode, cX2_addCode, 2, none, [])
abbrev mX2_holds : jM := (yX2_holds, cX2_holds, 7, (some .boolean), [])
theorem sy_X2_holds : jSY mX2_holds 3 := ⟨(jw_3_5 9 rfl rfl), (jw_1_0 5 rfl rfl), ⟨lw_n3.1, lw_n3.2, dscr_9⟩, by decide⟩
theorem cv_X2_48_X2_holds : jSv RX2 48 mX2_holds 3 := ⟨(jw_3_5 6 rfl rfl), (jw_3_5 8 rfl rfl), (js_1 4 rfl), sy_X2_holds⟩
abbrev mX2_untoldAmount : jM := (yX2_untoldAmount, cX2_untoldAmount, 3, (some .int), [])
theorem sy_X2_untoldAmount : jSY mX2_untoldAmount 3 := ⟨(jw_3_5 4 rfl rfl), (jw_1_0 5 rfl rfl), ⟨lw_n3.1, lw_n3.2, dscr_5⟩, by decide⟩
theorem cs_X2_44_X2_untoldAmount : jSs RX2 44 mX2_untoldAmount 3 := ⟨(jw_3_5 2 rfl rfl), (jw_3_5 3 rfl rfl), sy_X2_untoldAmount⟩
theorem fg_X2_52_6 : jFg RX2 52 6 13 := ⟨RX8, TX8, 18, _, rfl, wsX80_tb, by decide, (jw_1_9 9 rfl rfl), Or.inl rfl⟩
abbrev mX8_isLit : jM := (yX8_isLit, cX8_isLit, 3, (some .boolean), [])
theorem sy_X8_isLit : jSY mX8_isLit 2 := ⟨(jw_3_3 13 rfl rfl), (jw_1_0 3 rfl rfl), ⟨lw_n0.1, lw_n0.2, dscr_10⟩, by decide⟩
theorem cv_X2_57_X8_isLit : jSv RX2 57 mX8_isLit 2 := ⟨(jw_3_5 5 rfl rfl), (jw_3_3 11 rfl rfl), (jw_3_3 12 rfl rfl), sy_X8_isLit⟩
theorem fp_X2_61_2 : jFp RX2 61 2 5 false .int := ⟨RX2, TX2, 9, tyX2, rfl, wsX20_tb, tyX2_ok, nmX2, by decide, (jw_1_13 9 rfl rfl), rfl, tyX2_ok 5 (by decide), fun q => by cases q⟩
theorem fg_X2_61_2 : jFg RX2 61 2 5 := ⟨RX2, TX2, 9, _, rfl, wsX20_tb, by decide, (jw_1_13 9 rfl rfl), Or.inl rfl⟩
abbrev mX2_pop : jM := (yX2_pop, cX2_pop, 1, (some .int), [])
theorem sy_X2_pop : jSY mX2_pop 0 := ⟨(jw_3_6 9 rfl rfl), (jw_1_0 5 rfl rfl), ⟨lw_n3.1, lw_n3.2, dscr_11⟩, by decide⟩
theorem cv_X2_77_X2_pop : jSv RX2 77 mX2_pop 0 := ⟨(jw_3_6 6 rfl rfl), (jw_3_6 8 rfl rfl), (js_1 6 rfl), sy_X2_pop⟩
abbrev mX2_isValue : jM := (yX2_isValue, cX2_isValue, 1, (some .boolean), [])
theorem sy_X2_isValue : jSY mX2_isValue 1 := ⟨(jw_3_5 12 rfl rfl), (jw_1_0 5 rfl rfl), ⟨lw_n3.1, lw_n3.2, dscr_12⟩, by decide⟩
theorem cs_X2_64_X2_isValue : jSs RX2 64 mX2_isValue 1 := ⟨(jw_3_5 10 rfl rfl), (jw_3_5 11 rfl rfl), sy_X2_isValue⟩
abbrev mX2_joined : jM := (yX2_joined, cX2_joined, 3, (some .int), [])
theorem sy_X2_joined : jSY mX2_joined 3 := ⟨(jw_3_6 12 rfl rfl), (jw_1_0 5 rfl rfl), ⟨lw_n3.1, lw_n3.2, dscr_13⟩, by decide⟩
theorem cs_X2_81_X2_joined : jSs RX2 81 mX2_joined 3 := ⟨(jw_3_6 10 rfl rfl), (jw_3_6 11 rfl rfl), sy_X2_joined⟩
abbrev mX2_push : jM := (yX2_push, cX2_push, 2, none, [])
theorem sy_X2_push : jSY mX2_push 1 := ⟨(jw_3_6 5 rfl rfl), (jw_1_0 5 rfl rfl), ⟨lw_n3.1, lw_n3.2, dscr_14⟩, by decide⟩
theorem cv_X2_71_X2_push : jSv RX2 71 mX2_push 1 := ⟨(jw_3_6 2 rfl rfl), (jw_3_6 4 rfl rfl), (js_1 5 rfl), sy_X2_push⟩
abbrev mX2_value : jM := (yX2_value, cX2_value, 3, (some .int), [])
theorem sy_X2_value : jSY mX2_value 3 := ⟨(jw_3_5 15 rfl rfl), (jw_1_0 5 rfl rfl), ⟨lw_n3.1, lw_n3.2, dscr_5⟩, by decide⟩
theorem cs_X2_68_X2_value : jSs RX2 68 mX2_value 3 := ⟨(jw_3_5 13 rfl rfl), (jw_3_5 14 rfl rfl), sy_X2_value⟩
theorem fg_X2_24_2 : jFg RX2 24 2 4 := ⟨RX2, TX2, 9, _, rfl, wsX20_tb, by decide, (jw_1_13 8 rfl rfl), Or.inl rfl⟩
theorem fg_X2_85_6 : jFg RX2 85 6 0 := ⟨RX8, TX8, 18, _, rfl, wsX80_tb, by decide, (jw_1_6 0 rfl rfl), Or.inl rfl⟩
theorem cv_X2_88_X8_gap : jSv RX2 88 mX8_gap 2 := ⟨(jw_3_6 0 rfl rfl), (jw_3_2 3 rfl rfl), (jw_3_2 4 rfl rfl), sy_X8_gap⟩
theorem fg_X2_92_6 : jFg RX2 92 6 2 := ⟨RX8, TX8, 18, _, rfl, wsX80_tb, by decide, (jw_1_6 9 rfl rfl), Or.inl rfl⟩
theorem fg_X2_95_6 : jFg RX2 95 6 3 := ⟨RX8, TX8, 18, _, rfl, wsX80_tb, by decide, (jw_1_6 14 rfl rfl), Or.inl rfl⟩
theorem fg_X2_98_6 : jFg RX2 98 6 14 := ⟨RX8, TX8, 18, _, rfl, wsX80_tb, by decide, (jw_1_10 0 rfl rfl), Or.inl rfl⟩
theorem fg_X2_101_6 : jFg RX2 101 6 7 := ⟨RX8, TX8, 18, _, rfl, wsX80_tb, by decide, (jw_1_8 0 rfl rfl), Or.inl rfl⟩
theorem csn_X2_104_X11_bit : jSsN RX2 104 mX11_bit 2 := ⟨(jn_3_6 1 rfl rfl), (jw_2_10 9 rfl rfl), sy_X11_bit⟩
theorem fg_X2_107_6 : jFg RX2 107 6 6 := ⟨RX8, TX8, 18, _, rfl, wsX80_tb, by decide, (jw_1_7 11 rfl rfl), Or.inl rfl⟩
theorem fg_X2_110_6 : jFg RX2 110 6 8 := ⟨RX8, TX8, 18, _, rfl, wsX80_tb, by decide, (jw_1_8 5 rfl rfl), Or.inl rfl⟩
abbrev mX3_init : jM := (yX3_init, cX3_init, 3, none, [])
abbrev mX4_init : jM := (yX4_init, cX4_init, 3, none, [])
theorem sy_X4_init : jSY mX4_init 2 := ⟨(jw_2_1 12 rfl rfl), (jw_1_0 7 rfl rfl), ⟨lw_n11.1, lw_n11.2, dscr_15⟩, by decide⟩
theorem ci_X3_5_X4_init : jSi RX3 5 mX4_init 2 := ⟨(jw_2_3 1 rfl rfl), (jw_2_1 11 rfl rfl), rfl, sy_X4_init⟩
theorem fp_X3_11_3 : jFp RX3 11 3 2 true (.object "RodRings$Law") := ⟨RX3, TX3, 3, tyX3, rfl, wsX30_tb, tyX3_ok, nmX3, by decide, (jw_2_3 2 rfl rfl), rfl, tyX3_ok 2 (by decide), fun _ => rfl⟩
abbrev mX3_readLine : jM := (yX3_readLine, cX3_readLine, 3, (some .boolean), [])
theorem fg_X3_17_3 : jFg RX3 17 3 0 := ⟨RX3, TX3, 3, _, rfl, wsX30_tb, by decide, (jw_2_2 0 rfl rfl), Or.inr (jw_2_2 1 rfl rfl)⟩
abbrev mX10_kind : jM := (yX10_kind, cX10_kind, 1, (some .int), [])
theorem sy_X10_kind : jSY mX10_kind 0 := ⟨(jw_4_3 2 rfl rfl), (jw_1_0 2 rfl rfl), ⟨lw_n4.1, lw_n4.2, dscr_11⟩, by decide⟩
theorem cv_X3_21_X10_kind : jSv RX3 21 mX10_kind 0 := ⟨(jw_4_3 9 rfl rfl), (jw_4_3 0 rfl rfl), (jw_4_3 1 rfl rfl), sy_X10_kind⟩
abbrev mX10_skip : jM := (yX10_skip, cX10_skip, 1, none, [])
theorem sy_X10_skip : jSY mX10_skip 0 := ⟨(jw_4_3 13 rfl rfl), (jw_1_0 2 rfl rfl), ⟨lw_n4.1, lw_n4.2, dscr_0⟩, by decide⟩
theorem cv_X3_27_X10_skip : jSv RX3 27 mX10_skip 0 := ⟨(jw_4_3 10 rfl rfl), (jw_4_3 11 rfl rfl), (jw_4_3 12 rfl rfl), sy_X10_skip⟩
abbrev mX10_takeNumber : jM := (yX10_takeNumber, cX10_takeNumber, 3, (some .int), [])
theorem sy_X10_takeNumber : jSY mX10_takeNumber 2 := ⟨(jw_4_4 1 rfl rfl), (jw_1_0 2 rfl rfl), ⟨lw_n4.1, lw_n4.2, dscr_6⟩, by decide⟩
theorem cv_X3_31_X10_takeNumber : jSv RX3 31 mX10_takeNumber 2 := ⟨(jw_4_3 14 rfl rfl), (jw_4_3 15 rfl rfl), (jw_4_4 0 rfl rfl), sy_X10_takeNumber⟩
theorem fg_X3_11_3 : jFg RX3 11 3 2 := ⟨RX3, TX3, 3, _, rfl, wsX30_tb, by decide, (jw_2_3 2 rfl rfl), Or.inl rfl⟩
theorem sy_X2_addLine : jSY mX2_addLine 2 := ⟨(jw_4_4 5 rfl rfl), (jw_1_0 5 rfl rfl), ⟨lw_n3.1, lw_n3.2, dscr_16⟩, by decide⟩
theorem cv_X3_35_X2_addLine : jSv RX3 35 mX2_addLine 2 := ⟨(jw_4_4 2 rfl rfl), (jw_4_4 3 rfl rfl), (jw_4_4 4 rfl rfl), sy_X2_addLine⟩
abbrev mX10_take : jM := (yX10_take, cX10_take, 2, (some .boolean), [])
theorem sy_X10_take : jSY mX10_take 1 := ⟨(jw_4_4 9 rfl rfl), (jw_1_0 2 rfl rfl), ⟨lw_n4.1, lw_n4.2, dscr_12⟩, by decide⟩
theorem cv_X3_39_X10_take : jSv RX3 39 mX10_take 1 := ⟨(jw_4_4 6 rfl rfl), (jw_4_4 7 rfl rfl), (jw_4_4 8 rfl rfl), sy_X10_take⟩
abbrev mX3_readCondition : jM := (yX3_readCondition, cX3_readCondition, 5, (some .boolean), [])
theorem sy_X3_readCondition : jSY mX3_readCondition 1 := ⟨(jw_4_4 13 rfl rfl), (jw_1_0 9 rfl rfl), ⟨lw_n5.1, lw_n5.2, dscr_12⟩, by decide⟩
theorem cv_X3_43_X3_readCondition : jSv RX3 43 mX3_readCondition 1 := ⟨(jw_4_4 10 rfl rfl), (jw_4_4 12 rfl rfl), (js_1 12 rfl), sy_X3_readCondition⟩
abbrev mX3_readAtom : jM := (yX3_readAtom, cX3_readAtom, 4, (some .boolean), [])
theorem sy_X3_readAtom : jSY mX3_readAtom 1 := ⟨(jw_4_5 1 rfl rfl), (jw_1_0 9 rfl rfl), ⟨lw_n5.1, lw_n5.2, dscr_12⟩, by decide⟩
theorem cv_X3_46_X3_readAtom : jSv RX3 46 mX3_readAtom 1 := ⟨(jw_4_4 14 rfl rfl), (jw_4_5 0 rfl rfl), (js_1 13 rfl), sy_X3_readAtom⟩
theorem sy_X2_addCode : jSY mX2_addCode 1 := ⟨(jw_4_5 5 rfl rfl), (jw_1_0 5 rfl rfl), ⟨lw_n3.1, lw_n3.2, dscr_14⟩, by decide⟩
theorem cv_X3_49_X2_addCode : jSv RX3 49 mX2_addCode 1 := ⟨(jw_4_5 2 rfl rfl), (jw_4_5 3 rfl rfl), (jw_4_5 4 rfl rfl), sy_X2_addCode⟩
abbrev mX3_readComparison : jM := (yX3_readComparison, cX3_readComparison, 3, (some .boolean), [])
theorem sy_X3_readComparison : jSY mX3_readComparison 0 := ⟨(jw_4_5 9 rfl rfl), (jw_1_0 9 rfl rfl), ⟨lw_n5.1, lw_n5.2, dscr_17⟩, by decide⟩
theorem cv_X3_53_X3_readComparison : jSv RX3 53 mX3_readComparison 0 := ⟨(jw_4_5 6 rfl rfl), (jw_4_5 8 rfl rfl), (js_1 14 rfl), sy_X3_readComparison⟩
abbrev mX3_readSum : jM := (yX3_readSum, cX3_readSum, 5, (some .boolean), [])
theorem sy_X3_readSum : jSY mX3_readSum 0 := ⟨(jw_4_5 13 rfl rfl), (jw_1_0 9 rfl rfl), ⟨lw_n5.1, lw_n5.2, dscr_17⟩, by decide⟩
theorem cv_X3_57_X3_readSum : jSv RX3 57 mX3_readSum 0 := ⟨(jw_4_5 10 rfl rfl), (jw_4_5 12 rfl rfl), (js_1 15 rfl), sy_X3_readSum⟩
abbrev mX5_init : jM := (yX5_init, cX5_init, 1, none, [])
theorem oi_X5_3 : Cond.methodLink RX5 3 Lib.objectInit ∈ jall ∧ Cond.instanceMethod Lib.objectInit ∈ jall ∧ Cond.code Lib.objectInit ⟨#[0xb1]⟩ 1 none ∈ jall := ⟨(jw_1_5 0 rfl rfl), (jw_1_2 3 rfl rfl), (jw_1_2 4 rfl rfl)⟩
theorem fp_X5_11_4 : jFp RX5 11 4 0 true (.array .int) := ⟨RX5, TX5, 3, tyX5, rfl, wsX50_tb, tyX5_ok, nmX5, by decide, (jw_1_5 1 rfl rfl), rfl, tyX5_ok 0 (by decide), fun _ => rfl⟩
abbrev mX5_copyFrom : jM := (yX5_copyFrom, cX5_copyFrom, 2, none, [])
theorem fg_X5_11_4 : jFg RX5 11 4 0 := ⟨RX5, TX5, 3, _, rfl, wsX50_tb, by decide, (jw_1_5 1 rfl rfl), Or.inl rfl⟩
theorem cy_X5_15 : Cond.methodLink RX5 15 arraycopyName ∈ jall ∧ Cond.native arraycopyName ∈ jall ∧ Cond.static arraycopyName ∈ jall ∧ Cond.initialized "java/lang/System" ∈ jall := ⟨(jw_2_13 1 rfl rfl), (jw_2_12 12 rfl rfl), (jw_2_12 11 rfl rfl), (jw_1_0 13 rfl rfl)⟩
theorem fg_X5_21_4 : jFg RX5 21 4 1 := ⟨RX5, TX5, 3, _, rfl, wsX50_tb, by decide, (jw_1_5 2 rfl rfl), Or.inl rfl⟩
theorem fp_X5_21_4 : jFp RX5 21 4 1 false .int := ⟨RX5, TX5, 3, tyX5, rfl, wsX50_tb, tyX5_ok, nmX5, by decide, (jw_1_5 2 rfl rfl), rfl, tyX5_ok 1 (by decide), fun q => by cases q⟩
theorem fg_X5_25_4 : jFg RX5 25 4 2 := ⟨RX5, TX5, 3, _, rfl, wsX50_tb, by decide, (jw_1_5 4 rfl rfl), Or.inl rfl⟩
theorem fp_X5_25_4 : jFp RX5 25 4 2 false .int := ⟨RX5, TX5, 3, tyX5, rfl, wsX50_tb, tyX5_ok, nmX5, by decide, (jw_1_5 4 rfl rfl), rfl, tyX5_ok 2 (by decide), fun q => by cases q⟩
theorem fg_X5_28_6 : jFg RX5 28 6 14 := ⟨RX8, TX8, 18, _, rfl, wsX80_tb, by decide, (jw_1_9 13 rfl rfl), Or.inl rfl⟩
theorem st_X5_33 : Cond.fieldLink RX5 33 "RodRings$Log" "SHIFTS" "[I" ∈ jall := (jw_5_4 15 rfl rfl)
theorem fg_X5_36_6 : jFg RX5 36 6 13 := ⟨RX8, TX8, 18, _, rfl, wsX80_tb, by decide, (jw_1_9 7 rfl rfl), Or.inl rfl⟩
theorem fg_X5_39_6 : jFg RX5 39 6 0 := ⟨RX8, TX8, 18, _, rfl, wsX80_tb, by decide, (jw_1_5 14 rfl rfl), Or.inl rfl⟩
theorem mm_X5_42 : Cond.methodLink RX5 42 Lib.Math.min.name ∈ jall ∧ Cond.static Lib.Math.min.name ∈ jall ∧ Cond.initialized "java/lang/Math" ∈ jall ∧ Cond.code Lib.Math.min.name Lib.Math.min.code 2 (some .int) ∈ jall := ⟨(jw_5_5 1 rfl rfl), (jw_2_14 9 rfl rfl), (jw_1_1 2 rfl rfl), (jw_2_14 10 rfl rfl)⟩
abbrev mX5_read : jM := (yX5_read, cX5_read, 4, (some .int), [])
abbrev mJ9_floorMod_7cf53 : jM := (yJ9_floorMod_7cf53, cJ9_floorMod_7cf53, 3, (some .int), [])
theorem sy_J9_floorMod_7cf53 : jSY mJ9_floorMod_7cf53 2 := ⟨(jw_6_8 5 rfl rfl), (jw_1_1 2 rfl rfl), ⟨lw_n12.1, lw_n12.2, dscr_6⟩, by decide⟩
theorem cs_X5_48_J9_floorMod_7cf53 : jSs RX5 48 mJ9_floorMod_7cf53 2 := ⟨(jw_6_8 3 rfl rfl), (jw_6_8 4 rfl rfl), sy_J9_floorMod_7cf53⟩
theorem st_X5_51 : Cond.fieldLink RX5 51 "RodRings$Log" "MASKS" "[I" ∈ jall := (jw_6_8 6 rfl rfl)
abbrev mX5_rowsOf : jM := (yX5_rowsOf, cX5_rowsOf, 4, (some .int), [])
theorem sy_X5_read : jSY mX5_read 2 := ⟨(jw_6_8 2 rfl rfl), (jw_1_0 4 rfl rfl), ⟨lw_n10.1, lw_n10.2, dscr_6⟩, by decide⟩
theorem cv_X5_54_X5_read : jSv RX5 54 mX5_read 2 := ⟨(jw_6_7 15 rfl rfl), (jw_6_8 0 rfl rfl), (jw_6_8 1 rfl rfl), sy_X5_read⟩
abbrev mX5_latestPlace : jM := (yX5_latestPlace, cX5_latestPlace, 3, (some .int), [])
abbrev mX6_hangsBy : jM := (yX6_hangsBy, cX6_hangsBy, 6, (some .int), [])
theorem fg_X6_9_6 : jFg RX6 9 6 8 := ⟨RX8, TX8, 18, _, rfl, wsX80_tb, by decide, (jw_1_8 1 rfl rfl), Or.inl rfl⟩
theorem csn_X6_15_X11_bit : jSsN RX6 15 mX11_bit 2 := ⟨(jn_3_1 6 rfl rfl), (jw_2_10 9 rfl rfl), sy_X11_bit⟩
theorem fg_X6_19_6 : jFg RX6 19 6 5 := ⟨RX8, TX8, 18, _, rfl, wsX80_tb, by decide, (jw_1_7 4 rfl rfl), Or.inl rfl⟩
theorem fg_X6_22_6 : jFg RX6 22 6 0 := ⟨RX8, TX8, 18, _, rfl, wsX80_tb, by decide, (jw_1_5 13 rfl rfl), Or.inl rfl⟩
theorem mm_X6_26 : Cond.methodLink RX6 26 Lib.Math.abs.name ∈ jall ∧ Cond.static Lib.Math.abs.name ∈ jall ∧ Cond.initialized "java/lang/Math" ∈ jall ∧ Cond.code Lib.Math.abs.name Lib.Math.abs.code 1 (some .int) ∈ jall := ⟨(jw_3_7 8 rfl rfl), (jw_3_7 9 rfl rfl), (jw_1_1 2 rfl rfl), (jw_3_7 10 rfl rfl)⟩
abbrev mX6_share : jM := (yX6_share, cX6_share, 3, (some .int), [])
abbrev mX8_allFades : jM := (yX8_allFades, cX8_allFades, 3, (some .int), [])
theorem sy_X8_allFades : jSY mX8_allFades 0 := ⟨(jw_5_2 7 rfl rfl), (jw_1_0 3 rfl rfl), ⟨lw_n0.1, lw_n0.2, dscr_11⟩, by decide⟩
theorem cv_X6_32_X8_allFades : jSv RX6 32 mX8_allFades 0 := ⟨(jw_5_2 4 rfl rfl), (jw_5_2 5 rfl rfl), (jw_5_2 6 rfl rfl), sy_X8_allFades⟩
theorem fg_X6_36_6 : jFg RX6 36 6 2 := ⟨RX8, TX8, 18, _, rfl, wsX80_tb, by decide, (jw_1_6 5 rfl rfl), Or.inl rfl⟩
abbrev mX6_outOfOrder : jM := (yX6_outOfOrder, cX6_outOfOrder, 3, (some .int), [])
abbrev mX6_isInOrder : jM := (yX6_isInOrder, cX6_isInOrder, 4, (some .boolean), [])
theorem sy_X6_isInOrder : jSY mX6_isInOrder 2 := ⟨(jw_3_1 5 rfl rfl), (jw_1_1 9 rfl rfl), ⟨lw_n13.1, lw_n13.2, dscr_18⟩, by decide⟩
theorem cs_X6_39_X6_isInOrder : jSs RX6 39 mX6_isInOrder 2 := ⟨(jw_3_1 3 rfl rfl), (jw_3_1 4 rfl rfl), sy_X6_isInOrder⟩
abbrev mJ6_bitCount_0f7a4 : jM := (yJ6_bitCount_0f7a4, cJ6_bitCount_0f7a4, 1, (some .int), [])
theorem sy_J6_bitCount_0f7a4 : jSY mJ6_bitCount_0f7a4 1 := ⟨(jw_2_11 6 rfl rfl), (jw_1_1 11 rfl rfl), ⟨lw_n14.1, lw_n14.2, dscr_19⟩, by decide⟩
theorem cs_X6_45_J6_bitCount_0f7a4 : jSs RX6 45 mJ6_bitCount_0f7a4 1 := ⟨(jw_3_1 7 rfl rfl), (jw_2_11 5 rfl rfl), sy_J6_bitCount_0f7a4⟩
theorem mm_X6_50 : Cond.methodLink RX6 50 Lib.Math.max.name ∈ jall ∧ Cond.static Lib.Math.max.name ∈ jall ∧ Cond.initialized "java/lang/Math" ∈ jall ∧ Cond.code Lib.Math.max.name Lib.Math.max.code 2 (some .int) ∈ jall := ⟨(jw_3_1 8 rfl rfl), (jw_3_1 9 rfl rfl), (jw_1_1 2 rfl rfl), (jw_3_1 10 rfl rfl)⟩
abbrev mX6_tightest : jM := (yX6_tightest, cX6_tightest, 6, (some .int), [])
abbrev mX6_spareCloth : jM := (yX6_spareCloth, cX6_spareCloth, 3, (some .int), [])
theorem fg_X6_53_6 : jFg RX6 53 6 1 := ⟨RX8, TX8, 18, _, rfl, wsX80_tb, by decide, (jw_1_6 2 rfl rfl), Or.inl rfl⟩
theorem cv_X6_56_X8_gap : jSv RX6 56 mX8_gap 2 := ⟨(jw_3_2 2 rfl rfl), (jw_3_2 3 rfl rfl), (jw_3_2 4 rfl rfl), sy_X8_gap⟩
abbrev mX6_tautRings : jM := (yX6_tautRings, cX6_tautRings, 3, (some .int), [])
theorem csn_X6_59_X11_withBit : jSsN RX6 59 mX11_withBit 3 := ⟨(jn_3_2 13 rfl rfl), (jw_3_2 14 rfl rfl), sy_X11_withBit⟩
abbrev mX6_litRings : jM := (yX6_litRings, cX6_litRings, 4, (some .int), [])
theorem cv_X6_63_X8_isLit : jSv RX6 63 mX8_isLit 2 := ⟨(jw_3_3 10 rfl rfl), (jw_3_3 11 rfl rfl), (jw_3_3 12 rfl rfl), sy_X8_isLit⟩
abbrev mX6_sunniest : jM := (yX6_sunniest, cX6_sunniest, 5, (some .int), [])
abbrev mX6_litHours : jM := (yX6_litHours, cX6_litHours, 4, (some .int), [])
theorem sy_X6_litHours : jSY mX6_litHours 2 := ⟨(jw_3_3 9 rfl rfl), (jw_1_1 9 rfl rfl), ⟨lw_n13.1, lw_n13.2, dscr_3⟩, by decide⟩
theorem cs_X6_67_X6_litHours : jSs RX6 67 mX6_litHours 2 := ⟨(jw_3_3 7 rfl rfl), (jw_3_3 8 rfl rfl), sy_X6_litHours⟩
abbrev mX6_evenLength : jM := (yX6_evenLength, cX6_evenLength, 6, (some .int), [])
theorem fg_X6_71_6 : jFg RX6 71 6 3 := ⟨RX8, TX8, 18, _, rfl, wsX80_tb, by decide, (jw_1_6 13 rfl rfl), Or.inl rfl⟩
abbrev mX6_enviousPairs : jM := (yX6_enviousPairs, cX6_enviousPairs, 3, (some .int), [])
abbrev mX6_restingChoices : jM := (yX6_restingChoices, cX6_restingChoices, 5, (some .int), [])
abbrev mX6_gain : jM := (yX6_gain, cX6_gain, 3, (some .int), [])
theorem sy_X6_gain : jSY mX6_gain 3 := ⟨(jw_6_4 13 rfl rfl), (jw_1_1 9 rfl rfl), ⟨lw_n13.1, lw_n13.2, dscr_20⟩, by decide⟩
theorem cs_X6_74_X6_gain : jSs RX6 74 mX6_gain 3 := ⟨(jw_6_4 11 rfl rfl), (jw_6_4 12 rfl rfl), sy_X6_gain⟩
theorem fg_X6_78_6 : jFg RX6 78 6 9 := ⟨RX8, TX8, 18, _, rfl, wsX80_tb, by decide, (jw_1_8 11 rfl rfl), Or.inl rfl⟩
abbrev mX6_largestBunch : jM := (yX6_largestBunch, cX6_largestBunch, 4, (some .int), [])
abbrev mX6_thickBeyondJoin : jM := (yX6_thickBeyondJoin, cX6_thickBeyondJoin, 3, (some .int), [])
theorem fg_X6_81_6 : jFg RX6 81 6 6 := ⟨RX8, TX8, 18, _, rfl, wsX80_tb, by decide, (jw_1_7 12 rfl rfl), Or.inl rfl⟩
theorem fg_X6_84_6 : jFg RX6 84 6 11 := ⟨RX8, TX8, 18, _, rfl, wsX80_tb, by decide, (jw_1_9 1 rfl rfl), Or.inl rfl⟩
abbrev mX6_likePairs : jM := (yX6_likePairs, cX6_likePairs, 4, (some .int), [])
abbrev mX7_init : jM := (yX7_init, cX7_init, 3, none, [])
theorem oi_X7_3 : Cond.methodLink RX7 3 Lib.objectInit ∈ jall ∧ Cond.instanceMethod Lib.objectInit ∈ jall ∧ Cond.code Lib.objectInit ⟨#[0xb1]⟩ 1 none ∈ jall := ⟨(jw_2_4 10 rfl rfl), (jw_1_2 3 rfl rfl), (jw_1_2 4 rfl rfl)⟩
theorem fp_X7_11_5 : jFp RX7 11 5 2 true (.array .int) := ⟨RX7, TX7, 7, tyX7, rfl, wsX70_tb, tyX7_ok, nmX7, by decide, (jw_2_4 13 rfl rfl), rfl, tyX7_ok 2 (by decide), fun _ => rfl⟩
theorem fp_X7_15_5 : jFp RX7 15 5 3 true (.array .int) := ⟨RX7, TX7, 7, tyX7, rfl, wsX70_tb, tyX7_ok, nmX7, by decide, (jw_2_4 14 rfl rfl), rfl, tyX7_ok 3 (by decide), fun _ => rfl⟩
theorem fp_X7_18_5 : jFp RX7 18 5 0 true (.object "RodRings$Tape") := ⟨RX7, TX7, 7, tyX7, rfl, wsX70_tb, tyX7_ok, nmX7, by decide, (jw_2_4 11 rfl rfl), rfl, tyX7_ok 0 (by decide), fun _ => rfl⟩
theorem fp_X7_22_5 : jFp RX7 22 5 1 true (.object "RodRings$Rod") := ⟨RX7, TX7, 7, tyX7, rfl, wsX70_tb, tyX7_ok, nmX7, by decide, (jw_2_4 12 rfl rfl), rfl, tyX7_ok 1 (by decide), fun _ => rfl⟩
abbrev mX7_shadiest : jM := (yX7_shadiest, cX7_shadiest, 7, (some .int), [])
theorem fg_X7_22_5 : jFg RX7 22 5 1 := ⟨RX7, TX7, 7, _, rfl, wsX70_tb, by decide, (jw_2_4 12 rfl rfl), Or.inl rfl⟩
theorem cv_X7_26_X8_copyFrom : jSv RX7 26 mX8_copyFrom 1 := ⟨(jw_2_12 6 rfl rfl), (jw_2_12 7 rfl rfl), (jw_2_12 8 rfl rfl), sy_X8_copyFrom⟩
abbrev mX8_shadedChairs : jM := (yX8_shadedChairs, cX8_shadedChairs, 1, (some .int), [])
theorem sy_X8_shadedChairs : jSY mX8_shadedChairs 0 := ⟨(jw_2_11 2 rfl rfl), (jw_1_0 3 rfl rfl), ⟨lw_n0.1, lw_n0.2, dscr_11⟩, by decide⟩
theorem cv_X7_32_X8_shadedChairs : jSv RX7 32 mX8_shadedChairs 0 := ⟨(jw_2_13 6 rfl rfl), (jw_2_11 0 rfl rfl), (jw_2_11 1 rfl rfl), sy_X8_shadedChairs⟩
theorem fg_X7_36_6 : jFg RX7 36 6 5 := ⟨RX8, TX8, 18, _, rfl, wsX80_tb, by decide, (jw_1_7 2 rfl rfl), Or.inl rfl⟩
abbrev mX8_hangAs : jM := (yX8_hangAs, cX8_hangAs, 2, none, [])
theorem sy_X8_hangAs : jSY mX8_hangAs 1 := ⟨(jw_2_13 5 rfl rfl), (jw_1_0 3 rfl rfl), ⟨lw_n0.1, lw_n0.2, dscr_1⟩, by decide⟩
theorem cv_X7_40_X8_hangAs : jSv RX7 40 mX8_hangAs 1 := ⟨(jw_2_13 7 rfl rfl), (jw_2_13 3 rfl rfl), (jw_2_13 4 rfl rfl), sy_X8_hangAs⟩
abbrev mX8_move : jM := (yX8_move, cX8_move, 7, (some .int), [])
theorem sy_X8_move : jSY mX8_move 3 := ⟨(jw_2_13 11 rfl rfl), (jw_1_0 3 rfl rfl), ⟨lw_n0.1, lw_n0.2, dscr_21⟩, by decide⟩
theorem cv_X7_43_X8_move : jSv RX7 43 mX8_move 3 := ⟨(jw_2_13 8 rfl rfl), (jw_2_13 9 rfl rfl), (jw_2_13 10 rfl rfl), sy_X8_move⟩
abbrev mX7_seekShade : jM := (yX7_seekShade, cX7_seekShade, 5, none, [])
theorem fp_X7_47_5 : jFp RX7 47 5 6 false .int := ⟨RX7, TX7, 7, tyX7, rfl, wsX70_tb, tyX7_ok, nmX7, by decide, (jw_2_5 3 rfl rfl), rfl, tyX7_ok 6 (by decide), fun q => by cases q⟩
abbrev mX8_shadow : jM := (yX8_shadow, cX8_shadow, 3, (some .int), [])
theorem sy_X8_shadow : jSY mX8_shadow 0 := ⟨(jw_2_10 7 rfl rfl), (jw_1_0 3 rfl rfl), ⟨lw_n0.1, lw_n0.2, dscr_11⟩, by decide⟩
theorem cv_X7_50_X8_shadow : jSv RX7 50 mX8_shadow 0 := ⟨(jw_3_0 3 rfl rfl), (jw_2_10 5 rfl rfl), (jw_2_10 6 rfl rfl), sy_X8_shadow⟩
theorem fp_X7_53_5 : jFp RX7 53 5 5 false .int := ⟨RX7, TX7, 7, tyX7, rfl, wsX70_tb, tyX7_ok, nmX7, by decide, (jw_2_5 1 rfl rfl), rfl, tyX7_ok 5 (by decide), fun q => by cases q⟩
theorem fg_X7_53_5 : jFg RX7 53 5 5 := ⟨RX7, TX7, 7, _, rfl, wsX70_tb, by decide, (jw_2_5 1 rfl rfl), Or.inl rfl⟩
abbrev mX7_stepsToShade : jM := (yX7_stepsToShade, cX7_stepsToShade, 5, (some .int), [])
theorem sy_X7_stepsToShade : jSY mX7_stepsToShade 3 := ⟨(jw_3_0 7 rfl rfl), (jw_1_0 11 rfl rfl), ⟨lw_n1.1, lw_n1.2, dscr_20⟩, by decide⟩
theorem cv_X7_56_X7_stepsToShade : jSv RX7 56 mX7_stepsToShade 3 := ⟨(jw_3_0 4 rfl rfl), (jw_3_0 6 rfl rfl), (js_1 2 rfl), sy_X7_stepsToShade⟩
abbrev mX7_fewestFreed : jM := (yX7_fewestFreed, cX7_fewestFreed, 8, (some .int), [])
theorem fg_X7_66_6 : jFg RX7 66 6 9 := ⟨RX8, TX8, 18, _, rfl, wsX80_tb, by decide, (jw_1_8 7 rfl rfl), Or.inl rfl⟩
abbrev mX7_farWith : jM := (yX7_farWith, cX7_farWith, 6, (some .int), [])
theorem sy_X7_farWith : jSY mX7_farWith 5 := ⟨(jw_5_14 4 rfl rfl), (jw_1_0 11 rfl rfl), ⟨lw_n1.1, lw_n1.2, dscr_22⟩, by decide⟩
theorem cv_X7_69_X7_farWith : jSv RX7 69 mX7_farWith 5 := ⟨(jw_5_14 1 rfl rfl), (jw_5_14 3 rfl rfl), (js_2 12 rfl), sy_X7_farWith⟩
theorem cs_X7_60_J6_bitCount_0f7a4 : jSs RX7 60 mJ6_bitCount_0f7a4 1 := ⟨(jw_6_1 5 rfl rfl), (jw_2_11 5 rfl rfl), sy_J6_bitCount_0f7a4⟩
theorem fp_X7_66_6 : jFp RX7 66 6 9 false .int := ⟨RX8, TX8, 18, tyX8, rfl, wsX80_tb, tyX8_ok, nmX8, by decide, (jw_1_8 7 rfl rfl), rfl, tyX8_ok 9 (by decide), fun q => by cases q⟩
abbrev mX7_areRows : jM := (yX7_areRows, cX7_areRows, 3, (some .boolean), [])
theorem fg_X7_18_5 : jFg RX7 18 5 0 := ⟨RX7, TX7, 7, _, rfl, wsX70_tb, by decide, (jw_2_4 11 rfl rfl), Or.inl rfl⟩
theorem fg_X7_73_8 : jFg RX7 73 8 6 := ⟨RX10, TX10, 7, _, rfl, wsX100_tb, by decide, (jw_1_3 3 rfl rfl), Or.inl rfl⟩
abbrev mX10_at : jM := (yX10_at, cX10_at, 2, (some .int), [])
theorem sy_X10_at : jSY mX10_at 1 := ⟨(jw_3_13 9 rfl rfl), (jw_1_0 2 rfl rfl), ⟨lw_n4.1, lw_n4.2, dscr_19⟩, by decide⟩
theorem cv_X7_78_X10_at : jSv RX7 78 mX10_at 1 := ⟨(jw_5_13 8 rfl rfl), (jw_3_13 7 rfl rfl), (jw_3_13 8 rfl rfl), sy_X10_at⟩
abbrev mX7_seekSnags : jM := (yX7_seekSnags, cX7_seekSnags, 4, none, [])
theorem fp_X7_81_5 : jFp RX7 81 5 4 false .int := ⟨RX7, TX7, 7, tyX7, rfl, wsX70_tb, tyX7_ok, nmX7, by decide, (jw_2_4 15 rfl rfl), rfl, tyX7_ok 4 (by decide), fun q => by cases q⟩
theorem fg_X7_81_5 : jFg RX7 81 5 4 := ⟨RX7, TX7, 7, _, rfl, wsX70_tb, by decide, (jw_2_4 15 rfl rfl), Or.inl rfl⟩
abbrev mX7_isFitting : jM := (yX7_isFitting, cX7_isFitting, 5, (some .boolean), [])
theorem sy_X7_isFitting : jSY mX7_isFitting 2 := ⟨(jw_5_14 0 rfl rfl), (jw_1_0 11 rfl rfl), ⟨lw_n1.1, lw_n1.2, dscr_18⟩, by decide⟩
theorem cv_X7_84_X7_isFitting : jSv RX7 84 mX7_isFitting 2 := ⟨(jw_5_13 13 rfl rfl), (jw_5_13 15 rfl rfl), (js_2 11 rfl), sy_X7_isFitting⟩
theorem fg_X7_11_5 : jFg RX7 11 5 2 := ⟨RX7, TX7, 7, _, rfl, wsX70_tb, by decide, (jw_2_4 13 rfl rfl), Or.inl rfl⟩
abbrev mX7_inAllFitting : jM := (yX7_inAllFitting, cX7_inAllFitting, 3, (some .int), [])
abbrev mX7_partingPull : jM := (yX7_partingPull, cX7_partingPull, 6, (some .int), [])
abbrev mX7_greatestPart : jM := (yX7_greatestPart, cX7_greatestPart, 6, (some .int), [])
theorem sy_X7_greatestPart : jSY mX7_greatestPart 2 := ⟨(jw_6_0 8 rfl rfl), (jw_1_0 11 rfl rfl), ⟨lw_n1.1, lw_n1.2, dscr_3⟩, by decide⟩
theorem cv_X7_88_X7_greatestPart : jSv RX7 88 mX7_greatestPart 2 := ⟨(jw_6_0 5 rfl rfl), (jw_6_0 7 rfl rfl), (js_2 13 rfl), sy_X7_greatestPart⟩
theorem fg_X7_15_5 : jFg RX7 15 5 3 := ⟨RX7, TX7, 7, _, rfl, wsX70_tb, by decide, (jw_2_4 14 rfl rfl), Or.inl rfl⟩
theorem mm_X7_92 : Cond.methodLink RX7 92 Lib.Math.max.name ∈ jall ∧ Cond.static Lib.Math.max.name ∈ jall ∧ Cond.initialized "java/lang/Math" ∈ jall ∧ Cond.code Lib.Math.max.name Lib.Math.max.code 2 (some .int) ∈ jall := ⟨(jw_6_0 9 rfl rfl), (jw_3_1 9 rfl rfl), (jw_1_1 2 rfl rfl), (jw_3_1 10 rfl rfl)⟩
theorem oi_X8_3 : Cond.methodLink RX8 3 Lib.objectInit ∈ jall ∧ Cond.instanceMethod Lib.objectInit ∈ jall ∧ Cond.code Lib.objectInit ⟨#[0xb1]⟩ 1 none ∈ jall := ⟨(jw_1_4 10 rfl rfl), (jw_1_2 3 rfl rfl), (jw_1_2 4 rfl rfl)⟩
theorem fp_X8_9_6 : jFp RX8 9 6 0 true (.array .int) := ⟨RX8, TX8, 18, tyX8, rfl, wsX80_tb, tyX8_ok, nmX8, by decide, (jw_1_5 12 rfl rfl), rfl, tyX8_ok 0 (by decide), fun _ => rfl⟩
theorem fp_X8_15_6 : jFp RX8 15 6 1 true (.array .int) := ⟨RX8, TX8, 18, tyX8, rfl, wsX80_tb, tyX8_ok, nmX8, by decide, (jw_1_6 1 rfl rfl), rfl, tyX8_ok 1 (by decide), fun _ => rfl⟩
theorem fp_X8_18_6 : jFp RX8 18 6 2 true (.array .int) := ⟨RX8, TX8, 18, tyX8, rfl, wsX80_tb, tyX8_ok, nmX8, by decide, (jw_1_6 4 rfl rfl), rfl, tyX8_ok 2 (by decide), fun _ => rfl⟩
theorem fp_X8_21_6 : jFp RX8 21 6 3 true (.array .int) := ⟨RX8, TX8, 18, tyX8, rfl, wsX80_tb, tyX8_ok, nmX8, by decide, (jw_1_6 10 rfl rfl), rfl, tyX8_ok 3 (by decide), fun _ => rfl⟩
theorem fn_X8_24 : jFn RX8 24 4 3 [.null, .int 0, .int 0] := ⟨RX5, TX5, tyX5, rfl, wsX50_tb, tyX5_ok, (jw_1_4 11 rfl rfl), (jw_1_4 12 rfl rfl), (jw_1_0 4 rfl rfl), by decide⟩
theorem sy_X5_init : jSY mX5_init 0 := ⟨(jw_1_4 15 rfl rfl), (jw_1_0 4 rfl rfl), ⟨lw_n10.1, lw_n10.2, dscr_0⟩, by decide⟩
theorem cin_X8_26_X5_init : jSiN RX8 26 mX5_init 0 := ⟨(jn_1_4 13 rfl rfl), (jw_1_4 14 rfl rfl), rfl, sy_X5_init⟩
theorem fp_X8_27_6 : jFp RX8 27 6 4 true (.object "RodRings$Log") := ⟨RX8, TX8, 18, tyX8, rfl, wsX80_tb, tyX8_ok, nmX8, by decide, (jw_1_6 15 rfl rfl), rfl, tyX8_ok 4 (by decide), fun _ => rfl⟩
theorem fp_X8_31_6 : jFp RX8 31 6 11 false .int := ⟨RX8, TX8, 18, tyX8, rfl, wsX80_tb, tyX8_ok, nmX8, by decide, (jw_1_8 15 rfl rfl), rfl, tyX8_ok 11 (by decide), fun q => by cases q⟩
theorem fp_X8_35_6 : jFp RX8 35 6 12 false .int := ⟨RX8, TX8, 18, tyX8, rfl, wsX80_tb, tyX8_ok, nmX8, by decide, (jw_1_9 3 rfl rfl), rfl, tyX8_ok 12 (by decide), fun q => by cases q⟩
theorem fp_X8_38_6 : jFp RX8 38 6 16 false .int := ⟨RX8, TX8, 18, tyX8, rfl, wsX80_tb, tyX8_ok, nmX8, by decide, (jw_1_10 4 rfl rfl), rfl, tyX8_ok 16 (by decide), fun q => by cases q⟩
theorem fg_X8_15_6 : jFg RX8 15 6 1 := ⟨RX8, TX8, 18, _, rfl, wsX80_tb, by decide, (jw_1_6 1 rfl rfl), Or.inl rfl⟩
theorem cy_X8_41 : Cond.methodLink RX8 41 arraycopyName ∈ jall ∧ Cond.native arraycopyName ∈ jall ∧ Cond.static arraycopyName ∈ jall ∧ Cond.initialized "java/lang/System" ∈ jall := ⟨(jw_2_12 10 rfl rfl), (jw_2_12 12 rfl rfl), (jw_2_12 11 rfl rfl), (jw_1_0 13 rfl rfl)⟩
theorem fg_X8_18_6 : jFg RX8 18 6 2 := ⟨RX8, TX8, 18, _, rfl, wsX80_tb, by decide, (jw_1_6 4 rfl rfl), Or.inl rfl⟩
theorem fg_X8_21_6 : jFg RX8 21 6 3 := ⟨RX8, TX8, 18, _, rfl, wsX80_tb, by decide, (jw_1_6 10 rfl rfl), Or.inl rfl⟩
theorem fg_X8_27_6 : jFg RX8 27 6 4 := ⟨RX8, TX8, 18, _, rfl, wsX80_tb, by decide, (jw_1_6 15 rfl rfl), Or.inl rfl⟩
theorem sy_X5_copyFrom : jSY mX5_copyFrom 1 := ⟨(jw_2_13 0 rfl rfl), (jw_1_0 4 rfl rfl), ⟨lw_n10.1, lw_n10.2, dscr_23⟩, by decide⟩
theorem cv_X8_47_X5_copyFrom : jSv RX8 47 mX5_copyFrom 1 := ⟨(jw_2_12 13 rfl rfl), (jw_2_12 14 rfl rfl), (jw_2_12 15 rfl rfl), sy_X5_copyFrom⟩
theorem fg_X8_51_6 : jFg RX8 51 6 5 := ⟨RX8, TX8, 18, _, rfl, wsX80_tb, by decide, (jw_1_7 5 rfl rfl), Or.inl rfl⟩
theorem fp_X8_51_6 : jFp RX8 51 6 5 false .int := ⟨RX8, TX8, 18, tyX8, rfl, wsX80_tb, tyX8_ok, nmX8, by decide, (jw_1_7 5 rfl rfl), rfl, tyX8_ok 5 (by decide), fun q => by cases q⟩
theorem fg_X8_54_6 : jFg RX8 54 6 6 := ⟨RX8, TX8, 18, _, rfl, wsX80_tb, by decide, (jw_1_7 8 rfl rfl), Or.inl rfl⟩
theorem fp_X8_54_6 : jFp RX8 54 6 6 false .int := ⟨RX8, TX8, 18, tyX8, rfl, wsX80_tb, tyX8_ok, nmX8, by decide, (jw_1_7 8 rfl rfl), rfl, tyX8_ok 6 (by decide), fun q => by cases q⟩
theorem fg_X8_57_6 : jFg RX8 57 6 7 := ⟨RX8, TX8, 18, _, rfl, wsX80_tb, by decide, (jw_1_7 13 rfl rfl), Or.inl rfl⟩
theorem fp_X8_57_6 : jFp RX8 57 6 7 false .int := ⟨RX8, TX8, 18, tyX8, rfl, wsX80_tb, tyX8_ok, nmX8, by decide, (jw_1_7 13 rfl rfl), rfl, tyX8_ok 7 (by decide), fun q => by cases q⟩
theorem fg_X8_60_6 : jFg RX8 60 6 8 := ⟨RX8, TX8, 18, _, rfl, wsX80_tb, by decide, (jw_1_8 2 rfl rfl), Or.inl rfl⟩
theorem fp_X8_60_6 : jFp RX8 60 6 8 false .int := ⟨RX8, TX8, 18, tyX8, rfl, wsX80_tb, tyX8_ok, nmX8, by decide, (jw_1_8 2 rfl rfl), rfl, tyX8_ok 8 (by decide), fun q => by cases q⟩
theorem fg_X8_63_6 : jFg RX8 63 6 10 := ⟨RX8, TX8, 18, _, rfl, wsX80_tb, by decide, (jw_1_8 12 rfl rfl), Or.inl rfl⟩
theorem fp_X8_63_6 : jFp RX8 63 6 10 false .int := ⟨RX8, TX8, 18, tyX8, rfl, wsX80_tb, tyX8_ok, nmX8, by decide, (jw_1_8 12 rfl rfl), rfl, tyX8_ok 10 (by decide), fun q => by cases q⟩
theorem fg_X8_31_6 : jFg RX8 31 6 11 := ⟨RX8, TX8, 18, _, rfl, wsX80_tb, by decide, (jw_1_8 15 rfl rfl), Or.inl rfl⟩
theorem fg_X8_35_6 : jFg RX8 35 6 12 := ⟨RX8, TX8, 18, _, rfl, wsX80_tb, by decide, (jw_1_9 3 rfl rfl), Or.inl rfl⟩
theorem fg_X8_66_6 : jFg RX8 66 6 13 := ⟨RX8, TX8, 18, _, rfl, wsX80_tb, by decide, (jw_1_9 6 rfl rfl), Or.inl rfl⟩
theorem fp_X8_66_6 : jFp RX8 66 6 13 false .int := ⟨RX8, TX8, 18, tyX8, rfl, wsX80_tb, tyX8_ok, nmX8, by decide, (jw_1_9 6 rfl rfl), rfl, tyX8_ok 13 (by decide), fun q => by cases q⟩
theorem fg_X8_69_6 : jFg RX8 69 6 14 := ⟨RX8, TX8, 18, _, rfl, wsX80_tb, by decide, (jw_1_9 12 rfl rfl), Or.inl rfl⟩
theorem fp_X8_69_6 : jFp RX8 69 6 14 false .int := ⟨RX8, TX8, 18, tyX8, rfl, wsX80_tb, tyX8_ok, nmX8, by decide, (jw_1_9 12 rfl rfl), rfl, tyX8_ok 14 (by decide), fun q => by cases q⟩
theorem fg_X8_38_6 : jFg RX8 38 6 16 := ⟨RX8, TX8, 18, _, rfl, wsX80_tb, by decide, (jw_1_10 4 rfl rfl), Or.inl rfl⟩
theorem fg_X8_72_6 : jFg RX8 72 6 17 := ⟨RX8, TX8, 18, _, rfl, wsX80_tb, by decide, (jw_1_10 7 rfl rfl), Or.inl rfl⟩
theorem fp_X8_72_6 : jFp RX8 72 6 17 false .int := ⟨RX8, TX8, 18, tyX8, rfl, wsX80_tb, tyX8_ok, nmX8, by decide, (jw_1_10 7 rfl rfl), rfl, tyX8_ok 17 (by decide), fun q => by cases q⟩
theorem cv_X8_75_X8_hangAs : jSv RX8 75 mX8_hangAs 1 := ⟨(jw_2_13 2 rfl rfl), (jw_2_13 3 rfl rfl), (jw_2_13 4 rfl rfl), sy_X8_hangAs⟩
theorem fg_X8_9_6 : jFg RX8 9 6 0 := ⟨RX8, TX8, 18, _, rfl, wsX80_tb, by decide, (jw_1_5 12 rfl rfl), Or.inl rfl⟩
theorem fg_X8_79_6 : jFg RX8 79 6 15 := ⟨RX8, TX8, 18, _, rfl, wsX80_tb, by decide, (jw_1_10 2 rfl rfl), Or.inl rfl⟩
theorem fp_X8_79_6 : jFp RX8 79 6 15 false .int := ⟨RX8, TX8, 18, tyX8, rfl, wsX80_tb, tyX8_ok, nmX8, by decide, (jw_1_10 2 rfl rfl), rfl, tyX8_ok 15 (by decide), fun q => by cases q⟩
theorem fg_X8_82_6 : jFg RX8 82 6 9 := ⟨RX8, TX8, 18, _, rfl, wsX80_tb, by decide, (jw_1_8 6 rfl rfl), Or.inl rfl⟩
theorem fp_X8_82_6 : jFp RX8 82 6 9 false .int := ⟨RX8, TX8, 18, tyX8, rfl, wsX80_tb, tyX8_ok, nmX8, by decide, (jw_1_8 6 rfl rfl), rfl, tyX8_ok 9 (by decide), fun q => by cases q⟩
abbrev mX8_nearestNew : jM := (yX8_nearestNew, cX8_nearestNew, 1, (some .int), [])
abbrev mX8_farthestNew : jM := (yX8_farthestNew, cX8_farthestNew, 1, (some .int), [])
theorem mm_X8_85 : Cond.methodLink RX8 85 Lib.Math.min.name ∈ jall ∧ Cond.static Lib.Math.min.name ∈ jall ∧ Cond.initialized "java/lang/Math" ∈ jall ∧ Cond.code Lib.Math.min.name Lib.Math.min.code 2 (some .int) ∈ jall := ⟨(jw_2_14 8 rfl rfl), (jw_2_14 9 rfl rfl), (jw_1_1 2 rfl rfl), (jw_2_14 10 rfl rfl)⟩
abbrev mX8_add : jM := (yX8_add, cX8_add, 3, none, [])
theorem csn_X8_91_X11_withBit : jSsN RX8 91 mX11_withBit 3 := ⟨(jn_4_7 8 rfl rfl), (jw_3_2 14 rfl rfl), sy_X11_withBit⟩
abbrev mX8_unhooked : jM := (yX8_unhooked, cX8_unhooked, 1, (some .int), [])
theorem csn_X8_95_X11_bit : jSsN RX8 95 mX11_bit 2 := ⟨(jn_2_10 8 rfl rfl), (jw_2_10 9 rfl rfl), sy_X11_bit⟩
theorem cv_X8_98_X8_shadow : jSv RX8 98 mX8_shadow 0 := ⟨(jw_2_11 3 rfl rfl), (jw_2_10 5 rfl rfl), (jw_2_10 6 rfl rfl), sy_X8_shadow⟩
theorem cs_X8_102_J6_bitCount_0f7a4 : jSs RX8 102 mJ6_bitCount_0f7a4 1 := ⟨(jw_2_11 4 rfl rfl), (jw_2_11 5 rfl rfl), sy_J6_bitCount_0f7a4⟩
abbrev mX8_goers : jM := (yX8_goers, cX8_goers, 6, (some .int), [])
abbrev mX8_isStopped : jM := (yX8_isStopped, cX8_isStopped, 3, (some .boolean), [])
theorem sy_X8_isStopped : jSY mX8_isStopped 2 := ⟨(jw_2_14 7 rfl rfl), (jw_1_0 3 rfl rfl), ⟨lw_n0.1, lw_n0.2, dscr_24⟩, by decide⟩
theorem cv_X8_112_X8_isStopped : jSv RX8 112 mX8_isStopped 2 := ⟨(jw_2_14 4 rfl rfl), (jw_2_14 6 rfl rfl), (js_1 1 rfl), sy_X8_isStopped⟩
abbrev mX8_goTogether : jM := (yX8_goTogether, cX8_goTogether, 4, (some .boolean), [])
theorem sy_X8_goTogether : jSY mX8_goTogether 2 := ⟨(jw_2_14 3 rfl rfl), (jw_1_0 3 rfl rfl), ⟨lw_n0.1, lw_n0.2, dscr_24⟩, by decide⟩
theorem cv_X8_108_X8_goTogether : jSv RX8 108 mX8_goTogether 2 := ⟨(jw_2_14 0 rfl rfl), (jw_2_14 2 rfl rfl), (js_1 0 rfl), sy_X8_goTogether⟩
theorem sy_X8_goers : jSY mX8_goers 2 := ⟨(jw_2_13 15 rfl rfl), (jw_1_0 3 rfl rfl), ⟨lw_n0.1, lw_n0.2, dscr_25⟩, by decide⟩
theorem cv_X8_115_X8_goers : jSv RX8 115 mX8_goers 2 := ⟨(jw_2_13 12 rfl rfl), (jw_2_13 13 rfl rfl), (jw_2_13 14 rfl rfl), sy_X8_goers⟩
abbrev mX9_init : jM := (yX9_init, cX9_init, 3, none, [])
theorem ci_X9_5_X4_init : jSi RX9 5 mX4_init 2 := ⟨(jw_2_1 10 rfl rfl), (jw_2_1 11 rfl rfl), rfl, sy_X4_init⟩
theorem fp_X9_11_7 : jFp RX9 11 7 2 true (.object "RodRings$Rod") := ⟨RX9, TX9, 3, tyX9, rfl, wsX90_tb, tyX9_ok, nmX9, by decide, (jw_2_1 14 rfl rfl), rfl, tyX9_ok 2 (by decide), fun _ => rfl⟩
abbrev mX9_readLine : jM := (yX9_readLine, cX9_readLine, 3, (some .boolean), [])
theorem fg_X9_15_7 : jFg RX9 15 7 0 := ⟨RX9, TX9, 3, _, rfl, wsX90_tb, by decide, (jw_2_2 2 rfl rfl), Or.inr (jw_2_2 3 rfl rfl)⟩
theorem cv_X9_19_X10_kind : jSv RX9 19 mX10_kind 0 := ⟨(jw_4_6 1 rfl rfl), (jw_4_3 0 rfl rfl), (jw_4_3 1 rfl rfl), sy_X10_kind⟩
abbrev mX9_beginsLine : jM := (yX9_beginsLine, cX9_beginsLine, 1, (some .boolean), [])
theorem sy_X9_beginsLine : jSY mX9_beginsLine 1 := ⟨(jw_4_6 4 rfl rfl), (jw_1_0 8 rfl rfl), ⟨lw_n6.1, lw_n6.2, dscr_12⟩, by decide⟩
theorem cs_X9_25_X9_beginsLine : jSs RX9 25 mX9_beginsLine 1 := ⟨(jw_4_6 2 rfl rfl), (jw_4_6 3 rfl rfl), sy_X9_beginsLine⟩
theorem cv_X9_35_X10_skip : jSv RX9 35 mX10_skip 0 := ⟨(jw_4_6 5 rfl rfl), (jw_4_3 11 rfl rfl), (jw_4_3 12 rfl rfl), sy_X10_skip⟩
abbrev mX9_readNumber : jM := (yX9_readNumber, cX9_readNumber, 2, (some .int), [])
theorem sy_X9_readNumber : jSY mX9_readNumber 1 := ⟨(jw_4_8 1 rfl rfl), (jw_1_0 8 rfl rfl), ⟨lw_n6.1, lw_n6.2, dscr_19⟩, by decide⟩
theorem cv_X9_43_X9_readNumber : jSv RX9 43 mX9_readNumber 1 := ⟨(jw_4_7 14 rfl rfl), (jw_4_8 0 rfl rfl), (js_2 2 rfl), sy_X9_readNumber⟩
abbrev mX9_keepNumber : jM := (yX9_keepNumber, cX9_keepNumber, 3, none, [])
theorem sy_X9_keepNumber : jSY mX9_keepNumber 2 := ⟨(jw_4_8 5 rfl rfl), (jw_1_0 8 rfl rfl), ⟨lw_n6.1, lw_n6.2, dscr_16⟩, by decide⟩
theorem cv_X9_47_X9_keepNumber : jSv RX9 47 mX9_keepNumber 2 := ⟨(jw_4_8 2 rfl rfl), (jw_4_8 4 rfl rfl), (js_2 3 rfl), sy_X9_keepNumber⟩
abbrev mX9_readRing : jM := (yX9_readRing, cX9_readRing, 4, (some .boolean), [])
theorem sy_X9_readRing : jSY mX9_readRing 0 := ⟨(jw_4_6 9 rfl rfl), (jw_1_0 8 rfl rfl), ⟨lw_n6.1, lw_n6.2, dscr_17⟩, by decide⟩
theorem cv_X9_39_X9_readRing : jSv RX9 39 mX9_readRing 0 := ⟨(jw_4_6 6 rfl rfl), (jw_4_6 8 rfl rfl), (js_2 0 rfl), sy_X9_readRing⟩
theorem fg_X9_11_7 : jFg RX9 11 7 2 := ⟨RX9, TX9, 3, _, rfl, wsX90_tb, by decide, (jw_2_1 14 rfl rfl), Or.inl rfl⟩
theorem fg_X9_29_6 : jFg RX9 29 6 5 := ⟨RX8, TX8, 18, _, rfl, wsX80_tb, by decide, (jw_1_7 3 rfl rfl), Or.inl rfl⟩
theorem cv_X9_51_X10_takeNumber : jSv RX9 51 mX10_takeNumber 2 := ⟨(jw_4_7 3 rfl rfl), (jw_4_3 15 rfl rfl), (jw_4_4 0 rfl rfl), sy_X10_takeNumber⟩
theorem fp_X9_71_6 : jFp RX9 71 6 13 false .int := ⟨RX8, TX8, 18, tyX8, rfl, wsX80_tb, tyX8_ok, nmX8, by decide, (jw_1_9 8 rfl rfl), rfl, tyX8_ok 13 (by decide), fun q => by cases q⟩
theorem fg_X9_55_6 : jFg RX9 55 6 9 := ⟨RX8, TX8, 18, _, rfl, wsX80_tb, by decide, (jw_1_8 8 rfl rfl), Or.inl rfl⟩
theorem csn_X9_58_X11_withBit : jSsN RX9 58 mX11_withBit 3 := ⟨(jn_4_7 9 rfl rfl), (jw_3_2 14 rfl rfl), sy_X11_withBit⟩
theorem fp_X9_55_6 : jFp RX9 55 6 9 false .int := ⟨RX8, TX8, 18, tyX8, rfl, wsX80_tb, tyX8_ok, nmX8, by decide, (jw_1_8 8 rfl rfl), rfl, tyX8_ok 9 (by decide), fun q => by cases q⟩
theorem fg_X9_62_6 : jFg RX9 62 6 10 := ⟨RX8, TX8, 18, _, rfl, wsX80_tb, by decide, (jw_1_8 13 rfl rfl), Or.inl rfl⟩
theorem fp_X9_62_6 : jFp RX9 62 6 10 false .int := ⟨RX8, TX8, 18, tyX8, rfl, wsX80_tb, tyX8_ok, nmX8, by decide, (jw_1_8 13 rfl rfl), rfl, tyX8_ok 10 (by decide), fun q => by cases q⟩
theorem fp_X9_65_6 : jFp RX9 65 6 11 false .int := ⟨RX8, TX8, 18, tyX8, rfl, wsX80_tb, tyX8_ok, nmX8, by decide, (jw_1_9 0 rfl rfl), rfl, tyX8_ok 11 (by decide), fun q => by cases q⟩
theorem fp_X9_68_6 : jFp RX9 68 6 12 false .int := ⟨RX8, TX8, 18, tyX8, rfl, wsX80_tb, tyX8_ok, nmX8, by decide, (jw_1_9 4 rfl rfl), rfl, tyX8_ok 12 (by decide), fun q => by cases q⟩
theorem fp_X9_74_6 : jFp RX9 74 6 14 false .int := ⟨RX8, TX8, 18, tyX8, rfl, wsX80_tb, tyX8_ok, nmX8, by decide, (jw_1_9 14 rfl rfl), rfl, tyX8_ok 14 (by decide), fun q => by cases q⟩
theorem cv_X9_77_X10_take : jSv RX9 77 mX10_take 1 := ⟨(jw_4_6 10 rfl rfl), (jw_4_4 7 rfl rfl), (jw_4_4 8 rfl rfl), sy_X10_take⟩
theorem sy_X8_nearestNew : jSY mX8_nearestNew 0 := ⟨(jw_4_6 14 rfl rfl), (jw_1_0 3 rfl rfl), ⟨lw_n0.1, lw_n0.2, dscr_11⟩, by decide⟩
theorem cv_X9_80_X8_nearestNew : jSv RX9 80 mX8_nearestNew 0 := ⟨(jw_4_6 11 rfl rfl), (jw_4_6 12 rfl rfl), (jw_4_6 13 rfl rfl), sy_X8_nearestNew⟩
theorem sy_X8_farthestNew : jSY mX8_farthestNew 0 := ⟨(jw_4_7 2 rfl rfl), (jw_1_0 3 rfl rfl), ⟨lw_n0.1, lw_n0.2, dscr_11⟩, by decide⟩
theorem cv_X9_83_X8_farthestNew : jSv RX9 83 mX8_farthestNew 0 := ⟨(jw_4_6 15 rfl rfl), (jw_4_7 0 rfl rfl), (jw_4_7 1 rfl rfl), sy_X8_farthestNew⟩
theorem sy_X8_add : jSY mX8_add 2 := ⟨(jw_4_7 7 rfl rfl), (jw_1_0 3 rfl rfl), ⟨lw_n0.1, lw_n0.2, dscr_16⟩, by decide⟩
theorem cv_X9_86_X8_add : jSv RX9 86 mX8_add 2 := ⟨(jw_4_7 4 rfl rfl), (jw_4_7 5 rfl rfl), (jw_4_7 6 rfl rfl), sy_X8_add⟩
theorem fg_X9_89_6 : jFg RX9 89 6 6 := ⟨RX8, TX8, 18, _, rfl, wsX80_tb, by decide, (jw_1_7 9 rfl rfl), Or.inl rfl⟩
theorem fp_X9_89_6 : jFp RX9 89 6 6 false .int := ⟨RX8, TX8, 18, tyX8, rfl, wsX80_tb, tyX8_ok, nmX8, by decide, (jw_1_7 9 rfl rfl), rfl, tyX8_ok 6 (by decide), fun q => by cases q⟩
theorem fg_X9_92_6 : jFg RX9 92 6 7 := ⟨RX8, TX8, 18, _, rfl, wsX80_tb, by decide, (jw_1_7 14 rfl rfl), Or.inl rfl⟩
theorem fp_X9_92_6 : jFp RX9 92 6 7 false .int := ⟨RX8, TX8, 18, tyX8, rfl, wsX80_tb, tyX8_ok, nmX8, by decide, (jw_1_7 14 rfl rfl), rfl, tyX8_ok 7 (by decide), fun q => by cases q⟩
theorem fg_X9_95_6 : jFg RX9 95 6 2 := ⟨RX8, TX8, 18, _, rfl, wsX80_tb, by decide, (jw_1_6 6 rfl rfl), Or.inl rfl⟩
abbrev mX9_readMore : jM := (yX9_readMore, cX9_readMore, 6, (some .boolean), [])
theorem sy_X9_readMore : jSY mX9_readMore 4 := ⟨(jw_4_7 13 rfl rfl), (jw_1_0 8 rfl rfl), ⟨lw_n6.1, lw_n6.2, dscr_26⟩, by decide⟩
theorem cv_X9_99_X9_readMore : jSv RX9 99 mX9_readMore 4 := ⟨(jw_4_7 10 rfl rfl), (jw_4_7 12 rfl rfl), (js_2 1 rfl), sy_X9_readMore⟩
theorem fg_X9_103_6 : jFg RX9 103 6 3 := ⟨RX8, TX8, 18, _, rfl, wsX80_tb, by decide, (jw_1_6 11 rfl rfl), Or.inl rfl⟩
abbrev mX10_init : jM := (yX10_init, cX10_init, 1, none, [])
theorem oi_X10_3 : Cond.methodLink RX10 3 Lib.objectInit ∈ jall ∧ Cond.instanceMethod Lib.objectInit ∈ jall ∧ Cond.code Lib.objectInit ⟨#[0xb1]⟩ 1 none ∈ jall := ⟨(jw_1_2 10 rfl rfl), (jw_1_2 3 rfl rfl), (jw_1_2 4 rfl rfl)⟩
theorem ac_byte : Cond.arrayClass .byte ∈ jall := (jw_1_4 3 rfl rfl)
theorem fp_X10_9_8 : jFp RX10 9 8 0 true (.array .byte) := ⟨RX10, TX10, 7, tyX10, rfl, wsX100_tb, tyX10_ok, nmX10, by decide, (jw_1_2 11 rfl rfl), rfl, tyX10_ok 0 (by decide), fun _ => rfl⟩
theorem fp_X10_15_8 : jFp RX10 15 8 1 true (.array .int) := ⟨RX10, TX10, 7, tyX10, rfl, wsX100_tb, tyX10_ok, nmX10, by decide, (jw_1_2 12 rfl rfl), rfl, tyX10_ok 1 (by decide), fun _ => rfl⟩
theorem fp_X10_19_8 : jFp RX10 19 8 2 true (.array .int) := ⟨RX10, TX10, 7, tyX10, rfl, wsX100_tb, tyX10_ok, nmX10, by decide, (jw_1_2 13 rfl rfl), rfl, tyX10_ok 2 (by decide), fun _ => rfl⟩
theorem fp_X10_22_8 : jFp RX10 22 8 3 true (.array .int) := ⟨RX10, TX10, 7, tyX10, rfl, wsX100_tb, tyX10_ok, nmX10, by decide, (jw_1_2 14 rfl rfl), rfl, tyX10_ok 3 (by decide), fun _ => rfl⟩
abbrev mX10_hasRoom : jM := (yX10_hasRoom, cX10_hasRoom, 1, (some .boolean), [])
theorem fg_X10_25_8 : jFg RX10 25 8 6 := ⟨RX10, TX10, 7, _, rfl, wsX100_tb, by decide, (jw_1_3 1 rfl rfl), Or.inl rfl⟩
abbrev mX10_put : jM := (yX10_put, cX10_put, 3, none, [])
theorem fg_X10_9_8 : jFg RX10 9 8 0 := ⟨RX10, TX10, 7, _, rfl, wsX100_tb, by decide, (jw_1_2 11 rfl rfl), Or.inl rfl⟩
theorem fp_X10_25_8 : jFp RX10 25 8 6 false .int := ⟨RX10, TX10, 7, tyX10, rfl, wsX100_tb, tyX10_ok, nmX10, by decide, (jw_1_3 1 rfl rfl), rfl, tyX10_ok 6 (by decide), fun q => by cases q⟩
abbrev mX10_scan : jM := (yX10_scan, cX10_scan, 3, none, [])
theorem fp_X10_29_8 : jFp RX10 29 8 4 false .int := ⟨RX10, TX10, 7, tyX10, rfl, wsX100_tb, tyX10_ok, nmX10, by decide, (jw_1_2 15 rfl rfl), rfl, tyX10_ok 4 (by decide), fun q => by cases q⟩
theorem fp_X10_32_8 : jFp RX10 32 8 5 false .int := ⟨RX10, TX10, 7, tyX10, rfl, wsX100_tb, tyX10_ok, nmX10, by decide, (jw_1_3 0 rfl rfl), rfl, tyX10_ok 5 (by decide), fun q => by cases q⟩
theorem fg_X10_29_8 : jFg RX10 29 8 4 := ⟨RX10, TX10, 7, _, rfl, wsX100_tb, by decide, (jw_1_2 15 rfl rfl), Or.inl rfl⟩
theorem cv_X10_35_X10_at : jSv RX10 35 mX10_at 1 := ⟨(jw_3_13 6 rfl rfl), (jw_3_13 7 rfl rfl), (jw_3_13 8 rfl rfl), sy_X10_at⟩
abbrev mX10_scanThing : jM := (yX10_scanThing, cX10_scanThing, 4, (some .int), [])
theorem sy_X10_scanThing : jSY mX10_scanThing 1 := ⟨(jw_3_13 13 rfl rfl), (jw_1_0 2 rfl rfl), ⟨lw_n4.1, lw_n4.2, dscr_19⟩, by decide⟩
theorem cv_X10_39_X10_scanThing : jSv RX10 39 mX10_scanThing 1 := ⟨(jw_3_13 10 rfl rfl), (jw_3_13 12 rfl rfl), (js_1 7 rfl), sy_X10_scanThing⟩
theorem fg_X10_19_8 : jFg RX10 19 8 2 := ⟨RX10, TX10, 7, _, rfl, wsX100_tb, by decide, (jw_1_2 13 rfl rfl), Or.inl rfl⟩
abbrev mX10_endOfRow : jM := (yX10_endOfRow, cX10_endOfRow, 5, (some .int), [])
theorem sy_X10_endOfRow : jSY mX10_endOfRow 3 := ⟨(jw_3_14 1 rfl rfl), (jw_1_0 2 rfl rfl), ⟨lw_n4.1, lw_n4.2, dscr_13⟩, by decide⟩
theorem cv_X10_42_X10_endOfRow : jSv RX10 42 mX10_endOfRow 3 := ⟨(jw_3_13 14 rfl rfl), (jw_3_14 0 rfl rfl), (js_1 8 rfl), sy_X10_endOfRow⟩
theorem fg_X10_15_8 : jFg RX10 15 8 1 := ⟨RX10, TX10, 7, _, rfl, wsX100_tb, by decide, (jw_1_2 12 rfl rfl), Or.inl rfl⟩
theorem fg_X10_22_8 : jFg RX10 22 8 3 := ⟨RX10, TX10, 7, _, rfl, wsX100_tb, by decide, (jw_1_2 14 rfl rfl), Or.inl rfl⟩
abbrev mX10_numberBetween : jM := (yX10_numberBetween, cX10_numberBetween, 5, (some .int), [])
theorem sy_X10_numberBetween : jSY mX10_numberBetween 2 := ⟨(jw_4_2 14 rfl rfl), (jw_1_0 2 rfl rfl), ⟨lw_n4.1, lw_n4.2, dscr_6⟩, by decide⟩
theorem cv_X10_50_X10_numberBetween : jSv RX10 50 mX10_numberBetween 2 := ⟨(jw_4_2 11 rfl rfl), (jw_4_2 13 rfl rfl), (js_1 11 rfl), sy_X10_numberBetween⟩
abbrev mX10_wordBetween : jM := (yX10_wordBetween, cX10_wordBetween, 6, (some .int), [])
theorem sy_X10_wordBetween : jSY mX10_wordBetween 2 := ⟨(jw_3_14 5 rfl rfl), (jw_1_0 2 rfl rfl), ⟨lw_n4.1, lw_n4.2, dscr_6⟩, by decide⟩
theorem cv_X10_46_X10_wordBetween : jSv RX10 46 mX10_wordBetween 2 := ⟨(jw_3_14 2 rfl rfl), (jw_3_14 4 rfl rfl), (js_1 9 rfl), sy_X10_wordBetween⟩
abbrev mJ0_length_8abf5 : jM := (yJ0_length_8abf5, cJ0_length_8abf5, 1, (some .int), [])
theorem sy_J0_length_8abf5 : jSY mJ0_length_8abf5 0 := ⟨(jw_3_14 10 rfl rfl), (jw_1_0 14 rfl rfl), ⟨lw_n15.1, lw_n15.2, dscr_11⟩, by decide⟩
theorem ss_X10_55 : jSv RX10 55 mJ0_length_8abf5 0 := ⟨(jw_3_14 7 rfl rfl), (jw_3_14 8 rfl rfl), (jw_3_14 9 rfl rfl), sy_J0_length_8abf5⟩
abbrev mJ0_charAt_5068e : jM := (yJ0_charAt_5068e, cJ0_charAt_5068e, 2, (some .char), [])
theorem sy_J0_charAt_5068e : jSY mJ0_charAt_5068e 1 := ⟨(jw_4_0 4 rfl rfl), (jw_1_0 14 rfl rfl), ⟨lw_n15.1, lw_n15.2, dscr_27⟩, by decide⟩
theorem ss_X10_60 : jSv RX10 60 mJ0_charAt_5068e 1 := ⟨(jw_4_0 1 rfl rfl), (jw_4_0 2 rfl rfl), (jw_4_0 3 rfl rfl), sy_J0_charAt_5068e⟩
abbrev mX10_standsAt : jM := (yX10_standsAt, cX10_standsAt, 5, (some .boolean), [])
theorem sy_X10_standsAt : jSY mX10_standsAt 3 := ⟨(jw_4_2 10 rfl rfl), (jw_1_0 2 rfl rfl), ⟨lw_n4.1, lw_n4.2, dscr_28⟩, by decide⟩
theorem cv_X10_64_X10_standsAt : jSv RX10 64 mX10_standsAt 3 := ⟨(jw_4_2 7 rfl rfl), (jw_4_2 9 rfl rfl), (js_1 10 rfl), sy_X10_standsAt⟩
theorem fg_X10_32_8 : jFg RX10 32 8 5 := ⟨RX10, TX10, 7, _, rfl, wsX100_tb, by decide, (jw_1_3 0 rfl rfl), Or.inl rfl⟩
abbrev mX10_start : jM := (yX10_start, cX10_start, 1, (some .int), [])
abbrev mX11_init : jM := (yX11_init, cX11_init, 1, none, [])
theorem oi_X11_1 : Cond.methodLink RX11 1 Lib.objectInit ∈ jall ∧ Cond.instanceMethod Lib.objectInit ∈ jall ∧ Cond.code Lib.objectInit ⟨#[0xb1]⟩ 1 none ∈ jall := ⟨(jw_1_2 2 rfl rfl), (jw_1_2 3 rfl rfl), (jw_1_2 4 rfl rfl)⟩
theorem fn_X11_7 : jFn RX11 7 8 7 [.null, .null, .null, .null, .int 0, .int 0, .int 0] := ⟨RX10, TX10, tyX10, rfl, wsX100_tb, tyX10_ok, (jw_1_2 5 rfl rfl), (jw_1_2 6 rfl rfl), (jw_1_0 2 rfl rfl), by decide⟩
theorem sy_X10_init : jSY mX10_init 0 := ⟨(jw_1_2 9 rfl rfl), (jw_1_0 2 rfl rfl), ⟨lw_n4.1, lw_n4.2, dscr_0⟩, by decide⟩
theorem cin_X11_9_X10_init : jSiN RX11 9 mX10_init 0 := ⟨(jn_1_2 7 rfl rfl), (jw_1_2 8 rfl rfl), rfl, sy_X10_init⟩
theorem fp_X11_10_9 : jFp RX11 10 9 0 true (.object "RodRings$Tape") := ⟨RX11, TX11, 13, tyX11, rfl, wsX110_tb, tyX11_ok, nmX11, by decide, (jw_2_6 4 rfl rfl), rfl, tyX11_ok 0 (by decide), fun _ => rfl⟩
theorem fn_X11_16 : jFn RX11 16 6 18 [.null, .null, .null, .null, .null, .int 0, .int 0, .int 0, .int 0, .int 0, .int 0, .int 0, .int 0, .int 0, .int 0, .int 0, .int 0, .int 0] := ⟨RX8, TX8, tyX8, rfl, wsX80_tb, tyX8_ok, (jw_1_4 5 rfl rfl), (jw_1_4 6 rfl rfl), (jw_1_0 3 rfl rfl), by decide⟩
theorem cin_X11_18_X8_init : jSiN RX11 18 mX8_init 0 := ⟨(jn_1_4 7 rfl rfl), (jw_1_4 8 rfl rfl), rfl, sy_X8_init⟩
theorem fp_X11_19_9 : jFp RX11 19 9 1 true (.object "RodRings$Rod") := ⟨RX11, TX11, 13, tyX11, rfl, wsX110_tb, tyX11_ok, nmX11, by decide, (jw_2_6 5 rfl rfl), rfl, tyX11_ok 1 (by decide), fun _ => rfl⟩
theorem fn_X11_23 : jFn RX11 23 2 9 [.null, .null, .null, .null, .null, .int 0, .int 0, .int 0, .int 0] := ⟨RX2, TX2, tyX2, rfl, wsX20_tb, tyX2_ok, (jw_1_12 14 rfl rfl), (jw_1_12 15 rfl rfl), (jw_1_0 5 rfl rfl), by decide⟩
theorem sy_X2_init : jSY mX2_init 0 := ⟨(jw_1_13 2 rfl rfl), (jw_1_0 5 rfl rfl), ⟨lw_n3.1, lw_n3.2, dscr_0⟩, by decide⟩
theorem cin_X11_25_X2_init : jSiN RX11 25 mX2_init 0 := ⟨(jn_1_13 0 rfl rfl), (jw_1_13 1 rfl rfl), rfl, sy_X2_init⟩
theorem fp_X11_26_9 : jFp RX11 26 9 2 true (.object "RodRings$Law") := ⟨RX11, TX11, 13, tyX11, rfl, wsX110_tb, tyX11_ok, nmX11, by decide, (jw_2_6 6 rfl rfl), rfl, tyX11_ok 2 (by decide), fun _ => rfl⟩
theorem fn_X11_30 : jFn RX11 30 0 3 [.null, .int 0, .int 0] := ⟨RX0, TX0, tyX0, rfl, wsX00_tb, tyX0_ok, (jw_2_0 2 rfl rfl), (jw_2_0 3 rfl rfl), (jw_1_0 6 rfl rfl), by decide⟩
theorem sy_X0_init : jSY mX0_init 0 := ⟨(jw_2_0 6 rfl rfl), (jw_1_0 6 rfl rfl), ⟨lw_n16.1, lw_n16.2, dscr_0⟩, by decide⟩
theorem cin_X11_32_X0_init : jSiN RX11 32 mX0_init 0 := ⟨(jn_2_0 4 rfl rfl), (jw_2_0 5 rfl rfl), rfl, sy_X0_init⟩
theorem fp_X11_33_9 : jFp RX11 33 9 3 true (.object "RodRings$Acts") := ⟨RX11, TX11, 13, tyX11, rfl, wsX110_tb, tyX11_ok, nmX11, by decide, (jw_2_6 7 rfl rfl), rfl, tyX11_ok 3 (by decide), fun _ => rfl⟩
theorem fp_X11_37_9 : jFp RX11 37 9 4 true (.object "RodRings$Rod") := ⟨RX11, TX11, 13, tyX11, rfl, wsX110_tb, tyX11_ok, nmX11, by decide, (jw_2_6 8 rfl rfl), rfl, tyX11_ok 4 (by decide), fun _ => rfl⟩
theorem fp_X11_40_9 : jFp RX11 40 9 5 true (.object "RodRings$Law") := ⟨RX11, TX11, 13, tyX11, rfl, wsX110_tb, tyX11_ok, nmX11, by decide, (jw_2_6 9 rfl rfl), rfl, tyX11_ok 5 (by decide), fun _ => rfl⟩
theorem fn_X11_43 : jFn RX11 43 7 3 [.null, .int 0, .null] := ⟨RX9, TX9, tyX9, rfl, wsX90_tb, tyX9_ok, (jw_2_1 5 rfl rfl), (jw_2_1 6 rfl rfl), (jw_1_0 8 rfl rfl), by decide⟩
theorem fg_X11_10_9 : jFg RX11 10 9 0 := ⟨RX11, TX11, 13, _, rfl, wsX110_tb, by decide, (jw_2_6 4 rfl rfl), Or.inl rfl⟩
theorem fg_X11_37_9 : jFg RX11 37 9 4 := ⟨RX11, TX11, 13, _, rfl, wsX110_tb, by decide, (jw_2_6 8 rfl rfl), Or.inl rfl⟩
theorem sy_X9_init : jSY mX9_init 2 := ⟨(jw_2_1 9 rfl rfl), (jw_1_0 8 rfl rfl), ⟨lw_n6.1, lw_n6.2, dscr_29⟩, by decide⟩
theorem ci_X11_45_X9_init : jSi RX11 45 mX9_init 2 := ⟨(jw_2_1 7 rfl rfl), (jw_2_1 8 rfl rfl), rfl, sy_X9_init⟩
theorem fp_X11_48_9 : jFp RX11 48 9 6 true (.object "RodRings$RodReader") := ⟨RX11, TX11, 13, tyX11, rfl, wsX110_tb, tyX11_ok, nmX11, by decide, (jw_2_6 10 rfl rfl), rfl, tyX11_ok 6 (by decide), fun _ => rfl⟩
theorem fn_X11_52 : jFn RX11 52 3 3 [.null, .int 0, .null] := ⟨RX3, TX3, tyX3, rfl, wsX30_tb, tyX3_ok, (jw_2_2 12 rfl rfl), (jw_2_2 13 rfl rfl), (jw_1_0 9 rfl rfl), by decide⟩
theorem fg_X11_40_9 : jFg RX11 40 9 5 := ⟨RX11, TX11, 13, _, rfl, wsX110_tb, by decide, (jw_2_6 9 rfl rfl), Or.inl rfl⟩
theorem sy_X3_init : jSY mX3_init 2 := ⟨(jw_2_3 0 rfl rfl), (jw_1_0 9 rfl rfl), ⟨lw_n5.1, lw_n5.2, dscr_30⟩, by decide⟩
theorem ci_X11_54_X3_init : jSi RX11 54 mX3_init 2 := ⟨(jw_2_2 14 rfl rfl), (jw_2_2 15 rfl rfl), rfl, sy_X3_init⟩
theorem fp_X11_57_9 : jFp RX11 57 9 7 true (.object "RodRings$LawReader") := ⟨RX11, TX11, 13, tyX11, rfl, wsX110_tb, tyX11_ok, nmX11, by decide, (jw_2_6 11 rfl rfl), rfl, tyX11_ok 7 (by decide), fun _ => rfl⟩
theorem fn_X11_61 : jFn RX11 61 1 2 [.null, .null] := ⟨RX1, TX1, tyX1, rfl, wsX10_tb, tyX1_ok, (jw_2_3 8 rfl rfl), (jw_2_3 9 rfl rfl), (jw_1_0 10 rfl rfl), by decide⟩
theorem fg_X11_26_9 : jFg RX11 26 9 2 := ⟨RX11, TX11, 13, _, rfl, wsX110_tb, by decide, (jw_2_6 6 rfl rfl), Or.inl rfl⟩
theorem sy_X1_init : jSY mX1_init 2 := ⟨(jw_2_3 12 rfl rfl), (jw_1_0 10 rfl rfl), ⟨lw_n2.1, lw_n2.2, dscr_31⟩, by decide⟩
theorem ci_X11_63_X1_init : jSi RX11 63 mX1_init 2 := ⟨(jw_2_3 10 rfl rfl), (jw_2_3 11 rfl rfl), rfl, sy_X1_init⟩
theorem fp_X11_66_9 : jFp RX11 66 9 8 true (.object "RodRings$Clock") := ⟨RX11, TX11, 13, tyX11, rfl, wsX110_tb, tyX11_ok, nmX11, by decide, (jw_2_6 12 rfl rfl), rfl, tyX11_ok 8 (by decide), fun _ => rfl⟩
theorem fn_X11_70 : jFn RX11 70 5 7 [.null, .null, .null, .null, .int 0, .int 0, .int 0] := ⟨RX7, TX7, tyX7, rfl, wsX70_tb, tyX7_ok, (jw_2_4 5 rfl rfl), (jw_2_4 6 rfl rfl), (jw_1_0 11 rfl rfl), by decide⟩
theorem sy_X7_init : jSY mX7_init 2 := ⟨(jw_2_4 9 rfl rfl), (jw_1_0 11 rfl rfl), ⟨lw_n1.1, lw_n1.2, dscr_29⟩, by decide⟩
theorem ci_X11_72_X7_init : jSi RX11 72 mX7_init 2 := ⟨(jw_2_4 7 rfl rfl), (jw_2_4 8 rfl rfl), rfl, sy_X7_init⟩
theorem fp_X11_73_9 : jFp RX11 73 9 9 true (.object "RodRings$Pulls") := ⟨RX11, TX11, 13, tyX11, rfl, wsX110_tb, tyX11_ok, nmX11, by decide, (jw_2_6 13 rfl rfl), rfl, tyX11_ok 9 (by decide), fun _ => rfl⟩
theorem fp_X11_77_9 : jFp RX11 77 9 12 false .int := ⟨RX11, TX11, 13, tyX11, rfl, wsX110_tb, tyX11_ok, nmX11, by decide, (jw_2_7 0 rfl rfl), rfl, tyX11_ok 12 (by decide), fun q => by cases q⟩
abbrev mX11_feed : jM := (yX11_feed, cX11_feed, 6, (some .int), [])
theorem sy_X10_hasRoom : jSY mX10_hasRoom 0 := ⟨(jw_2_9 3 rfl rfl), (jw_1_0 2 rfl rfl), ⟨lw_n4.1, lw_n4.2, dscr_17⟩, by decide⟩
theorem cv_X11_81_X10_hasRoom : jSv RX11 81 mX10_hasRoom 0 := ⟨(jw_2_9 0 rfl rfl), (jw_2_9 1 rfl rfl), (jw_2_9 2 rfl rfl), sy_X10_hasRoom⟩
theorem sy_X10_put : jSY mX10_put 1 := ⟨(jw_2_9 7 rfl rfl), (jw_1_0 2 rfl rfl), ⟨lw_n4.1, lw_n4.2, dscr_14⟩, by decide⟩
theorem cv_X11_85_X10_put : jSv RX11 85 mX10_put 1 := ⟨(jw_2_9 4 rfl rfl), (jw_2_9 5 rfl rfl), (jw_2_9 6 rfl rfl), sy_X10_put⟩
theorem fg_X11_89_8 : jFg RX11 89 8 6 := ⟨RX10, TX10, 7, _, rfl, wsX100_tb, by decide, (jw_1_3 2 rfl rfl), Or.inl rfl⟩
abbrev mX11_end : jM := (yX11_end, cX11_end, 2, (some .boolean), [])
theorem fp_X11_89_8 : jFp RX11 89 8 6 false .int := ⟨RX10, TX10, 7, tyX10, rfl, wsX100_tb, tyX10_ok, nmX10, by decide, (jw_1_3 2 rfl rfl), rfl, tyX10_ok 6 (by decide), fun q => by cases q⟩
abbrev mX11_pole : jM := (yX11_pole, cX11_pole, 1, (some .int), [])
theorem fg_X11_19_9 : jFg RX11 19 9 1 := ⟨RX11, TX11, 13, _, rfl, wsX110_tb, by decide, (jw_2_6 5 rfl rfl), Or.inl rfl⟩
theorem cv_X11_92_X8_copyFrom : jSv RX11 92 mX8_copyFrom 1 := ⟨(jw_3_11 1 rfl rfl), (jw_2_12 7 rfl rfl), (jw_2_12 8 rfl rfl), sy_X8_copyFrom⟩
theorem fg_X11_48_9 : jFg RX11 48 9 6 := ⟨RX11, TX11, 13, _, rfl, wsX110_tb, by decide, (jw_2_6 10 rfl rfl), Or.inl rfl⟩
abbrev mX4_read : jM := (yX4_read, cX4_read, 2, (some .int), [])
theorem sy_X4_read : jSY mX4_read 0 := ⟨(jw_3_13 1 rfl rfl), (jw_1_0 7 rfl rfl), ⟨lw_n11.1, lw_n11.2, dscr_11⟩, by decide⟩
theorem cu_X11_96_RodRings_RodReader_X4_read : jSu RX11 96 "RodRings$RodReader" "RodRings$LineReader" ⟨"RodRings$RodReader", "read", "()I"⟩ mX4_read 0 := ⟨(jw_3_12 12 rfl rfl), (jw_3_12 13 rfl rfl), (jw_3_12 15 rfl rfl), (jw_3_13 0 rfl rfl), (jn_3_12 14 rfl rfl), by decide +kernel, sy_X4_read⟩
theorem fg_X11_77_9 : jFg RX11 77 9 12 := ⟨RX11, TX11, 13, _, rfl, wsX110_tb, by decide, (jw_2_7 0 rfl rfl), Or.inl rfl⟩
theorem fg_X11_107_6 : jFg RX11 107 6 17 := ⟨RX8, TX8, 18, _, rfl, wsX80_tb, by decide, (jw_1_10 8 rfl rfl), Or.inl rfl⟩
theorem fp_X11_107_6 : jFp RX11 107 6 17 false .int := ⟨RX8, TX8, 18, tyX8, rfl, wsX80_tb, tyX8_ok, nmX8, by decide, (jw_1_10 8 rfl rfl), rfl, tyX8_ok 17 (by decide), fun q => by cases q⟩
theorem fg_X11_33_9 : jFg RX11 33 9 3 := ⟨RX11, TX11, 13, _, rfl, wsX110_tb, by decide, (jw_2_6 7 rfl rfl), Or.inl rfl⟩
theorem sy_X0_forget : jSY mX0_forget 0 := ⟨(jw_3_11 14 rfl rfl), (jw_1_0 6 rfl rfl), ⟨lw_n16.1, lw_n16.2, dscr_0⟩, by decide⟩
theorem cv_X11_115_X0_forget : jSv RX11 115 mX0_forget 0 := ⟨(jw_3_11 11 rfl rfl), (jw_3_11 12 rfl rfl), (jw_3_11 13 rfl rfl), sy_X0_forget⟩
theorem th_X11_3 : jTh RX11 110 114 "java/lang/UnsupportedOperationException" := jTh_of (js := [(1, 19), (4, 161), (4, 170), (4, 176), (4, 179), (4, 181), (4, 162), (4, 163), (1, 35), (1, 36), (4, 164), (4, 169), (4, 177), (4, 197), (4, 151), (4, 198), (4, 153), (4, 199), (4, 155), (4, 165), (4, 167), (4, 157), (4, 193), (4, 194), (4, 196), (4, 157), (4, 219), (4, 220), (4, 221), (4, 187), (4, 143), (4, 187), (4, 188), (4, 189), (4, 190), (4, 145), (4, 190), (4, 191), (4, 192), (4, 193), (4, 147), (4, 218), (4, 209), (4, 210), (4, 211), (4, 174), (4, 212), (4, 213), (4, 214), (4, 215), (4, 160), (4, 159), (4, 216)]) (by decide +kernel) (jw_4_13 0 rfl rfl) (jw_1_1 7 rfl rfl) (by decide +kernel) (by decide +kernel)
theorem th_X11_0 : jTh RX11 100 104 "java/lang/IllegalArgumentException" := jTh_of (js := [(1, 19), (4, 161), (4, 170), (4, 176), (4, 179), (4, 181), (4, 162), (4, 163), (1, 35), (1, 36), (4, 164), (4, 169), (4, 177), (4, 197), (4, 151), (4, 198), (4, 153), (4, 199), (4, 155), (4, 165), (4, 167), (4, 157), (4, 193), (4, 194), (4, 196), (4, 157), (4, 184), (4, 185), (4, 186), (4, 187), (4, 143), (4, 187), (4, 188), (4, 189), (4, 190), (4, 145), (4, 190), (4, 191), (4, 192), (4, 193), (4, 147), (4, 183), (4, 140), (4, 141), (4, 148), (4, 149), (4, 150), (4, 152), (4, 154), (4, 156), (4, 160), (4, 159), (4, 158)]) (by decide +kernel) (jw_4_8 11 rfl rfl) (jw_1_1 6 rfl rfl) (by decide +kernel) (by decide +kernel)
abbrev mX11_law : jM := (yX11_law, cX11_law, 1, (some .int), [])
theorem sy_X2_begin : jSY mX2_begin 0 := ⟨(jw_4_14 10 rfl rfl), (jw_1_0 5 rfl rfl), ⟨lw_n3.1, lw_n3.2, dscr_0⟩, by decide⟩
theorem cv_X11_118_X2_begin : jSv RX11 118 mX2_begin 0 := ⟨(jw_4_14 7 rfl rfl), (jw_4_14 8 rfl rfl), (jw_4_14 9 rfl rfl), sy_X2_begin⟩
theorem fg_X11_57_9 : jFg RX11 57 9 7 := ⟨RX11, TX11, 13, _, rfl, wsX110_tb, by decide, (jw_2_6 11 rfl rfl), Or.inl rfl⟩
theorem cu_X11_121_RodRings_LawReader_X4_read : jSu RX11 121 "RodRings$LawReader" "RodRings$LineReader" ⟨"RodRings$LawReader", "read", "()I"⟩ mX4_read 0 := ⟨(jw_4_14 11 rfl rfl), (jw_4_14 12 rfl rfl), (jw_4_14 13 rfl rfl), (jw_3_13 0 rfl rfl), (jn_3_12 14 rfl rfl), by decide +kernel, sy_X4_read⟩
theorem sy_X2_copyFrom : jSY mX2_copyFrom 1 := ⟨(jw_3_11 5 rfl rfl), (jw_1_0 5 rfl rfl), ⟨lw_n3.1, lw_n3.2, dscr_32⟩, by decide⟩
theorem cv_X11_122_X2_copyFrom : jSv RX11 122 mX2_copyFrom 1 := ⟨(jw_3_11 2 rfl rfl), (jw_3_11 3 rfl rfl), (jw_3_11 4 rfl rfl), sy_X2_copyFrom⟩
theorem fg_X11_125_2 : jFg RX11 125 2 8 := ⟨RX2, TX2, 9, _, rfl, wsX20_tb, by decide, (jw_1_13 14 rfl rfl), Or.inl rfl⟩
abbrev mX11_fault : jM := (yX11_fault, cX11_fault, 1, (some .int), [])
abbrev mX11_ring : jM := (yX11_ring, cX11_ring, 3, (some .int), [])
abbrev mX11_requireRing : jM := (yX11_requireRing, cX11_requireRing, 2, none, [])
theorem sy_X11_requireRing : jSY mX11_requireRing 1 := ⟨(jw_5_0 10 rfl rfl), (jw_1_0 1 rfl rfl), ⟨lw_n8.1, lw_n8.2, dscr_14⟩, by decide⟩
theorem cv_X11_128_X11_requireRing : jSv RX11 128 mX11_requireRing 1 := ⟨(jw_5_0 7 rfl rfl), (jw_5_0 9 rfl rfl), (js_2 5 rfl), sy_X11_requireRing⟩
theorem fg_X11_131_6 : jFg RX11 131 6 0 := ⟨RX8, TX8, 18, _, rfl, wsX80_tb, by decide, (jw_1_5 15 rfl rfl), Or.inl rfl⟩
theorem fg_X11_135_6 : jFg RX11 135 6 1 := ⟨RX8, TX8, 18, _, rfl, wsX80_tb, by decide, (jw_1_6 3 rfl rfl), Or.inl rfl⟩
theorem fg_X11_138_6 : jFg RX11 138 6 6 := ⟨RX8, TX8, 18, _, rfl, wsX80_tb, by decide, (jw_1_7 10 rfl rfl), Or.inl rfl⟩
theorem cs_X11_141_X11_bit : jSs RX11 141 mX11_bit 2 := ⟨(jw_5_1 11 rfl rfl), (jw_2_10 9 rfl rfl), sy_X11_bit⟩
theorem fg_X11_145_6 : jFg RX11 145 6 7 := ⟨RX8, TX8, 18, _, rfl, wsX80_tb, by decide, (jw_1_7 15 rfl rfl), Or.inl rfl⟩
theorem fg_X11_148_6 : jFg RX11 148 6 2 := ⟨RX8, TX8, 18, _, rfl, wsX80_tb, by decide, (jw_1_6 8 rfl rfl), Or.inl rfl⟩
theorem fg_X11_151_6 : jFg RX11 151 6 3 := ⟨RX8, TX8, 18, _, rfl, wsX80_tb, by decide, (jw_1_6 12 rfl rfl), Or.inl rfl⟩
theorem fg_X11_153_6 : jFg RX11 153 6 8 := ⟨RX8, TX8, 18, _, rfl, wsX80_tb, by decide, (jw_1_8 3 rfl rfl), Or.inl rfl⟩
theorem fg_X11_156_6 : jFg RX11 156 6 9 := ⟨RX8, TX8, 18, _, rfl, wsX80_tb, by decide, (jw_1_8 9 rfl rfl), Or.inl rfl⟩
theorem cv_X11_159_X8_gap : jSv RX11 159 mX8_gap 2 := ⟨(jw_5_1 12 rfl rfl), (jw_3_2 3 rfl rfl), (jw_3_2 4 rfl rfl), sy_X8_gap⟩
theorem cv_X11_162_X2_amount : jSv RX11 162 mX2_amount 3 := ⟨(jw_5_1 13 rfl rfl), (jw_3_4 15 rfl rfl), (jw_3_5 0 rfl rfl), sy_X2_amount⟩
theorem sy_X6_hangsBy : jSY mX6_hangsBy 2 := ⟨(jw_5_2 0 rfl rfl), (jw_1_1 9 rfl rfl), ⟨lw_n13.1, lw_n13.2, dscr_3⟩, by decide⟩
theorem cs_X11_166_X6_hangsBy : jSs RX11 166 mX6_hangsBy 2 := ⟨(jw_5_1 14 rfl rfl), (jw_5_1 15 rfl rfl), sy_X6_hangsBy⟩
theorem sy_X6_share : jSY mX6_share 2 := ⟨(jw_5_2 3 rfl rfl), (jw_1_1 9 rfl rfl), ⟨lw_n13.1, lw_n13.2, dscr_3⟩, by decide⟩
theorem cs_X11_172_X6_share : jSs RX11 172 mX6_share 2 := ⟨(jw_5_2 1 rfl rfl), (jw_5_2 2 rfl rfl), sy_X6_share⟩
theorem th_X11_4 : jThN RX11 175 179 "java/util/NoSuchElementException" := jThN_of (js := [(1, 19), (4, 161), (4, 170), (4, 176), (4, 179), (4, 181), (4, 162), (4, 163), (1, 35), (1, 36), (4, 164), (4, 169), (4, 177), (4, 197), (4, 151), (4, 198), (4, 153), (4, 199), (4, 155), (4, 165), (4, 167), (4, 157), (4, 193), (4, 194), (4, 196), (4, 157), (5, 51), (5, 52), (5, 53), (4, 187), (4, 143), (4, 187), (4, 188), (4, 189), (4, 190), (4, 145), (4, 190), (4, 191), (4, 192), (4, 193), (4, 147), (5, 50), (5, 41), (5, 42), (5, 43), (4, 175), (5, 44), (5, 45), (5, 46), (5, 47), (4, 160), (4, 159), (5, 48)]) (by decide +kernel) (jw_5_2 8 rfl rfl) (jw_1_1 10 rfl rfl) (by decide +kernel) (by decide +kernel)
abbrev mX11_pull : jM := (yX11_pull, cX11_pull, 5, (some .int), [])
abbrev mX11_requireNumber : jM := (yX11_requireNumber, cX11_requireNumber, 4, none, [])
theorem sy_X11_requireNumber : jSY mX11_requireNumber 3 := ⟨(jw_5_4 2 rfl rfl), (jw_1_0 1 rfl rfl), ⟨lw_n8.1, lw_n8.2, dscr_33⟩, by decide⟩
theorem cv_X11_180_X11_requireNumber : jSv RX11 180 mX11_requireNumber 3 := ⟨(jw_5_3 15 rfl rfl), (jw_5_4 1 rfl rfl), (js_2 6 rfl), sy_X11_requireNumber⟩
theorem sy_X0_remember : jSY mX0_remember 1 := ⟨(jw_5_4 7 rfl rfl), (jw_1_0 6 rfl rfl), ⟨lw_n16.1, lw_n16.2, dscr_1⟩, by decide⟩
theorem cv_X11_184_X0_remember : jSv RX11 184 mX0_remember 1 := ⟨(jw_5_4 4 rfl rfl), (jw_5_4 5 rfl rfl), (jw_5_4 6 rfl rfl), sy_X0_remember⟩
theorem cv_X11_187_X8_move : jSv RX11 187 mX8_move 3 := ⟨(jw_5_4 10 rfl rfl), (jw_2_13 9 rfl rfl), (jw_2_13 10 rfl rfl), sy_X8_move⟩
theorem fg_X11_191_6 : jFg RX11 191 6 4 := ⟨RX8, TX8, 18, _, rfl, wsX80_tb, by decide, (jw_1_7 0 rfl rfl), Or.inl rfl⟩
theorem cv_X11_195_X5_add : jSv RX11 195 mX5_add 4 := ⟨(jw_5_4 11 rfl rfl), (jw_5_4 12 rfl rfl), (jw_5_4 13 rfl rfl), sy_X5_add⟩
abbrev mX11_free : jM := (yX11_free, cX11_free, 2, (some .int), [])
theorem cs_X11_206_X11_withBit : jSs RX11 206 mX11_withBit 3 := ⟨(jw_5_6 10 rfl rfl), (jw_3_2 14 rfl rfl), sy_X11_withBit⟩
theorem fp_X11_156_6 : jFp RX11 156 6 9 false .int := ⟨RX8, TX8, 18, tyX8, rfl, wsX80_tb, tyX8_ok, nmX8, by decide, (jw_1_8 9 rfl rfl), rfl, tyX8_ok 9 (by decide), fun q => by cases q⟩
theorem th_X11_1 : jTh RX11 201 205 "java/lang/IllegalStateException" := jTh_of (js := [(1, 19), (4, 161), (4, 170), (4, 176), (4, 179), (4, 181), (4, 162), (4, 163), (1, 35), (1, 36), (4, 164), (4, 169), (4, 177), (4, 197), (4, 151), (4, 198), (4, 153), (4, 199), (4, 155), (4, 165), (4, 167), (4, 157), (4, 193), (4, 194), (4, 196), (4, 157), (5, 101), (5, 102), (5, 103), (4, 187), (4, 143), (4, 187), (4, 188), (4, 189), (4, 190), (4, 145), (4, 190), (4, 191), (4, 192), (4, 193), (4, 147), (5, 100), (5, 91), (5, 92), (5, 93), (4, 172), (5, 94), (5, 95), (5, 96), (5, 97), (4, 160), (4, 159), (5, 98)]) (by decide +kernel) (jw_5_5 10 rfl rfl) (jw_1_1 12 rfl rfl) (by decide +kernel) (by decide +kernel)
abbrev mX11_snag : jM := (yX11_snag, cX11_snag, 2, (some .int), [])
theorem fg_X11_210_6 : jFg RX11 210 6 5 := ⟨RX8, TX8, 18, _, rfl, wsX80_tb, by decide, (jw_1_7 7 rfl rfl), Or.inl rfl⟩
abbrev mX11_hook : jM := (yX11_hook, cX11_hook, 4, (some .boolean), [])
theorem fp_X11_153_6 : jFp RX11 153 6 8 false .int := ⟨RX8, TX8, 18, tyX8, rfl, wsX80_tb, tyX8_ok, nmX8, by decide, (jw_1_8 3 rfl rfl), rfl, tyX8_ok 8 (by decide), fun q => by cases q⟩
abbrev mX11_sew : jM := (yX11_sew, cX11_sew, 3, (some .int), [])
abbrev mX11_requirePlace : jM := (yX11_requirePlace, cX11_requirePlace, 2, none, [])
theorem sy_X11_requirePlace : jSY mX11_requirePlace 1 := ⟨(jw_5_8 4 rfl rfl), (jw_1_0 1 rfl rfl), ⟨lw_n8.1, lw_n8.2, dscr_14⟩, by decide⟩
theorem cv_X11_215_X11_requirePlace : jSv RX11 215 mX11_requirePlace 1 := ⟨(jw_5_8 1 rfl rfl), (jw_5_8 3 rfl rfl), (js_2 7 rfl), sy_X11_requirePlace⟩
theorem cv_X11_218_X8_nearestNew : jSv RX11 218 mX8_nearestNew 0 := ⟨(jw_5_8 6 rfl rfl), (jw_4_6 12 rfl rfl), (jw_4_6 13 rfl rfl), sy_X8_nearestNew⟩
theorem cv_X11_221_X8_farthestNew : jSv RX11 221 mX8_farthestNew 0 := ⟨(jw_5_8 7 rfl rfl), (jw_4_7 0 rfl rfl), (jw_4_7 1 rfl rfl), sy_X8_farthestNew⟩
theorem cv_X11_226_X8_add : jSv RX11 226 mX8_add 2 := ⟨(jw_5_8 9 rfl rfl), (jw_4_7 5 rfl rfl), (jw_4_7 6 rfl rfl), sy_X8_add⟩
abbrev mX11_let : jM := (yX11_let, cX11_let, 4, (some .int), [])
abbrev mX11_chair : jM := (yX11_chair, cX11_chair, 4, (some .boolean), [])
theorem fg_X11_229_6 : jFg RX11 229 6 10 := ⟨RX8, TX8, 18, _, rfl, wsX80_tb, by decide, (jw_1_8 14 rfl rfl), Or.inl rfl⟩
theorem fp_X11_229_6 : jFp RX11 229 6 10 false .int := ⟨RX8, TX8, 18, tyX8, rfl, wsX80_tb, tyX8_ok, nmX8, by decide, (jw_1_8 14 rfl rfl), rfl, tyX8_ok 10 (by decide), fun q => by cases q⟩
abbrev mX11_hours : jM := (yX11_hours, cX11_hours, 2, (some .int), [])
theorem fg_X11_66_9 : jFg RX11 66 9 8 := ⟨RX11, TX11, 13, _, rfl, wsX110_tb, by decide, (jw_2_6 12 rfl rfl), Or.inl rfl⟩
theorem cv_X11_232_X1_run : jSv RX11 232 mX1_run 2 := ⟨(jw_5_9 15 rfl rfl), (jw_5_10 0 rfl rfl), (jw_5_10 1 rfl rfl), sy_X1_run⟩
abbrev mX11_shade : jM := (yX11_shade, cX11_shade, 1, (some .int), [])
theorem cv_X11_235_X8_shadow : jSv RX11 235 mX8_shadow 0 := ⟨(jw_2_10 4 rfl rfl), (jw_2_10 5 rfl rfl), (jw_2_10 6 rfl rfl), sy_X8_shadow⟩
abbrev mX11_dark : jM := (yX11_dark, cX11_dark, 1, (some .int), [])
theorem cv_X11_238_X8_shadedChairs : jSv RX11 238 mX8_shadedChairs 0 := ⟨(jw_2_10 15 rfl rfl), (jw_2_11 0 rfl rfl), (jw_2_11 1 rfl rfl), sy_X8_shadedChairs⟩
abbrev mX11_bare : jM := (yX11_bare, cX11_bare, 1, (some .int), [])
abbrev mX11_goes : jM := (yX11_goes, cX11_goes, 3, (some .int), [])
abbrev mX11_with : jM := (yX11_with, cX11_with, 3, (some .int), [])
theorem cv_X11_241_X8_goers : jSv RX11 241 mX8_goers 2 := ⟨(jw_5_12 1 rfl rfl), (jw_2_13 13 rfl rfl), (jw_2_13 14 rfl rfl), sy_X8_goers⟩
abbrev mX11_would : jM := (yX11_would, cX11_would, 5, (some .int), [])
theorem fg_X11_245_6 : jFg RX11 245 6 15 := ⟨RX8, TX8, 18, _, rfl, wsX80_tb, by decide, (jw_1_10 3 rfl rfl), Or.inl rfl⟩
abbrev mX11_best : jM := (yX11_best, cX11_best, 1, (some .int), [])
theorem fg_X11_73_9 : jFg RX11 73 9 9 := ⟨RX11, TX11, 13, _, rfl, wsX110_tb, by decide, (jw_2_6 13 rfl rfl), Or.inl rfl⟩
theorem sy_X7_shadiest : jSY mX7_shadiest 1 := ⟨(jw_2_12 5 rfl rfl), (jw_1_0 11 rfl rfl), ⟨lw_n1.1, lw_n1.2, dscr_2⟩, by decide⟩
theorem cv_X11_248_X7_shadiest : jSv RX11 248 mX7_shadiest 1 := ⟨(jw_2_12 2 rfl rfl), (jw_2_12 3 rfl rfl), (jw_2_12 4 rfl rfl), sy_X7_shadiest⟩
abbrev mX11_fewest : jM := (yX11_fewest, cX11_fewest, 2, (some .int), [])
theorem sy_X7_seekShade : jSY mX7_seekShade 2 := ⟨(jw_3_0 2 rfl rfl), (jw_1_0 11 rfl rfl), ⟨lw_n1.1, lw_n1.2, dscr_34⟩, by decide⟩
theorem cv_X11_252_X7_seekShade : jSv RX11 252 mX7_seekShade 2 := ⟨(jw_2_14 15 rfl rfl), (jw_3_0 0 rfl rfl), (jw_3_0 1 rfl rfl), sy_X7_seekShade⟩
theorem fg_X11_256_5 : jFg RX11 256 5 5 := ⟨RX7, TX7, 7, _, rfl, wsX70_tb, by decide, (jw_2_5 2 rfl rfl), Or.inl rfl⟩
abbrev mX11_first : jM := (yX11_first, cX11_first, 2, (some .int), [])
theorem fg_X11_259_5 : jFg RX11 259 5 6 := ⟨RX7, TX7, 7, _, rfl, wsX70_tb, by decide, (jw_2_5 4 rfl rfl), Or.inl rfl⟩
abbrev mX11_snags : jM := (yX11_snags, cX11_snags, 2, (some .int), [])
abbrev mX11_readSnags : jM := (yX11_readSnags, cX11_readSnags, 2, none, [])
theorem sy_X11_readSnags : jSY mX11_readSnags 0 := ⟨(jw_5_13 3 rfl rfl), (jw_1_0 1 rfl rfl), ⟨lw_n8.1, lw_n8.2, dscr_0⟩, by decide⟩
theorem cv_X11_262_X11_readSnags : jSv RX11 262 mX11_readSnags 0 := ⟨(jw_5_13 0 rfl rfl), (jw_5_13 2 rfl rfl), (js_2 10 rfl), sy_X11_readSnags⟩
theorem fg_X11_268_5 : jFg RX11 268 5 4 := ⟨RX7, TX7, 7, _, rfl, wsX70_tb, by decide, (jw_2_5 0 rfl rfl), Or.inl rfl⟩
theorem sy_X7_inAllFitting : jSY mX7_inAllFitting 0 := ⟨(jw_5_14 9 rfl rfl), (jw_1_0 11 rfl rfl), ⟨lw_n1.1, lw_n1.2, dscr_11⟩, by decide⟩
theorem cv_X11_265_X7_inAllFitting : jSv RX11 265 mX7_inAllFitting 0 := ⟨(jw_5_14 6 rfl rfl), (jw_5_14 7 rfl rfl), (jw_5_14 8 rfl rfl), sy_X7_inAllFitting⟩
abbrev mX11_tries : jM := (yX11_tries, cX11_tries, 1, (some .int), [])
theorem sy_X7_partingPull : jSY mX7_partingPull 1 := ⟨(jw_6_0 4 rfl rfl), (jw_1_0 11 rfl rfl), ⟨lw_n1.1, lw_n1.2, dscr_2⟩, by decide⟩
theorem cv_X11_271_X7_partingPull : jSv RX11 271 mX7_partingPull 1 := ⟨(jw_6_0 1 rfl rfl), (jw_6_0 2 rfl rfl), (jw_6_0 3 rfl rfl), sy_X7_partingPull⟩
abbrev mX11_loosen : jM := (yX11_loosen, cX11_loosen, 4, (some .int), [])
theorem sy_X7_fewestFreed : jSY mX7_fewestFreed 4 := ⟨(jw_6_1 4 rfl rfl), (jw_1_0 11 rfl rfl), ⟨lw_n1.1, lw_n1.2, dscr_35⟩, by decide⟩
theorem cv_X11_274_X7_fewestFreed : jSv RX11 274 mX7_fewestFreed 4 := ⟨(jw_6_1 1 rfl rfl), (jw_6_1 2 rfl rfl), (jw_6_1 3 rfl rfl), sy_X7_fewestFreed⟩
abbrev mX11_order : jM := (yX11_order, cX11_order, 1, (some .int), [])
theorem sy_X6_outOfOrder : jSY mX6_outOfOrder 1 := ⟨(jw_3_1 2 rfl rfl), (jw_1_1 9 rfl rfl), ⟨lw_n13.1, lw_n13.2, dscr_2⟩, by decide⟩
theorem cs_X11_278_X6_outOfOrder : jSs RX11 278 mX6_outOfOrder 1 := ⟨(jw_3_1 0 rfl rfl), (jw_3_1 1 rfl rfl), sy_X6_outOfOrder⟩
abbrev mX11_tight : jM := (yX11_tight, cX11_tight, 2, (some .int), [])
theorem sy_X6_tightest : jSY mX6_tightest 2 := ⟨(jw_6_1 15 rfl rfl), (jw_1_1 9 rfl rfl), ⟨lw_n13.1, lw_n13.2, dscr_3⟩, by decide⟩
theorem cs_X11_281_X6_tightest : jSs RX11 281 mX6_tightest 2 := ⟨(jw_6_1 13 rfl rfl), (jw_6_1 14 rfl rfl), sy_X6_tightest⟩
abbrev mX11_slack : jM := (yX11_slack, cX11_slack, 1, (some .int), [])
theorem sy_X6_spareCloth : jSY mX6_spareCloth 1 := ⟨(jw_3_2 1 rfl rfl), (jw_1_1 9 rfl rfl), ⟨lw_n13.1, lw_n13.2, dscr_2⟩, by decide⟩
theorem cs_X11_284_X6_spareCloth : jSs RX11 284 mX6_spareCloth 1 := ⟨(jw_3_1 15 rfl rfl), (jw_3_2 0 rfl rfl), sy_X6_spareCloth⟩
abbrev mX11_taut : jM := (yX11_taut, cX11_taut, 1, (some .int), [])
theorem sy_X6_tautRings : jSY mX6_tautRings 1 := ⟨(jw_3_2 12 rfl rfl), (jw_1_1 9 rfl rfl), ⟨lw_n13.1, lw_n13.2, dscr_2⟩, by decide⟩
theorem cs_X11_287_X6_tautRings : jSs RX11 287 mX6_tautRings 1 := ⟨(jw_3_2 10 rfl rfl), (jw_3_2 11 rfl rfl), sy_X6_tautRings⟩
abbrev mX11_lit : jM := (yX11_lit, cX11_lit, 2, (some .int), [])
theorem th_X11_2 : jTh RX11 290 294 "java/lang/IndexOutOfBoundsException" := jTh_of (js := [(1, 19), (4, 161), (4, 170), (4, 176), (4, 179), (4, 181), (4, 162), (4, 163), (1, 35), (1, 36), (4, 164), (4, 169), (4, 177), (4, 197), (4, 151), (4, 198), (4, 153), (4, 199), (4, 155), (4, 165), (4, 167), (4, 157), (4, 193), (4, 194), (4, 196), (4, 157), (5, 22), (5, 23), (5, 24), (4, 187), (4, 143), (4, 187), (4, 188), (4, 189), (4, 190), (4, 145), (4, 190), (4, 191), (4, 192), (4, 193), (4, 147), (5, 21), (5, 12), (5, 13), (5, 14), (4, 173), (5, 15), (5, 16), (5, 17), (5, 18), (4, 160), (4, 159), (5, 19)]) (by decide +kernel) (jw_5_0 11 rfl rfl) (jw_1_1 8 rfl rfl) (by decide +kernel) (by decide +kernel)
theorem sy_X6_litRings : jSY mX6_litRings 2 := ⟨(jw_6_2 10 rfl rfl), (jw_1_1 9 rfl rfl), ⟨lw_n13.1, lw_n13.2, dscr_3⟩, by decide⟩
theorem cs_X11_295_X6_litRings : jSs RX11 295 mX6_litRings 2 := ⟨(jw_6_2 8 rfl rfl), (jw_6_2 9 rfl rfl), sy_X6_litRings⟩
abbrev mX11_sunny : jM := (yX11_sunny, cX11_sunny, 1, (some .int), [])
theorem sy_X6_sunniest : jSY mX6_sunniest 1 := ⟨(jw_3_3 6 rfl rfl), (jw_1_1 9 rfl rfl), ⟨lw_n13.1, lw_n13.2, dscr_2⟩, by decide⟩
theorem cs_X11_298_X6_sunniest : jSs RX11 298 mX6_sunniest 1 := ⟨(jw_3_3 4 rfl rfl), (jw_3_3 5 rfl rfl), sy_X6_sunniest⟩
abbrev mX11_faded : jM := (yX11_faded, cX11_faded, 2, (some .int), [])
theorem sy_X1_goAhead : jSY mX1_goAhead 2 := ⟨(jw_6_3 5 rfl rfl), (jw_1_0 10 rfl rfl), ⟨lw_n2.1, lw_n2.2, dscr_34⟩, by decide⟩
theorem cv_X11_301_X1_goAhead : jSv RX11 301 mX1_goAhead 2 := ⟨(jw_6_3 2 rfl rfl), (jw_6_3 3 rfl rfl), (jw_6_3 4 rfl rfl), sy_X1_goAhead⟩
theorem cv_X11_304_X8_allFades : jSv RX11 304 mX8_allFades 0 := ⟨(jw_6_3 6 rfl rfl), (jw_5_2 5 rfl rfl), (jw_5_2 6 rfl rfl), sy_X8_allFades⟩
abbrev mX11_pale : jM := (yX11_pale, cX11_pale, 1, (some .int), [])
theorem sy_X1_firstPale : jSY mX1_firstPale 1 := ⟨(jw_3_4 5 rfl rfl), (jw_1_0 10 rfl rfl), ⟨lw_n2.1, lw_n2.2, dscr_2⟩, by decide⟩
theorem cv_X11_307_X1_firstPale : jSv RX11 307 mX1_firstPale 1 := ⟨(jw_3_4 2 rfl rfl), (jw_3_4 3 rfl rfl), (jw_3_4 4 rfl rfl), sy_X1_firstPale⟩
abbrev mX11_lets : jM := (yX11_lets, cX11_lets, 3, (some .int), [])
theorem sy_X6_evenLength : jSY mX6_evenLength 3 := ⟨(jw_6_4 0 rfl rfl), (jw_1_1 9 rfl rfl), ⟨lw_n13.1, lw_n13.2, dscr_20⟩, by decide⟩
theorem cs_X11_310_X6_evenLength : jSs RX11 310 mX6_evenLength 3 := ⟨(jw_6_3 14 rfl rfl), (jw_6_3 15 rfl rfl), sy_X6_evenLength⟩
abbrev mX11_envy : jM := (yX11_envy, cX11_envy, 1, (some .int), [])
theorem sy_X6_enviousPairs : jSY mX6_enviousPairs 1 := ⟨(jw_3_7 7 rfl rfl), (jw_1_1 9 rfl rfl), ⟨lw_n13.1, lw_n13.2, dscr_2⟩, by decide⟩
theorem cs_X11_314_X6_enviousPairs : jSs RX11 314 mX6_enviousPairs 1 := ⟨(jw_3_7 5 rfl rfl), (jw_3_7 6 rfl rfl), sy_X6_enviousPairs⟩
abbrev mX11_rests : jM := (yX11_rests, cX11_rests, 2, (some .int), [])
theorem sy_X6_restingChoices : jSY mX6_restingChoices 2 := ⟨(jw_6_4 10 rfl rfl), (jw_1_1 9 rfl rfl), ⟨lw_n13.1, lw_n13.2, dscr_3⟩, by decide⟩
theorem cs_X11_317_X6_restingChoices : jSs RX11 317 mX6_restingChoices 2 := ⟨(jw_6_4 8 rfl rfl), (jw_6_4 9 rfl rfl), sy_X6_restingChoices⟩
abbrev mX11_bunch : jM := (yX11_bunch, cX11_bunch, 1, (some .int), [])
theorem sy_X6_largestBunch : jSY mX6_largestBunch 1 := ⟨(jw_3_8 1 rfl rfl), (jw_1_1 9 rfl rfl), ⟨lw_n13.1, lw_n13.2, dscr_2⟩, by decide⟩
theorem cs_X11_320_X6_largestBunch : jSs RX11 320 mX6_largestBunch 1 := ⟨(jw_3_7 15 rfl rfl), (jw_3_8 0 rfl rfl), sy_X6_largestBunch⟩
abbrev mX11_wooden : jM := (yX11_wooden, cX11_wooden, 1, (some .int), [])
abbrev mX11_caught : jM := (yX11_caught, cX11_caught, 1, (some .int), [])
abbrev mX11_loose : jM := (yX11_loose, cX11_loose, 1, (some .int), [])
theorem sy_X8_unhooked : jSY mX8_unhooked 0 := ⟨(jw_3_9 1 rfl rfl), (jw_1_0 3 rfl rfl), ⟨lw_n0.1, lw_n0.2, dscr_11⟩, by decide⟩
theorem cv_X11_323_X8_unhooked : jSv RX11 323 mX8_unhooked 0 := ⟨(jw_3_8 14 rfl rfl), (jw_3_8 15 rfl rfl), (jw_3_9 0 rfl rfl), sy_X8_unhooked⟩
abbrev mX11_beyond : jM := (yX11_beyond, cX11_beyond, 1, (some .int), [])
theorem sy_X6_thickBeyondJoin : jSY mX6_thickBeyondJoin 1 := ⟨(jw_3_9 8 rfl rfl), (jw_1_1 9 rfl rfl), ⟨lw_n13.1, lw_n13.2, dscr_2⟩, by decide⟩
theorem cs_X11_326_X6_thickBeyondJoin : jSs RX11 326 mX6_thickBeyondJoin 1 := ⟨(jw_3_9 6 rfl rfl), (jw_3_9 7 rfl rfl), sy_X6_thickBeyondJoin⟩
abbrev mX11_odds : jM := (yX11_odds, cX11_odds, 3, (some .int), [])
theorem sy_X1_oddsToStay : jSY mX1_oddsToStay 3 := ⟨(jw_6_5 8 rfl rfl), (jw_1_0 10 rfl rfl), ⟨lw_n2.1, lw_n2.2, dscr_20⟩, by decide⟩
theorem cv_X11_329_X1_oddsToStay : jSv RX11 329 mX1_oddsToStay 3 := ⟨(jw_6_5 5 rfl rfl), (jw_6_5 6 rfl rfl), (jw_6_5 7 rfl rfl), sy_X1_oddsToStay⟩
abbrev mX11_twins : jM := (yX11_twins, cX11_twins, 1, (some .int), [])
theorem sy_X6_likePairs : jSY mX6_likePairs 1 := ⟨(jw_3_9 15 rfl rfl), (jw_1_1 9 rfl rfl), ⟨lw_n13.1, lw_n13.2, dscr_2⟩, by decide⟩
theorem cs_X11_332_X6_likePairs : jSs RX11 332 mX6_likePairs 1 := ⟨(jw_3_9 13 rfl rfl), (jw_3_9 14 rfl rfl), sy_X6_likePairs⟩
abbrev mX11_ahead : jM := (yX11_ahead, cX11_ahead, 3, (some .int), [])
abbrev mX11_trial : jM := (yX11_trial, cX11_trial, 3, (some .int), [])
theorem fg_X11_335_6 : jFg RX11 335 6 16 := ⟨RX8, TX8, 18, _, rfl, wsX80_tb, by decide, (jw_1_10 6 rfl rfl), Or.inl rfl⟩
theorem sy_X1_tryHours : jSY mX1_tryHours 3 := ⟨(jw_6_6 10 rfl rfl), (jw_1_0 10 rfl rfl), ⟨lw_n2.1, lw_n2.2, dscr_36⟩, by decide⟩
theorem cv_X11_338_X1_tryHours : jSv RX11 338 mX1_tryHours 3 := ⟨(jw_6_6 7 rfl rfl), (jw_6_6 8 rfl rfl), (jw_6_6 9 rfl rfl), sy_X1_tryHours⟩
abbrev mX11_span : jM := (yX11_span, cX11_span, 6, (some .int), [])
theorem cs_X11_342_J6_bitCount_0f7a4 : jSs RX11 342 mJ6_bitCount_0f7a4 1 := ⟨(jw_6_7 3 rfl rfl), (jw_2_11 5 rfl rfl), sy_J6_bitCount_0f7a4⟩
abbrev mX11_led : jM := (yX11_led, cX11_led, 3, (some .int), [])
theorem sy_X5_rowsOf : jSY mX5_rowsOf 1 := ⟨(jw_6_8 11 rfl rfl), (jw_1_0 4 rfl rfl), ⟨lw_n10.1, lw_n10.2, dscr_19⟩, by decide⟩
theorem cv_X11_351_X5_rowsOf : jSv RX11 351 mX5_rowsOf 1 := ⟨(jw_6_8 8 rfl rfl), (jw_6_8 9 rfl rfl), (jw_6_8 10 rfl rfl), sy_X5_rowsOf⟩
theorem sy_X5_latestPlace : jSY mX5_latestPlace 1 := ⟨(jw_6_7 14 rfl rfl), (jw_1_0 4 rfl rfl), ⟨lw_n10.1, lw_n10.2, dscr_19⟩, by decide⟩
theorem cv_X11_348_X5_latestPlace : jSv RX11 348 mX5_latestPlace 1 := ⟨(jw_6_7 11 rfl rfl), (jw_6_7 12 rfl rfl), (jw_6_7 13 rfl rfl), sy_X5_latestPlace⟩
abbrev mX11_log : jM := (yX11_log, cX11_log, 3, (some .int), [])
theorem cv_X11_356_X5_read : jSv RX11 356 mX5_read 2 := ⟨(jw_6_9 4 rfl rfl), (jw_6_8 0 rfl rfl), (jw_6_8 1 rfl rfl), sy_X5_read⟩
abbrev mX11_seed : jM := (yX11_seed, cX11_seed, 3, (some .int), [])
theorem fp_X11_335_6 : jFp RX11 335 6 16 false .int := ⟨RX8, TX8, 18, tyX8, rfl, wsX80_tb, tyX8_ok, nmX8, by decide, (jw_1_10 6 rfl rfl), rfl, tyX8_ok 16 (by decide), fun q => by cases q⟩
abbrev mX11_undo : jM := (yX11_undo, cX11_undo, 1, (some .boolean), [])
theorem sy_X0_takeBack : jSY mX0_takeBack 1 := ⟨(jw_3_10 11 rfl rfl), (jw_1_0 6 rfl rfl), ⟨lw_n16.1, lw_n16.2, dscr_4⟩, by decide⟩
theorem cv_X11_358_X0_takeBack : jSv RX11 358 mX0_takeBack 1 := ⟨(jw_3_10 8 rfl rfl), (jw_3_10 9 rfl rfl), (jw_3_10 10 rfl rfl), sy_X0_takeBack⟩
abbrev mX11_image : jM := (yX11_image, cX11_image, 1, none, [])
theorem fg_X11_362_9 : jFg RX11 362 9 10 := ⟨RX11, TX11, 13, _, rfl, wsX110_tb, by decide, (jw_2_6 14 rfl rfl), Or.inl rfl⟩
theorem fp_X11_362_9 : jFp RX11 362 9 10 false (.object "RodRings$Rod") := ⟨RX11, TX11, 13, tyX11, rfl, wsX110_tb, tyX11_ok, nmX11, by decide, (jw_2_6 14 rfl rfl), rfl, tyX11_ok 10 (by decide), fun q => by cases q⟩
theorem fg_X11_365_9 : jFg RX11 365 9 11 := ⟨RX11, TX11, 13, _, rfl, wsX110_tb, by decide, (jw_2_6 15 rfl rfl), Or.inl rfl⟩
theorem fp_X11_365_9 : jFp RX11 365 9 11 false (.object "RodRings$Law") := ⟨RX11, TX11, 13, tyX11, rfl, wsX110_tb, tyX11_ok, nmX11, by decide, (jw_2_6 15 rfl rfl), rfl, tyX11_ok 11 (by decide), fun q => by cases q⟩
abbrev mX11_back : jM := (yX11_back, cX11_back, 1, (some .boolean), [])
abbrev mX11_count : jM := (yX11_count, cX11_count, 2, (some .int), [])
theorem fg_X11_368_2 : jFg RX11 368 2 7 := ⟨RX2, TX2, 9, _, rfl, wsX20_tb, by decide, (jw_1_13 12 rfl rfl), Or.inl rfl⟩
theorem fg_X11_372_6 : jFg RX11 372 6 13 := ⟨RX8, TX8, 18, _, rfl, wsX80_tb, by decide, (jw_1_9 11 rfl rfl), Or.inl rfl⟩
theorem fg_X11_375_6 : jFg RX11 375 6 14 := ⟨RX8, TX8, 18, _, rfl, wsX80_tb, by decide, (jw_1_10 1 rfl rfl), Or.inl rfl⟩
theorem fg_X11_378_6 : jFg RX11 378 6 11 := ⟨RX8, TX8, 18, _, rfl, wsX80_tb, by decide, (jw_1_9 2 rfl rfl), Or.inl rfl⟩
theorem fg_X11_381_6 : jFg RX11 381 6 12 := ⟨RX8, TX8, 18, _, rfl, wsX80_tb, by decide, (jw_1_9 5 rfl rfl), Or.inl rfl⟩
theorem fg_X11_384_4 : jFg RX11 384 4 1 := ⟨RX5, TX5, 3, _, rfl, wsX50_tb, by decide, (jw_1_5 3 rfl rfl), Or.inl rfl⟩
theorem fg_X11_387_0 : jFg RX11 387 0 2 := ⟨RX0, TX0, 3, _, rfl, wsX00_tb, by decide, (jw_2_0 13 rfl rfl), Or.inl rfl⟩
theorem sy_X7_areRows : jSY mX7_areRows 1 := ⟨(jw_5_13 7 rfl rfl), (jw_1_0 11 rfl rfl), ⟨lw_n1.1, lw_n1.2, dscr_12⟩, by decide⟩
theorem cv_X11_394_X7_areRows : jSv RX11 394 mX7_areRows 1 := ⟨(jw_5_13 4 rfl rfl), (jw_5_13 5 rfl rfl), (jw_5_13 6 rfl rfl), sy_X7_areRows⟩
theorem sy_X7_seekSnags : jSY mX7_seekSnags 1 := ⟨(jw_5_13 12 rfl rfl), (jw_1_0 11 rfl rfl), ⟨lw_n1.1, lw_n1.2, dscr_1⟩, by decide⟩
theorem cv_X11_398_X7_seekSnags : jSv RX11 398 mX7_seekSnags 1 := ⟨(jw_5_13 9 rfl rfl), (jw_5_13 10 rfl rfl), (jw_5_13 11 rfl rfl), sy_X7_seekSnags⟩
abbrev mX12_thrown : jM := (yX12_thrown, cX12_thrown, 1, (some .int), [])
theorem fg_X12_3_10 : jFg RX12 3 10 0 := ⟨RX12, TX12, 22, _, rfl, wsX120_tb, by decide, (jw_6_9 15 rfl rfl), Or.inl rfl⟩
abbrev mX12_throwsIf : jM := (yX12_throwsIf, cX12_throwsIf, 3, (some .boolean), [])
theorem fp_X12_3_10 : jFp RX12 3 10 0 false .int := ⟨RX12, TX12, 22, tyX12, rfl, wsX120_tb, tyX12_ok, nmX12, by decide, (jw_6_9 15 rfl rfl), rfl, tyX12_ok 0 (by decide), fun q => by cases q⟩
abbrev mX12_in : jM := (yX12_in, cX12_in, 3, (some .boolean), [])
abbrev mX12_has : jM := (yX12_has, cX12_has, 2, (some .boolean), [])
abbrev mX12_init : jM := (yX12_init, cX12_init, 1, none, [])
theorem oi_X12_7 : Cond.methodLink RX12 7 Lib.objectInit ∈ jall ∧ Cond.instanceMethod Lib.objectInit ∈ jall ∧ Cond.code Lib.objectInit ⟨#[0xb1]⟩ 1 none ∈ jall := ⟨(jw_6_9 14 rfl rfl), (jw_1_2 3 rfl rfl), (jw_1_2 4 rfl rfl)⟩
theorem fp_X12_13_10 : jFp RX12 13 10 1 true (.array .int) := ⟨RX12, TX12, 22, tyX12, rfl, wsX120_tb, tyX12_ok, nmX12, by decide, (jw_6_10 0 rfl rfl), rfl, tyX12_ok 1 (by decide), fun _ => rfl⟩
theorem fp_X12_17_10 : jFp RX12 17 10 2 true (.array .int) := ⟨RX12, TX12, 22, tyX12, rfl, wsX120_tb, tyX12_ok, nmX12, by decide, (jw_6_10 1 rfl rfl), rfl, tyX12_ok 2 (by decide), fun _ => rfl⟩
theorem fp_X12_20_10 : jFp RX12 20 10 3 true (.array .int) := ⟨RX12, TX12, 22, tyX12, rfl, wsX120_tb, tyX12_ok, nmX12, by decide, (jw_6_10 2 rfl rfl), rfl, tyX12_ok 3 (by decide), fun _ => rfl⟩
theorem fp_X12_23_10 : jFp RX12 23 10 4 true (.array .int) := ⟨RX12, TX12, 22, tyX12, rfl, wsX120_tb, tyX12_ok, nmX12, by decide, (jw_6_10 3 rfl rfl), rfl, tyX12_ok 4 (by decide), fun _ => rfl⟩
theorem fp_X12_26_10 : jFp RX12 26 10 5 true (.array .int) := ⟨RX12, TX12, 22, tyX12, rfl, wsX120_tb, tyX12_ok, nmX12, by decide, (jw_6_10 4 rfl rfl), rfl, tyX12_ok 5 (by decide), fun _ => rfl⟩
theorem fp_X12_29_10 : jFp RX12 29 10 8 true (.array .byte) := ⟨RX12, TX12, 22, tyX12, rfl, wsX120_tb, tyX12_ok, nmX12, by decide, (jw_6_10 7 rfl rfl), rfl, tyX12_ok 8 (by decide), fun _ => rfl⟩
theorem fp_X12_33_10 : jFp RX12 33 10 14 false .int := ⟨RX12, TX12, 22, tyX12, rfl, wsX120_tb, tyX12_ok, nmX12, by decide, (jw_6_10 13 rfl rfl), rfl, tyX12_ok 14 (by decide), fun q => by cases q⟩
theorem fp_X12_36_10 : jFp RX12 36 10 15 true (.array .int) := ⟨RX12, TX12, 22, tyX12, rfl, wsX120_tb, tyX12_ok, nmX12, by decide, (jw_6_10 14 rfl rfl), rfl, tyX12_ok 15 (by decide), fun _ => rfl⟩
theorem fp_X12_39_10 : jFp RX12 39 10 17 true (.array .int) := ⟨RX12, TX12, 22, tyX12, rfl, wsX120_tb, tyX12_ok, nmX12, by decide, (jw_6_11 0 rfl rfl), rfl, tyX12_ok 17 (by decide), fun _ => rfl⟩
theorem ac_boolean : Cond.arrayClass .boolean ∈ jall := (jw_6_14 2 rfl rfl)
theorem fp_X12_42_10 : jFp RX12 42 10 19 true (.array .boolean) := ⟨RX12, TX12, 22, tyX12, rfl, wsX120_tb, tyX12_ok, nmX12, by decide, (jw_6_11 2 rfl rfl), rfl, tyX12_ok 19 (by decide), fun _ => rfl⟩
theorem fp_X12_46_10 : jFp RX12 46 10 20 true (.array .int) := ⟨RX12, TX12, 22, tyX12, rfl, wsX120_tb, tyX12_ok, nmX12, by decide, (jw_6_11 3 rfl rfl), rfl, tyX12_ok 20 (by decide), fun _ => rfl⟩
theorem fp_X12_49_10 : jFp RX12 49 10 21 true (.array .int) := ⟨RX12, TX12, 22, tyX12, rfl, wsX120_tb, tyX12_ok, nmX12, by decide, (jw_6_11 4 rfl rfl), rfl, tyX12_ok 21 (by decide), fun _ => rfl⟩
theorem fg_X12_13_10 : jFg RX12 13 10 1 := ⟨RX12, TX12, 22, _, rfl, wsX120_tb, by decide, (jw_6_10 0 rfl rfl), Or.inl rfl⟩
abbrev mX12_image : jM := (yX12_image, cX12_image, 2, none, [])
theorem fp_X12_52_10 : jFp RX12 52 10 6 false .boolean := ⟨RX12, TX12, 22, tyX12, rfl, wsX120_tb, tyX12_ok, nmX12, by decide, (jw_6_10 5 rfl rfl), rfl, tyX12_ok 6 (by decide), fun q => by cases q⟩
theorem fg_X12_17_10 : jFg RX12 17 10 2 := ⟨RX12, TX12, 22, _, rfl, wsX120_tb, by decide, (jw_6_10 1 rfl rfl), Or.inl rfl⟩
abbrev mX12_back : jM := (yX12_back, cX12_back, 2, (some .boolean), [])
theorem fg_X12_52_10 : jFg RX12 52 10 6 := ⟨RX12, TX12, 22, _, rfl, wsX120_tb, by decide, (jw_6_10 5 rfl rfl), Or.inl rfl⟩
theorem fp_X12_56_10 : jFp RX12 56 10 7 false .int := ⟨RX12, TX12, 22, tyX12, rfl, wsX120_tb, tyX12_ok, nmX12, by decide, (jw_6_10 6 rfl rfl), rfl, tyX12_ok 7 (by decide), fun q => by cases q⟩
abbrev mX12_remembers : jM := (yX12_remembers, cX12_remembers, 2, none, [])
theorem fg_X12_56_10 : jFg RX12 56 10 7 := ⟨RX12, TX12, 22, _, rfl, wsX120_tb, by decide, (jw_6_10 6 rfl rfl), Or.inl rfl⟩
theorem fg_X12_26_10 : jFg RX12 26 10 5 := ⟨RX12, TX12, 22, _, rfl, wsX120_tb, by decide, (jw_6_10 4 rfl rfl), Or.inl rfl⟩
abbrev mX12_undo : jM := (yX12_undo, cX12_undo, 2, (some .boolean), [])
abbrev mX12_rings : jM := (yX12_rings, cX12_rings, 1, (some .int), [])
abbrev mX12_lastRing : jM := (yX12_lastRing, cX12_lastRing, 1, (some .int), [])
theorem sy_X12_rings : jSY mX12_rings 0 := ⟨(jw_7_3 9 rfl rfl), (jw_1_0 12 rfl rfl), ⟨lw_n9.1, lw_n9.2, dscr_11⟩, by decide⟩
theorem cv_X12_59_X12_rings : jSv RX12 59 mX12_rings 0 := ⟨(jw_7_3 6 rfl rfl), (jw_7_3 8 rfl rfl), (js_3 7 rfl), sy_X12_rings⟩
abbrev mX12_at : jM := (yX12_at, cX12_at, 2, (some .int), [])
abbrev mX12_of : jM := (yX12_of, cX12_of, 3, (some .int), [])
theorem sy_X12_at : jSY mX12_at 2 := ⟨(jw_7_4 9 rfl rfl), (jw_1_0 12 rfl rfl), ⟨lw_n9.1, lw_n9.2, dscr_6⟩, by decide⟩
theorem cs_X12_63_X12_at : jSs RX12 63 mX12_at 2 := ⟨(jw_7_4 7 rfl rfl), (jw_7_4 8 rfl rfl), sy_X12_at⟩
abbrev mX12_is : jM := (yX12_is, cX12_is, 3, (some .boolean), [])
theorem sy_X12_of : jSY mX12_of 2 := ⟨(jw_7_4 6 rfl rfl), (jw_1_0 12 rfl rfl), ⟨lw_n9.1, lw_n9.2, dscr_6⟩, by decide⟩
theorem cv_X12_67_X12_of : jSv RX12 67 mX12_of 2 := ⟨(jw_7_4 3 rfl rfl), (jw_7_4 5 rfl rfl), (js_3 10 rfl), sy_X12_of⟩
abbrev mX12_gapOf : jM := (yX12_gapOf, cX12_gapOf, 2, (some .int), [])
theorem sy_X12_lastRing : jSY mX12_lastRing 0 := ⟨(jw_7_4 2 rfl rfl), (jw_1_0 12 rfl rfl), ⟨lw_n9.1, lw_n9.2, dscr_11⟩, by decide⟩
theorem cv_X12_70_X12_lastRing : jSv RX12 70 mX12_lastRing 0 := ⟨(jw_7_3 15 rfl rfl), (jw_7_4 1 rfl rfl), (js_3 9 rfl), sy_X12_lastRing⟩
abbrev mX12_ringsThat : jM := (yX12_ringsThat, cX12_ringsThat, 4, (some .int), [])
theorem sy_X12_is : jSY mX12_is 2 := ⟨(jw_7_13 10 rfl rfl), (jw_1_0 12 rfl rfl), ⟨lw_n9.1, lw_n9.2, dscr_10⟩, by decide⟩
theorem cv_X12_73_X12_is : jSv RX12 73 mX12_is 2 := ⟨(jw_7_13 7 rfl rfl), (jw_7_13 9 rfl rfl), (js_5 6 rfl), sy_X12_is⟩
abbrev mX12_noRing : jM := (yX12_noRing, cX12_noRing, 2, (some .boolean), [])
theorem sy_X12_in : jSY mX12_in 3 := ⟨(jw_7_11 10 rfl rfl), (jw_1_0 12 rfl rfl), ⟨lw_n9.1, lw_n9.2, dscr_28⟩, by decide⟩
theorem cs_X12_77_X12_in : jSs RX12 77 mX12_in 3 := ⟨(jw_7_11 8 rfl rfl), (jw_7_11 9 rfl rfl), sy_X12_in⟩
abbrev mX12_noPlace : jM := (yX12_noPlace, cX12_noPlace, 1, (some .boolean), [])
abbrev mX12_noSteps : jM := (yX12_noSteps, cX12_noSteps, 1, (some .boolean), [])
abbrev mX12_drawn : jM := (yX12_drawn, cX12_drawn, 2, (some .int), [])
theorem kc_X12_81 : Cond.constant RX12 81 (1103515245 : Int32) ∈ jall := (jw_8_4 14 rfl rfl)
abbrev mX12_feed : jM := (yX12_feed, cX12_feed, 7, (some .int), [])
theorem fg_X12_82_10 : jFg RX12 82 10 9 := ⟨RX12, TX12, 22, _, rfl, wsX120_tb, by decide, (jw_6_10 8 rfl rfl), Or.inl rfl⟩
theorem fg_X12_36_10 : jFg RX12 36 10 15 := ⟨RX12, TX12, 22, _, rfl, wsX120_tb, by decide, (jw_6_10 14 rfl rfl), Or.inl rfl⟩
theorem fp_X12_82_10 : jFp RX12 82 10 9 false .int := ⟨RX12, TX12, 22, tyX12, rfl, wsX120_tb, tyX12_ok, nmX12, by decide, (jw_6_10 8 rfl rfl), rfl, tyX12_ok 9 (by decide), fun q => by cases q⟩
theorem fg_X12_29_10 : jFg RX12 29 10 8 := ⟨RX12, TX12, 22, _, rfl, wsX120_tb, by decide, (jw_6_10 7 rfl rfl), Or.inl rfl⟩
abbrev mX12_end : jM := (yX12_end, cX12_end, 2, (some .boolean), [])
abbrev mX12_isAt : jM := (yX12_isAt, cX12_isAt, 3, (some .boolean), [])
theorem fg_X12_85_10 : jFg RX12 85 10 10 := ⟨RX12, TX12, 22, _, rfl, wsX120_tb, by decide, (jw_6_10 9 rfl rfl), Or.inl rfl⟩
theorem fg_X12_88_10 : jFg RX12 88 10 11 := ⟨RX12, TX12, 22, _, rfl, wsX120_tb, by decide, (jw_6_10 10 rfl rfl), Or.inl rfl⟩
abbrev mX12_blanks : jM := (yX12_blanks, cX12_blanks, 1, none, [])
theorem sy_X12_isAt : jSY mX12_isAt 2 := ⟨(jw_7_1 14 rfl rfl), (jw_1_0 12 rfl rfl), ⟨lw_n9.1, lw_n9.2, dscr_10⟩, by decide⟩
theorem cv_X12_91_X12_isAt : jSv RX12 91 mX12_isAt 2 := ⟨(jw_7_1 11 rfl rfl), (jw_7_1 13 rfl rfl), (js_3 1 rfl), sy_X12_isAt⟩
theorem fp_X12_94_10 : jFp RX12 94 10 12 false .int := ⟨RX12, TX12, 22, tyX12, rfl, wsX120_tb, tyX12_ok, nmX12, by decide, (jw_6_10 11 rfl rfl), rfl, tyX12_ok 12 (by decide), fun q => by cases q⟩
theorem fp_X12_85_10 : jFp RX12 85 10 10 false .int := ⟨RX12, TX12, 22, tyX12, rfl, wsX120_tb, tyX12_ok, nmX12, by decide, (jw_6_10 9 rfl rfl), rfl, tyX12_ok 10 (by decide), fun q => by cases q⟩
abbrev mX12_letters : jM := (yX12_letters, cX12_letters, 1, none, [])
theorem sy_X12_blanks : jSY mX12_blanks 0 := ⟨(jw_7_1 10 rfl rfl), (jw_1_0 12 rfl rfl), ⟨lw_n9.1, lw_n9.2, dscr_0⟩, by decide⟩
theorem cv_X12_97_X12_blanks : jSv RX12 97 mX12_blanks 0 := ⟨(jw_7_1 7 rfl rfl), (jw_7_1 9 rfl rfl), (js_3 0 rfl), sy_X12_blanks⟩
abbrev mX12_isWord : jM := (yX12_isWord, cX12_isWord, 4, (some .boolean), [])
theorem fg_X12_94_10 : jFg RX12 94 10 12 := ⟨RX12, TX12, 22, _, rfl, wsX120_tb, by decide, (jw_6_10 11 rfl rfl), Or.inl rfl⟩
theorem ss_X12_100 : jSv RX12 100 mJ0_length_8abf5 0 := ⟨(jw_7_3 0 rfl rfl), (jw_3_14 8 rfl rfl), (jw_3_14 9 rfl rfl), sy_J0_length_8abf5⟩
theorem ss_X12_105 : jSv RX12 105 mJ0_charAt_5068e 1 := ⟨(jw_7_3 1 rfl rfl), (jw_4_0 2 rfl rfl), (jw_4_0 3 rfl rfl), sy_J0_charAt_5068e⟩
abbrev mX12_passes : jM := (yX12_passes, cX12_passes, 2, (some .boolean), [])
theorem sy_X12_letters : jSY mX12_letters 0 := ⟨(jw_7_2 6 rfl rfl), (jw_1_0 12 rfl rfl), ⟨lw_n9.1, lw_n9.2, dscr_0⟩, by decide⟩
theorem cv_X12_109_X12_letters : jSv RX12 109 mX12_letters 0 := ⟨(jw_7_2 3 rfl rfl), (jw_7_2 5 rfl rfl), (js_3 3 rfl), sy_X12_letters⟩
theorem sy_X12_isWord : jSY mX12_isWord 1 := ⟨(jw_7_2 15 rfl rfl), (jw_1_0 12 rfl rfl), ⟨lw_n9.1, lw_n9.2, dscr_37⟩, by decide⟩
theorem cv_X12_112_X12_isWord : jSv RX12 112 mX12_isWord 1 := ⟨(jw_7_2 12 rfl rfl), (jw_7_2 14 rfl rfl), (js_3 5 rfl), sy_X12_isWord⟩
abbrev mX12_sign : jM := (yX12_sign, cX12_sign, 2, (some .boolean), [])
abbrev mX12_number : jM := (yX12_number, cX12_number, 4, (some .int), [])
abbrev mX12_after : jM := (yX12_after, cX12_after, 4, (some .int), [])
theorem sy_X12_number : jSY mX12_number 2 := ⟨(jw_7_5 6 rfl rfl), (jw_1_0 12 rfl rfl), ⟨lw_n9.1, lw_n9.2, dscr_6⟩, by decide⟩
theorem cv_X12_116_X12_number : jSv RX12 116 mX12_number 2 := ⟨(jw_7_5 3 rfl rfl), (jw_7_5 5 rfl rfl), (js_3 13 rfl), sy_X12_number⟩
abbrev mX12_fault : jM := (yX12_fault, cX12_fault, 1, (some .int), [])
theorem fg_X12_33_10 : jFg RX12 33 10 14 := ⟨RX12, TX12, 22, _, rfl, wsX120_tb, by decide, (jw_6_10 13 rfl rfl), Or.inl rfl⟩
abbrev mX12_uses : jM := (yX12_uses, cX12_uses, 1, none, [])
theorem fp_X12_88_10 : jFp RX12 88 10 11 false .int := ⟨RX12, TX12, 22, tyX12, rfl, wsX120_tb, tyX12_ok, nmX12, by decide, (jw_6_10 10 rfl rfl), rfl, tyX12_ok 11 (by decide), fun q => by cases q⟩
abbrev mX12_readNumber : jM := (yX12_readNumber, cX12_readNumber, 5, (some .boolean), [])
abbrev mX12_leastPlace : jM := (yX12_leastPlace, cX12_leastPlace, 1, (some .int), [])
abbrev mX12_mostPlace : jM := (yX12_mostPlace, cX12_mostPlace, 1, (some .int), [])
theorem mm_X12_119 : Cond.methodLink RX12 119 Lib.Math.min.name ∈ jall ∧ Cond.static Lib.Math.min.name ∈ jall ∧ Cond.initialized "java/lang/Math" ∈ jall ∧ Cond.code Lib.Math.min.name Lib.Math.min.code 2 (some .int) ∈ jall := ⟨(jw_7_4 14 rfl rfl), (jw_2_14 9 rfl rfl), (jw_1_1 2 rfl rfl), (jw_2_14 10 rfl rfl)⟩
abbrev mX12_hangs : jM := (yX12_hangs, cX12_hangs, 5, none, [])
abbrev mX12_readRing : jM := (yX12_readRing, cX12_readRing, 8, (some .boolean), [])
theorem sy_X12_leastPlace : jSY mX12_leastPlace 0 := ⟨(jw_7_3 14 rfl rfl), (jw_1_0 12 rfl rfl), ⟨lw_n9.1, lw_n9.2, dscr_11⟩, by decide⟩
theorem cv_X12_125_X12_leastPlace : jSv RX12 125 mX12_leastPlace 0 := ⟨(jw_7_3 11 rfl rfl), (jw_7_3 13 rfl rfl), (js_3 8 rfl), sy_X12_leastPlace⟩
theorem sy_X12_mostPlace : jSY mX12_mostPlace 0 := ⟨(jw_7_4 13 rfl rfl), (jw_1_0 12 rfl rfl), ⟨lw_n9.1, lw_n9.2, dscr_11⟩, by decide⟩
theorem cv_X12_128_X12_mostPlace : jSv RX12 128 mX12_mostPlace 0 := ⟨(jw_7_4 10 rfl rfl), (jw_7_4 12 rfl rfl), (js_3 11 rfl), sy_X12_mostPlace⟩
theorem sy_X12_after : jSY mX12_after 3 := ⟨(jw_7_5 2 rfl rfl), (jw_1_0 12 rfl rfl), ⟨lw_n9.1, lw_n9.2, dscr_38⟩, by decide⟩
theorem cv_X12_131_X12_after : jSv RX12 131 mX12_after 3 := ⟨(jw_7_4 15 rfl rfl), (jw_7_5 1 rfl rfl), (js_3 12 rfl), sy_X12_after⟩
theorem sy_X12_passes : jSY mX12_passes 1 := ⟨(jw_7_5 12 rfl rfl), (jw_1_0 12 rfl rfl), ⟨lw_n9.1, lw_n9.2, dscr_37⟩, by decide⟩
theorem cv_X12_139_X12_passes : jSv RX12 139 mX12_passes 1 := ⟨(jw_7_5 9 rfl rfl), (jw_7_5 11 rfl rfl), (js_3 14 rfl), sy_X12_passes⟩
theorem sy_X12_hangs : jSY mX12_hangs 2 := ⟨(jw_7_6 3 rfl rfl), (jw_1_0 12 rfl rfl), ⟨lw_n9.1, lw_n9.2, dscr_16⟩, by decide⟩
theorem cv_X12_148_X12_hangs : jSv RX12 148 mX12_hangs 2 := ⟨(jw_7_6 0 rfl rfl), (jw_7_6 2 rfl rfl), (js_3 15 rfl), sy_X12_hangs⟩
abbrev mX12_readCaught : jM := (yX12_readCaught, cX12_readCaught, 2, (some .boolean), [])
abbrev mX12_readChair : jM := (yX12_readChair, cX12_readChair, 2, (some .boolean), [])
abbrev mX12_readPoleLine : jM := (yX12_readPoleLine, cX12_readPoleLine, 1, (some .boolean), [])
theorem sy_X12_readNumber : jSY mX12_readNumber 3 := ⟨(jw_7_7 2 rfl rfl), (jw_1_0 12 rfl rfl), ⟨lw_n9.1, lw_n9.2, dscr_28⟩, by decide⟩
theorem cv_X12_170_X12_readNumber : jSv RX12 170 mX12_readNumber 3 := ⟨(jw_7_6 15 rfl rfl), (jw_7_7 1 rfl rfl), (js_4 2 rfl), sy_X12_readNumber⟩
theorem sy_X12_readChair : jSY mX12_readChair 0 := ⟨(jw_7_6 13 rfl rfl), (jw_1_0 12 rfl rfl), ⟨lw_n9.1, lw_n9.2, dscr_17⟩, by decide⟩
theorem cv_X12_165_X12_readChair : jSv RX12 165 mX12_readChair 0 := ⟨(jw_7_6 10 rfl rfl), (jw_7_6 12 rfl rfl), (js_4 1 rfl), sy_X12_readChair⟩
theorem sy_X12_readCaught : jSY mX12_readCaught 0 := ⟨(jw_7_6 8 rfl rfl), (jw_1_0 12 rfl rfl), ⟨lw_n9.1, lw_n9.2, dscr_17⟩, by decide⟩
theorem cv_X12_160_X12_readCaught : jSv RX12 160 mX12_readCaught 0 := ⟨(jw_7_6 5 rfl rfl), (jw_7_6 7 rfl rfl), (js_4 0 rfl), sy_X12_readCaught⟩
theorem sy_X12_readRing : jSY mX12_readRing 0 := ⟨(jw_7_3 5 rfl rfl), (jw_1_0 12 rfl rfl), ⟨lw_n9.1, lw_n9.2, dscr_17⟩, by decide⟩
theorem cv_X12_154_X12_readRing : jSv RX12 154 mX12_readRing 0 := ⟨(jw_7_3 2 rfl rfl), (jw_7_3 4 rfl rfl), (js_3 6 rfl), sy_X12_readRing⟩
abbrev mX12_emits : jM := (yX12_emits, cX12_emits, 3, none, [])
theorem fg_X12_179_10 : jFg RX12 179 10 16 := ⟨RX12, TX12, 22, _, rfl, wsX120_tb, by decide, (jw_6_10 15 rfl rfl), Or.inl rfl⟩
theorem fp_X12_179_10 : jFp RX12 179 10 16 false .int := ⟨RX12, TX12, 22, tyX12, rfl, wsX120_tb, tyX12_ok, nmX12, by decide, (jw_6_10 15 rfl rfl), rfl, tyX12_ok 16 (by decide), fun q => by cases q⟩
abbrev mX12_wordOfPart : jM := (yX12_wordOfPart, cX12_wordOfPart, 1, (some .int), [])
abbrev mX12_readPart : jM := (yX12_readPart, cX12_readPart, 3, (some .boolean), [])
theorem sy_X12_wordOfPart : jSY mX12_wordOfPart 0 := ⟨(jw_7_10 3 rfl rfl), (jw_1_0 12 rfl rfl), ⟨lw_n9.1, lw_n9.2, dscr_11⟩, by decide⟩
theorem cv_X12_186_X12_wordOfPart : jSv RX12 186 mX12_wordOfPart 0 := ⟨(jw_7_10 0 rfl rfl), (jw_7_10 2 rfl rfl), (js_4 12 rfl), sy_X12_wordOfPart⟩
theorem sy_X12_emits : jSY mX12_emits 2 := ⟨(jw_7_9 1 rfl rfl), (jw_1_0 12 rfl rfl), ⟨lw_n9.1, lw_n9.2, dscr_16⟩, by decide⟩
theorem cv_X12_189_X12_emits : jSv RX12 189 mX12_emits 2 := ⟨(jw_7_8 14 rfl rfl), (jw_7_9 0 rfl rfl), (js_4 8 rfl), sy_X12_emits⟩
abbrev mX12_readSum : jM := (yX12_readSum, cX12_readSum, 1, (some .boolean), [])
theorem sy_X12_readPart : jSY mX12_readPart 0 := ⟨(jw_7_9 15 rfl rfl), (jw_1_0 12 rfl rfl), ⟨lw_n9.1, lw_n9.2, dscr_17⟩, by decide⟩
theorem cv_X12_192_X12_readPart : jSv RX12 192 mX12_readPart 0 := ⟨(jw_7_9 12 rfl rfl), (jw_7_9 14 rfl rfl), (js_4 11 rfl), sy_X12_readPart⟩
theorem sy_X12_sign : jSY mX12_sign 1 := ⟨(jw_7_8 12 rfl rfl), (jw_1_0 12 rfl rfl), ⟨lw_n9.1, lw_n9.2, dscr_12⟩, by decide⟩
theorem cv_X12_195_X12_sign : jSv RX12 195 mX12_sign 1 := ⟨(jw_7_8 9 rfl rfl), (jw_7_8 11 rfl rfl), (js_4 7 rfl), sy_X12_sign⟩
abbrev mX12_readTag : jM := (yX12_readTag, cX12_readTag, 2, (some .boolean), [])
abbrev mX12_readAtom : jM := (yX12_readAtom, cX12_readAtom, 2, (some .boolean), [])
theorem sy_X12_readTag : jSY mX12_readTag 0 := ⟨(jw_7_9 5 rfl rfl), (jw_1_0 12 rfl rfl), ⟨lw_n9.1, lw_n9.2, dscr_17⟩, by decide⟩
theorem cv_X12_214_X12_readTag : jSv RX12 214 mX12_readTag 0 := ⟨(jw_7_9 2 rfl rfl), (jw_7_9 4 rfl rfl), (js_4 9 rfl), sy_X12_readTag⟩
theorem sy_X12_readSum : jSY mX12_readSum 0 := ⟨(jw_7_9 11 rfl rfl), (jw_1_0 12 rfl rfl), ⟨lw_n9.1, lw_n9.2, dscr_17⟩, by decide⟩
theorem cv_X12_217_X12_readSum : jSv RX12 217 mX12_readSum 0 := ⟨(jw_7_9 8 rfl rfl), (jw_7_9 10 rfl rfl), (js_4 10 rfl), sy_X12_readSum⟩
theorem fg_X12_203_10 : jFg RX12 203 10 13 := ⟨RX12, TX12, 22, _, rfl, wsX120_tb, by decide, (jw_6_10 12 rfl rfl), Or.inl rfl⟩
theorem fp_X12_203_10 : jFp RX12 203 10 13 false .int := ⟨RX12, TX12, 22, tyX12, rfl, wsX120_tb, tyX12_ok, nmX12, by decide, (jw_6_10 12 rfl rfl), rfl, tyX12_ok 13 (by decide), fun q => by cases q⟩
theorem sy_X12_readAtom : jSY mX12_readAtom 0 := ⟨(jw_7_8 8 rfl rfl), (jw_1_0 12 rfl rfl), ⟨lw_n9.1, lw_n9.2, dscr_17⟩, by decide⟩
theorem cv_X12_211_X12_readAtom : jSv RX12 211 mX12_readAtom 0 := ⟨(jw_7_8 5 rfl rfl), (jw_7_8 7 rfl rfl), (js_4 6 rfl), sy_X12_readAtom⟩
abbrev mX12_readCond : jM := (yX12_readCond, cX12_readCond, 1, (some .boolean), [])
theorem sy_X12_readCond : jSY mX12_readCond 0 := ⟨(jw_7_8 0 rfl rfl), (jw_1_0 12 rfl rfl), ⟨lw_n9.1, lw_n9.2, dscr_17⟩, by decide⟩
theorem cv_X12_206_X12_readCond : jSv RX12 206 mX12_readCond 0 := ⟨(jw_7_7 13 rfl rfl), (jw_7_7 15 rfl rfl), (js_4 4 rfl), sy_X12_readCond⟩
abbrev mX12_readAllOf : jM := (yX12_readAllOf, cX12_readAllOf, 1, (some .boolean), [])
theorem sy_X12_readAllOf : jSY mX12_readAllOf 0 := ⟨(jw_7_8 4 rfl rfl), (jw_1_0 12 rfl rfl), ⟨lw_n9.1, lw_n9.2, dscr_17⟩, by decide⟩
theorem cv_X12_222_X12_readAllOf : jSv RX12 222 mX12_readAllOf 0 := ⟨(jw_7_8 1 rfl rfl), (jw_7_8 3 rfl rfl), (js_4 5 rfl), sy_X12_readAllOf⟩
abbrev mX12_readLawLine : jM := (yX12_readLawLine, cX12_readLawLine, 3, (some .boolean), [])
abbrev mX12_readLine : jM := (yX12_readLine, cX12_readLine, 3, (some .boolean), [])
theorem sy_X12_readLawLine : jSY mX12_readLawLine 1 := ⟨(jw_7_7 9 rfl rfl), (jw_1_0 12 rfl rfl), ⟨lw_n9.1, lw_n9.2, dscr_12⟩, by decide⟩
theorem cv_X12_236_X12_readLawLine : jSv RX12 236 mX12_readLawLine 1 := ⟨(jw_7_7 6 rfl rfl), (jw_7_7 8 rfl rfl), (js_4 3 rfl), sy_X12_readLawLine⟩
theorem sy_X12_readPoleLine : jSY mX12_readPoleLine 0 := ⟨(jw_7_2 10 rfl rfl), (jw_1_0 12 rfl rfl), ⟨lw_n9.1, lw_n9.2, dscr_17⟩, by decide⟩
theorem cv_X12_233_X12_readPoleLine : jSv RX12 233 mX12_readPoleLine 0 := ⟨(jw_7_2 7 rfl rfl), (jw_7_2 9 rfl rfl), (js_3 4 rfl), sy_X12_readPoleLine⟩
abbrev mX12_readAll : jM := (yX12_readAll, cX12_readAll, 3, (some .int), [])
theorem sy_X12_uses : jSY mX12_uses 0 := ⟨(jw_7_1 6 rfl rfl), (jw_1_0 12 rfl rfl), ⟨lw_n9.1, lw_n9.2, dscr_0⟩, by decide⟩
theorem cv_X12_239_X12_uses : jSv RX12 239 mX12_uses 0 := ⟨(jw_7_1 3 rfl rfl), (jw_7_1 5 rfl rfl), (js_2 15 rfl), sy_X12_uses⟩
theorem sy_X12_readLine : jSY mX12_readLine 2 := ⟨(jw_7_2 2 rfl rfl), (jw_1_0 12 rfl rfl), ⟨lw_n9.1, lw_n9.2, dscr_39⟩, by decide⟩
theorem cv_X12_242_X12_readLine : jSv RX12 242 mX12_readLine 2 := ⟨(jw_7_1 15 rfl rfl), (jw_7_2 1 rfl rfl), (js_3 2 rfl), sy_X12_readLine⟩
abbrev mX12_pole : jM := (yX12_pole, cX12_pole, 3, (some .int), [])
theorem sy_X12_readAll : jSY mX12_readAll 1 := ⟨(jw_7_1 2 rfl rfl), (jw_1_0 12 rfl rfl), ⟨lw_n9.1, lw_n9.2, dscr_40⟩, by decide⟩
theorem cv_X12_246_X12_readAll : jSv RX12 246 mX12_readAll 1 := ⟨(jw_7_0 15 rfl rfl), (jw_7_1 1 rfl rfl), (js_2 14 rfl), sy_X12_readAll⟩
theorem sy_X12_throwsIf : jSY mX12_throwsIf 2 := ⟨(jw_7_10 11 rfl rfl), (jw_1_0 12 rfl rfl), ⟨lw_n9.1, lw_n9.2, dscr_39⟩, by decide⟩
theorem cv_X12_250_X12_throwsIf : jSv RX12 250 mX12_throwsIf 2 := ⟨(jw_7_10 8 rfl rfl), (jw_7_10 10 rfl rfl), (js_4 13 rfl), sy_X12_throwsIf⟩
theorem fg_X12_20_10 : jFg RX12 20 10 3 := ⟨RX12, TX12, 22, _, rfl, wsX120_tb, by decide, (jw_6_10 2 rfl rfl), Or.inl rfl⟩
abbrev mX12_law : jM := (yX12_law, cX12_law, 3, (some .int), [])
abbrev mX12_isLit : jM := (yX12_isLit, cX12_isLit, 3, (some .boolean), [])
abbrev mX12_factOf : jM := (yX12_factOf, cX12_factOf, 4, (some .int), [])
theorem sy_X12_gapOf : jSY mX12_gapOf 1 := ⟨(jw_7_11 14 rfl rfl), (jw_1_0 12 rfl rfl), ⟨lw_n9.1, lw_n9.2, dscr_19⟩, by decide⟩
theorem cv_X12_253_X12_gapOf : jSv RX12 253 mX12_gapOf 1 := ⟨(jw_7_11 11 rfl rfl), (jw_7_11 13 rfl rfl), (js_4 15 rfl), sy_X12_gapOf⟩
theorem sy_X12_isLit : jSY mX12_isLit 2 := ⟨(jw_7_13 2 rfl rfl), (jw_1_0 12 rfl rfl), ⟨lw_n9.1, lw_n9.2, dscr_10⟩, by decide⟩
theorem cv_X12_257_X12_isLit : jSv RX12 257 mX12_isLit 2 := ⟨(jw_7_12 15 rfl rfl), (jw_7_13 1 rfl rfl), (js_5 4 rfl), sy_X12_isLit⟩
abbrev mX12_holdsLine : jM := (yX12_holdsLine, cX12_holdsLine, 10, (some .boolean), [])
theorem fg_X12_39_10 : jFg RX12 39 10 17 := ⟨RX12, TX12, 22, _, rfl, wsX120_tb, by decide, (jw_6_11 0 rfl rfl), Or.inl rfl⟩
theorem sy_X12_factOf : jSY mX12_factOf 3 := ⟨(jw_7_12 14 rfl rfl), (jw_1_0 12 rfl rfl), ⟨lw_n9.1, lw_n9.2, dscr_13⟩, by decide⟩
theorem cv_X12_260_X12_factOf : jSv RX12 260 mX12_factOf 3 := ⟨(jw_7_12 11 rfl rfl), (jw_7_12 13 rfl rfl), (js_5 3 rfl), sy_X12_factOf⟩
abbrev mX12_sumOf : jM := (yX12_sumOf, cX12_sumOf, 5, (some .int), [])
theorem sy_X12_holdsLine : jSY mX12_holdsLine 2 := ⟨(jw_7_12 10 rfl rfl), (jw_1_0 12 rfl rfl), ⟨lw_n9.1, lw_n9.2, dscr_10⟩, by decide⟩
theorem cv_X12_264_X12_holdsLine : jSv RX12 264 mX12_holdsLine 2 := ⟨(jw_7_12 7 rfl rfl), (jw_7_12 9 rfl rfl), (js_5 2 rfl), sy_X12_holdsLine⟩
abbrev mX12_byLaw : jM := (yX12_byLaw, cX12_byLaw, 3, (some .int), [])
theorem sy_X12_sumOf : jSY mX12_sumOf 2 := ⟨(jw_7_12 6 rfl rfl), (jw_1_0 12 rfl rfl), ⟨lw_n9.1, lw_n9.2, dscr_6⟩, by decide⟩
theorem cv_X12_267_X12_sumOf : jSv RX12 267 mX12_sumOf 2 := ⟨(jw_7_12 3 rfl rfl), (jw_7_12 5 rfl rfl), (js_5 1 rfl), sy_X12_sumOf⟩
abbrev mX12_fadesOfAll : jM := (yX12_fadesOfAll, cX12_fadesOfAll, 3, (some .int), [])
abbrev mX12_shareOf : jM := (yX12_shareOf, cX12_shareOf, 3, (some .int), [])
theorem sy_X12_fadesOfAll : jSY mX12_fadesOfAll 0 := ⟨(jw_7_14 4 rfl rfl), (jw_1_0 12 rfl rfl), ⟨lw_n9.1, lw_n9.2, dscr_11⟩, by decide⟩
theorem cv_X12_270_X12_fadesOfAll : jSv RX12 270 mX12_fadesOfAll 0 := ⟨(jw_7_14 1 rfl rfl), (jw_7_14 3 rfl rfl), (js_5 8 rfl), sy_X12_fadesOfAll⟩
abbrev mX12_hangsOn : jM := (yX12_hangsOn, cX12_hangsOn, 6, (some .int), [])
theorem kc_X12_273 : Cond.constant RX12 273 (1000000 : Int32) ∈ jall := (jw_7_13 11 rfl rfl)
theorem mm_X12_274 : Cond.methodLink RX12 274 Lib.Math.abs.name ∈ jall ∧ Cond.static Lib.Math.abs.name ∈ jall ∧ Cond.initialized "java/lang/Math" ∈ jall ∧ Cond.code Lib.Math.abs.name Lib.Math.abs.code 1 (some .int) ∈ jall := ⟨(jw_7_13 12 rfl rfl), (jw_3_7 9 rfl rfl), (jw_1_1 2 rfl rfl), (jw_3_7 10 rfl rfl)⟩
abbrev mX12_ring : jM := (yX12_ring, cX12_ring, 3, (some .int), [])
theorem sy_X12_noRing : jSY mX12_noRing 1 := ⟨(jw_7_11 7 rfl rfl), (jw_1_0 12 rfl rfl), ⟨lw_n9.1, lw_n9.2, dscr_12⟩, by decide⟩
theorem cv_X12_277_X12_noRing : jSv RX12 277 mX12_noRing 1 := ⟨(jw_7_11 4 rfl rfl), (jw_7_11 6 rfl rfl), (js_4 14 rfl), sy_X12_noRing⟩
theorem sy_X12_byLaw : jSY mX12_byLaw 2 := ⟨(jw_7_12 2 rfl rfl), (jw_1_0 12 rfl rfl), ⟨lw_n9.1, lw_n9.2, dscr_6⟩, by decide⟩
theorem cv_X12_280_X12_byLaw : jSv RX12 280 mX12_byLaw 2 := ⟨(jw_7_11 15 rfl rfl), (jw_7_12 1 rfl rfl), (js_5 0 rfl), sy_X12_byLaw⟩
theorem sy_X12_hangsOn : jSY mX12_hangsOn 1 := ⟨(jw_7_13 6 rfl rfl), (jw_1_0 12 rfl rfl), ⟨lw_n9.1, lw_n9.2, dscr_19⟩, by decide⟩
theorem cv_X12_283_X12_hangsOn : jSv RX12 283 mX12_hangsOn 1 := ⟨(jw_7_13 3 rfl rfl), (jw_7_13 5 rfl rfl), (js_5 5 rfl), sy_X12_hangsOn⟩
theorem sy_X12_shareOf : jSY mX12_shareOf 1 := ⟨(jw_7_14 0 rfl rfl), (jw_1_0 12 rfl rfl), ⟨lw_n9.1, lw_n9.2, dscr_19⟩, by decide⟩
theorem cv_X12_286_X12_shareOf : jSv RX12 286 mX12_shareOf 1 := ⟨(jw_7_13 13 rfl rfl), (jw_7_13 15 rfl rfl), (js_5 7 rfl), sy_X12_shareOf⟩
abbrev mX12_takesAlong : jM := (yX12_takesAlong, cX12_takesAlong, 5, (some .boolean), [])
abbrev mX12_allWith : jM := (yX12_allWith, cX12_allWith, 6, (some .int), [])
theorem sy_X12_has : jSY mX12_has 2 := ⟨(jw_8_1 2 rfl rfl), (jw_1_0 12 rfl rfl), ⟨lw_n9.1, lw_n9.2, dscr_10⟩, by decide⟩
theorem cs_X12_289_X12_has : jSs RX12 289 mX12_has 2 := ⟨(jw_8_1 0 rfl rfl), (jw_8_1 1 rfl rfl), sy_X12_has⟩
theorem sy_X12_takesAlong : jSY mX12_takesAlong 3 := ⟨(jw_8_1 6 rfl rfl), (jw_1_0 12 rfl rfl), ⟨lw_n9.1, lw_n9.2, dscr_41⟩, by decide⟩
theorem cv_X12_292_X12_takesAlong : jSv RX12 292 mX12_takesAlong 3 := ⟨(jw_8_1 3 rfl rfl), (jw_8_1 5 rfl rfl), (js_5 14 rfl), sy_X12_takesAlong⟩
abbrev mX12_mayGo : jM := (yX12_mayGo, cX12_mayGo, 4, (some .boolean), [])
theorem sy_X12_noPlace : jSY mX12_noPlace 1 := ⟨(jw_8_1 13 rfl rfl), (jw_1_0 12 rfl rfl), ⟨lw_n9.1, lw_n9.2, dscr_12⟩, by decide⟩
theorem cs_X12_296_X12_noPlace : jSs RX12 296 mX12_noPlace 1 := ⟨(jw_8_1 11 rfl rfl), (jw_8_1 12 rfl rfl), sy_X12_noPlace⟩
abbrev mX12_goingBy : jM := (yX12_goingBy, cX12_goingBy, 6, (some .int), [])
theorem sy_X12_allWith : jSY mX12_allWith 2 := ⟨(jw_8_0 15 rfl rfl), (jw_1_0 12 rfl rfl), ⟨lw_n9.1, lw_n9.2, dscr_25⟩, by decide⟩
theorem cv_X12_299_X12_allWith : jSv RX12 299 mX12_allWith 2 := ⟨(jw_8_0 12 rfl rfl), (jw_8_0 14 rfl rfl), (js_5 13 rfl), sy_X12_allWith⟩
theorem sy_X12_mayGo : jSY mX12_mayGo 2 := ⟨(jw_8_1 10 rfl rfl), (jw_1_0 12 rfl rfl), ⟨lw_n9.1, lw_n9.2, dscr_24⟩, by decide⟩
theorem cv_X12_303_X12_mayGo : jSv RX12 303 mX12_mayGo 2 := ⟨(jw_8_1 7 rfl rfl), (jw_8_1 9 rfl rfl), (js_5 15 rfl), sy_X12_mayGo⟩
abbrev mX12_goesOne : jM := (yX12_goesOne, cX12_goesOne, 5, (some .boolean), [])
theorem sy_X12_goingBy : jSY mX12_goingBy 2 := ⟨(jw_8_0 11 rfl rfl), (jw_1_0 12 rfl rfl), ⟨lw_n9.1, lw_n9.2, dscr_25⟩, by decide⟩
theorem cv_X12_307_X12_goingBy : jSv RX12 307 mX12_goingBy 2 := ⟨(jw_8_0 8 rfl rfl), (jw_8_0 10 rfl rfl), (js_5 12 rfl), sy_X12_goingBy⟩
theorem fg_X12_310_10 : jFg RX12 310 10 18 := ⟨RX12, TX12, 22, _, rfl, wsX120_tb, by decide, (jw_6_11 1 rfl rfl), Or.inl rfl⟩
theorem fp_X12_310_10 : jFp RX12 310 10 18 false .int := ⟨RX12, TX12, 22, tyX12, rfl, wsX120_tb, tyX12_ok, nmX12, by decide, (jw_6_11 1 rfl rfl), rfl, tyX12_ok 18 (by decide), fun q => by cases q⟩
abbrev mX12_pulls : jM := (yX12_pulls, cX12_pulls, 5, (some .int), [])
theorem sy_X12_goesOne : jSY mX12_goesOne 2 := ⟨(jw_8_0 7 rfl rfl), (jw_1_0 12 rfl rfl), ⟨lw_n9.1, lw_n9.2, dscr_24⟩, by decide⟩
theorem cv_X12_313_X12_goesOne : jSv RX12 313 mX12_goesOne 2 := ⟨(jw_8_0 4 rfl rfl), (jw_8_0 6 rfl rfl), (js_5 11 rfl), sy_X12_goesOne⟩
abbrev mX12_tells : jM := (yX12_tells, cX12_tells, 5, none, [])
abbrev mX12_pull : jM := (yX12_pull, cX12_pull, 5, (some .int), [])
theorem sy_X12_noSteps : jSY mX12_noSteps 1 := ⟨(jw_7_14 11 rfl rfl), (jw_1_0 12 rfl rfl), ⟨lw_n9.1, lw_n9.2, dscr_12⟩, by decide⟩
theorem cs_X12_316_X12_noSteps : jSs RX12 316 mX12_noSteps 1 := ⟨(jw_7_14 9 rfl rfl), (jw_7_14 10 rfl rfl), sy_X12_noSteps⟩
theorem sy_X12_remembers : jSY mX12_remembers 0 := ⟨(jw_7_14 15 rfl rfl), (jw_1_0 12 rfl rfl), ⟨lw_n9.1, lw_n9.2, dscr_0⟩, by decide⟩
theorem cv_X12_319_X12_remembers : jSv RX12 319 mX12_remembers 0 := ⟨(jw_7_14 12 rfl rfl), (jw_7_14 14 rfl rfl), (js_5 9 rfl), sy_X12_remembers⟩
theorem sy_X12_pulls : jSY mX12_pulls 3 := ⟨(jw_8_0 3 rfl rfl), (jw_1_0 12 rfl rfl), ⟨lw_n9.1, lw_n9.2, dscr_21⟩, by decide⟩
theorem cv_X12_322_X12_pulls : jSv RX12 322 mX12_pulls 3 := ⟨(jw_8_0 0 rfl rfl), (jw_8_0 2 rfl rfl), (js_5 10 rfl), sy_X12_pulls⟩
theorem sy_X12_tells : jSY mX12_tells 3 := ⟨(jw_8_2 1 rfl rfl), (jw_1_0 12 rfl rfl), ⟨lw_n9.1, lw_n9.2, dscr_33⟩, by decide⟩
theorem cv_X12_326_X12_tells : jSv RX12 326 mX12_tells 3 := ⟨(jw_8_1 14 rfl rfl), (jw_8_2 0 rfl rfl), (js_6 0 rfl), sy_X12_tells⟩
abbrev mX12_free : jM := (yX12_free, cX12_free, 2, (some .int), [])
abbrev mX12_snag : jM := (yX12_snag, cX12_snag, 2, (some .int), [])
abbrev mX12_hook : jM := (yX12_hook, cX12_hook, 4, (some .boolean), [])
abbrev mX12_sew : jM := (yX12_sew, cX12_sew, 3, (some .int), [])
abbrev mX12_let : jM := (yX12_let, cX12_let, 4, (some .int), [])
abbrev mX12_chair : jM := (yX12_chair, cX12_chair, 5, (some .boolean), [])
abbrev mX12_catches : jM := (yX12_catches, cX12_catches, 3, (some .int), [])
theorem sy_X12_drawn : jSY mX12_drawn 1 := ⟨(jw_8_4 13 rfl rfl), (jw_1_0 12 rfl rfl), ⟨lw_n9.1, lw_n9.2, dscr_19⟩, by decide⟩
theorem cv_X12_330_X12_drawn : jSv RX12 330 mX12_drawn 1 := ⟨(jw_8_4 10 rfl rfl), (jw_8_4 12 rfl rfl), (js_6 4 rfl), sy_X12_drawn⟩
abbrev mX12_falls : jM := (yX12_falls, cX12_falls, 3, (some .int), [])
abbrev mX12_oneHour : jM := (yX12_oneHour, cX12_oneHour, 3, (some .int), [])
theorem sy_X12_catches : jSY mX12_catches 0 := ⟨(jw_8_4 9 rfl rfl), (jw_1_0 12 rfl rfl), ⟨lw_n9.1, lw_n9.2, dscr_11⟩, by decide⟩
theorem cv_X12_333_X12_catches : jSv RX12 333 mX12_catches 0 := ⟨(jw_8_4 6 rfl rfl), (jw_8_4 8 rfl rfl), (js_6 3 rfl), sy_X12_catches⟩
theorem sy_X12_falls : jSY mX12_falls 0 := ⟨(jw_8_5 2 rfl rfl), (jw_1_0 12 rfl rfl), ⟨lw_n9.1, lw_n9.2, dscr_11⟩, by decide⟩
theorem cv_X12_336_X12_falls : jSv RX12 336 mX12_falls 0 := ⟨(jw_8_4 15 rfl rfl), (jw_8_5 1 rfl rfl), (js_6 5 rfl), sy_X12_falls⟩
abbrev mX12_goesOn : jM := (yX12_goesOn, cX12_goesOn, 5, (some .int), [])
theorem sy_X12_oneHour : jSY mX12_oneHour 1 := ⟨(jw_8_4 5 rfl rfl), (jw_1_0 12 rfl rfl), ⟨lw_n9.1, lw_n9.2, dscr_40⟩, by decide⟩
theorem cv_X12_339_X12_oneHour : jSv RX12 339 mX12_oneHour 1 := ⟨(jw_8_4 2 rfl rfl), (jw_8_4 4 rfl rfl), (js_6 2 rfl), sy_X12_oneHour⟩
abbrev mX12_keepsAll : jM := (yX12_keepsAll, cX12_keepsAll, 2, none, [])
theorem fg_X12_23_10 : jFg RX12 23 10 4 := ⟨RX12, TX12, 22, _, rfl, wsX120_tb, by decide, (jw_6_10 3 rfl rfl), Or.inl rfl⟩
abbrev mX12_bringsBack : jM := (yX12_bringsBack, cX12_bringsBack, 2, none, [])
abbrev mX12_hours : jM := (yX12_hours, cX12_hours, 2, (some .int), [])
theorem sy_X12_goesOn : jSY mX12_goesOn 2 := ⟨(jw_8_4 1 rfl rfl), (jw_1_0 12 rfl rfl), ⟨lw_n9.1, lw_n9.2, dscr_25⟩, by decide⟩
theorem cv_X12_342_X12_goesOn : jSv RX12 342 mX12_goesOn 2 := ⟨(jw_8_3 14 rfl rfl), (jw_8_4 0 rfl rfl), (js_6 1 rfl), sy_X12_goesOn⟩
abbrev mX12_noAhead : jM := (yX12_noAhead, cX12_noAhead, 1, (some .boolean), [])
abbrev mX12_ahead : jM := (yX12_ahead, cX12_ahead, 4, (some .int), [])
theorem sy_X12_noAhead : jSY mX12_noAhead 1 := ⟨(jw_8_5 9 rfl rfl), (jw_1_0 12 rfl rfl), ⟨lw_n9.1, lw_n9.2, dscr_12⟩, by decide⟩
theorem cs_X12_345_X12_noAhead : jSs RX12 345 mX12_noAhead 1 := ⟨(jw_8_5 7 rfl rfl), (jw_8_5 8 rfl rfl), sy_X12_noAhead⟩
theorem sy_X12_keepsAll : jSY mX12_keepsAll 0 := ⟨(jw_8_5 13 rfl rfl), (jw_1_0 12 rfl rfl), ⟨lw_n9.1, lw_n9.2, dscr_0⟩, by decide⟩
theorem cv_X12_348_X12_keepsAll : jSv RX12 348 mX12_keepsAll 0 := ⟨(jw_8_5 10 rfl rfl), (jw_8_5 12 rfl rfl), (js_6 6 rfl), sy_X12_keepsAll⟩
theorem sy_X12_bringsBack : jSY mX12_bringsBack 0 := ⟨(jw_8_6 1 rfl rfl), (jw_1_0 12 rfl rfl), ⟨lw_n9.1, lw_n9.2, dscr_0⟩, by decide⟩
theorem cv_X12_351_X12_bringsBack : jSv RX12 351 mX12_bringsBack 0 := ⟨(jw_8_5 14 rfl rfl), (jw_8_6 0 rfl rfl), (js_6 7 rfl), sy_X12_bringsBack⟩
abbrev mX12_faded : jM := (yX12_faded, cX12_faded, 3, (some .int), [])
abbrev mX12_somePale : jM := (yX12_somePale, cX12_somePale, 3, (some .boolean), [])
abbrev mX12_pale : jM := (yX12_pale, cX12_pale, 3, (some .int), [])
theorem sy_X12_somePale : jSY mX12_somePale 0 := ⟨(jw_8_6 13 rfl rfl), (jw_1_0 12 rfl rfl), ⟨lw_n9.1, lw_n9.2, dscr_17⟩, by decide⟩
theorem cv_X12_354_X12_somePale : jSv RX12 354 mX12_somePale 0 := ⟨(jw_8_6 10 rfl rfl), (jw_8_6 12 rfl rfl), (js_6 8 rfl), sy_X12_somePale⟩
abbrev mX12_shadeNow : jM := (yX12_shadeNow, cX12_shadeNow, 4, (some .int), [])
abbrev mX12_darkNow : jM := (yX12_darkNow, cX12_darkNow, 1, (some .int), [])
theorem sy_X12_shadeNow : jSY mX12_shadeNow 0 := ⟨(jw_8_7 5 rfl rfl), (jw_1_0 12 rfl rfl), ⟨lw_n9.1, lw_n9.2, dscr_11⟩, by decide⟩
theorem cv_X12_357_X12_shadeNow : jSv RX12 357 mX12_shadeNow 0 := ⟨(jw_8_7 2 rfl rfl), (jw_8_7 4 rfl rfl), (js_6 9 rfl), sy_X12_shadeNow⟩
theorem cs_X12_360_J6_bitCount_0f7a4 : jSs RX12 360 mJ6_bitCount_0f7a4 1 := ⟨(jw_8_7 14 rfl rfl), (jw_2_11 5 rfl rfl), sy_J6_bitCount_0f7a4⟩
abbrev mX12_shade : jM := (yX12_shade, cX12_shade, 1, (some .int), [])
abbrev mX12_dark : jM := (yX12_dark, cX12_dark, 1, (some .int), [])
theorem sy_X12_darkNow : jSY mX12_darkNow 0 := ⟨(jw_8_7 13 rfl rfl), (jw_1_0 12 rfl rfl), ⟨lw_n9.1, lw_n9.2, dscr_11⟩, by decide⟩
theorem cv_X12_365_X12_darkNow : jSv RX12 365 mX12_darkNow 0 := ⟨(jw_8_7 10 rfl rfl), (jw_8_7 12 rfl rfl), (js_6 10 rfl), sy_X12_darkNow⟩
abbrev mX12_bare : jM := (yX12_bare, cX12_bare, 1, (some .int), [])
abbrev mX12_goes : jM := (yX12_goes, cX12_goes, 4, (some .int), [])
abbrev mX12_with : jM := (yX12_with, cX12_with, 3, (some .int), [])
abbrev mX12_would : jM := (yX12_would, cX12_would, 6, (some .int), [])
abbrev mX12_best : jM := (yX12_best, cX12_best, 7, (some .int), [])
theorem mm_X12_368 : Cond.methodLink RX12 368 Lib.Math.max.name ∈ jall ∧ Cond.static Lib.Math.max.name ∈ jall ∧ Cond.initialized "java/lang/Math" ∈ jall ∧ Cond.code Lib.Math.max.name Lib.Math.max.code 2 (some .int) ∈ jall := ⟨(jw_8_9 3 rfl rfl), (jw_3_1 9 rfl rfl), (jw_1_1 2 rfl rfl), (jw_3_1 10 rfl rfl)⟩
abbrev mX12_shadesAll : jM := (yX12_shadesAll, cX12_shadesAll, 2, (some .boolean), [])
abbrev mX12_stepsTo : jM := (yX12_stepsTo, cX12_stepsTo, 7, (some .int), [])
theorem sy_X12_shadesAll : jSY mX12_shadesAll 1 := ⟨(jw_8_9 11 rfl rfl), (jw_1_0 12 rfl rfl), ⟨lw_n9.1, lw_n9.2, dscr_12⟩, by decide⟩
theorem cv_X12_371_X12_shadesAll : jSv RX12 371 mX12_shadesAll 1 := ⟨(jw_8_9 8 rfl rfl), (jw_8_9 10 rfl rfl), (js_6 11 rfl), sy_X12_shadesAll⟩
abbrev mX12_fewestTo : jM := (yX12_fewestTo, cX12_fewestTo, 7, (some .int), [])
theorem sy_X12_stepsTo : jSY mX12_stepsTo 3 := ⟨(jw_8_10 3 rfl rfl), (jw_1_0 12 rfl rfl), ⟨lw_n9.1, lw_n9.2, dscr_7⟩, by decide⟩
theorem cv_X12_374_X12_stepsTo : jSv RX12 374 mX12_stepsTo 3 := ⟨(jw_8_10 0 rfl rfl), (jw_8_10 2 rfl rfl), (js_6 13 rfl), sy_X12_stepsTo⟩
abbrev mX12_fewest : jM := (yX12_fewest, cX12_fewest, 2, (some .int), [])
theorem sy_X12_fewestTo : jSY mX12_fewestTo 2 := ⟨(jw_8_9 15 rfl rfl), (jw_1_0 12 rfl rfl), ⟨lw_n9.1, lw_n9.2, dscr_25⟩, by decide⟩
theorem cv_X12_378_X12_fewestTo : jSv RX12 378 mX12_fewestTo 2 := ⟨(jw_8_9 12 rfl rfl), (jw_8_9 14 rfl rfl), (js_6 12 rfl), sy_X12_fewestTo⟩
abbrev mX12_first : jM := (yX12_first, cX12_first, 2, (some .int), [])
abbrev mX12_isTold : jM := (yX12_isTold, cX12_isTold, 3, (some .boolean), [])
abbrev mX12_thatCanCatch : jM := (yX12_thatCanCatch, cX12_thatCanCatch, 1, (some .int), [])
abbrev mX12_areCaught : jM := (yX12_areCaught, cX12_areCaught, 3, none, [])
abbrev mX12_wentWith : jM := (yX12_wentWith, cX12_wentWith, 6, (some .int), [])
theorem sy_X12_areCaught : jSY mX12_areCaught 1 := ⟨(jw_8_11 15 rfl rfl), (jw_1_0 12 rfl rfl), ⟨lw_n9.1, lw_n9.2, dscr_14⟩, by decide⟩
theorem cv_X12_381_X12_areCaught : jSv RX12 381 mX12_areCaught 1 := ⟨(jw_8_11 12 rfl rfl), (jw_8_11 14 rfl rfl), (js_7 2 rfl), sy_X12_areCaught⟩
abbrev mX12_fits : jM := (yX12_fits, cX12_fits, 4, (some .boolean), [])
theorem sy_X12_wentWith : jSY mX12_wentWith 4 := ⟨(jw_8_11 11 rfl rfl), (jw_1_0 12 rfl rfl), ⟨lw_n9.1, lw_n9.2, dscr_42⟩, by decide⟩
theorem cv_X12_385_X12_wentWith : jSv RX12 385 mX12_wentWith 4 := ⟨(jw_8_11 8 rfl rfl), (jw_8_11 10 rfl rfl), (js_7 1 rfl), sy_X12_wentWith⟩
abbrev mX12_snags : jM := (yX12_snags, cX12_snags, 5, (some .int), [])
theorem sy_X12_isTold : jSY mX12_isTold 0 := ⟨(jw_8_10 15 rfl rfl), (jw_1_0 12 rfl rfl), ⟨lw_n9.1, lw_n9.2, dscr_17⟩, by decide⟩
theorem cv_X12_389_X12_isTold : jSv RX12 389 mX12_isTold 0 := ⟨(jw_8_10 12 rfl rfl), (jw_8_10 14 rfl rfl), (js_6 14 rfl), sy_X12_isTold⟩
theorem sy_X12_thatCanCatch : jSY mX12_thatCanCatch 0 := ⟨(jw_8_11 3 rfl rfl), (jw_1_0 12 rfl rfl), ⟨lw_n9.1, lw_n9.2, dscr_11⟩, by decide⟩
theorem cv_X12_392_X12_thatCanCatch : jSv RX12 392 mX12_thatCanCatch 0 := ⟨(jw_8_11 0 rfl rfl), (jw_8_11 2 rfl rfl), (js_6 15 rfl), sy_X12_thatCanCatch⟩
theorem sy_X12_fits : jSY mX12_fits 1 := ⟨(jw_8_11 7 rfl rfl), (jw_1_0 12 rfl rfl), ⟨lw_n9.1, lw_n9.2, dscr_12⟩, by decide⟩
theorem cv_X12_395_X12_fits : jSv RX12 395 mX12_fits 1 := ⟨(jw_8_11 4 rfl rfl), (jw_8_11 6 rfl rfl), (js_7 0 rfl), sy_X12_fits⟩
abbrev mX12_partBy : jM := (yX12_partBy, cX12_partBy, 6, (some .int), [])
theorem fg_X12_42_10 : jFg RX12 42 10 19 := ⟨RX12, TX12, 22, _, rfl, wsX120_tb, by decide, (jw_6_11 2 rfl rfl), Or.inl rfl⟩
theorem fg_X12_46_10 : jFg RX12 46 10 20 := ⟨RX12, TX12, 22, _, rfl, wsX120_tb, by decide, (jw_6_11 3 rfl rfl), Or.inl rfl⟩
abbrev mX12_tries : jM := (yX12_tries, cX12_tries, 6, (some .int), [])
theorem sy_X12_partBy : jSY mX12_partBy 2 := ⟨(jw_8_12 7 rfl rfl), (jw_1_0 12 rfl rfl), ⟨lw_n9.1, lw_n9.2, dscr_25⟩, by decide⟩
theorem cv_X12_398_X12_partBy : jSv RX12 398 mX12_partBy 2 := ⟨(jw_8_12 4 rfl rfl), (jw_8_12 6 rfl rfl), (js_7 3 rfl), sy_X12_partBy⟩
abbrev mX12_loosen : jM := (yX12_loosen, cX12_loosen, 8, (some .int), [])
theorem sy_X12_ringsThat : jSY mX12_ringsThat 1 := ⟨(jw_8_12 15 rfl rfl), (jw_1_0 12 rfl rfl), ⟨lw_n9.1, lw_n9.2, dscr_19⟩, by decide⟩
theorem cv_X12_401_X12_ringsThat : jSv RX12 401 mX12_ringsThat 1 := ⟨(jw_8_12 12 rfl rfl), (jw_8_12 14 rfl rfl), (js_7 4 rfl), sy_X12_ringsThat⟩
abbrev mX12_order : jM := (yX12_order, cX12_order, 4, (some .int), [])
theorem fg_X12_49_10 : jFg RX12 49 10 21 := ⟨RX12, TX12, 22, _, rfl, wsX120_tb, by decide, (jw_6_11 4 rfl rfl), Or.inl rfl⟩
abbrev mX12_tight : jM := (yX12_tight, cX12_tight, 6, (some .int), [])
abbrev mX12_slack : jM := (yX12_slack, cX12_slack, 3, (some .int), [])
abbrev mX12_taut : jM := (yX12_taut, cX12_taut, 3, (some .int), [])
abbrev mX12_bunch : jM := (yX12_bunch, cX12_bunch, 4, (some .int), [])
abbrev mX12_litIn : jM := (yX12_litIn, cX12_litIn, 4, (some .int), [])
abbrev mX12_lit : jM := (yX12_lit, cX12_lit, 2, (some .int), [])
theorem sy_X12_litIn : jSY mX12_litIn 1 := ⟨(jw_8_14 11 rfl rfl), (jw_1_0 12 rfl rfl), ⟨lw_n9.1, lw_n9.2, dscr_19⟩, by decide⟩
theorem cv_X12_404_X12_litIn : jSv RX12 404 mX12_litIn 1 := ⟨(jw_8_14 8 rfl rfl), (jw_8_14 10 rfl rfl), (js_7 5 rfl), sy_X12_litIn⟩
abbrev mX12_sunny : jM := (yX12_sunny, cX12_sunny, 6, (some .int), [])
abbrev mX12_lets : jM := (yX12_lets, cX12_lets, 7, (some .int), [])
abbrev mX12_envy : jM := (yX12_envy, cX12_envy, 3, (some .int), [])
abbrev mX12_eachHas : jM := (yX12_eachHas, cX12_eachHas, 4, (some .int), [])
abbrev mX12_rests : jM := (yX12_rests, cX12_rests, 5, (some .int), [])
theorem sy_X12_eachHas : jSY mX12_eachHas 3 := ⟨(jw_9_0 15 rfl rfl), (jw_1_0 12 rfl rfl), ⟨lw_n9.1, lw_n9.2, dscr_13⟩, by decide⟩
theorem cv_X12_407_X12_eachHas : jSv RX12 407 mX12_eachHas 3 := ⟨(jw_9_0 12 rfl rfl), (jw_9_0 14 rfl rfl), (js_7 6 rfl), sy_X12_eachHas⟩
abbrev mX12_wooden : jM := (yX12_wooden, cX12_wooden, 1, (some .int), [])
abbrev mX12_caught : jM := (yX12_caught, cX12_caught, 1, (some .int), [])
abbrev mX12_looseOnes : jM := (yX12_looseOnes, cX12_looseOnes, 1, (some .int), [])
abbrev mX12_loose : jM := (yX12_loose, cX12_loose, 1, (some .int), [])
theorem sy_X12_looseOnes : jSY mX12_looseOnes 0 := ⟨(jw_9_1 15 rfl rfl), (jw_1_0 12 rfl rfl), ⟨lw_n9.1, lw_n9.2, dscr_11⟩, by decide⟩
theorem cv_X12_410_X12_looseOnes : jSv RX12 410 mX12_looseOnes 0 := ⟨(jw_9_1 12 rfl rfl), (jw_9_1 14 rfl rfl), (js_7 7 rfl), sy_X12_looseOnes⟩
abbrev mX12_beyond : jM := (yX12_beyond, cX12_beyond, 3, (some .int), [])
abbrev mX12_odds : jM := (yX12_odds, cX12_odds, 6, (some .int), [])
abbrev mX12_likens : jM := (yX12_likens, cX12_likens, 3, (some .boolean), [])
abbrev mX12_twins : jM := (yX12_twins, cX12_twins, 4, (some .int), [])
theorem sy_X12_likens : jSY mX12_likens 2 := ⟨(jw_9_2 15 rfl rfl), (jw_1_0 12 rfl rfl), ⟨lw_n9.1, lw_n9.2, dscr_10⟩, by decide⟩
theorem cv_X12_413_X12_likens : jSv RX12 413 mX12_likens 2 := ⟨(jw_9_2 12 rfl rfl), (jw_9_2 14 rfl rfl), (js_7 8 rfl), sy_X12_likens⟩
abbrev mX12_trial : jM := (yX12_trial, cX12_trial, 4, (some .int), [])
abbrev mX12_span : jM := (yX12_span, cX12_span, 6, (some .int), [])
abbrev mX12_ofLog : jM := (yX12_ofLog, cX12_ofLog, 3, (some .int), [])
abbrev mX12_led : jM := (yX12_led, cX12_led, 6, (some .int), [])
theorem sy_X12_ofLog : jSY mX12_ofLog 2 := ⟨(jw_9_3 15 rfl rfl), (jw_1_0 12 rfl rfl), ⟨lw_n9.1, lw_n9.2, dscr_6⟩, by decide⟩
theorem cv_X12_416_X12_ofLog : jSv RX12 416 mX12_ofLog 2 := ⟨(jw_9_3 12 rfl rfl), (jw_9_3 14 rfl rfl), (js_7 9 rfl), sy_X12_ofLog⟩
abbrev mX12_log : jM := (yX12_log, cX12_log, 3, (some .int), [])
abbrev mX12_seed : jM := (yX12_seed, cX12_seed, 3, (some .int), [])
abbrev mX12_count : jM := (yX12_count, cX12_count, 2, (some .int), [])
theorem kc_J6_265 : Cond.constant RJ6 265 (1431655765 : Int32) ∈ jall := (jw_2_11 7 rfl rfl)
theorem kc_J6_266 : Cond.constant RJ6 266 (858993459 : Int32) ∈ jall := (jw_2_11 8 rfl rfl)
theorem kc_J6_267 : Cond.constant RJ6 267 (252645135 : Int32) ∈ jall := (jw_2_11 9 rfl rfl)
theorem oi_X4_3 : Cond.methodLink RX4 3 Lib.objectInit ∈ jall ∧ Cond.instanceMethod Lib.objectInit ∈ jall ∧ Cond.code Lib.objectInit ⟨#[0xb1]⟩ 1 none ∈ jall := ⟨(jw_2_1 13 rfl rfl), (jw_1_2 3 rfl rfl), (jw_1_2 4 rfl rfl)⟩
theorem fp_X4_9_7 : jFp RX4 9 7 0 true (.object "RodRings$Tape") := ⟨RX9, TX9, 3, tyX9, rfl, wsX90_tb, tyX9_ok, nmX9, by decide, (jw_2_1 15 rfl rfl), rfl, tyX9_ok 0 (by decide), fun _ => rfl⟩
theorem fp_X4_15_7 : jFp RX4 15 7 1 true .int := ⟨RX9, TX9, 3, tyX9, rfl, wsX90_tb, tyX9_ok, nmX9, by decide, (jw_2_2 4 rfl rfl), rfl, tyX9_ok 1 (by decide), fun _ => rfl⟩
theorem fp_X4_9_3 : jFp RX4 9 3 0 true (.object "RodRings$Tape") := ⟨RX3, TX3, 3, tyX3, rfl, wsX30_tb, tyX3_ok, nmX3, by decide, (jw_2_1 15 rfl rfl), rfl, tyX3_ok 0 (by decide), fun _ => rfl⟩
theorem fp_X4_15_3 : jFp RX4 15 3 1 true .int := ⟨RX3, TX3, 3, tyX3, rfl, wsX30_tb, tyX3_ok, nmX3, by decide, (jw_2_2 4 rfl rfl), rfl, tyX3_ok 1 (by decide), fun _ => rfl⟩
theorem fg_X4_9_7 : jFg RX4 9 7 0 := ⟨RX9, TX9, 3, _, rfl, wsX90_tb, by decide, (jw_2_1 15 rfl rfl), Or.inl rfl⟩
theorem sy_X10_scan : jSY mX10_scan 0 := ⟨(jw_3_13 5 rfl rfl), (jw_1_0 2 rfl rfl), ⟨lw_n4.1, lw_n4.2, dscr_0⟩, by decide⟩
theorem cv_X4_19_X10_scan : jSv RX4 19 mX10_scan 0 := ⟨(jw_3_13 2 rfl rfl), (jw_3_13 3 rfl rfl), (jw_3_13 4 rfl rfl), sy_X10_scan⟩
theorem cv_X4_24_X10_kind : jSv RX4 24 mX10_kind 0 := ⟨(jw_4_2 15 rfl rfl), (jw_4_3 0 rfl rfl), (jw_4_3 1 rfl rfl), sy_X10_kind⟩
theorem fg_X4_15_7 : jFg RX4 15 7 1 := ⟨RX9, TX9, 3, _, rfl, wsX90_tb, by decide, (jw_2_2 4 rfl rfl), Or.inl rfl⟩
theorem sy_X10_start : jSY mX10_start 0 := ⟨(jw_4_8 9 rfl rfl), (jw_1_0 2 rfl rfl), ⟨lw_n4.1, lw_n4.2, dscr_11⟩, by decide⟩
theorem cv_X4_32_X10_start : jSv RX4 32 mX10_start 0 := ⟨(jw_4_8 6 rfl rfl), (jw_4_8 7 rfl rfl), (jw_4_8 8 rfl rfl), sy_X10_start⟩
theorem sy_X9_readLine : jSY mX9_readLine 0 := ⟨(jw_4_6 0 rfl rfl), (jw_1_0 8 rfl rfl), ⟨lw_n6.1, lw_n6.2, dscr_17⟩, by decide⟩
theorem cu_X4_28_RodRings_RodReader_X9_readLine : jSu RX4 28 "RodRings$RodReader" "RodRings$LineReader" ⟨"RodRings$LineReader", "readLine", "()Z"⟩ mX9_readLine 0 := ⟨(jw_4_3 3 rfl rfl), (jw_4_3 5 rfl rfl), (jw_4_5 14 rfl rfl), (jw_4_5 15 rfl rfl), (jn_4_3 4 rfl rfl), by decide +kernel, sy_X9_readLine⟩
theorem cv_X4_35_X10_take : jSv RX4 35 mX10_take 1 := ⟨(jw_4_8 10 rfl rfl), (jw_4_4 7 rfl rfl), (jw_4_4 8 rfl rfl), sy_X10_take⟩
theorem fg_X4_9_3 : jFg RX4 9 3 0 := ⟨RX3, TX3, 3, _, rfl, wsX30_tb, by decide, (jw_2_1 15 rfl rfl), Or.inl rfl⟩
theorem fg_X4_15_3 : jFg RX4 15 3 1 := ⟨RX3, TX3, 3, _, rfl, wsX30_tb, by decide, (jw_2_2 4 rfl rfl), Or.inl rfl⟩
theorem sy_X3_readLine : jSY mX3_readLine 0 := ⟨(jw_4_3 8 rfl rfl), (jw_1_0 9 rfl rfl), ⟨lw_n5.1, lw_n5.2, dscr_17⟩, by decide⟩
theorem cu_X4_28_RodRings_LawReader_X3_readLine : jSu RX4 28 "RodRings$LawReader" "RodRings$LineReader" ⟨"RodRings$LineReader", "readLine", "()Z"⟩ mX3_readLine 0 := ⟨(jw_4_3 3 rfl rfl), (jw_4_3 5 rfl rfl), (jw_4_3 6 rfl rfl), (jw_4_3 7 rfl rfl), (jn_4_3 4 rfl rfl), by decide +kernel, sy_X3_readLine⟩
abbrev mJ0_coder_7d493 : jM := (yJ0_coder_7d493, cJ0_coder_7d493, 1, (some .byte), [])
theorem sy_J0_coder_7d493 : jSY mJ0_coder_7d493 0 := ⟨(jw_3_14 14 rfl rfl), (jw_1_0 14 rfl rfl), ⟨lw_n15.1, lw_n15.2, dscr_43⟩, by decide⟩
theorem cv_J0_335_J0_coder_7d493 : jSv RJ0 335 mJ0_coder_7d493 0 := ⟨(jw_3_14 11 rfl rfl), (jw_3_14 12 rfl rfl), (jw_3_14 13 rfl rfl), sy_J0_coder_7d493⟩
abbrev mJ3_checkIndex_8e157 : jM := (yJ3_checkIndex_8e157, cJ3_checkIndex_8e157, 3, (some .int), [])
theorem sy_J3_checkIndex_8e157 : jSY mJ3_checkIndex_8e157 3 := ⟨(jw_4_1 3 rfl rfl), (jw_1_1 0 rfl rfl), ⟨lw_n17.1, lw_n17.2, dscr_44⟩, by decide⟩
theorem cs_J0_1059_J3_checkIndex_8e157 : jSs RJ0 1059 mJ3_checkIndex_8e157 3 := ⟨(jw_4_1 1 rfl rfl), (jw_4_1 2 rfl rfl), sy_J3_checkIndex_8e157⟩
abbrev mJ0_checkIndex_df160 : jM := (yJ0_checkIndex_df160, cJ0_checkIndex_df160, 2, none, [])
theorem sy_J0_checkIndex_df160 : jSY mJ0_checkIndex_df160 2 := ⟨(jw_4_0 14 rfl rfl), (jw_1_0 14 rfl rfl), ⟨lw_n15.1, lw_n15.2, dscr_16⟩, by decide⟩
theorem cs_J1_9_J0_checkIndex_df160 : jSs RJ1 9 mJ0_checkIndex_df160 2 := ⟨(jw_4_0 12 rfl rfl), (jw_4_0 13 rfl rfl), sy_J0_checkIndex_df160⟩
abbrev mJ0_isLatin1_aae02 : jM := (yJ0_isLatin1_aae02, cJ0_isLatin1_aae02, 1, (some .boolean), [])
theorem sy_J0_isLatin1_aae02 : jSY mJ0_isLatin1_aae02 0 := ⟨(jw_4_0 8 rfl rfl), (jw_1_0 14 rfl rfl), ⟨lw_n15.1, lw_n15.2, dscr_17⟩, by decide⟩
theorem cv_J0_492_J0_isLatin1_aae02 : jSv RJ0 492 mJ0_isLatin1_aae02 0 := ⟨(jw_4_0 5 rfl rfl), (jw_4_0 6 rfl rfl), (jw_4_0 7 rfl rfl), sy_J0_isLatin1_aae02⟩
abbrev mJ1_charAt_3b067 : jM := (yJ1_charAt_3b067, cJ1_charAt_3b067, 2, (some .char), [])
theorem sy_J1_charAt_3b067 : jSY mJ1_charAt_3b067 2 := ⟨(jw_4_0 11 rfl rfl), (jw_1_0 15 rfl rfl), ⟨lw_n18.1, lw_n18.2, dscr_45⟩, by decide⟩
theorem cs_J0_495_J1_charAt_3b067 : jSs RJ0 495 mJ1_charAt_3b067 2 := ⟨(jw_4_0 9 rfl rfl), (jw_4_0 10 rfl rfl), sy_J1_charAt_3b067⟩
end
