section
abbrev mL_pole : jM := (yL_pole, cL_pole, 3, (some .int), [(0, 8, 11, 13), (0, 8, 14, 15)])
theorem sy_X11_pole : jSY mX11_pole 0 := ⟨(jw_3_12 11 rfl rfl), (jw_1_0 1 rfl rfl), ⟨lw_n8.1, lw_n8.2, dscr_11⟩, by decide⟩
theorem cv_L_7_X11_pole : jSv RL 7 mX11_pole 0 := ⟨(jw_3_12 8 rfl rfl), (jw_3_12 9 rfl rfl), (jw_3_12 10 rfl rfl), sy_X11_pole⟩
abbrev mL_law : jM := (yL_law, cL_law, 3, (some .int), [(0, 8, 11, 13)])
theorem sy_X11_law : jSY mX11_law 0 := ⟨(jw_4_14 6 rfl rfl), (jw_1_0 1 rfl rfl), ⟨lw_n8.1, lw_n8.2, dscr_11⟩, by decide⟩
theorem cv_L_17_X11_law : jSv RL 17 mX11_law 0 := ⟨(jw_4_14 3 rfl rfl), (jw_4_14 4 rfl rfl), (jw_4_14 5 rfl rfl), sy_X11_law⟩
abbrev mL_ring : jM := (yL_ring, cL_ring, 5, (some .int), [(0, 10, 13, 24), (0, 10, 17, 26)])
theorem sy_X11_ring : jSY mX11_ring 2 := ⟨(jw_5_0 6 rfl rfl), (jw_1_0 1 rfl rfl), ⟨lw_n8.1, lw_n8.2, dscr_6⟩, by decide⟩
theorem cv_L_20_X11_ring : jSv RL 20 mX11_ring 2 := ⟨(jw_5_0 3 rfl rfl), (jw_5_0 4 rfl rfl), (jw_5_0 5 rfl rfl), sy_X11_ring⟩
abbrev mL_pull : jM := (yL_pull, cL_pull, 6, (some .int), [(0, 12, 15, 24), (0, 12, 19, 13)])
theorem sy_X11_pull : jSY mX11_pull 3 := ⟨(jw_5_3 14 rfl rfl), (jw_1_0 1 rfl rfl), ⟨lw_n8.1, lw_n8.2, dscr_21⟩, by decide⟩
theorem cv_L_28_X11_pull : jSv RL 28 mX11_pull 3 := ⟨(jw_5_3 11 rfl rfl), (jw_5_3 12 rfl rfl), (jw_5_3 13 rfl rfl), sy_X11_pull⟩
abbrev mL_free : jM := (yL_free, cL_free, 4, (some .int), [(0, 9, 12, 24), (0, 9, 15, 36)])
theorem sy_X11_free : jSY mX11_free 1 := ⟨(jw_5_5 9 rfl rfl), (jw_1_0 1 rfl rfl), ⟨lw_n8.1, lw_n8.2, dscr_19⟩, by decide⟩
theorem cv_L_32_X11_free : jSv RL 32 mX11_free 1 := ⟨(jw_5_5 6 rfl rfl), (jw_5_5 7 rfl rfl), (jw_5_5 8 rfl rfl), sy_X11_free⟩
abbrev mL_snag : jM := (yL_snag, cL_snag, 4, (some .int), [(0, 9, 12, 24), (0, 9, 15, 36)])
theorem sy_X11_snag : jSY mX11_snag 1 := ⟨(jw_5_7 1 rfl rfl), (jw_1_0 1 rfl rfl), ⟨lw_n8.1, lw_n8.2, dscr_19⟩, by decide⟩
theorem cv_L_38_X11_snag : jSv RL 38 mX11_snag 1 := ⟨(jw_5_6 14 rfl rfl), (jw_5_6 15 rfl rfl), (jw_5_7 0 rfl rfl), sy_X11_snag⟩
abbrev mL_hook : jM := (yL_hook, cL_hook, 5, (some .int), [(0, 17, 20, 24)])
theorem sy_X11_hook : jSY mX11_hook 2 := ⟨(jw_5_7 9 rfl rfl), (jw_1_0 1 rfl rfl), ⟨lw_n8.1, lw_n8.2, dscr_24⟩, by decide⟩
theorem cv_L_41_X11_hook : jSv RL 41 mX11_hook 2 := ⟨(jw_5_7 6 rfl rfl), (jw_5_7 7 rfl rfl), (jw_5_7 8 rfl rfl), sy_X11_hook⟩
abbrev mL_sew : jM := (yL_sew, cL_sew, 5, (some .int), [(0, 10, 13, 24), (0, 10, 17, 13), (0, 10, 21, 36)])
theorem sy_X11_sew : jSY mX11_sew 2 := ⟨(jw_5_8 0 rfl rfl), (jw_1_0 1 rfl rfl), ⟨lw_n8.1, lw_n8.2, dscr_6⟩, by decide⟩
theorem cv_L_45_X11_sew : jSv RL 45 mX11_sew 2 := ⟨(jw_5_7 13 rfl rfl), (jw_5_7 14 rfl rfl), (jw_5_7 15 rfl rfl), sy_X11_sew⟩
abbrev mL_let : jM := (yL_let, cL_let, 5, (some .int), [(0, 10, 13, 24), (0, 10, 17, 13)])
theorem sy_X11_let : jSY mX11_let 2 := ⟨(jw_5_9 0 rfl rfl), (jw_1_0 1 rfl rfl), ⟨lw_n8.1, lw_n8.2, dscr_6⟩, by decide⟩
theorem cv_L_48_X11_let : jSv RL 48 mX11_let 2 := ⟨(jw_5_8 13 rfl rfl), (jw_5_8 14 rfl rfl), (jw_5_8 15 rfl rfl), sy_X11_let⟩
abbrev mL_chair : jM := (yL_chair, cL_chair, 5, (some .int), [(0, 17, 20, 24)])
theorem sy_X11_chair : jSY mX11_chair 2 := ⟨(jw_5_9 7 rfl rfl), (jw_1_0 1 rfl rfl), ⟨lw_n8.1, lw_n8.2, dscr_24⟩, by decide⟩
theorem cv_L_51_X11_chair : jSv RL 51 mX11_chair 2 := ⟨(jw_5_9 4 rfl rfl), (jw_5_9 5 rfl rfl), (jw_5_9 6 rfl rfl), sy_X11_chair⟩
abbrev mL_hours : jM := (yL_hours, cL_hours, 4, (some .int), [(0, 9, 12, 13)])
theorem sy_X11_hours : jSY mX11_hours 1 := ⟨(jw_5_9 14 rfl rfl), (jw_1_0 1 rfl rfl), ⟨lw_n8.1, lw_n8.2, dscr_19⟩, by decide⟩
theorem cv_L_54_X11_hours : jSv RL 54 mX11_hours 1 := ⟨(jw_5_9 11 rfl rfl), (jw_5_9 12 rfl rfl), (jw_5_9 13 rfl rfl), sy_X11_hours⟩
abbrev mL_goes : jM := (yL_goes, cL_goes, 5, (some .int), [(0, 10, 13, 24)])
theorem sy_X11_goes : jSY mX11_goes 2 := ⟨(jw_5_11 9 rfl rfl), (jw_1_0 1 rfl rfl), ⟨lw_n8.1, lw_n8.2, dscr_25⟩, by decide⟩
theorem cv_L_57_X11_goes : jSv RL 57 mX11_goes 2 := ⟨(jw_5_11 6 rfl rfl), (jw_5_11 7 rfl rfl), (jw_5_11 8 rfl rfl), sy_X11_goes⟩
abbrev mL_with : jM := (yL_with, cL_with, 5, (some .int), [(0, 10, 13, 24)])
theorem sy_X11_with : jSY mX11_with 2 := ⟨(jw_5_12 0 rfl rfl), (jw_1_0 1 rfl rfl), ⟨lw_n8.1, lw_n8.2, dscr_25⟩, by decide⟩
theorem cv_L_61_X11_with : jSv RL 61 mX11_with 2 := ⟨(jw_5_11 13 rfl rfl), (jw_5_11 14 rfl rfl), (jw_5_11 15 rfl rfl), sy_X11_with⟩
abbrev mL_would : jM := (yL_would, cL_would, 7, (some .int), [(0, 14, 17, 24), (0, 14, 21, 13)])
theorem sy_X11_would : jSY mX11_would 4 := ⟨(jw_5_12 8 rfl rfl), (jw_1_0 1 rfl rfl), ⟨lw_n8.1, lw_n8.2, dscr_46⟩, by decide⟩
theorem cv_L_64_X11_would : jSv RL 64 mX11_would 4 := ⟨(jw_5_12 5 rfl rfl), (jw_5_12 6 rfl rfl), (jw_5_12 7 rfl rfl), sy_X11_would⟩
abbrev mL_snags : jM := (yL_snags, cL_snags, 4, (some .int), [(0, 9, 12, 13)])
theorem sy_X11_snags : jSY mX11_snags 1 := ⟨(jw_5_12 15 rfl rfl), (jw_1_0 1 rfl rfl), ⟨lw_n8.1, lw_n8.2, dscr_40⟩, by decide⟩
theorem cv_L_68_X11_snags : jSv RL 68 mX11_snags 1 := ⟨(jw_5_12 12 rfl rfl), (jw_5_12 13 rfl rfl), (jw_5_12 14 rfl rfl), sy_X11_snags⟩
abbrev mL_tries : jM := (yL_tries, cL_tries, 3, (some .int), [(0, 8, 11, 13)])
theorem sy_X11_tries : jSY mX11_tries 0 := ⟨(jw_6_0 0 rfl rfl), (jw_1_0 1 rfl rfl), ⟨lw_n8.1, lw_n8.2, dscr_11⟩, by decide⟩
theorem cv_L_72_X11_tries : jSv RL 72 mX11_tries 0 := ⟨(jw_5_14 13 rfl rfl), (jw_5_14 14 rfl rfl), (jw_5_14 15 rfl rfl), sy_X11_tries⟩
abbrev mL_loosen : jM := (yL_loosen, cL_loosen, 6, (some .int), [(0, 12, 15, 24), (0, 12, 19, 13)])
theorem sy_X11_loosen : jSY mX11_loosen 3 := ⟨(jw_6_1 0 rfl rfl), (jw_1_0 1 rfl rfl), ⟨lw_n8.1, lw_n8.2, dscr_21⟩, by decide⟩
theorem cv_L_75_X11_loosen : jSv RL 75 mX11_loosen 3 := ⟨(jw_6_0 13 rfl rfl), (jw_6_0 14 rfl rfl), (jw_6_0 15 rfl rfl), sy_X11_loosen⟩
abbrev mL_tight : jM := (yL_tight, cL_tight, 4, (some .int), [(0, 9, 12, 13)])
theorem sy_X11_tight : jSY mX11_tight 1 := ⟨(jw_6_1 12 rfl rfl), (jw_1_0 1 rfl rfl), ⟨lw_n8.1, lw_n8.2, dscr_19⟩, by decide⟩
theorem cv_L_78_X11_tight : jSv RL 78 mX11_tight 1 := ⟨(jw_6_1 9 rfl rfl), (jw_6_1 10 rfl rfl), (jw_6_1 11 rfl rfl), sy_X11_tight⟩
abbrev mL_lit : jM := (yL_lit, cL_lit, 4, (some .int), [(0, 9, 12, 24)])
theorem sy_X11_lit : jSY mX11_lit 1 := ⟨(jw_6_2 6 rfl rfl), (jw_1_0 1 rfl rfl), ⟨lw_n8.1, lw_n8.2, dscr_19⟩, by decide⟩
theorem cv_L_81_X11_lit : jSv RL 81 mX11_lit 1 := ⟨(jw_6_2 3 rfl rfl), (jw_6_2 4 rfl rfl), (jw_6_2 5 rfl rfl), sy_X11_lit⟩
abbrev mL_faded : jM := (yL_faded, cL_faded, 4, (some .int), [(0, 9, 12, 13)])
theorem sy_X11_faded : jSY mX11_faded 1 := ⟨(jw_6_3 1 rfl rfl), (jw_1_0 1 rfl rfl), ⟨lw_n8.1, lw_n8.2, dscr_19⟩, by decide⟩
theorem cv_L_84_X11_faded : jSv RL 84 mX11_faded 1 := ⟨(jw_6_2 14 rfl rfl), (jw_6_2 15 rfl rfl), (jw_6_3 0 rfl rfl), sy_X11_faded⟩
abbrev mL_lets : jM := (yL_lets, cL_lets, 5, (some .int), [(0, 10, 13, 24), (0, 10, 17, 13)])
theorem sy_X11_lets : jSY mX11_lets 2 := ⟨(jw_6_3 13 rfl rfl), (jw_1_0 1 rfl rfl), ⟨lw_n8.1, lw_n8.2, dscr_6⟩, by decide⟩
theorem cv_L_87_X11_lets : jSv RL 87 mX11_lets 2 := ⟨(jw_6_3 10 rfl rfl), (jw_6_3 11 rfl rfl), (jw_6_3 12 rfl rfl), sy_X11_lets⟩
abbrev mL_rests : jM := (yL_rests, cL_rests, 4, (some .int), [(0, 9, 12, 24)])
theorem sy_X11_rests : jSY mX11_rests 1 := ⟨(jw_6_4 7 rfl rfl), (jw_1_0 1 rfl rfl), ⟨lw_n8.1, lw_n8.2, dscr_19⟩, by decide⟩
theorem cv_L_90_X11_rests : jSv RL 90 mX11_rests 1 := ⟨(jw_6_4 4 rfl rfl), (jw_6_4 5 rfl rfl), (jw_6_4 6 rfl rfl), sy_X11_rests⟩
abbrev mL_odds : jM := (yL_odds, cL_odds, 5, (some .int), [(0, 10, 13, 24), (0, 10, 17, 13)])
theorem sy_X11_odds : jSY mX11_odds 2 := ⟨(jw_6_5 4 rfl rfl), (jw_1_0 1 rfl rfl), ⟨lw_n8.1, lw_n8.2, dscr_6⟩, by decide⟩
theorem cv_L_93_X11_odds : jSv RL 93 mX11_odds 2 := ⟨(jw_6_5 1 rfl rfl), (jw_6_5 2 rfl rfl), (jw_6_5 3 rfl rfl), sy_X11_odds⟩
abbrev mL_ahead : jM := (yL_ahead, cL_ahead, 5, (some .int), [(0, 10, 13, 24), (0, 10, 17, 13)])
theorem sy_X11_ahead : jSY mX11_ahead 2 := ⟨(jw_6_5 15 rfl rfl), (jw_1_0 1 rfl rfl), ⟨lw_n8.1, lw_n8.2, dscr_6⟩, by decide⟩
theorem cv_L_96_X11_ahead : jSv RL 96 mX11_ahead 2 := ⟨(jw_6_5 12 rfl rfl), (jw_6_5 13 rfl rfl), (jw_6_5 14 rfl rfl), sy_X11_ahead⟩
abbrev mL_trial : jM := (yL_trial, cL_trial, 5, (some .int), [(0, 10, 13, 13)])
theorem sy_X11_trial : jSY mX11_trial 2 := ⟨(jw_6_6 6 rfl rfl), (jw_1_0 1 rfl rfl), ⟨lw_n8.1, lw_n8.2, dscr_25⟩, by decide⟩
theorem cv_L_99_X11_trial : jSv RL 99 mX11_trial 2 := ⟨(jw_6_6 3 rfl rfl), (jw_6_6 4 rfl rfl), (jw_6_6 5 rfl rfl), sy_X11_trial⟩
abbrev mL_span : jM := (yL_span, cL_span, 5, (some .int), [(0, 10, 13, 13)])
theorem sy_X11_span : jSY mX11_span 2 := ⟨(jw_6_7 2 rfl rfl), (jw_1_0 1 rfl rfl), ⟨lw_n8.1, lw_n8.2, dscr_25⟩, by decide⟩
theorem cv_L_102_X11_span : jSv RL 102 mX11_span 2 := ⟨(jw_6_6 15 rfl rfl), (jw_6_7 0 rfl rfl), (jw_6_7 1 rfl rfl), sy_X11_span⟩
abbrev mL_led : jM := (yL_led, cL_led, 5, (some .int), [(0, 10, 13, 24)])
theorem sy_X11_led : jSY mX11_led 2 := ⟨(jw_6_7 10 rfl rfl), (jw_1_0 1 rfl rfl), ⟨lw_n8.1, lw_n8.2, dscr_25⟩, by decide⟩
theorem cv_L_105_X11_led : jSv RL 105 mX11_led 2 := ⟨(jw_6_7 7 rfl rfl), (jw_6_7 8 rfl rfl), (jw_6_7 9 rfl rfl), sy_X11_led⟩
abbrev mL_log : jM := (yL_log, cL_log, 5, (some .int), [(0, 10, 13, 26)])
theorem sy_X11_log : jSY mX11_log 2 := ⟨(jw_6_9 2 rfl rfl), (jw_1_0 1 rfl rfl), ⟨lw_n8.1, lw_n8.2, dscr_6⟩, by decide⟩
theorem cv_L_108_X11_log : jSv RL 108 mX11_log 2 := ⟨(jw_6_8 15 rfl rfl), (jw_6_9 0 rfl rfl), (jw_6_9 1 rfl rfl), sy_X11_log⟩
theorem sy_X11_feed : jSY mX11_feed 5 := ⟨(jw_2_8 15 rfl rfl), (jw_1_0 1 rfl rfl), ⟨lw_n8.1, lw_n8.2, dscr_47⟩, by decide⟩
theorem cv_L_115_X11_feed : jSv RL 115 mX11_feed 5 := ⟨(jw_2_8 12 rfl rfl), (jw_2_8 13 rfl rfl), (jw_2_8 14 rfl rfl), sy_X11_feed⟩
theorem sy_X12_feed : jSY mX12_feed 5 := ⟨(jw_7_0 2 rfl rfl), (jw_1_0 12 rfl rfl), ⟨lw_n9.1, lw_n9.2, dscr_47⟩, by decide⟩
theorem cv_L_119_X12_feed : jSv RL 119 mX12_feed 5 := ⟨(jw_6_14 15 rfl rfl), (jw_7_0 0 rfl rfl), (jw_7_0 1 rfl rfl), sy_X12_feed⟩
theorem sy_X11_end : jSY mX11_end 1 := ⟨(jw_2_9 11 rfl rfl), (jw_1_0 1 rfl rfl), ⟨lw_n8.1, lw_n8.2, dscr_12⟩, by decide⟩
theorem cv_L_120_X11_end : jSv RL 120 mX11_end 1 := ⟨(jw_2_9 8 rfl rfl), (jw_2_9 9 rfl rfl), (jw_2_9 10 rfl rfl), sy_X11_end⟩
theorem sy_X12_end : jSY mX12_end 1 := ⟨(jw_7_0 6 rfl rfl), (jw_1_0 12 rfl rfl), ⟨lw_n9.1, lw_n9.2, dscr_12⟩, by decide⟩
theorem cv_L_124_X12_end : jSv RL 124 mX12_end 1 := ⟨(jw_7_0 3 rfl rfl), (jw_7_0 4 rfl rfl), (jw_7_0 5 rfl rfl), sy_X12_end⟩
theorem sy_L_pole : jSY mL_pole 2 := ⟨(jw_3_12 5 rfl rfl), (jw_1_0 0 rfl rfl), ⟨lw_n19.1, lw_n19.2, dscr_48⟩, by decide⟩
theorem cs_L_125_L_pole : jSs RL 125 mL_pole 2 := ⟨(jw_3_12 3 rfl rfl), (jw_3_12 4 rfl rfl), sy_L_pole⟩
theorem sy_X12_pole : jSY mX12_pole 0 := ⟨(jw_7_0 14 rfl rfl), (jw_1_0 12 rfl rfl), ⟨lw_n9.1, lw_n9.2, dscr_11⟩, by decide⟩
theorem cv_L_130_X12_pole : jSv RL 130 mX12_pole 0 := ⟨(jw_7_0 11 rfl rfl), (jw_7_0 12 rfl rfl), (jw_7_0 13 rfl rfl), sy_X12_pole⟩
theorem sy_L_law : jSY mL_law 2 := ⟨(jw_4_14 2 rfl rfl), (jw_1_0 0 rfl rfl), ⟨lw_n19.1, lw_n19.2, dscr_48⟩, by decide⟩
theorem cs_L_131_L_law : jSs RL 131 mL_law 2 := ⟨(jw_4_14 0 rfl rfl), (jw_4_14 1 rfl rfl), sy_L_law⟩
theorem sy_X12_law : jSY mX12_law 0 := ⟨(jw_7_10 15 rfl rfl), (jw_1_0 12 rfl rfl), ⟨lw_n9.1, lw_n9.2, dscr_11⟩, by decide⟩
theorem cv_L_133_X12_law : jSv RL 133 mX12_law 0 := ⟨(jw_7_10 12 rfl rfl), (jw_7_10 13 rfl rfl), (jw_7_10 14 rfl rfl), sy_X12_law⟩
theorem sy_X11_fault : jSY mX11_fault 0 := ⟨(jw_2_9 15 rfl rfl), (jw_1_0 1 rfl rfl), ⟨lw_n8.1, lw_n8.2, dscr_11⟩, by decide⟩
theorem cv_L_134_X11_fault : jSv RL 134 mX11_fault 0 := ⟨(jw_2_9 12 rfl rfl), (jw_2_9 13 rfl rfl), (jw_2_9 14 rfl rfl), sy_X11_fault⟩
theorem sy_X12_fault : jSY mX12_fault 0 := ⟨(jw_7_0 10 rfl rfl), (jw_1_0 12 rfl rfl), ⟨lw_n9.1, lw_n9.2, dscr_11⟩, by decide⟩
theorem cv_L_137_X12_fault : jSv RL 137 mX12_fault 0 := ⟨(jw_7_0 7 rfl rfl), (jw_7_0 8 rfl rfl), (jw_7_0 9 rfl rfl), sy_X12_fault⟩
theorem sy_L_ring : jSY mL_ring 4 := ⟨(jw_5_0 0 rfl rfl), (jw_1_0 0 rfl rfl), ⟨lw_n19.1, lw_n19.2, dscr_49⟩, by decide⟩
theorem cs_L_138_L_ring : jSs RL 138 mL_ring 4 := ⟨(jw_4_14 14 rfl rfl), (jw_4_14 15 rfl rfl), sy_L_ring⟩
theorem sy_X12_ring : jSY mX12_ring 2 := ⟨(jw_7_11 3 rfl rfl), (jw_1_0 12 rfl rfl), ⟨lw_n9.1, lw_n9.2, dscr_6⟩, by decide⟩
theorem cv_L_141_X12_ring : jSv RL 141 mX12_ring 2 := ⟨(jw_7_11 0 rfl rfl), (jw_7_11 1 rfl rfl), (jw_7_11 2 rfl rfl), sy_X12_ring⟩
theorem sy_L_pull : jSY mL_pull 5 := ⟨(jw_5_3 10 rfl rfl), (jw_1_0 0 rfl rfl), ⟨lw_n19.1, lw_n19.2, dscr_50⟩, by decide⟩
theorem cs_L_142_L_pull : jSs RL 142 mL_pull 5 := ⟨(jw_5_3 8 rfl rfl), (jw_5_3 9 rfl rfl), sy_L_pull⟩
theorem sy_X12_pull : jSY mX12_pull 3 := ⟨(jw_7_14 8 rfl rfl), (jw_1_0 12 rfl rfl), ⟨lw_n9.1, lw_n9.2, dscr_21⟩, by decide⟩
theorem cv_L_145_X12_pull : jSv RL 145 mX12_pull 3 := ⟨(jw_7_14 5 rfl rfl), (jw_7_14 6 rfl rfl), (jw_7_14 7 rfl rfl), sy_X12_pull⟩
theorem sy_L_free : jSY mL_free 3 := ⟨(jw_5_5 4 rfl rfl), (jw_1_0 0 rfl rfl), ⟨lw_n19.1, lw_n19.2, dscr_51⟩, by decide⟩
theorem cs_L_146_L_free : jSs RL 146 mL_free 3 := ⟨(jw_5_5 2 rfl rfl), (jw_5_5 3 rfl rfl), sy_L_free⟩
theorem sy_X12_free : jSY mX12_free 1 := ⟨(jw_8_2 5 rfl rfl), (jw_1_0 12 rfl rfl), ⟨lw_n9.1, lw_n9.2, dscr_19⟩, by decide⟩
theorem cv_L_149_X12_free : jSv RL 149 mX12_free 1 := ⟨(jw_8_2 2 rfl rfl), (jw_8_2 3 rfl rfl), (jw_8_2 4 rfl rfl), sy_X12_free⟩
theorem sy_L_snag : jSY mL_snag 3 := ⟨(jw_5_6 13 rfl rfl), (jw_1_0 0 rfl rfl), ⟨lw_n19.1, lw_n19.2, dscr_51⟩, by decide⟩
theorem cs_L_150_L_snag : jSs RL 150 mL_snag 3 := ⟨(jw_5_6 11 rfl rfl), (jw_5_6 12 rfl rfl), sy_L_snag⟩
theorem sy_X12_snag : jSY mX12_snag 1 := ⟨(jw_8_2 9 rfl rfl), (jw_1_0 12 rfl rfl), ⟨lw_n9.1, lw_n9.2, dscr_19⟩, by decide⟩
theorem cv_L_152_X12_snag : jSv RL 152 mX12_snag 1 := ⟨(jw_8_2 6 rfl rfl), (jw_8_2 7 rfl rfl), (jw_8_2 8 rfl rfl), sy_X12_snag⟩
theorem sy_L_hook : jSY mL_hook 4 := ⟨(jw_5_7 5 rfl rfl), (jw_1_0 0 rfl rfl), ⟨lw_n19.1, lw_n19.2, dscr_52⟩, by decide⟩
theorem cs_L_153_L_hook : jSs RL 153 mL_hook 4 := ⟨(jw_5_7 3 rfl rfl), (jw_5_7 4 rfl rfl), sy_L_hook⟩
theorem sy_X12_hook : jSY mX12_hook 2 := ⟨(jw_8_2 13 rfl rfl), (jw_1_0 12 rfl rfl), ⟨lw_n9.1, lw_n9.2, dscr_24⟩, by decide⟩
theorem cv_L_156_X12_hook : jSv RL 156 mX12_hook 2 := ⟨(jw_8_2 10 rfl rfl), (jw_8_2 11 rfl rfl), (jw_8_2 12 rfl rfl), sy_X12_hook⟩
theorem sy_L_sew : jSY mL_sew 4 := ⟨(jw_5_7 12 rfl rfl), (jw_1_0 0 rfl rfl), ⟨lw_n19.1, lw_n19.2, dscr_49⟩, by decide⟩
theorem cs_L_157_L_sew : jSs RL 157 mL_sew 4 := ⟨(jw_5_7 10 rfl rfl), (jw_5_7 11 rfl rfl), sy_L_sew⟩
theorem sy_X12_sew : jSY mX12_sew 2 := ⟨(jw_8_3 1 rfl rfl), (jw_1_0 12 rfl rfl), ⟨lw_n9.1, lw_n9.2, dscr_6⟩, by decide⟩
theorem cv_L_159_X12_sew : jSv RL 159 mX12_sew 2 := ⟨(jw_8_2 14 rfl rfl), (jw_8_2 15 rfl rfl), (jw_8_3 0 rfl rfl), sy_X12_sew⟩
theorem sy_L_let : jSY mL_let 4 := ⟨(jw_5_8 12 rfl rfl), (jw_1_0 0 rfl rfl), ⟨lw_n19.1, lw_n19.2, dscr_49⟩, by decide⟩
theorem cs_L_160_L_let : jSs RL 160 mL_let 4 := ⟨(jw_5_8 10 rfl rfl), (jw_5_8 11 rfl rfl), sy_L_let⟩
theorem sy_X12_let : jSY mX12_let 2 := ⟨(jw_8_3 5 rfl rfl), (jw_1_0 12 rfl rfl), ⟨lw_n9.1, lw_n9.2, dscr_6⟩, by decide⟩
theorem cv_L_162_X12_let : jSv RL 162 mX12_let 2 := ⟨(jw_8_3 2 rfl rfl), (jw_8_3 3 rfl rfl), (jw_8_3 4 rfl rfl), sy_X12_let⟩
theorem sy_L_chair : jSY mL_chair 4 := ⟨(jw_5_9 3 rfl rfl), (jw_1_0 0 rfl rfl), ⟨lw_n19.1, lw_n19.2, dscr_52⟩, by decide⟩
theorem cs_L_163_L_chair : jSs RL 163 mL_chair 4 := ⟨(jw_5_9 1 rfl rfl), (jw_5_9 2 rfl rfl), sy_L_chair⟩
theorem sy_X12_chair : jSY mX12_chair 2 := ⟨(jw_8_3 9 rfl rfl), (jw_1_0 12 rfl rfl), ⟨lw_n9.1, lw_n9.2, dscr_24⟩, by decide⟩
theorem cv_L_165_X12_chair : jSv RL 165 mX12_chair 2 := ⟨(jw_8_3 6 rfl rfl), (jw_8_3 7 rfl rfl), (jw_8_3 8 rfl rfl), sy_X12_chair⟩
theorem sy_L_hours : jSY mL_hours 3 := ⟨(jw_5_9 10 rfl rfl), (jw_1_0 0 rfl rfl), ⟨lw_n19.1, lw_n19.2, dscr_51⟩, by decide⟩
theorem cs_L_166_L_hours : jSs RL 166 mL_hours 3 := ⟨(jw_5_9 8 rfl rfl), (jw_5_9 9 rfl rfl), sy_L_hours⟩
theorem sy_X12_hours : jSY mX12_hours 1 := ⟨(jw_8_3 13 rfl rfl), (jw_1_0 12 rfl rfl), ⟨lw_n9.1, lw_n9.2, dscr_19⟩, by decide⟩
theorem cv_L_168_X12_hours : jSv RL 168 mX12_hours 1 := ⟨(jw_8_3 10 rfl rfl), (jw_8_3 11 rfl rfl), (jw_8_3 12 rfl rfl), sy_X12_hours⟩
theorem sy_X11_shade : jSY mX11_shade 0 := ⟨(jw_2_10 3 rfl rfl), (jw_1_0 1 rfl rfl), ⟨lw_n8.1, lw_n8.2, dscr_11⟩, by decide⟩
theorem cv_L_169_X11_shade : jSv RL 169 mX11_shade 0 := ⟨(jw_2_10 0 rfl rfl), (jw_2_10 1 rfl rfl), (jw_2_10 2 rfl rfl), sy_X11_shade⟩
theorem sy_X12_shade : jSY mX12_shade 0 := ⟨(jw_8_7 1 rfl rfl), (jw_1_0 12 rfl rfl), ⟨lw_n9.1, lw_n9.2, dscr_11⟩, by decide⟩
theorem cv_L_172_X12_shade : jSv RL 172 mX12_shade 0 := ⟨(jw_8_6 14 rfl rfl), (jw_8_6 15 rfl rfl), (jw_8_7 0 rfl rfl), sy_X12_shade⟩
theorem sy_X11_dark : jSY mX11_dark 0 := ⟨(jw_2_10 14 rfl rfl), (jw_1_0 1 rfl rfl), ⟨lw_n8.1, lw_n8.2, dscr_11⟩, by decide⟩
theorem cv_L_173_X11_dark : jSv RL 173 mX11_dark 0 := ⟨(jw_2_10 11 rfl rfl), (jw_2_10 12 rfl rfl), (jw_2_10 13 rfl rfl), sy_X11_dark⟩
theorem sy_X12_dark : jSY mX12_dark 0 := ⟨(jw_8_7 9 rfl rfl), (jw_1_0 12 rfl rfl), ⟨lw_n9.1, lw_n9.2, dscr_11⟩, by decide⟩
theorem cv_L_176_X12_dark : jSv RL 176 mX12_dark 0 := ⟨(jw_8_7 6 rfl rfl), (jw_8_7 7 rfl rfl), (jw_8_7 8 rfl rfl), sy_X12_dark⟩
theorem sy_X11_bare : jSY mX11_bare 0 := ⟨(jw_2_11 13 rfl rfl), (jw_1_0 1 rfl rfl), ⟨lw_n8.1, lw_n8.2, dscr_11⟩, by decide⟩
theorem cv_L_177_X11_bare : jSv RL 177 mX11_bare 0 := ⟨(jw_2_11 10 rfl rfl), (jw_2_11 11 rfl rfl), (jw_2_11 12 rfl rfl), sy_X11_bare⟩
theorem sy_X12_bare : jSY mX12_bare 0 := ⟨(jw_8_8 2 rfl rfl), (jw_1_0 12 rfl rfl), ⟨lw_n9.1, lw_n9.2, dscr_11⟩, by decide⟩
theorem cv_L_180_X12_bare : jSv RL 180 mX12_bare 0 := ⟨(jw_8_7 15 rfl rfl), (jw_8_8 0 rfl rfl), (jw_8_8 1 rfl rfl), sy_X12_bare⟩
theorem sy_L_goes : jSY mL_goes 4 := ⟨(jw_5_11 5 rfl rfl), (jw_1_0 0 rfl rfl), ⟨lw_n19.1, lw_n19.2, dscr_52⟩, by decide⟩
theorem cs_L_181_L_goes : jSs RL 181 mL_goes 4 := ⟨(jw_5_11 3 rfl rfl), (jw_5_11 4 rfl rfl), sy_L_goes⟩
theorem sy_X12_goes : jSY mX12_goes 2 := ⟨(jw_8_8 6 rfl rfl), (jw_1_0 12 rfl rfl), ⟨lw_n9.1, lw_n9.2, dscr_25⟩, by decide⟩
theorem cv_L_183_X12_goes : jSv RL 183 mX12_goes 2 := ⟨(jw_8_8 3 rfl rfl), (jw_8_8 4 rfl rfl), (jw_8_8 5 rfl rfl), sy_X12_goes⟩
theorem sy_L_with : jSY mL_with 4 := ⟨(jw_5_11 12 rfl rfl), (jw_1_0 0 rfl rfl), ⟨lw_n19.1, lw_n19.2, dscr_52⟩, by decide⟩
theorem cs_L_184_L_with : jSs RL 184 mL_with 4 := ⟨(jw_5_11 10 rfl rfl), (jw_5_11 11 rfl rfl), sy_L_with⟩
theorem sy_X12_with : jSY mX12_with 2 := ⟨(jw_8_8 10 rfl rfl), (jw_1_0 12 rfl rfl), ⟨lw_n9.1, lw_n9.2, dscr_25⟩, by decide⟩
theorem cv_L_186_X12_with : jSv RL 186 mX12_with 2 := ⟨(jw_8_8 7 rfl rfl), (jw_8_8 8 rfl rfl), (jw_8_8 9 rfl rfl), sy_X12_with⟩
theorem sy_L_would : jSY mL_would 6 := ⟨(jw_5_12 4 rfl rfl), (jw_1_0 0 rfl rfl), ⟨lw_n19.1, lw_n19.2, dscr_53⟩, by decide⟩
theorem cs_L_187_L_would : jSs RL 187 mL_would 6 := ⟨(jw_5_12 2 rfl rfl), (jw_5_12 3 rfl rfl), sy_L_would⟩
theorem sy_X12_would : jSY mX12_would 4 := ⟨(jw_8_8 14 rfl rfl), (jw_1_0 12 rfl rfl), ⟨lw_n9.1, lw_n9.2, dscr_46⟩, by decide⟩
theorem cv_L_190_X12_would : jSv RL 190 mX12_would 4 := ⟨(jw_8_8 11 rfl rfl), (jw_8_8 12 rfl rfl), (jw_8_8 13 rfl rfl), sy_X12_would⟩
theorem sy_X11_best : jSY mX11_best 0 := ⟨(jw_2_12 1 rfl rfl), (jw_1_0 1 rfl rfl), ⟨lw_n8.1, lw_n8.2, dscr_11⟩, by decide⟩
theorem cv_L_191_X11_best : jSv RL 191 mX11_best 0 := ⟨(jw_2_11 14 rfl rfl), (jw_2_11 15 rfl rfl), (jw_2_12 0 rfl rfl), sy_X11_best⟩
theorem sy_X12_best : jSY mX12_best 0 := ⟨(jw_8_9 2 rfl rfl), (jw_1_0 12 rfl rfl), ⟨lw_n9.1, lw_n9.2, dscr_11⟩, by decide⟩
theorem cv_L_194_X12_best : jSv RL 194 mX12_best 0 := ⟨(jw_8_8 15 rfl rfl), (jw_8_9 0 rfl rfl), (jw_8_9 1 rfl rfl), sy_X12_best⟩
theorem sy_X11_fewest : jSY mX11_fewest 1 := ⟨(jw_2_14 14 rfl rfl), (jw_1_0 1 rfl rfl), ⟨lw_n8.1, lw_n8.2, dscr_19⟩, by decide⟩
theorem cv_L_195_X11_fewest : jSv RL 195 mX11_fewest 1 := ⟨(jw_2_14 11 rfl rfl), (jw_2_14 12 rfl rfl), (jw_2_14 13 rfl rfl), sy_X11_fewest⟩
theorem sy_X12_fewest : jSY mX12_fewest 1 := ⟨(jw_8_9 7 rfl rfl), (jw_1_0 12 rfl rfl), ⟨lw_n9.1, lw_n9.2, dscr_19⟩, by decide⟩
theorem cv_L_198_X12_fewest : jSv RL 198 mX12_fewest 1 := ⟨(jw_8_9 4 rfl rfl), (jw_8_9 5 rfl rfl), (jw_8_9 6 rfl rfl), sy_X12_fewest⟩
theorem sy_X11_first : jSY mX11_first 1 := ⟨(jw_3_0 11 rfl rfl), (jw_1_0 1 rfl rfl), ⟨lw_n8.1, lw_n8.2, dscr_19⟩, by decide⟩
theorem cv_L_199_X11_first : jSv RL 199 mX11_first 1 := ⟨(jw_3_0 8 rfl rfl), (jw_3_0 9 rfl rfl), (jw_3_0 10 rfl rfl), sy_X11_first⟩
theorem sy_X12_first : jSY mX12_first 1 := ⟨(jw_8_10 7 rfl rfl), (jw_1_0 12 rfl rfl), ⟨lw_n9.1, lw_n9.2, dscr_19⟩, by decide⟩
theorem cv_L_202_X12_first : jSv RL 202 mX12_first 1 := ⟨(jw_8_10 4 rfl rfl), (jw_8_10 5 rfl rfl), (jw_8_10 6 rfl rfl), sy_X12_first⟩
theorem sy_L_snags : jSY mL_snags 3 := ⟨(jw_5_12 11 rfl rfl), (jw_1_0 0 rfl rfl), ⟨lw_n19.1, lw_n19.2, dscr_54⟩, by decide⟩
theorem cs_L_203_L_snags : jSs RL 203 mL_snags 3 := ⟨(jw_5_12 9 rfl rfl), (jw_5_12 10 rfl rfl), sy_L_snags⟩
theorem sy_X12_snags : jSY mX12_snags 1 := ⟨(jw_8_10 11 rfl rfl), (jw_1_0 12 rfl rfl), ⟨lw_n9.1, lw_n9.2, dscr_40⟩, by decide⟩
theorem cv_L_206_X12_snags : jSv RL 206 mX12_snags 1 := ⟨(jw_8_10 8 rfl rfl), (jw_8_10 9 rfl rfl), (jw_8_10 10 rfl rfl), sy_X12_snags⟩
theorem sy_L_tries : jSY mL_tries 2 := ⟨(jw_5_14 12 rfl rfl), (jw_1_0 0 rfl rfl), ⟨lw_n19.1, lw_n19.2, dscr_48⟩, by decide⟩
theorem cs_L_207_L_tries : jSs RL 207 mL_tries 2 := ⟨(jw_5_14 10 rfl rfl), (jw_5_14 11 rfl rfl), sy_L_tries⟩
theorem sy_X12_tries : jSY mX12_tries 0 := ⟨(jw_8_12 3 rfl rfl), (jw_1_0 12 rfl rfl), ⟨lw_n9.1, lw_n9.2, dscr_11⟩, by decide⟩
theorem cv_L_209_X12_tries : jSv RL 209 mX12_tries 0 := ⟨(jw_8_12 0 rfl rfl), (jw_8_12 1 rfl rfl), (jw_8_12 2 rfl rfl), sy_X12_tries⟩
theorem sy_L_loosen : jSY mL_loosen 5 := ⟨(jw_6_0 12 rfl rfl), (jw_1_0 0 rfl rfl), ⟨lw_n19.1, lw_n19.2, dscr_50⟩, by decide⟩
theorem cs_L_210_L_loosen : jSs RL 210 mL_loosen 5 := ⟨(jw_6_0 10 rfl rfl), (jw_6_0 11 rfl rfl), sy_L_loosen⟩
theorem sy_X12_loosen : jSY mX12_loosen 3 := ⟨(jw_8_12 11 rfl rfl), (jw_1_0 12 rfl rfl), ⟨lw_n9.1, lw_n9.2, dscr_21⟩, by decide⟩
theorem cv_L_212_X12_loosen : jSv RL 212 mX12_loosen 3 := ⟨(jw_8_12 8 rfl rfl), (jw_8_12 9 rfl rfl), (jw_8_12 10 rfl rfl), sy_X12_loosen⟩
theorem sy_X12_thrown : jSY mX12_thrown 0 := ⟨(jw_6_9 8 rfl rfl), (jw_1_0 12 rfl rfl), ⟨lw_n9.1, lw_n9.2, dscr_11⟩, by decide⟩
theorem cv_L_213_X12_thrown : jSv RL 213 mX12_thrown 0 := ⟨(jw_6_9 5 rfl rfl), (jw_6_9 6 rfl rfl), (jw_6_9 7 rfl rfl), sy_X12_thrown⟩
theorem sy_X11_order : jSY mX11_order 0 := ⟨(jw_3_0 15 rfl rfl), (jw_1_0 1 rfl rfl), ⟨lw_n8.1, lw_n8.2, dscr_11⟩, by decide⟩
theorem cv_L_216_X11_order : jSv RL 216 mX11_order 0 := ⟨(jw_3_0 12 rfl rfl), (jw_3_0 13 rfl rfl), (jw_3_0 14 rfl rfl), sy_X11_order⟩
theorem sy_X12_order : jSY mX12_order 0 := ⟨(jw_8_13 3 rfl rfl), (jw_1_0 12 rfl rfl), ⟨lw_n9.1, lw_n9.2, dscr_11⟩, by decide⟩
theorem cv_L_219_X12_order : jSv RL 219 mX12_order 0 := ⟨(jw_8_13 0 rfl rfl), (jw_8_13 1 rfl rfl), (jw_8_13 2 rfl rfl), sy_X12_order⟩
theorem sy_L_tight : jSY mL_tight 3 := ⟨(jw_6_1 8 rfl rfl), (jw_1_0 0 rfl rfl), ⟨lw_n19.1, lw_n19.2, dscr_51⟩, by decide⟩
theorem cs_L_220_L_tight : jSs RL 220 mL_tight 3 := ⟨(jw_6_1 6 rfl rfl), (jw_6_1 7 rfl rfl), sy_L_tight⟩
theorem sy_X12_tight : jSY mX12_tight 1 := ⟨(jw_8_13 7 rfl rfl), (jw_1_0 12 rfl rfl), ⟨lw_n9.1, lw_n9.2, dscr_19⟩, by decide⟩
theorem cv_L_222_X12_tight : jSv RL 222 mX12_tight 1 := ⟨(jw_8_13 4 rfl rfl), (jw_8_13 5 rfl rfl), (jw_8_13 6 rfl rfl), sy_X12_tight⟩
theorem sy_X11_slack : jSY mX11_slack 0 := ⟨(jw_3_1 14 rfl rfl), (jw_1_0 1 rfl rfl), ⟨lw_n8.1, lw_n8.2, dscr_11⟩, by decide⟩
theorem cv_L_223_X11_slack : jSv RL 223 mX11_slack 0 := ⟨(jw_3_1 11 rfl rfl), (jw_3_1 12 rfl rfl), (jw_3_1 13 rfl rfl), sy_X11_slack⟩
theorem sy_X12_slack : jSY mX12_slack 0 := ⟨(jw_8_13 11 rfl rfl), (jw_1_0 12 rfl rfl), ⟨lw_n9.1, lw_n9.2, dscr_11⟩, by decide⟩
theorem cv_L_226_X12_slack : jSv RL 226 mX12_slack 0 := ⟨(jw_8_13 8 rfl rfl), (jw_8_13 9 rfl rfl), (jw_8_13 10 rfl rfl), sy_X12_slack⟩
theorem sy_X11_taut : jSY mX11_taut 0 := ⟨(jw_3_2 9 rfl rfl), (jw_1_0 1 rfl rfl), ⟨lw_n8.1, lw_n8.2, dscr_11⟩, by decide⟩
theorem cv_L_227_X11_taut : jSv RL 227 mX11_taut 0 := ⟨(jw_3_2 6 rfl rfl), (jw_3_2 7 rfl rfl), (jw_3_2 8 rfl rfl), sy_X11_taut⟩
theorem sy_X12_taut : jSY mX12_taut 0 := ⟨(jw_8_13 15 rfl rfl), (jw_1_0 12 rfl rfl), ⟨lw_n9.1, lw_n9.2, dscr_11⟩, by decide⟩
theorem cv_L_230_X12_taut : jSv RL 230 mX12_taut 0 := ⟨(jw_8_13 12 rfl rfl), (jw_8_13 13 rfl rfl), (jw_8_13 14 rfl rfl), sy_X12_taut⟩
theorem sy_L_lit : jSY mL_lit 3 := ⟨(jw_6_2 2 rfl rfl), (jw_1_0 0 rfl rfl), ⟨lw_n19.1, lw_n19.2, dscr_51⟩, by decide⟩
theorem cs_L_231_L_lit : jSs RL 231 mL_lit 3 := ⟨(jw_6_2 0 rfl rfl), (jw_6_2 1 rfl rfl), sy_L_lit⟩
theorem sy_X12_lit : jSY mX12_lit 1 := ⟨(jw_8_14 7 rfl rfl), (jw_1_0 12 rfl rfl), ⟨lw_n9.1, lw_n9.2, dscr_19⟩, by decide⟩
theorem cv_L_233_X12_lit : jSv RL 233 mX12_lit 1 := ⟨(jw_8_14 4 rfl rfl), (jw_8_14 5 rfl rfl), (jw_8_14 6 rfl rfl), sy_X12_lit⟩
theorem sy_X11_sunny : jSY mX11_sunny 0 := ⟨(jw_3_3 3 rfl rfl), (jw_1_0 1 rfl rfl), ⟨lw_n8.1, lw_n8.2, dscr_11⟩, by decide⟩
theorem cv_L_234_X11_sunny : jSv RL 234 mX11_sunny 0 := ⟨(jw_3_3 0 rfl rfl), (jw_3_3 1 rfl rfl), (jw_3_3 2 rfl rfl), sy_X11_sunny⟩
theorem sy_X12_sunny : jSY mX12_sunny 0 := ⟨(jw_8_14 15 rfl rfl), (jw_1_0 12 rfl rfl), ⟨lw_n9.1, lw_n9.2, dscr_11⟩, by decide⟩
theorem cv_L_237_X12_sunny : jSv RL 237 mX12_sunny 0 := ⟨(jw_8_14 12 rfl rfl), (jw_8_14 13 rfl rfl), (jw_8_14 14 rfl rfl), sy_X12_sunny⟩
theorem sy_L_faded : jSY mL_faded 3 := ⟨(jw_6_2 13 rfl rfl), (jw_1_0 0 rfl rfl), ⟨lw_n19.1, lw_n19.2, dscr_51⟩, by decide⟩
theorem cs_L_238_L_faded : jSs RL 238 mL_faded 3 := ⟨(jw_6_2 11 rfl rfl), (jw_6_2 12 rfl rfl), sy_L_faded⟩
theorem sy_X12_faded : jSY mX12_faded 1 := ⟨(jw_8_6 5 rfl rfl), (jw_1_0 12 rfl rfl), ⟨lw_n9.1, lw_n9.2, dscr_19⟩, by decide⟩
theorem cv_L_240_X12_faded : jSv RL 240 mX12_faded 1 := ⟨(jw_8_6 2 rfl rfl), (jw_8_6 3 rfl rfl), (jw_8_6 4 rfl rfl), sy_X12_faded⟩
theorem sy_X11_pale : jSY mX11_pale 0 := ⟨(jw_3_4 1 rfl rfl), (jw_1_0 1 rfl rfl), ⟨lw_n8.1, lw_n8.2, dscr_11⟩, by decide⟩
theorem cv_L_241_X11_pale : jSv RL 241 mX11_pale 0 := ⟨(jw_3_3 14 rfl rfl), (jw_3_3 15 rfl rfl), (jw_3_4 0 rfl rfl), sy_X11_pale⟩
theorem sy_X12_pale : jSY mX12_pale 0 := ⟨(jw_8_6 9 rfl rfl), (jw_1_0 12 rfl rfl), ⟨lw_n9.1, lw_n9.2, dscr_11⟩, by decide⟩
theorem cv_L_244_X12_pale : jSv RL 244 mX12_pale 0 := ⟨(jw_8_6 6 rfl rfl), (jw_8_6 7 rfl rfl), (jw_8_6 8 rfl rfl), sy_X12_pale⟩
theorem sy_L_lets : jSY mL_lets 4 := ⟨(jw_6_3 9 rfl rfl), (jw_1_0 0 rfl rfl), ⟨lw_n19.1, lw_n19.2, dscr_49⟩, by decide⟩
theorem cs_L_245_L_lets : jSs RL 245 mL_lets 4 := ⟨(jw_6_3 7 rfl rfl), (jw_6_3 8 rfl rfl), sy_L_lets⟩
theorem sy_X12_lets : jSY mX12_lets 2 := ⟨(jw_9_0 3 rfl rfl), (jw_1_0 12 rfl rfl), ⟨lw_n9.1, lw_n9.2, dscr_6⟩, by decide⟩
theorem cv_L_247_X12_lets : jSv RL 247 mX12_lets 2 := ⟨(jw_9_0 0 rfl rfl), (jw_9_0 1 rfl rfl), (jw_9_0 2 rfl rfl), sy_X12_lets⟩
theorem sy_X11_envy : jSY mX11_envy 0 := ⟨(jw_3_7 4 rfl rfl), (jw_1_0 1 rfl rfl), ⟨lw_n8.1, lw_n8.2, dscr_11⟩, by decide⟩
theorem cv_L_248_X11_envy : jSv RL 248 mX11_envy 0 := ⟨(jw_3_7 1 rfl rfl), (jw_3_7 2 rfl rfl), (jw_3_7 3 rfl rfl), sy_X11_envy⟩
theorem sy_X12_envy : jSY mX12_envy 0 := ⟨(jw_9_0 7 rfl rfl), (jw_1_0 12 rfl rfl), ⟨lw_n9.1, lw_n9.2, dscr_11⟩, by decide⟩
theorem cv_L_251_X12_envy : jSv RL 251 mX12_envy 0 := ⟨(jw_9_0 4 rfl rfl), (jw_9_0 5 rfl rfl), (jw_9_0 6 rfl rfl), sy_X12_envy⟩
theorem sy_L_rests : jSY mL_rests 3 := ⟨(jw_6_4 3 rfl rfl), (jw_1_0 0 rfl rfl), ⟨lw_n19.1, lw_n19.2, dscr_51⟩, by decide⟩
theorem cs_L_252_L_rests : jSs RL 252 mL_rests 3 := ⟨(jw_6_4 1 rfl rfl), (jw_6_4 2 rfl rfl), sy_L_rests⟩
theorem sy_X12_rests : jSY mX12_rests 1 := ⟨(jw_9_0 11 rfl rfl), (jw_1_0 12 rfl rfl), ⟨lw_n9.1, lw_n9.2, dscr_19⟩, by decide⟩
theorem cv_L_254_X12_rests : jSv RL 254 mX12_rests 1 := ⟨(jw_9_0 8 rfl rfl), (jw_9_0 9 rfl rfl), (jw_9_0 10 rfl rfl), sy_X12_rests⟩
theorem sy_X11_bunch : jSY mX11_bunch 0 := ⟨(jw_3_7 14 rfl rfl), (jw_1_0 1 rfl rfl), ⟨lw_n8.1, lw_n8.2, dscr_11⟩, by decide⟩
theorem cv_L_255_X11_bunch : jSv RL 255 mX11_bunch 0 := ⟨(jw_3_7 11 rfl rfl), (jw_3_7 12 rfl rfl), (jw_3_7 13 rfl rfl), sy_X11_bunch⟩
theorem sy_X12_bunch : jSY mX12_bunch 0 := ⟨(jw_8_14 3 rfl rfl), (jw_1_0 12 rfl rfl), ⟨lw_n9.1, lw_n9.2, dscr_11⟩, by decide⟩
theorem cv_L_258_X12_bunch : jSv RL 258 mX12_bunch 0 := ⟨(jw_8_14 0 rfl rfl), (jw_8_14 1 rfl rfl), (jw_8_14 2 rfl rfl), sy_X12_bunch⟩
theorem sy_X11_wooden : jSY mX11_wooden 0 := ⟨(jw_3_8 5 rfl rfl), (jw_1_0 1 rfl rfl), ⟨lw_n8.1, lw_n8.2, dscr_11⟩, by decide⟩
theorem cv_L_259_X11_wooden : jSv RL 259 mX11_wooden 0 := ⟨(jw_3_8 2 rfl rfl), (jw_3_8 3 rfl rfl), (jw_3_8 4 rfl rfl), sy_X11_wooden⟩
theorem sy_X12_wooden : jSY mX12_wooden 0 := ⟨(jw_9_1 3 rfl rfl), (jw_1_0 12 rfl rfl), ⟨lw_n9.1, lw_n9.2, dscr_11⟩, by decide⟩
theorem cv_L_262_X12_wooden : jSv RL 262 mX12_wooden 0 := ⟨(jw_9_1 0 rfl rfl), (jw_9_1 1 rfl rfl), (jw_9_1 2 rfl rfl), sy_X12_wooden⟩
theorem sy_X11_caught : jSY mX11_caught 0 := ⟨(jw_3_8 9 rfl rfl), (jw_1_0 1 rfl rfl), ⟨lw_n8.1, lw_n8.2, dscr_11⟩, by decide⟩
theorem cv_L_263_X11_caught : jSv RL 263 mX11_caught 0 := ⟨(jw_3_8 6 rfl rfl), (jw_3_8 7 rfl rfl), (jw_3_8 8 rfl rfl), sy_X11_caught⟩
theorem sy_X12_caught : jSY mX12_caught 0 := ⟨(jw_9_1 7 rfl rfl), (jw_1_0 12 rfl rfl), ⟨lw_n9.1, lw_n9.2, dscr_11⟩, by decide⟩
theorem cv_L_266_X12_caught : jSv RL 266 mX12_caught 0 := ⟨(jw_9_1 4 rfl rfl), (jw_9_1 5 rfl rfl), (jw_9_1 6 rfl rfl), sy_X12_caught⟩
theorem sy_X11_loose : jSY mX11_loose 0 := ⟨(jw_3_8 13 rfl rfl), (jw_1_0 1 rfl rfl), ⟨lw_n8.1, lw_n8.2, dscr_11⟩, by decide⟩
theorem cv_L_267_X11_loose : jSv RL 267 mX11_loose 0 := ⟨(jw_3_8 10 rfl rfl), (jw_3_8 11 rfl rfl), (jw_3_8 12 rfl rfl), sy_X11_loose⟩
theorem sy_X12_loose : jSY mX12_loose 0 := ⟨(jw_9_1 11 rfl rfl), (jw_1_0 12 rfl rfl), ⟨lw_n9.1, lw_n9.2, dscr_11⟩, by decide⟩
theorem cv_L_270_X12_loose : jSv RL 270 mX12_loose 0 := ⟨(jw_9_1 8 rfl rfl), (jw_9_1 9 rfl rfl), (jw_9_1 10 rfl rfl), sy_X12_loose⟩
theorem sy_X11_beyond : jSY mX11_beyond 0 := ⟨(jw_3_9 5 rfl rfl), (jw_1_0 1 rfl rfl), ⟨lw_n8.1, lw_n8.2, dscr_11⟩, by decide⟩
theorem cv_L_271_X11_beyond : jSv RL 271 mX11_beyond 0 := ⟨(jw_3_9 2 rfl rfl), (jw_3_9 3 rfl rfl), (jw_3_9 4 rfl rfl), sy_X11_beyond⟩
theorem sy_X12_beyond : jSY mX12_beyond 0 := ⟨(jw_9_2 3 rfl rfl), (jw_1_0 12 rfl rfl), ⟨lw_n9.1, lw_n9.2, dscr_11⟩, by decide⟩
theorem cv_L_274_X12_beyond : jSv RL 274 mX12_beyond 0 := ⟨(jw_9_2 0 rfl rfl), (jw_9_2 1 rfl rfl), (jw_9_2 2 rfl rfl), sy_X12_beyond⟩
theorem sy_L_odds : jSY mL_odds 4 := ⟨(jw_6_5 0 rfl rfl), (jw_1_0 0 rfl rfl), ⟨lw_n19.1, lw_n19.2, dscr_49⟩, by decide⟩
theorem cs_L_275_L_odds : jSs RL 275 mL_odds 4 := ⟨(jw_6_4 14 rfl rfl), (jw_6_4 15 rfl rfl), sy_L_odds⟩
theorem sy_X12_odds : jSY mX12_odds 2 := ⟨(jw_9_2 7 rfl rfl), (jw_1_0 12 rfl rfl), ⟨lw_n9.1, lw_n9.2, dscr_6⟩, by decide⟩
theorem cv_L_277_X12_odds : jSv RL 277 mX12_odds 2 := ⟨(jw_9_2 4 rfl rfl), (jw_9_2 5 rfl rfl), (jw_9_2 6 rfl rfl), sy_X12_odds⟩
theorem sy_X11_twins : jSY mX11_twins 0 := ⟨(jw_3_9 12 rfl rfl), (jw_1_0 1 rfl rfl), ⟨lw_n8.1, lw_n8.2, dscr_11⟩, by decide⟩
theorem cv_L_278_X11_twins : jSv RL 278 mX11_twins 0 := ⟨(jw_3_9 9 rfl rfl), (jw_3_9 10 rfl rfl), (jw_3_9 11 rfl rfl), sy_X11_twins⟩
theorem sy_X12_twins : jSY mX12_twins 0 := ⟨(jw_9_2 11 rfl rfl), (jw_1_0 12 rfl rfl), ⟨lw_n9.1, lw_n9.2, dscr_11⟩, by decide⟩
theorem cv_L_281_X12_twins : jSv RL 281 mX12_twins 0 := ⟨(jw_9_2 8 rfl rfl), (jw_9_2 9 rfl rfl), (jw_9_2 10 rfl rfl), sy_X12_twins⟩
theorem sy_L_ahead : jSY mL_ahead 4 := ⟨(jw_6_5 11 rfl rfl), (jw_1_0 0 rfl rfl), ⟨lw_n19.1, lw_n19.2, dscr_49⟩, by decide⟩
theorem cs_L_282_L_ahead : jSs RL 282 mL_ahead 4 := ⟨(jw_6_5 9 rfl rfl), (jw_6_5 10 rfl rfl), sy_L_ahead⟩
theorem sy_X12_ahead : jSY mX12_ahead 2 := ⟨(jw_8_5 6 rfl rfl), (jw_1_0 12 rfl rfl), ⟨lw_n9.1, lw_n9.2, dscr_6⟩, by decide⟩
theorem cv_L_284_X12_ahead : jSv RL 284 mX12_ahead 2 := ⟨(jw_8_5 3 rfl rfl), (jw_8_5 4 rfl rfl), (jw_8_5 5 rfl rfl), sy_X12_ahead⟩
theorem sy_L_trial : jSY mL_trial 4 := ⟨(jw_6_6 2 rfl rfl), (jw_1_0 0 rfl rfl), ⟨lw_n19.1, lw_n19.2, dscr_52⟩, by decide⟩
theorem cs_L_285_L_trial : jSs RL 285 mL_trial 4 := ⟨(jw_6_6 0 rfl rfl), (jw_6_6 1 rfl rfl), sy_L_trial⟩
theorem sy_X12_trial : jSY mX12_trial 2 := ⟨(jw_9_3 3 rfl rfl), (jw_1_0 12 rfl rfl), ⟨lw_n9.1, lw_n9.2, dscr_25⟩, by decide⟩
theorem cv_L_287_X12_trial : jSv RL 287 mX12_trial 2 := ⟨(jw_9_3 0 rfl rfl), (jw_9_3 1 rfl rfl), (jw_9_3 2 rfl rfl), sy_X12_trial⟩
theorem sy_L_span : jSY mL_span 4 := ⟨(jw_6_6 14 rfl rfl), (jw_1_0 0 rfl rfl), ⟨lw_n19.1, lw_n19.2, dscr_52⟩, by decide⟩
theorem cs_L_288_L_span : jSs RL 288 mL_span 4 := ⟨(jw_6_6 12 rfl rfl), (jw_6_6 13 rfl rfl), sy_L_span⟩
theorem sy_X12_span : jSY mX12_span 2 := ⟨(jw_9_3 7 rfl rfl), (jw_1_0 12 rfl rfl), ⟨lw_n9.1, lw_n9.2, dscr_25⟩, by decide⟩
theorem cv_L_290_X12_span : jSv RL 290 mX12_span 2 := ⟨(jw_9_3 4 rfl rfl), (jw_9_3 5 rfl rfl), (jw_9_3 6 rfl rfl), sy_X12_span⟩
theorem sy_L_led : jSY mL_led 4 := ⟨(jw_6_7 6 rfl rfl), (jw_1_0 0 rfl rfl), ⟨lw_n19.1, lw_n19.2, dscr_52⟩, by decide⟩
theorem cs_L_291_L_led : jSs RL 291 mL_led 4 := ⟨(jw_6_7 4 rfl rfl), (jw_6_7 5 rfl rfl), sy_L_led⟩
theorem sy_X12_led : jSY mX12_led 2 := ⟨(jw_9_3 11 rfl rfl), (jw_1_0 12 rfl rfl), ⟨lw_n9.1, lw_n9.2, dscr_25⟩, by decide⟩
theorem cv_L_293_X12_led : jSv RL 293 mX12_led 2 := ⟨(jw_9_3 8 rfl rfl), (jw_9_3 9 rfl rfl), (jw_9_3 10 rfl rfl), sy_X12_led⟩
theorem sy_L_log : jSY mL_log 4 := ⟨(jw_6_8 14 rfl rfl), (jw_1_0 0 rfl rfl), ⟨lw_n19.1, lw_n19.2, dscr_49⟩, by decide⟩
theorem cs_L_294_L_log : jSs RL 294 mL_log 4 := ⟨(jw_6_8 12 rfl rfl), (jw_6_8 13 rfl rfl), sy_L_log⟩
theorem sy_X12_log : jSY mX12_log 2 := ⟨(jw_9_4 3 rfl rfl), (jw_1_0 12 rfl rfl), ⟨lw_n9.1, lw_n9.2, dscr_6⟩, by decide⟩
theorem cv_L_296_X12_log : jSv RL 296 mX12_log 2 := ⟨(jw_9_4 0 rfl rfl), (jw_9_4 1 rfl rfl), (jw_9_4 2 rfl rfl), sy_X12_log⟩
theorem sy_X11_seed : jSY mX11_seed 1 := ⟨(jw_3_10 3 rfl rfl), (jw_1_0 1 rfl rfl), ⟨lw_n8.1, lw_n8.2, dscr_19⟩, by decide⟩
theorem cv_L_297_X11_seed : jSv RL 297 mX11_seed 1 := ⟨(jw_3_10 0 rfl rfl), (jw_3_10 1 rfl rfl), (jw_3_10 2 rfl rfl), sy_X11_seed⟩
theorem sy_X12_seed : jSY mX12_seed 1 := ⟨(jw_9_4 7 rfl rfl), (jw_1_0 12 rfl rfl), ⟨lw_n9.1, lw_n9.2, dscr_19⟩, by decide⟩
theorem cv_L_300_X12_seed : jSv RL 300 mX12_seed 1 := ⟨(jw_9_4 4 rfl rfl), (jw_9_4 5 rfl rfl), (jw_9_4 6 rfl rfl), sy_X12_seed⟩
theorem sy_X11_undo : jSY mX11_undo 0 := ⟨(jw_3_10 7 rfl rfl), (jw_1_0 1 rfl rfl), ⟨lw_n8.1, lw_n8.2, dscr_17⟩, by decide⟩
theorem cv_L_301_X11_undo : jSv RL 301 mX11_undo 0 := ⟨(jw_3_10 4 rfl rfl), (jw_3_10 5 rfl rfl), (jw_3_10 6 rfl rfl), sy_X11_undo⟩
theorem sy_X12_undo : jSY mX12_undo 0 := ⟨(jw_6_14 14 rfl rfl), (jw_1_0 12 rfl rfl), ⟨lw_n9.1, lw_n9.2, dscr_17⟩, by decide⟩
theorem cv_L_305_X12_undo : jSv RL 305 mX12_undo 0 := ⟨(jw_6_14 11 rfl rfl), (jw_6_14 12 rfl rfl), (jw_6_14 13 rfl rfl), sy_X12_undo⟩
theorem sy_X11_image : jSY mX11_image 0 := ⟨(jw_3_11 0 rfl rfl), (jw_1_0 1 rfl rfl), ⟨lw_n8.1, lw_n8.2, dscr_0⟩, by decide⟩
theorem cv_L_306_X11_image : jSv RL 306 mX11_image 0 := ⟨(jw_3_10 13 rfl rfl), (jw_3_10 14 rfl rfl), (jw_3_10 15 rfl rfl), sy_X11_image⟩
theorem sy_X12_image : jSY mX12_image 0 := ⟨(jw_6_14 6 rfl rfl), (jw_1_0 12 rfl rfl), ⟨lw_n9.1, lw_n9.2, dscr_0⟩, by decide⟩
theorem cv_L_309_X12_image : jSv RL 309 mX12_image 0 := ⟨(jw_6_14 3 rfl rfl), (jw_6_14 4 rfl rfl), (jw_6_14 5 rfl rfl), sy_X12_image⟩
theorem sy_X11_back : jSY mX11_back 0 := ⟨(jw_3_11 10 rfl rfl), (jw_1_0 1 rfl rfl), ⟨lw_n8.1, lw_n8.2, dscr_17⟩, by decide⟩
theorem cv_L_310_X11_back : jSv RL 310 mX11_back 0 := ⟨(jw_3_11 7 rfl rfl), (jw_3_11 8 rfl rfl), (jw_3_11 9 rfl rfl), sy_X11_back⟩
theorem sy_X12_back : jSY mX12_back 0 := ⟨(jw_6_14 10 rfl rfl), (jw_1_0 12 rfl rfl), ⟨lw_n9.1, lw_n9.2, dscr_17⟩, by decide⟩
theorem cv_L_313_X12_back : jSv RL 313 mX12_back 0 := ⟨(jw_6_14 7 rfl rfl), (jw_6_14 8 rfl rfl), (jw_6_14 9 rfl rfl), sy_X12_back⟩
theorem sy_X11_count : jSY mX11_count 1 := ⟨(jw_3_12 2 rfl rfl), (jw_1_0 1 rfl rfl), ⟨lw_n8.1, lw_n8.2, dscr_19⟩, by decide⟩
theorem cv_L_314_X11_count : jSv RL 314 mX11_count 1 := ⟨(jw_3_11 15 rfl rfl), (jw_3_12 0 rfl rfl), (jw_3_12 1 rfl rfl), sy_X11_count⟩
theorem sy_X12_count : jSY mX12_count 1 := ⟨(jw_9_4 11 rfl rfl), (jw_1_0 12 rfl rfl), ⟨lw_n9.1, lw_n9.2, dscr_19⟩, by decide⟩
theorem cv_L_317_X12_count : jSv RL 317 mX12_count 1 := ⟨(jw_9_4 8 rfl rfl), (jw_9_4 9 rfl rfl), (jw_9_4 10 rfl rfl), sy_X12_count⟩
theorem fn_L_8 : jFn RL 8 9 13 [.null, .null, .null, .null, .null, .null, .null, .null, .null, .null, .null, .null, .int 0] := ⟨RX11, TX11, tyX11, rfl, wsX110_tb, tyX11_ok, (jw_1_1 13 rfl rfl), (jw_1_1 14 rfl rfl), (jw_1_0 1 rfl rfl), by decide⟩
theorem fn_L_112 : jFn RL 112 10 22 [.int 0, .null, .null, .null, .null, .null, .int 0, .int 0, .null, .int 0, .int 0, .int 0, .int 0, .int 0, .int 0, .null, .int 0, .null, .int 0, .null, .null, .null] := ⟨RX12, TX12, tyX12, rfl, wsX120_tb, tyX12_ok, (jw_6_9 9 rfl rfl), (jw_6_9 10 rfl rfl), (jw_1_0 12 rfl rfl), by decide⟩
theorem sy_X11_init : jSY mX11_init 0 := ⟨(jw_1_2 1 rfl rfl), (jw_1_0 1 rfl rfl), ⟨lw_n8.1, lw_n8.2, dscr_0⟩, by decide⟩
theorem ci_L_111_X11_init : jSi RL 111 mX11_init 0 := ⟨(jw_1_1 15 rfl rfl), (jw_1_2 0 rfl rfl), rfl, sy_X11_init⟩
theorem sy_X12_init : jSY mX12_init 0 := ⟨(jw_6_9 13 rfl rfl), (jw_1_0 12 rfl rfl), ⟨lw_n9.1, lw_n9.2, dscr_0⟩, by decide⟩
theorem ci_L_114_X12_init : jSi RL 114 mX12_init 0 := ⟨(jw_6_9 11 rfl rfl), (jw_6_9 12 rfl rfl), rfl, sy_X12_init⟩
theorem ac_long : Cond.arrayClass .long ∈ jall := (jw_9_4 12 rfl rfl)
end
section
/-! two longs that are one -/
theorem jr_lcmp0 {G : jG} {l : Launch} {M : jM} {dep : Nat} {X : jX} {h : jH} {kc ks pc : Nat} {L : List (Option Value)} {st : List Value} (K : jOK G l M dep X) {x y : Int64} (hd : decode M.2.1 pc = .ok (.lcmp, 1)) (hxy : x = y) (k : jJ G X h kc ks (pc + 1) L (.int (0 : Int32) :: st)) : jJ G X h kc ks pc L (.long y :: .long x :: st) := by
  subst hxy
  obtain ⟨p, l9, e, R, s, m, args, below, meth, c, mc, ms, Q⟩ := X
  obtain ⟨hx, hb, hml, hr, hown, hts, hlk, hin, hE, hbs, hd1, hd2, hd3, hd4, rfl, hxt⟩ := K
  intro H locs cells slots ls hR hS hc1 hc2 hc hl
  have kk := k H locs cells slots ls hR hS hc1 hc2 hc hl
  intro T hT X2
  obtain ⟨t, a, b⟩ := kk T hT X2
  refine ⟨t, ?_, b⟩
  jvm_step X2.here [X2.here.top, hx, hb, hd]
  exact a
end
section
def jPL (res : Int32 × jH) : jR → jH → Prop := fun r h1 => r = .inl res.1 ∧ ∃ z, res.2.1 ≤ z ∧ h1 = (z, res.2.2)
noncomputable def FL_pole (n : Nat) (a0 : Nat) (a1 : Nat) (h : jH) : Option (Int32 × jH) :=
  (jcv 9 h a0 (F_X11_pole n a0 h)).bind fun q => match q.1 with
  | .inl v => (jasl q.2 a1 0 v.toInt64).bind fun h2 => some ((0 : Int32), h2)
  | .inr k => if k = 0 then some ((1 : Int32), q.2) else if k = 3 then some ((2 : Int32), q.2) else none
set_option maxHeartbeats 400000 in
theorem CL_pole {G : jG} {l : Launch} (hst : l.stackTraces = false) (d : Nat) {n : Nat} {a0 : Nat} {a1 : Nat} {h : jH} {res : Int32 × jH} (hf : FL_pole n a0 a1 h = some res) : jC G l mL_pole (d + 12) 1 6 [.ref a0, .ref a1] h (jPL res) :=
  jC.of (by decide +kernel) (jcats rfl) (Nat.le_of_ble_eq_true rfl) (fun X K E => by
  unfold FL_pole at hf
  obtain ⟨q, e, hf⟩ := jbind hf
  obtain ⟨rc, e⟩ := jcv_o e
  show jJ G X h 1 6 0 [some (.ref a0), some (.ref a1), none] []
  refine jr_aload_n K (D_at DL_pole_q0 0 rfl) rfl rfl ?_
  refine jr_iconst K (D_at DL_pole_q0 1 rfl) (v := (0 : Int32)) (by decide) ?_
  refine jr_aload_n K (D_at DL_pole_q0 2 rfl) rfl rfl ?_
  refine jr_callVx K (C_X11_pole hst (d) e) (D_at DL_pole_q0 3 rfl) cv_L_7_X11_pole (As := []) (ci := 9) rfl rc rfl rfl (by exact Nat.le_of_ble_eq_true rfl) (kc2 := 0) (ks2 := 0) rfl rfl (fun k9 z9 h9 w9 hz9 => ?_) (fun r9 h9 w9 => ?_)
  · obtain ⟨w1, w2⟩ := w9
    subst h9
    rw [← w1] at hf
    dsimp only at hf
    by_cases c0 : k9 = 0
    · subst c0
      replace hf := (if_pos rfl).symm.trans hf
      cases hf
      refine jr_catch K (E := "java/lang/IllegalArgumentException") (nm := "java/lang/IllegalArgumentException") [] ⟨0, 8, 11, 13⟩ [⟨0, 8, 14, 15⟩] rfl (fun z hz => by cases hz) rfl (by decide) (jw_3_12 6 rfl rfl) (jn_4_8 13 rfl rfl) rfl (fun q9 => ?_)
      refine jr_astore_n K (D_at DL_pole_q0 7 rfl) (i := 2) rfl (by decide) (L2 := [_, _, _]) rfl ?_
      refine jr_iconst K (D_at DL_pole_q0 8 rfl) (v := (1 : Int32)) (by decide) ?_
      exact jr_iret K E (D_at DL_pole_q0 9 rfl) rfl ⟨rfl, z9, hz9, rfl⟩
    replace hf := (if_neg c0).symm.trans hf
    by_cases c1 : k9 = 3
    · subst c1
      replace hf := (if_pos rfl).symm.trans hf
      cases hf
      refine jr_catch K (E := "java/lang/UnsupportedOperationException") (nm := "java/lang/UnsupportedOperationException") [⟨0, 8, 11, 13⟩] ⟨0, 8, 14, 15⟩ [] rfl (fun z hz => Or.inr (by
      simp only [List.mem_cons, List.not_mem_nil, or_false] at hz
      rcases hz with rfl
      · exact ⟨by decide, "java/lang/IllegalArgumentException", (jw_3_12 6 rfl rfl), by decide⟩)) rfl (by decide) (jw_3_12 7 rfl rfl) (jn_4_13 2 rfl rfl) rfl (fun q9 => ?_)
      refine jr_astore_n K (D_at DL_pole_q0 10 rfl) (i := 2) rfl (by decide) (L2 := [_, _, _]) rfl ?_
      refine jr_iconst K (D_at DL_pole_q0 11 rfl) (v := (2 : Int32)) (by decide) ?_
      exact jr_iret K E (D_at DL_pole_q1 0 rfl) rfl ⟨rfl, z9, hz9, rfl⟩
    replace hf := (if_neg c1).symm.trans hf
    exact jno hf
  obtain ⟨w1, w2⟩ := w9
  subst h9
  rw [← w1] at hf
  dsimp only at hf
  obtain ⟨h2, e2, hf⟩ := jbind hf
  cases hf
  show jJ G X _ 0 0 _ _ (.int r9 :: _)
  refine jr_i2l K (D_at DL_pole_q0 4 rfl) (v := r9.toInt64) rfl ?_
  refine jr_last K (D_at DL_pole_q0 5 rfl) e2 ?_
  refine jr_goto K (D_at DL_pole_q0 6 rfl) (tgt := 17) (by decide) ?_
  refine jr_iconst K (D_at DL_pole_q1 1 rfl) (v := (0 : Int32)) (by decide) ?_
  exact jr_iret K E (D_at DL_pole_q1 2 rfl) rfl ⟨rfl, h2.1, Nat.le_refl _, rfl⟩)
noncomputable def FL_law (n : Nat) (a0 : Nat) (a1 : Nat) (h : jH) : Option (Int32 × jH) :=
  (jcv 9 h a0 (F_X11_law n a0 h)).bind fun q => match q.1 with
  | .inl v => (jasl q.2 a1 0 v.toInt64).bind fun h2 => some ((0 : Int32), h2)
  | .inr k => if k = 0 then some ((1 : Int32), q.2) else none
set_option maxHeartbeats 400000 in
theorem CL_law {G : jG} {l : Launch} (hst : l.stackTraces = false) (d : Nat) {n : Nat} {a0 : Nat} {a1 : Nat} {h : jH} {res : Int32 × jH} (hf : FL_law n a0 a1 h = some res) : jC G l mL_law (d + 27) 1 6 [.ref a0, .ref a1] h (jPL res) :=
  jC.of (by decide +kernel) (jcats rfl) (Nat.le_of_ble_eq_true rfl) (fun X K E => by
  unfold FL_law at hf
  obtain ⟨q, e, hf⟩ := jbind hf
  obtain ⟨rc, e⟩ := jcv_o e
  show jJ G X h 1 6 0 [some (.ref a0), some (.ref a1), none] []
  refine jr_aload_n K (D_at DL_law_q0 0 rfl) rfl rfl ?_
  refine jr_iconst K (D_at DL_law_q0 1 rfl) (v := (0 : Int32)) (by decide) ?_
  refine jr_aload_n K (D_at DL_law_q0 2 rfl) rfl rfl ?_
  refine jr_callVx K (C_X11_law hst (d) e) (D_at DL_law_q0 3 rfl) cv_L_17_X11_law (As := []) (ci := 9) rfl rc rfl rfl (by exact Nat.le_of_ble_eq_true rfl) (kc2 := 0) (ks2 := 0) rfl rfl (fun k9 z9 h9 w9 hz9 => ?_) (fun r9 h9 w9 => ?_)
  · obtain ⟨w1, w2⟩ := w9
    subst h9
    rw [← w1] at hf
    dsimp only at hf
    by_cases c0 : k9 = 0
    · subst c0
      replace hf := (if_pos rfl).symm.trans hf
      cases hf
      refine jr_catch K (E := "java/lang/IllegalArgumentException") (nm := "java/lang/IllegalArgumentException") [] ⟨0, 8, 11, 13⟩ [] rfl (fun z hz => by cases hz) rfl (by decide) (jw_3_12 6 rfl rfl) (jn_4_8 13 rfl rfl) rfl (fun q9 => ?_)
      refine jr_astore_n K (D_at DL_law_q0 7 rfl) (i := 2) rfl (by decide) (L2 := [_, _, _]) rfl ?_
      refine jr_iconst K (D_at DL_law_q0 8 rfl) (v := (1 : Int32)) (by decide) ?_
      exact jr_iret K E (D_at DL_law_q0 9 rfl) rfl ⟨rfl, z9, hz9, rfl⟩
    replace hf := (if_neg c0).symm.trans hf
    exact jno hf
  obtain ⟨w1, w2⟩ := w9
  subst h9
  rw [← w1] at hf
  dsimp only at hf
  obtain ⟨h2, e2, hf⟩ := jbind hf
  cases hf
  show jJ G X _ 0 0 _ _ (.int r9 :: _)
  refine jr_i2l K (D_at DL_law_q0 4 rfl) (v := r9.toInt64) rfl ?_
  refine jr_last K (D_at DL_law_q0 5 rfl) e2 ?_
  refine jr_goto K (D_at DL_law_q0 6 rfl) (tgt := 14) (by decide) ?_
  refine jr_iconst K (D_at DL_law_q0 10 rfl) (v := (0 : Int32)) (by decide) ?_
  exact jr_iret K E (D_at DL_law_q0 11 rfl) rfl ⟨rfl, h2.1, Nat.le_refl _, rfl⟩)
noncomputable def FL_ring (n : Nat) (a0 : Nat) (x1 : Int32) (x2 : Int32) (a3 : Nat) (h : jH) : Option (Int32 × jH) :=
  (jcv 9 h a0 (F_X11_ring n a0 x1 x2 h)).bind fun q => match q.1 with
  | .inl v => (jasl q.2 a3 0 v.toInt64).bind fun h2 => some ((0 : Int32), h2)
  | .inr k => if k = 2 then some ((1 : Int32), q.2) else if k = 4 then some ((2 : Int32), q.2) else none
set_option maxHeartbeats 400000 in
theorem CL_ring {G : jG} {l : Launch} (hst : l.stackTraces = false) (d : Nat) {n : Nat} {a0 : Nat} {x1 : Int32} {x2 : Int32} {a3 : Nat} {h : jH} {res : Int32 × jH} (hf : FL_ring n a0 x1 x2 a3 h = some res) : jC G l mL_ring (d + 8) 2 12 [.ref a0, .int x1, .int x2, .ref a3] h (jPL res) :=
  jC.of (by decide +kernel) (jcats rfl) (Nat.le_of_ble_eq_true rfl) (fun X K E => by
  unfold FL_ring at hf
  obtain ⟨q, e, hf⟩ := jbind hf
  obtain ⟨rc, e⟩ := jcv_o e
  show jJ G X h 2 12 0 [some (.ref a0), some (.int x1), some (.int x2), some (.ref a3), none] []
  refine jr_aload_n K (D_at DL_ring_q0 0 rfl) rfl rfl ?_
  refine jr_iconst K (D_at DL_ring_q0 1 rfl) (v := (0 : Int32)) (by decide) ?_
  refine jr_aload_n K (D_at DL_ring_q0 2 rfl) rfl rfl ?_
  refine jr_iload_n K (D_at DL_ring_q0 3 rfl) rfl rfl ?_
  refine jr_iload_n K (D_at DL_ring_q0 4 rfl) rfl rfl ?_
  refine jr_callVx K (C_X11_ring hst (d) e) (D_at DL_ring_q0 5 rfl) cv_L_20_X11_ring (As := [.int x1, .int x2]) (ci := 9) rfl rc rfl rfl (by exact Nat.le_of_ble_eq_true rfl) (kc2 := 0) (ks2 := 0) rfl rfl (fun k9 z9 h9 w9 hz9 => ?_) (fun r9 h9 w9 => ?_)
  · obtain ⟨w1, w2⟩ := w9
    subst h9
    rw [← w1] at hf
    dsimp only at hf
    by_cases c0 : k9 = 2
    · subst c0
      replace hf := (if_pos rfl).symm.trans hf
      cases hf
      refine jr_catch K (E := "java/lang/IndexOutOfBoundsException") (nm := "java/lang/IndexOutOfBoundsException") [] ⟨0, 10, 13, 24⟩ [⟨0, 10, 17, 26⟩] rfl (fun z hz => by cases hz) rfl (by decide) (jw_5_0 1 rfl rfl) (jn_5_0 13 rfl rfl) rfl (fun q9 => ?_)
      refine jr_astore K (D_at DL_ring_q0 9 rfl) (i := 4) (by decide) (L2 := [_, _, _, _, _]) rfl ?_
      refine jr_iconst K (D_at DL_ring_q0 10 rfl) (v := (1 : Int32)) (by decide) ?_
      exact jr_iret K E (D_at DL_ring_q0 11 rfl) rfl ⟨rfl, z9, hz9, rfl⟩
    replace hf := (if_neg c0).symm.trans hf
    by_cases c1 : k9 = 4
    · subst c1
      replace hf := (if_pos rfl).symm.trans hf
      cases hf
      refine jr_catch K (E := "java/util/NoSuchElementException") (nm := "java/util/NoSuchElementException") [⟨0, 10, 13, 24⟩] ⟨0, 10, 17, 26⟩ [] rfl (fun z hz => Or.inr (by
      simp only [List.mem_cons, List.not_mem_nil, or_false] at hz
      rcases hz with rfl
      · exact ⟨by decide, "java/lang/IndexOutOfBoundsException", (jw_5_0 1 rfl rfl), by decide⟩)) rfl (by decide) (jw_5_0 2 rfl rfl) (jn_5_2 10 rfl rfl) rfl (fun q9 => ?_)
      refine jr_astore K (D_at DL_ring_q1 0 rfl) (i := 4) (by decide) (L2 := [_, _, _, _, _]) rfl ?_
      refine jr_iconst K (D_at DL_ring_q1 1 rfl) (v := (2 : Int32)) (by decide) ?_
      exact jr_iret K E (D_at DL_ring_q1 2 rfl) rfl ⟨rfl, z9, hz9, rfl⟩
    replace hf := (if_neg c1).symm.trans hf
    exact jno hf
  obtain ⟨w1, w2⟩ := w9
  subst h9
  rw [← w1] at hf
  dsimp only at hf
  obtain ⟨h2, e2, hf⟩ := jbind hf
  cases hf
  show jJ G X _ 0 0 _ _ (.int r9 :: _)
  refine jr_i2l K (D_at DL_ring_q0 6 rfl) (v := r9.toInt64) rfl ?_
  refine jr_last K (D_at DL_ring_q0 7 rfl) e2 ?_
  refine jr_goto K (D_at DL_ring_q0 8 rfl) (tgt := 21) (by decide) ?_
  refine jr_iconst K (D_at DL_ring_q1 3 rfl) (v := (0 : Int32)) (by decide) ?_
  exact jr_iret K E (D_at DL_ring_q1 4 rfl) rfl ⟨rfl, h2.1, Nat.le_refl _, rfl⟩)
noncomputable def FL_pull (n : Nat) (a0 : Nat) (x1 : Int32) (x2 : Int32) (x3 : Int32) (a4 : Nat) (h : jH) : Option (Int32 × jH) :=
  (jcv 9 h a0 (F_X11_pull n a0 x1 x2 x3 h)).bind fun q => match q.1 with
  | .inl v => (jasl q.2 a4 0 v.toInt64).bind fun h2 => some ((0 : Int32), h2)
  | .inr k => if k = 2 then some ((1 : Int32), q.2) else if k = 0 then some ((2 : Int32), q.2) else none
set_option maxHeartbeats 400000 in
theorem CL_pull {G : jG} {l : Launch} (hst : l.stackTraces = false) (d : Nat) {n : Nat} {a0 : Nat} {x1 : Int32} {x2 : Int32} {x3 : Int32} {a4 : Nat} {h : jH} {res : Int32 × jH} (hf : FL_pull n a0 x1 x2 x3 a4 h = some res) : jC G l mL_pull (d + 8) 9 125 [.ref a0, .int x1, .int x2, .int x3, .ref a4] h (jPL res) :=
  jC.of (by decide +kernel) (jcats rfl) (Nat.le_of_ble_eq_true rfl) (fun X K E => by
  unfold FL_pull at hf
  obtain ⟨q, e, hf⟩ := jbind hf
  obtain ⟨rc, e⟩ := jcv_o e
  show jJ G X h 9 125 0 [some (.ref a0), some (.int x1), some (.int x2), some (.int x3), some (.ref a4), none] []
  refine jr_aload K (D_at DL_pull_q0 0 rfl) rfl ?_
  refine jr_iconst K (D_at DL_pull_q0 1 rfl) (v := (0 : Int32)) (by decide) ?_
  refine jr_aload_n K (D_at DL_pull_q0 2 rfl) rfl rfl ?_
  refine jr_iload_n K (D_at DL_pull_q0 3 rfl) rfl rfl ?_
  refine jr_iload_n K (D_at DL_pull_q0 4 rfl) rfl rfl ?_
  refine jr_iload_n K (D_at DL_pull_q0 5 rfl) rfl rfl ?_
  refine jr_callVx K (C_X11_pull hst (d) e) (D_at DL_pull_q0 6 rfl) cv_L_28_X11_pull (As := [.int x1, .int x2, .int x3]) (ci := 9) rfl rc rfl rfl (by exact Nat.le_of_ble_eq_true rfl) (kc2 := 0) (ks2 := 0) rfl rfl (fun k9 z9 h9 w9 hz9 => ?_) (fun r9 h9 w9 => ?_)
  · obtain ⟨w1, w2⟩ := w9
    subst h9
    rw [← w1] at hf
    dsimp only at hf
    by_cases c0 : k9 = 2
    · subst c0
      replace hf := (if_pos rfl).symm.trans hf
      cases hf
      refine jr_catch K (E := "java/lang/IndexOutOfBoundsException") (nm := "java/lang/IndexOutOfBoundsException") [] ⟨0, 12, 15, 24⟩ [⟨0, 12, 19, 13⟩] rfl (fun z hz => by cases hz) rfl (by decide) (jw_5_0 1 rfl rfl) (jn_5_0 13 rfl rfl) rfl (fun q9 => ?_)
      refine jr_astore K (D_at DL_pull_q0 10 rfl) (i := 5) (by decide) (L2 := [_, _, _, _, _, _]) rfl ?_
      refine jr_iconst K (D_at DL_pull_q0 11 rfl) (v := (1 : Int32)) (by decide) ?_
      exact jr_iret K E (D_at DL_pull_q1 0 rfl) rfl ⟨rfl, z9, hz9, rfl⟩
    replace hf := (if_neg c0).symm.trans hf
    by_cases c1 : k9 = 0
    · subst c1
      replace hf := (if_pos rfl).symm.trans hf
      cases hf
      refine jr_catch K (E := "java/lang/IllegalArgumentException") (nm := "java/lang/IllegalArgumentException") [⟨0, 12, 15, 24⟩] ⟨0, 12, 19, 13⟩ [] rfl (fun z hz => Or.inr (by
      simp only [List.mem_cons, List.not_mem_nil, or_false] at hz
      rcases hz with rfl
      · exact ⟨by decide, "java/lang/IndexOutOfBoundsException", (jw_5_0 1 rfl rfl), by decide⟩)) rfl (by decide) (jw_3_12 6 rfl rfl) (jn_4_8 13 rfl rfl) rfl (fun q9 => ?_)
      refine jr_astore K (D_at DL_pull_q1 1 rfl) (i := 5) (by decide) (L2 := [_, _, _, _, _, _]) rfl ?_
      refine jr_iconst K (D_at DL_pull_q1 2 rfl) (v := (2 : Int32)) (by decide) ?_
      exact jr_iret K E (D_at DL_pull_q1 3 rfl) rfl ⟨rfl, z9, hz9, rfl⟩
    replace hf := (if_neg c1).symm.trans hf
    exact jno hf
  obtain ⟨w1, w2⟩ := w9
  subst h9
  rw [← w1] at hf
  dsimp only at hf
  obtain ⟨h2, e2, hf⟩ := jbind hf
  cases hf
  show jJ G X _ 0 0 _ _ (.int r9 :: _)
  refine jr_i2l K (D_at DL_pull_q0 7 rfl) (v := r9.toInt64) rfl ?_
  refine jr_last K (D_at DL_pull_q0 8 rfl) e2 ?_
  refine jr_goto K (D_at DL_pull_q0 9 rfl) (tgt := 23) (by decide) ?_
  refine jr_iconst K (D_at DL_pull_q1 4 rfl) (v := (0 : Int32)) (by decide) ?_
  exact jr_iret K E (D_at DL_pull_q1 5 rfl) rfl ⟨rfl, h2.1, Nat.le_refl _, rfl⟩)
noncomputable def FL_free (n : Nat) (a0 : Nat) (x1 : Int32) (a2 : Nat) (h : jH) : Option (Int32 × jH) :=
  (jcv 9 h a0 (F_X11_free n a0 x1 h)).bind fun q => match q.1 with
  | .inl v => (jasl q.2 a2 0 v.toInt64).bind fun h2 => some ((0 : Int32), h2)
  | .inr k => if k = 2 then some ((1 : Int32), q.2) else if k = 1 then some ((2 : Int32), q.2) else none
set_option maxHeartbeats 400000 in
theorem CL_free {G : jG} {l : Launch} (hst : l.stackTraces = false) (d : Nat) {n : Nat} {a0 : Nat} {x1 : Int32} {a2 : Nat} {h : jH} {res : Int32 × jH} (hf : FL_free n a0 x1 a2 h = some res) : jC G l mL_free (d + 8) 8 119 [.ref a0, .int x1, .ref a2] h (jPL res) :=
  jC.of (by decide +kernel) (jcats rfl) (Nat.le_of_ble_eq_true rfl) (fun X K E => by
  unfold FL_free at hf
  obtain ⟨q, e, hf⟩ := jbind hf
  obtain ⟨rc, e⟩ := jcv_o e
  show jJ G X h 8 119 0 [some (.ref a0), some (.int x1), some (.ref a2), none] []
  refine jr_aload_n K (D_at DL_free_q0 0 rfl) rfl rfl ?_
  refine jr_iconst K (D_at DL_free_q0 1 rfl) (v := (0 : Int32)) (by decide) ?_
  refine jr_aload_n K (D_at DL_free_q0 2 rfl) rfl rfl ?_
  refine jr_iload_n K (D_at DL_free_q0 3 rfl) rfl rfl ?_
  refine jr_callVx K (C_X11_free hst (d) e) (D_at DL_free_q0 4 rfl) cv_L_32_X11_free (As := [.int x1]) (ci := 9) rfl rc rfl rfl (by exact Nat.le_of_ble_eq_true rfl) (kc2 := 0) (ks2 := 0) rfl rfl (fun k9 z9 h9 w9 hz9 => ?_) (fun r9 h9 w9 => ?_)
  · obtain ⟨w1, w2⟩ := w9
    subst h9
    rw [← w1] at hf
    dsimp only at hf
    by_cases c0 : k9 = 2
    · subst c0
      replace hf := (if_pos rfl).symm.trans hf
      cases hf
      refine jr_catch K (E := "java/lang/IndexOutOfBoundsException") (nm := "java/lang/IndexOutOfBoundsException") [] ⟨0, 9, 12, 24⟩ [⟨0, 9, 15, 36⟩] rfl (fun z hz => by cases hz) rfl (by decide) (jw_5_0 1 rfl rfl) (jn_5_0 13 rfl rfl) rfl (fun q9 => ?_)
      refine jr_astore_n K (D_at DL_free_q0 8 rfl) (i := 3) rfl (by decide) (L2 := [_, _, _, _]) rfl ?_
      refine jr_iconst K (D_at DL_free_q0 9 rfl) (v := (1 : Int32)) (by decide) ?_
      exact jr_iret K E (D_at DL_free_q0 10 rfl) rfl ⟨rfl, z9, hz9, rfl⟩
    replace hf := (if_neg c0).symm.trans hf
    by_cases c1 : k9 = 1
    · subst c1
      replace hf := (if_pos rfl).symm.trans hf
      cases hf
      refine jr_catch K (E := "java/lang/IllegalStateException") (nm := "java/lang/IllegalStateException") [⟨0, 9, 12, 24⟩] ⟨0, 9, 15, 36⟩ [] rfl (fun z hz => Or.inr (by
      simp only [List.mem_cons, List.not_mem_nil, or_false] at hz
      rcases hz with rfl
      · exact ⟨by decide, "java/lang/IndexOutOfBoundsException", (jw_5_0 1 rfl rfl), by decide⟩)) rfl (by decide) (jw_5_5 5 rfl rfl) (jn_5_5 12 rfl rfl) rfl (fun q9 => ?_)
      refine jr_astore_n K (D_at DL_free_q0 11 rfl) (i := 3) rfl (by decide) (L2 := [_, _, _, _]) rfl ?_
      refine jr_iconst K (D_at DL_free_q1 0 rfl) (v := (2 : Int32)) (by decide) ?_
      exact jr_iret K E (D_at DL_free_q1 1 rfl) rfl ⟨rfl, z9, hz9, rfl⟩
    replace hf := (if_neg c1).symm.trans hf
    exact jno hf
  obtain ⟨w1, w2⟩ := w9
  subst h9
  rw [← w1] at hf
  dsimp only at hf
  obtain ⟨h2, e2, hf⟩ := jbind hf
  cases hf
  show jJ G X _ 0 0 _ _ (.int r9 :: _)
  refine jr_i2l K (D_at DL_free_q0 5 rfl) (v := r9.toInt64) rfl ?_
  refine jr_last K (D_at DL_free_q0 6 rfl) e2 ?_
  refine jr_goto K (D_at DL_free_q0 7 rfl) (tgt := 18) (by decide) ?_
  refine jr_iconst K (D_at DL_free_q1 2 rfl) (v := (0 : Int32)) (by decide) ?_
  exact jr_iret K E (D_at DL_free_q1 3 rfl) rfl ⟨rfl, h2.1, Nat.le_refl _, rfl⟩)
noncomputable def FL_snag (n : Nat) (a0 : Nat) (x1 : Int32) (a2 : Nat) (h : jH) : Option (Int32 × jH) :=
  (jcv 9 h a0 (F_X11_snag n a0 x1 h)).bind fun q => match q.1 with
  | .inl v => (jasl q.2 a2 0 v.toInt64).bind fun h2 => some ((0 : Int32), h2)
  | .inr k => if k = 2 then some ((1 : Int32), q.2) else if k = 1 then some ((2 : Int32), q.2) else none
set_option maxHeartbeats 400000 in
theorem CL_snag {G : jG} {l : Launch} (hst : l.stackTraces = false) (d : Nat) {n : Nat} {a0 : Nat} {x1 : Int32} {a2 : Nat} {h : jH} {res : Int32 × jH} (hf : FL_snag n a0 x1 a2 h = some res) : jC G l mL_snag (d + 8) 8 119 [.ref a0, .int x1, .ref a2] h (jPL res) :=
  jC.of (by decide +kernel) (jcats rfl) (Nat.le_of_ble_eq_true rfl) (fun X K E => by
  unfold FL_snag at hf
  obtain ⟨q, e, hf⟩ := jbind hf
  obtain ⟨rc, e⟩ := jcv_o e
  show jJ G X h 8 119 0 [some (.ref a0), some (.int x1), some (.ref a2), none] []
  refine jr_aload_n K (D_at DL_snag_q0 0 rfl) rfl rfl ?_
  refine jr_iconst K (D_at DL_snag_q0 1 rfl) (v := (0 : Int32)) (by decide) ?_
  refine jr_aload_n K (D_at DL_snag_q0 2 rfl) rfl rfl ?_
  refine jr_iload_n K (D_at DL_snag_q0 3 rfl) rfl rfl ?_
  refine jr_callVx K (C_X11_snag hst (d) e) (D_at DL_snag_q0 4 rfl) cv_L_38_X11_snag (As := [.int x1]) (ci := 9) rfl rc rfl rfl (by exact Nat.le_of_ble_eq_true rfl) (kc2 := 0) (ks2 := 0) rfl rfl (fun k9 z9 h9 w9 hz9 => ?_) (fun r9 h9 w9 => ?_)
  · obtain ⟨w1, w2⟩ := w9
    subst h9
    rw [← w1] at hf
    dsimp only at hf
    by_cases c0 : k9 = 2
    · subst c0
      replace hf := (if_pos rfl).symm.trans hf
      cases hf
      refine jr_catch K (E := "java/lang/IndexOutOfBoundsException") (nm := "java/lang/IndexOutOfBoundsException") [] ⟨0, 9, 12, 24⟩ [⟨0, 9, 15, 36⟩] rfl (fun z hz => by cases hz) rfl (by decide) (jw_5_0 1 rfl rfl) (jn_5_0 13 rfl rfl) rfl (fun q9 => ?_)
      refine jr_astore_n K (D_at DL_snag_q0 8 rfl) (i := 3) rfl (by decide) (L2 := [_, _, _, _]) rfl ?_
      refine jr_iconst K (D_at DL_snag_q0 9 rfl) (v := (1 : Int32)) (by decide) ?_
      exact jr_iret K E (D_at DL_snag_q0 10 rfl) rfl ⟨rfl, z9, hz9, rfl⟩
    replace hf := (if_neg c0).symm.trans hf
    by_cases c1 : k9 = 1
    · subst c1
      replace hf := (if_pos rfl).symm.trans hf
      cases hf
      refine jr_catch K (E := "java/lang/IllegalStateException") (nm := "java/lang/IllegalStateException") [⟨0, 9, 12, 24⟩] ⟨0, 9, 15, 36⟩ [] rfl (fun z hz => Or.inr (by
      simp only [List.mem_cons, List.not_mem_nil, or_false] at hz
      rcases hz with rfl
      · exact ⟨by decide, "java/lang/IndexOutOfBoundsException", (jw_5_0 1 rfl rfl), by decide⟩)) rfl (by decide) (jw_5_5 5 rfl rfl) (jn_5_5 12 rfl rfl) rfl (fun q9 => ?_)
      refine jr_astore_n K (D_at DL_snag_q0 11 rfl) (i := 3) rfl (by decide) (L2 := [_, _, _, _]) rfl ?_
      refine jr_iconst K (D_at DL_snag_q1 0 rfl) (v := (2 : Int32)) (by decide) ?_
      exact jr_iret K E (D_at DL_snag_q1 1 rfl) rfl ⟨rfl, z9, hz9, rfl⟩
    replace hf := (if_neg c1).symm.trans hf
    exact jno hf
  obtain ⟨w1, w2⟩ := w9
  subst h9
  rw [← w1] at hf
  dsimp only at hf
  obtain ⟨h2, e2, hf⟩ := jbind hf
  cases hf
  show jJ G X _ 0 0 _ _ (.int r9 :: _)
  refine jr_i2l K (D_at DL_snag_q0 5 rfl) (v := r9.toInt64) rfl ?_
  refine jr_last K (D_at DL_snag_q0 6 rfl) e2 ?_
  refine jr_goto K (D_at DL_snag_q0 7 rfl) (tgt := 18) (by decide) ?_
  refine jr_iconst K (D_at DL_snag_q1 2 rfl) (v := (0 : Int32)) (by decide) ?_
  exact jr_iret K E (D_at DL_snag_q1 3 rfl) rfl ⟨rfl, h2.1, Nat.le_refl _, rfl⟩)
noncomputable def FL_hook (n : Nat) (a0 : Nat) (x1 : Int32) (x2 : Int32) (a3 : Nat) (h : jH) : Option (Int32 × jH) :=
  (jcv 9 h a0 (F_X11_hook n a0 x1 x2 h)).bind fun q => match q.1 with
  | .inl v => (jasl q.2 a3 0 (if v = 0 then 0 else 1)).bind fun h2 => some ((0 : Int32), h2)
  | .inr k => if k = 2 then some ((1 : Int32), q.2) else none
set_option maxHeartbeats 400000 in
theorem CL_hook {G : jG} {l : Launch} (hst : l.stackTraces = false) (d : Nat) {n : Nat} {a0 : Nat} {x1 : Int32} {x2 : Int32} {a3 : Nat} {h : jH} {res : Int32 × jH} (hf : FL_hook n a0 x1 x2 a3 h = some res) : jC G l mL_hook (d + 8) 8 119 [.ref a0, .int x1, .int x2, .ref a3] h (jPL res) :=
  jC.of (by decide +kernel) (jcats rfl) (Nat.le_of_ble_eq_true rfl) (fun X K E => by
  unfold FL_hook at hf
  obtain ⟨q, e, hf⟩ := jbind hf
  obtain ⟨rc, e⟩ := jcv_o e
  show jJ G X h 8 119 0 [some (.ref a0), some (.int x1), some (.int x2), some (.ref a3), none] []
  refine jr_aload_n K (D_at DL_hook_q0 0 rfl) rfl rfl ?_
  refine jr_iconst K (D_at DL_hook_q0 1 rfl) (v := (0 : Int32)) (by decide) ?_
  refine jr_aload_n K (D_at DL_hook_q0 2 rfl) rfl rfl ?_
  refine jr_iload_n K (D_at DL_hook_q0 3 rfl) rfl rfl ?_
  refine jr_iload_n K (D_at DL_hook_q0 4 rfl) rfl rfl ?_
  refine jr_callVx K (C_X11_hook hst (d) e) (D_at DL_hook_q0 5 rfl) cv_L_41_X11_hook (As := [.int x1, .int x2]) (ci := 9) rfl rc rfl rfl (by exact Nat.le_of_ble_eq_true rfl) (kc2 := 0) (ks2 := 0) rfl rfl (fun k9 z9 h9 w9 hz9 => ?_) (fun r9 h9 w9 => ?_)
  · obtain ⟨w1, w2⟩ := w9
    subst h9
    rw [← w1] at hf
    dsimp only at hf
    by_cases c0 : k9 = 2
    · subst c0
      replace hf := (if_pos rfl).symm.trans hf
      cases hf
      refine jr_catch K (E := "java/lang/IndexOutOfBoundsException") (nm := "java/lang/IndexOutOfBoundsException") [] ⟨0, 17, 20, 24⟩ [] rfl (fun z hz => by cases hz) rfl (by decide) (jw_5_0 1 rfl rfl) (jn_5_0 13 rfl rfl) rfl (fun q9 => ?_)
      refine jr_astore K (D_at DL_hook_q1 0 rfl) (i := 4) (by decide) (L2 := [_, _, _, _, _]) rfl ?_
      refine jr_iconst K (D_at DL_hook_q1 1 rfl) (v := (1 : Int32)) (by decide) ?_
      exact jr_iret K E (D_at DL_hook_q1 2 rfl) rfl ⟨rfl, z9, hz9, rfl⟩
    replace hf := (if_neg c0).symm.trans hf
    exact jno hf
  obtain ⟨w1, w2⟩ := w9
  subst h9
  rw [← w1] at hf
  dsimp only at hf
  obtain ⟨h2, e2, hf⟩ := jbind hf
  cases hf
  show jJ G X _ 0 0 _ _ (.int r9 :: _)
  by_cases cz : r9 = 0
  · rw [if_pos cz] at e2
    refine jr_if_eq K (D_at DL_hook_q0 6 rfl) (tgt := 15) (by decide) (fun _ => ?_) (fun q => absurd cz q)
    refine jr_lconst K (D_at DL_hook_q0 9 rfl) (v := 0) rfl ?_
    refine jr_last K (D_at DL_hook_q0 10 rfl) e2 ?_
    refine jr_goto K (D_at DL_hook_q0 11 rfl) (tgt := 24) (by decide) ?_
    refine jr_iconst K (D_at DL_hook_q1 3 rfl) (v := (0 : Int32)) (by decide) ?_
    exact jr_iret K E (D_at DL_hook_q1 4 rfl) rfl ⟨rfl, h2.1, Nat.le_refl _, rfl⟩
  · rw [if_neg cz] at e2
    refine jr_if_eq K (D_at DL_hook_q0 6 rfl) (tgt := 15) (by decide) (fun q => absurd q cz) (fun _ => ?_)
    refine jr_lconst K (D_at DL_hook_q0 7 rfl) (v := 1) rfl ?_
    refine jr_goto K (D_at DL_hook_q0 8 rfl) (tgt := 16) (by decide) ?_
    refine jr_last K (D_at DL_hook_q0 10 rfl) e2 ?_
    refine jr_goto K (D_at DL_hook_q0 11 rfl) (tgt := 24) (by decide) ?_
    refine jr_iconst K (D_at DL_hook_q1 3 rfl) (v := (0 : Int32)) (by decide) ?_
    exact jr_iret K E (D_at DL_hook_q1 4 rfl) rfl ⟨rfl, h2.1, Nat.le_refl _, rfl⟩)
noncomputable def FL_sew (n : Nat) (a0 : Nat) (x1 : Int32) (x2 : Int32) (a3 : Nat) (h : jH) : Option (Int32 × jH) :=
  (jcv 9 h a0 (F_X11_sew n a0 x1 x2 h)).bind fun q => match q.1 with
  | .inl v => (jasl q.2 a3 0 v.toInt64).bind fun h2 => some ((0 : Int32), h2)
  | .inr k => if k = 2 then some ((1 : Int32), q.2) else if k = 0 then some ((2 : Int32), q.2) else if k = 1 then some ((3 : Int32), q.2) else none
set_option maxHeartbeats 400000 in
theorem CL_sew {G : jG} {l : Launch} (hst : l.stackTraces = false) (d : Nat) {n : Nat} {a0 : Nat} {x1 : Int32} {x2 : Int32} {a3 : Nat} {h : jH} {res : Int32 × jH} (hf : FL_sew n a0 x1 x2 a3 h = some res) : jC G l mL_sew (d + 8) 9 125 [.ref a0, .int x1, .int x2, .ref a3] h (jPL res) :=
  jC.of (by decide +kernel) (jcats rfl) (Nat.le_of_ble_eq_true rfl) (fun X K E => by
  unfold FL_sew at hf
  obtain ⟨q, e, hf⟩ := jbind hf
  obtain ⟨rc, e⟩ := jcv_o e
  show jJ G X h 9 125 0 [some (.ref a0), some (.int x1), some (.int x2), some (.ref a3), none] []
  refine jr_aload_n K (D_at DL_sew_q0 0 rfl) rfl rfl ?_
  refine jr_iconst K (D_at DL_sew_q0 1 rfl) (v := (0 : Int32)) (by decide) ?_
  refine jr_aload_n K (D_at DL_sew_q0 2 rfl) rfl rfl ?_
  refine jr_iload_n K (D_at DL_sew_q0 3 rfl) rfl rfl ?_
  refine jr_iload_n K (D_at DL_sew_q0 4 rfl) rfl rfl ?_
  refine jr_callVx K (C_X11_sew hst (d) e) (D_at DL_sew_q0 5 rfl) cv_L_45_X11_sew (As := [.int x1, .int x2]) (ci := 9) rfl rc rfl rfl (by exact Nat.le_of_ble_eq_true rfl) (kc2 := 0) (ks2 := 0) rfl rfl (fun k9 z9 h9 w9 hz9 => ?_) (fun r9 h9 w9 => ?_)
  · obtain ⟨w1, w2⟩ := w9
    subst h9
    rw [← w1] at hf
    dsimp only at hf
    by_cases c0 : k9 = 2
    · subst c0
      replace hf := (if_pos rfl).symm.trans hf
      cases hf
      refine jr_catch K (E := "java/lang/IndexOutOfBoundsException") (nm := "java/lang/IndexOutOfBoundsException") [] ⟨0, 10, 13, 24⟩ [⟨0, 10, 17, 13⟩, ⟨0, 10, 21, 36⟩] rfl (fun z hz => by cases hz) rfl (by decide) (jw_5_0 1 rfl rfl) (jn_5_0 13 rfl rfl) rfl (fun q9 => ?_)
      refine jr_astore K (D_at DL_sew_q0 9 rfl) (i := 4) (by decide) (L2 := [_, _, _, _, _]) rfl ?_
      refine jr_iconst K (D_at DL_sew_q0 10 rfl) (v := (1 : Int32)) (by decide) ?_
      exact jr_iret K E (D_at DL_sew_q0 11 rfl) rfl ⟨rfl, z9, hz9, rfl⟩
    replace hf := (if_neg c0).symm.trans hf
    by_cases c1 : k9 = 0
    · subst c1
      replace hf := (if_pos rfl).symm.trans hf
      cases hf
      refine jr_catch K (E := "java/lang/IllegalArgumentException") (nm := "java/lang/IllegalArgumentException") [⟨0, 10, 13, 24⟩] ⟨0, 10, 17, 13⟩ [⟨0, 10, 21, 36⟩] rfl (fun z hz => Or.inr (by
      simp only [List.mem_cons, List.not_mem_nil, or_false] at hz
      rcases hz with rfl
      · exact ⟨by decide, "java/lang/IndexOutOfBoundsException", (jw_5_0 1 rfl rfl), by decide⟩)) rfl (by decide) (jw_3_12 6 rfl rfl) (jn_4_8 13 rfl rfl) rfl (fun q9 => ?_)
      refine jr_astore K (D_at DL_sew_q1 0 rfl) (i := 4) (by decide) (L2 := [_, _, _, _, _]) rfl ?_
      refine jr_iconst K (D_at DL_sew_q1 1 rfl) (v := (2 : Int32)) (by decide) ?_
      exact jr_iret K E (D_at DL_sew_q1 2 rfl) rfl ⟨rfl, z9, hz9, rfl⟩
    replace hf := (if_neg c1).symm.trans hf
    by_cases c2 : k9 = 1
    · subst c2
      replace hf := (if_pos rfl).symm.trans hf
      cases hf
      refine jr_catch K (E := "java/lang/IllegalStateException") (nm := "java/lang/IllegalStateException") [⟨0, 10, 13, 24⟩, ⟨0, 10, 17, 13⟩] ⟨0, 10, 21, 36⟩ [] rfl (fun z hz => Or.inr (by
      simp only [List.mem_cons, List.not_mem_nil, or_false] at hz
      rcases hz with rfl | rfl
      · exact ⟨by decide, "java/lang/IndexOutOfBoundsException", (jw_5_0 1 rfl rfl), by decide⟩
      · exact ⟨by decide, "java/lang/IllegalArgumentException", (jw_3_12 6 rfl rfl), by decide⟩)) rfl (by decide) (jw_5_5 5 rfl rfl) (jn_5_5 12 rfl rfl) rfl (fun q9 => ?_)
      refine jr_astore K (D_at DL_sew_q1 3 rfl) (i := 4) (by decide) (L2 := [_, _, _, _, _]) rfl ?_
      refine jr_iconst K (D_at DL_sew_q1 4 rfl) (v := (3 : Int32)) (by decide) ?_
      exact jr_iret K E (D_at DL_sew_q1 5 rfl) rfl ⟨rfl, z9, hz9, rfl⟩
    replace hf := (if_neg c2).symm.trans hf
    exact jno hf
  obtain ⟨w1, w2⟩ := w9
  subst h9
  rw [← w1] at hf
  dsimp only at hf
  obtain ⟨h2, e2, hf⟩ := jbind hf
  cases hf
  show jJ G X _ 0 0 _ _ (.int r9 :: _)
  refine jr_i2l K (D_at DL_sew_q0 6 rfl) (v := r9.toInt64) rfl ?_
  refine jr_last K (D_at DL_sew_q0 7 rfl) e2 ?_
  refine jr_goto K (D_at DL_sew_q0 8 rfl) (tgt := 25) (by decide) ?_
  refine jr_iconst K (D_at DL_sew_q1 6 rfl) (v := (0 : Int32)) (by decide) ?_
  exact jr_iret K E (D_at DL_sew_q1 7 rfl) rfl ⟨rfl, h2.1, Nat.le_refl _, rfl⟩)
noncomputable def FL_let (n : Nat) (a0 : Nat) (x1 : Int32) (x2 : Int32) (a3 : Nat) (h : jH) : Option (Int32 × jH) :=
  (jcv 9 h a0 (F_X11_let n a0 x1 x2 h)).bind fun q => match q.1 with
  | .inl v => (jasl q.2 a3 0 v.toInt64).bind fun h2 => some ((0 : Int32), h2)
  | .inr k => if k = 2 then some ((1 : Int32), q.2) else if k = 0 then some ((2 : Int32), q.2) else none
set_option maxHeartbeats 400000 in
theorem CL_let {G : jG} {l : Launch} (hst : l.stackTraces = false) (d : Nat) {n : Nat} {a0 : Nat} {x1 : Int32} {x2 : Int32} {a3 : Nat} {h : jH} {res : Int32 × jH} (hf : FL_let n a0 x1 x2 a3 h = some res) : jC G l mL_let (d + 8) 9 125 [.ref a0, .int x1, .int x2, .ref a3] h (jPL res) :=
  jC.of (by decide +kernel) (jcats rfl) (Nat.le_of_ble_eq_true rfl) (fun X K E => by
  unfold FL_let at hf
  obtain ⟨q, e, hf⟩ := jbind hf
  obtain ⟨rc, e⟩ := jcv_o e
  show jJ G X h 9 125 0 [some (.ref a0), some (.int x1), some (.int x2), some (.ref a3), none] []
  refine jr_aload_n K (D_at DL_let_q0 0 rfl) rfl rfl ?_
  refine jr_iconst K (D_at DL_let_q0 1 rfl) (v := (0 : Int32)) (by decide) ?_
  refine jr_aload_n K (D_at DL_let_q0 2 rfl) rfl rfl ?_
  refine jr_iload_n K (D_at DL_let_q0 3 rfl) rfl rfl ?_
  refine jr_iload_n K (D_at DL_let_q0 4 rfl) rfl rfl ?_
  refine jr_callVx K (C_X11_let hst (d) e) (D_at DL_let_q0 5 rfl) cv_L_48_X11_let (As := [.int x1, .int x2]) (ci := 9) rfl rc rfl rfl (by exact Nat.le_of_ble_eq_true rfl) (kc2 := 0) (ks2 := 0) rfl rfl (fun k9 z9 h9 w9 hz9 => ?_) (fun r9 h9 w9 => ?_)
  · obtain ⟨w1, w2⟩ := w9
    subst h9
    rw [← w1] at hf
    dsimp only at hf
    by_cases c0 : k9 = 2
    · subst c0
      replace hf := (if_pos rfl).symm.trans hf
      cases hf
      refine jr_catch K (E := "java/lang/IndexOutOfBoundsException") (nm := "java/lang/IndexOutOfBoundsException") [] ⟨0, 10, 13, 24⟩ [⟨0, 10, 17, 13⟩] rfl (fun z hz => by cases hz) rfl (by decide) (jw_5_0 1 rfl rfl) (jn_5_0 13 rfl rfl) rfl (fun q9 => ?_)
      refine jr_astore K (D_at DL_let_q0 9 rfl) (i := 4) (by decide) (L2 := [_, _, _, _, _]) rfl ?_
      refine jr_iconst K (D_at DL_let_q0 10 rfl) (v := (1 : Int32)) (by decide) ?_
      exact jr_iret K E (D_at DL_let_q0 11 rfl) rfl ⟨rfl, z9, hz9, rfl⟩
    replace hf := (if_neg c0).symm.trans hf
    by_cases c1 : k9 = 0
    · subst c1
      replace hf := (if_pos rfl).symm.trans hf
      cases hf
      refine jr_catch K (E := "java/lang/IllegalArgumentException") (nm := "java/lang/IllegalArgumentException") [⟨0, 10, 13, 24⟩] ⟨0, 10, 17, 13⟩ [] rfl (fun z hz => Or.inr (by
      simp only [List.mem_cons, List.not_mem_nil, or_false] at hz
      rcases hz with rfl
      · exact ⟨by decide, "java/lang/IndexOutOfBoundsException", (jw_5_0 1 rfl rfl), by decide⟩)) rfl (by decide) (jw_3_12 6 rfl rfl) (jn_4_8 13 rfl rfl) rfl (fun q9 => ?_)
      refine jr_astore K (D_at DL_let_q1 0 rfl) (i := 4) (by decide) (L2 := [_, _, _, _, _]) rfl ?_
      refine jr_iconst K (D_at DL_let_q1 1 rfl) (v := (2 : Int32)) (by decide) ?_
      exact jr_iret K E (D_at DL_let_q1 2 rfl) rfl ⟨rfl, z9, hz9, rfl⟩
    replace hf := (if_neg c1).symm.trans hf
    exact jno hf
  obtain ⟨w1, w2⟩ := w9
  subst h9
  rw [← w1] at hf
  dsimp only at hf
  obtain ⟨h2, e2, hf⟩ := jbind hf
  cases hf
  show jJ G X _ 0 0 _ _ (.int r9 :: _)
  refine jr_i2l K (D_at DL_let_q0 6 rfl) (v := r9.toInt64) rfl ?_
  refine jr_last K (D_at DL_let_q0 7 rfl) e2 ?_
  refine jr_goto K (D_at DL_let_q0 8 rfl) (tgt := 21) (by decide) ?_
  refine jr_iconst K (D_at DL_let_q1 3 rfl) (v := (0 : Int32)) (by decide) ?_
  exact jr_iret K E (D_at DL_let_q1 4 rfl) rfl ⟨rfl, h2.1, Nat.le_refl _, rfl⟩)
noncomputable def FL_chair (n : Nat) (a0 : Nat) (x1 : Int32) (x2 : Int32) (a3 : Nat) (h : jH) : Option (Int32 × jH) :=
  (jcv 9 h a0 (F_X11_chair n a0 x1 x2 h)).bind fun q => match q.1 with
  | .inl v => (jasl q.2 a3 0 (if v = 0 then 0 else 1)).bind fun h2 => some ((0 : Int32), h2)
  | .inr k => if k = 2 then some ((1 : Int32), q.2) else none
set_option maxHeartbeats 400000 in
theorem CL_chair {G : jG} {l : Launch} (hst : l.stackTraces = false) (d : Nat) {n : Nat} {a0 : Nat} {x1 : Int32} {x2 : Int32} {a3 : Nat} {h : jH} {res : Int32 × jH} (hf : FL_chair n a0 x1 x2 a3 h = some res) : jC G l mL_chair (d + 8) 8 119 [.ref a0, .int x1, .int x2, .ref a3] h (jPL res) :=
  jC.of (by decide +kernel) (jcats rfl) (Nat.le_of_ble_eq_true rfl) (fun X K E => by
  unfold FL_chair at hf
  obtain ⟨q, e, hf⟩ := jbind hf
  obtain ⟨rc, e⟩ := jcv_o e
  show jJ G X h 8 119 0 [some (.ref a0), some (.int x1), some (.int x2), some (.ref a3), none] []
  refine jr_aload_n K (D_at DL_chair_q0 0 rfl) rfl rfl ?_
  refine jr_iconst K (D_at DL_chair_q0 1 rfl) (v := (0 : Int32)) (by decide) ?_
  refine jr_aload_n K (D_at DL_chair_q0 2 rfl) rfl rfl ?_
  refine jr_iload_n K (D_at DL_chair_q0 3 rfl) rfl rfl ?_
  refine jr_iload_n K (D_at DL_chair_q0 4 rfl) rfl rfl ?_
  refine jr_callVx K (C_X11_chair hst (d) e) (D_at DL_chair_q0 5 rfl) cv_L_51_X11_chair (As := [.int x1, .int x2]) (ci := 9) rfl rc rfl rfl (by exact Nat.le_of_ble_eq_true rfl) (kc2 := 0) (ks2 := 0) rfl rfl (fun k9 z9 h9 w9 hz9 => ?_) (fun r9 h9 w9 => ?_)
  · obtain ⟨w1, w2⟩ := w9
    subst h9
    rw [← w1] at hf
    dsimp only at hf
    by_cases c0 : k9 = 2
    · subst c0
      replace hf := (if_pos rfl).symm.trans hf
      cases hf
      refine jr_catch K (E := "java/lang/IndexOutOfBoundsException") (nm := "java/lang/IndexOutOfBoundsException") [] ⟨0, 17, 20, 24⟩ [] rfl (fun z hz => by cases hz) rfl (by decide) (jw_5_0 1 rfl rfl) (jn_5_0 13 rfl rfl) rfl (fun q9 => ?_)
      refine jr_astore K (D_at DL_chair_q1 0 rfl) (i := 4) (by decide) (L2 := [_, _, _, _, _]) rfl ?_
      refine jr_iconst K (D_at DL_chair_q1 1 rfl) (v := (1 : Int32)) (by decide) ?_
      exact jr_iret K E (D_at DL_chair_q1 2 rfl) rfl ⟨rfl, z9, hz9, rfl⟩
    replace hf := (if_neg c0).symm.trans hf
    exact jno hf
  obtain ⟨w1, w2⟩ := w9
  subst h9
  rw [← w1] at hf
  dsimp only at hf
  obtain ⟨h2, e2, hf⟩ := jbind hf
  cases hf
  show jJ G X _ 0 0 _ _ (.int r9 :: _)
  by_cases cz : r9 = 0
  · rw [if_pos cz] at e2
    refine jr_if_eq K (D_at DL_chair_q0 6 rfl) (tgt := 15) (by decide) (fun _ => ?_) (fun q => absurd cz q)
    refine jr_lconst K (D_at DL_chair_q0 9 rfl) (v := 0) rfl ?_
    refine jr_last K (D_at DL_chair_q0 10 rfl) e2 ?_
    refine jr_goto K (D_at DL_chair_q0 11 rfl) (tgt := 24) (by decide) ?_
    refine jr_iconst K (D_at DL_chair_q1 3 rfl) (v := (0 : Int32)) (by decide) ?_
    exact jr_iret K E (D_at DL_chair_q1 4 rfl) rfl ⟨rfl, h2.1, Nat.le_refl _, rfl⟩
  · rw [if_neg cz] at e2
    refine jr_if_eq K (D_at DL_chair_q0 6 rfl) (tgt := 15) (by decide) (fun q => absurd q cz) (fun _ => ?_)
    refine jr_lconst K (D_at DL_chair_q0 7 rfl) (v := 1) rfl ?_
    refine jr_goto K (D_at DL_chair_q0 8 rfl) (tgt := 16) (by decide) ?_
    refine jr_last K (D_at DL_chair_q0 10 rfl) e2 ?_
    refine jr_goto K (D_at DL_chair_q0 11 rfl) (tgt := 24) (by decide) ?_
    refine jr_iconst K (D_at DL_chair_q1 3 rfl) (v := (0 : Int32)) (by decide) ?_
    exact jr_iret K E (D_at DL_chair_q1 4 rfl) rfl ⟨rfl, h2.1, Nat.le_refl _, rfl⟩)
noncomputable def FL_hours (n : Nat) (a0 : Nat) (x1 : Int32) (a2 : Nat) (h : jH) : Option (Int32 × jH) :=
  (jcv 9 h a0 (F_X11_hours n a0 x1 h)).bind fun q => match q.1 with
  | .inl v => (jasl q.2 a2 0 v.toInt64).bind fun h2 => some ((0 : Int32), h2)
  | .inr k => if k = 0 then some ((1 : Int32), q.2) else none
set_option maxHeartbeats 400000 in
theorem CL_hours {G : jG} {l : Launch} (hst : l.stackTraces = false) (d : Nat) {n : Nat} {a0 : Nat} {x1 : Int32} {a2 : Nat} {h : jH} {res : Int32 × jH} (hf : FL_hours n a0 x1 a2 h = some res) : jC G l mL_hours (d + 8) 8 119 [.ref a0, .int x1, .ref a2] h (jPL res) :=
  jC.of (by decide +kernel) (jcats rfl) (Nat.le_of_ble_eq_true rfl) (fun X K E => by
  unfold FL_hours at hf
  obtain ⟨q, e, hf⟩ := jbind hf
  obtain ⟨rc, e⟩ := jcv_o e
  show jJ G X h 8 119 0 [some (.ref a0), some (.int x1), some (.ref a2), none] []
  refine jr_aload_n K (D_at DL_hours_q0 0 rfl) rfl rfl ?_
  refine jr_iconst K (D_at DL_hours_q0 1 rfl) (v := (0 : Int32)) (by decide) ?_
  refine jr_aload_n K (D_at DL_hours_q0 2 rfl) rfl rfl ?_
  refine jr_iload_n K (D_at DL_hours_q0 3 rfl) rfl rfl ?_
  refine jr_callVx K (C_X11_hours hst (d) e) (D_at DL_hours_q0 4 rfl) cv_L_54_X11_hours (As := [.int x1]) (ci := 9) rfl rc rfl rfl (by exact Nat.le_of_ble_eq_true rfl) (kc2 := 0) (ks2 := 0) rfl rfl (fun k9 z9 h9 w9 hz9 => ?_) (fun r9 h9 w9 => ?_)
  · obtain ⟨w1, w2⟩ := w9
    subst h9
    rw [← w1] at hf
    dsimp only at hf
    by_cases c0 : k9 = 0
    · subst c0
      replace hf := (if_pos rfl).symm.trans hf
      cases hf
      refine jr_catch K (E := "java/lang/IllegalArgumentException") (nm := "java/lang/IllegalArgumentException") [] ⟨0, 9, 12, 13⟩ [] rfl (fun z hz => by cases hz) rfl (by decide) (jw_3_12 6 rfl rfl) (jn_4_8 13 rfl rfl) rfl (fun q9 => ?_)
      refine jr_astore_n K (D_at DL_hours_q0 8 rfl) (i := 3) rfl (by decide) (L2 := [_, _, _, _]) rfl ?_
      refine jr_iconst K (D_at DL_hours_q0 9 rfl) (v := (1 : Int32)) (by decide) ?_
      exact jr_iret K E (D_at DL_hours_q0 10 rfl) rfl ⟨rfl, z9, hz9, rfl⟩
    replace hf := (if_neg c0).symm.trans hf
    exact jno hf
  obtain ⟨w1, w2⟩ := w9
  subst h9
  rw [← w1] at hf
  dsimp only at hf
  obtain ⟨h2, e2, hf⟩ := jbind hf
  cases hf
  show jJ G X _ 0 0 _ _ (.int r9 :: _)
  refine jr_i2l K (D_at DL_hours_q0 5 rfl) (v := r9.toInt64) rfl ?_
  refine jr_last K (D_at DL_hours_q0 6 rfl) e2 ?_
  refine jr_goto K (D_at DL_hours_q0 7 rfl) (tgt := 15) (by decide) ?_
  refine jr_iconst K (D_at DL_hours_q0 11 rfl) (v := (0 : Int32)) (by decide) ?_
  exact jr_iret K E (D_at DL_hours_q1 0 rfl) rfl ⟨rfl, h2.1, Nat.le_refl _, rfl⟩)
noncomputable def FL_goes (n : Nat) (a0 : Nat) (x1 : Int32) (x2 : Int32) (a3 : Nat) (h : jH) : Option (Int32 × jH) :=
  (jcv 9 h a0 (F_X11_goes n a0 x1 x2 h)).bind fun q => match q.1 with
  | .inl v => (jasl q.2 a3 0 v.toInt64).bind fun h2 => some ((0 : Int32), h2)
  | .inr k => if k = 2 then some ((1 : Int32), q.2) else none
set_option maxHeartbeats 400000 in
theorem CL_goes {G : jG} {l : Launch} (hst : l.stackTraces = false) (d : Nat) {n : Nat} {a0 : Nat} {x1 : Int32} {x2 : Int32} {a3 : Nat} {h : jH} {res : Int32 × jH} (hf : FL_goes n a0 x1 x2 a3 h = some res) : jC G l mL_goes (d + 8) 1 6 [.ref a0, .int x1, .int x2, .ref a3] h (jPL res) :=
  jC.of (by decide +kernel) (jcats rfl) (Nat.le_of_ble_eq_true rfl) (fun X K E => by
  unfold FL_goes at hf
  obtain ⟨q, e, hf⟩ := jbind hf
  obtain ⟨rc, e⟩ := jcv_o e
  show jJ G X h 1 6 0 [some (.ref a0), some (.int x1), some (.int x2), some (.ref a3), none] []
  refine jr_aload_n K (D_at DL_goes_q0 0 rfl) rfl rfl ?_
  refine jr_iconst K (D_at DL_goes_q0 1 rfl) (v := (0 : Int32)) (by decide) ?_
  refine jr_aload_n K (D_at DL_goes_q0 2 rfl) rfl rfl ?_
  refine jr_iload_n K (D_at DL_goes_q0 3 rfl) rfl rfl ?_
  refine jr_iload_n K (D_at DL_goes_q0 4 rfl) rfl rfl ?_
  refine jr_callVx K (C_X11_goes hst (d) e) (D_at DL_goes_q0 5 rfl) cv_L_57_X11_goes (As := [.int x1, .int x2]) (ci := 9) rfl rc rfl rfl (by exact Nat.le_of_ble_eq_true rfl) (kc2 := 0) (ks2 := 0) rfl rfl (fun k9 z9 h9 w9 hz9 => ?_) (fun r9 h9 w9 => ?_)
  · obtain ⟨w1, w2⟩ := w9
    subst h9
    rw [← w1] at hf
    dsimp only at hf
    by_cases c0 : k9 = 2
    · subst c0
      replace hf := (if_pos rfl).symm.trans hf
      cases hf
      refine jr_catch K (E := "java/lang/IndexOutOfBoundsException") (nm := "java/lang/IndexOutOfBoundsException") [] ⟨0, 10, 13, 24⟩ [] rfl (fun z hz => by cases hz) rfl (by decide) (jw_5_0 1 rfl rfl) (jn_5_0 13 rfl rfl) rfl (fun q9 => ?_)
      refine jr_astore K (D_at DL_goes_q0 9 rfl) (i := 4) (by decide) (L2 := [_, _, _, _, _]) rfl ?_
      refine jr_iconst K (D_at DL_goes_q0 10 rfl) (v := (1 : Int32)) (by decide) ?_
      exact jr_iret K E (D_at DL_goes_q0 11 rfl) rfl ⟨rfl, z9, hz9, rfl⟩
    replace hf := (if_neg c0).symm.trans hf
    exact jno hf
  obtain ⟨w1, w2⟩ := w9
  subst h9
  rw [← w1] at hf
  dsimp only at hf
  obtain ⟨h2, e2, hf⟩ := jbind hf
  cases hf
  show jJ G X _ 0 0 _ _ (.int r9 :: _)
  refine jr_i2l K (D_at DL_goes_q0 6 rfl) (v := r9.toInt64) rfl ?_
  refine jr_last K (D_at DL_goes_q0 7 rfl) e2 ?_
  refine jr_goto K (D_at DL_goes_q0 8 rfl) (tgt := 17) (by decide) ?_
  refine jr_iconst K (D_at DL_goes_q1 0 rfl) (v := (0 : Int32)) (by decide) ?_
  exact jr_iret K E (D_at DL_goes_q1 1 rfl) rfl ⟨rfl, h2.1, Nat.le_refl _, rfl⟩)
noncomputable def FL_with (n : Nat) (a0 : Nat) (x1 : Int32) (x2 : Int32) (a3 : Nat) (h : jH) : Option (Int32 × jH) :=
  (jcv 9 h a0 (F_X11_with n a0 x1 x2 h)).bind fun q => match q.1 with
  | .inl v => (jasl q.2 a3 0 v.toInt64).bind fun h2 => some ((0 : Int32), h2)
  | .inr k => if k = 2 then some ((1 : Int32), q.2) else none
set_option maxHeartbeats 400000 in
theorem CL_with {G : jG} {l : Launch} (hst : l.stackTraces = false) (d : Nat) {n : Nat} {a0 : Nat} {x1 : Int32} {x2 : Int32} {a3 : Nat} {h : jH} {res : Int32 × jH} (hf : FL_with n a0 x1 x2 a3 h = some res) : jC G l mL_with (d + 8) 1 6 [.ref a0, .int x1, .int x2, .ref a3] h (jPL res) :=
  jC.of (by decide +kernel) (jcats rfl) (Nat.le_of_ble_eq_true rfl) (fun X K E => by
  unfold FL_with at hf
  obtain ⟨q, e, hf⟩ := jbind hf
  obtain ⟨rc, e⟩ := jcv_o e
  show jJ G X h 1 6 0 [some (.ref a0), some (.int x1), some (.int x2), some (.ref a3), none] []
  refine jr_aload_n K (D_at DL_with_q0 0 rfl) rfl rfl ?_
  refine jr_iconst K (D_at DL_with_q0 1 rfl) (v := (0 : Int32)) (by decide) ?_
  refine jr_aload_n K (D_at DL_with_q0 2 rfl) rfl rfl ?_
  refine jr_iload_n K (D_at DL_with_q0 3 rfl) rfl rfl ?_
  refine jr_iload_n K (D_at DL_with_q0 4 rfl) rfl rfl ?_
  refine jr_callVx K (C_X11_with hst (d) e) (D_at DL_with_q0 5 rfl) cv_L_61_X11_with (As := [.int x1, .int x2]) (ci := 9) rfl rc rfl rfl (by exact Nat.le_of_ble_eq_true rfl) (kc2 := 0) (ks2 := 0) rfl rfl (fun k9 z9 h9 w9 hz9 => ?_) (fun r9 h9 w9 => ?_)
  · obtain ⟨w1, w2⟩ := w9
    subst h9
    rw [← w1] at hf
    dsimp only at hf
    by_cases c0 : k9 = 2
    · subst c0
      replace hf := (if_pos rfl).symm.trans hf
      cases hf
      refine jr_catch K (E := "java/lang/IndexOutOfBoundsException") (nm := "java/lang/IndexOutOfBoundsException") [] ⟨0, 10, 13, 24⟩ [] rfl (fun z hz => by cases hz) rfl (by decide) (jw_5_0 1 rfl rfl) (jn_5_0 13 rfl rfl) rfl (fun q9 => ?_)
      refine jr_astore K (D_at DL_with_q0 9 rfl) (i := 4) (by decide) (L2 := [_, _, _, _, _]) rfl ?_
      refine jr_iconst K (D_at DL_with_q0 10 rfl) (v := (1 : Int32)) (by decide) ?_
      exact jr_iret K E (D_at DL_with_q0 11 rfl) rfl ⟨rfl, z9, hz9, rfl⟩
    replace hf := (if_neg c0).symm.trans hf
    exact jno hf
  obtain ⟨w1, w2⟩ := w9
  subst h9
  rw [← w1] at hf
  dsimp only at hf
  obtain ⟨h2, e2, hf⟩ := jbind hf
  cases hf
  show jJ G X _ 0 0 _ _ (.int r9 :: _)
  refine jr_i2l K (D_at DL_with_q0 6 rfl) (v := r9.toInt64) rfl ?_
  refine jr_last K (D_at DL_with_q0 7 rfl) e2 ?_
  refine jr_goto K (D_at DL_with_q0 8 rfl) (tgt := 17) (by decide) ?_
  refine jr_iconst K (D_at DL_with_q1 0 rfl) (v := (0 : Int32)) (by decide) ?_
  exact jr_iret K E (D_at DL_with_q1 1 rfl) rfl ⟨rfl, h2.1, Nat.le_refl _, rfl⟩)
noncomputable def FL_would (n : Nat) (a0 : Nat) (x1 : Int32) (x2 : Int32) (x3 : Int32) (x4 : Int32) (a5 : Nat) (h : jH) : Option (Int32 × jH) :=
  (jcv 9 h a0 (F_X11_would n a0 x1 x2 x3 x4 h)).bind fun q => match q.1 with
  | .inl v => (jasl q.2 a5 0 v.toInt64).bind fun h2 => some ((0 : Int32), h2)
  | .inr k => if k = 2 then some ((1 : Int32), q.2) else if k = 0 then some ((2 : Int32), q.2) else none
set_option maxHeartbeats 400000 in
theorem CL_would {G : jG} {l : Launch} (hst : l.stackTraces = false) (d : Nat) {n : Nat} {a0 : Nat} {x1 : Int32} {x2 : Int32} {x3 : Int32} {x4 : Int32} {a5 : Nat} {h : jH} {res : Int32 × jH} (hf : FL_would n a0 x1 x2 x3 x4 a5 h = some res) : jC G l mL_would (d + 8) 2 12 [.ref a0, .int x1, .int x2, .int x3, .int x4, .ref a5] h (jPL res) :=
  jC.of (by decide +kernel) (jcats rfl) (Nat.le_of_ble_eq_true rfl) (fun X K E => by
  unfold FL_would at hf
  obtain ⟨q, e, hf⟩ := jbind hf
  obtain ⟨rc, e⟩ := jcv_o e
  show jJ G X h 2 12 0 [some (.ref a0), some (.int x1), some (.int x2), some (.int x3), some (.int x4), some (.ref a5), none] []
  refine jr_aload K (D_at DL_would_q0 0 rfl) rfl ?_
  refine jr_iconst K (D_at DL_would_q0 1 rfl) (v := (0 : Int32)) (by decide) ?_
  refine jr_aload_n K (D_at DL_would_q0 2 rfl) rfl rfl ?_
  refine jr_iload_n K (D_at DL_would_q0 3 rfl) rfl rfl ?_
  refine jr_iload_n K (D_at DL_would_q0 4 rfl) rfl rfl ?_
  refine jr_iload_n K (D_at DL_would_q0 5 rfl) rfl rfl ?_
  refine jr_iload K (D_at DL_would_q0 6 rfl) rfl ?_
  refine jr_callVx K (C_X11_would hst (d) e) (D_at DL_would_q0 7 rfl) cv_L_64_X11_would (As := [.int x1, .int x2, .int x3, .int x4]) (ci := 9) rfl rc rfl rfl (by exact Nat.le_of_ble_eq_true rfl) (kc2 := 0) (ks2 := 0) rfl rfl (fun k9 z9 h9 w9 hz9 => ?_) (fun r9 h9 w9 => ?_)
  · obtain ⟨w1, w2⟩ := w9
    subst h9
    rw [← w1] at hf
    dsimp only at hf
    by_cases c0 : k9 = 2
    · subst c0
      replace hf := (if_pos rfl).symm.trans hf
      cases hf
      refine jr_catch K (E := "java/lang/IndexOutOfBoundsException") (nm := "java/lang/IndexOutOfBoundsException") [] ⟨0, 14, 17, 24⟩ [⟨0, 14, 21, 13⟩] rfl (fun z hz => by cases hz) rfl (by decide) (jw_5_0 1 rfl rfl) (jn_5_0 13 rfl rfl) rfl (fun q9 => ?_)
      refine jr_astore K (D_at DL_would_q0 11 rfl) (i := 6) (by decide) (L2 := [_, _, _, _, _, _, _]) rfl ?_
      refine jr_iconst K (D_at DL_would_q1 0 rfl) (v := (1 : Int32)) (by decide) ?_
      exact jr_iret K E (D_at DL_would_q1 1 rfl) rfl ⟨rfl, z9, hz9, rfl⟩
    replace hf := (if_neg c0).symm.trans hf
    by_cases c1 : k9 = 0
    · subst c1
      replace hf := (if_pos rfl).symm.trans hf
      cases hf
      refine jr_catch K (E := "java/lang/IllegalArgumentException") (nm := "java/lang/IllegalArgumentException") [⟨0, 14, 17, 24⟩] ⟨0, 14, 21, 13⟩ [] rfl (fun z hz => Or.inr (by
      simp only [List.mem_cons, List.not_mem_nil, or_false] at hz
      rcases hz with rfl
      · exact ⟨by decide, "java/lang/IndexOutOfBoundsException", (jw_5_0 1 rfl rfl), by decide⟩)) rfl (by decide) (jw_3_12 6 rfl rfl) (jn_4_8 13 rfl rfl) rfl (fun q9 => ?_)
      refine jr_astore K (D_at DL_would_q1 2 rfl) (i := 6) (by decide) (L2 := [_, _, _, _, _, _, _]) rfl ?_
      refine jr_iconst K (D_at DL_would_q1 3 rfl) (v := (2 : Int32)) (by decide) ?_
      exact jr_iret K E (D_at DL_would_q1 4 rfl) rfl ⟨rfl, z9, hz9, rfl⟩
    replace hf := (if_neg c1).symm.trans hf
    exact jno hf
  obtain ⟨w1, w2⟩ := w9
  subst h9
  rw [← w1] at hf
  dsimp only at hf
  obtain ⟨h2, e2, hf⟩ := jbind hf
  cases hf
  show jJ G X _ 0 0 _ _ (.int r9 :: _)
  refine jr_i2l K (D_at DL_would_q0 8 rfl) (v := r9.toInt64) rfl ?_
  refine jr_last K (D_at DL_would_q0 9 rfl) e2 ?_
  refine jr_goto K (D_at DL_would_q0 10 rfl) (tgt := 25) (by decide) ?_
  refine jr_iconst K (D_at DL_would_q1 5 rfl) (v := (0 : Int32)) (by decide) ?_
  exact jr_iret K E (D_at DL_would_q1 6 rfl) rfl ⟨rfl, h2.1, Nat.le_refl _, rfl⟩)
noncomputable def FL_snags (n : Nat) (a0 : Nat) (x1 : Int32) (a2 : Nat) (h : jH) : Option (Int32 × jH) :=
  (jcv 9 h a0 (F_X11_snags n a0 x1 h)).bind fun q => match q.1 with
  | .inl v => (jasl q.2 a2 0 v.toInt64).bind fun h2 => some ((0 : Int32), h2)
  | .inr k => if k = 0 then some ((1 : Int32), q.2) else none
set_option maxHeartbeats 400000 in
theorem CL_snags {G : jG} {l : Launch} (hst : l.stackTraces = false) (d : Nat) {n : Nat} {a0 : Nat} {x1 : Int32} {a2 : Nat} {h : jH} {res : Int32 × jH} (hf : FL_snags n a0 x1 a2 h = some res) : jC G l mL_snags (d + 8) 1 6 [.ref a0, .int x1, .ref a2] h (jPL res) :=
  jC.of (by decide +kernel) (jcats rfl) (Nat.le_of_ble_eq_true rfl) (fun X K E => by
  unfold FL_snags at hf
  obtain ⟨q, e, hf⟩ := jbind hf
  obtain ⟨rc, e⟩ := jcv_o e
  show jJ G X h 1 6 0 [some (.ref a0), some (.int x1), some (.ref a2), none] []
  refine jr_aload_n K (D_at DL_snags_q0 0 rfl) rfl rfl ?_
  refine jr_iconst K (D_at DL_snags_q0 1 rfl) (v := (0 : Int32)) (by decide) ?_
  refine jr_aload_n K (D_at DL_snags_q0 2 rfl) rfl rfl ?_
  refine jr_iload_n K (D_at DL_snags_q0 3 rfl) rfl rfl ?_
  refine jr_callVx K (C_X11_snags hst (d) e) (D_at DL_snags_q0 4 rfl) cv_L_68_X11_snags (As := [.int x1]) (ci := 9) rfl rc rfl rfl (by exact Nat.le_of_ble_eq_true rfl) (kc2 := 0) (ks2 := 0) rfl rfl (fun k9 z9 h9 w9 hz9 => ?_) (fun r9 h9 w9 => ?_)
  · obtain ⟨w1, w2⟩ := w9
    subst h9
    rw [← w1] at hf
    dsimp only at hf
    by_cases c0 : k9 = 0
    · subst c0
      replace hf := (if_pos rfl).symm.trans hf
      cases hf
      refine jr_catch K (E := "java/lang/IllegalArgumentException") (nm := "java/lang/IllegalArgumentException") [] ⟨0, 9, 12, 13⟩ [] rfl (fun z hz => by cases hz) rfl (by decide) (jw_3_12 6 rfl rfl) (jn_4_8 13 rfl rfl) rfl (fun q9 => ?_)
      refine jr_astore_n K (D_at DL_snags_q0 8 rfl) (i := 3) rfl (by decide) (L2 := [_, _, _, _]) rfl ?_
      refine jr_iconst K (D_at DL_snags_q0 9 rfl) (v := (1 : Int32)) (by decide) ?_
      exact jr_iret K E (D_at DL_snags_q0 10 rfl) rfl ⟨rfl, z9, hz9, rfl⟩
    replace hf := (if_neg c0).symm.trans hf
    exact jno hf
  obtain ⟨w1, w2⟩ := w9
  subst h9
  rw [← w1] at hf
  dsimp only at hf
  obtain ⟨h2, e2, hf⟩ := jbind hf
  cases hf
  show jJ G X _ 0 0 _ _ (.int r9 :: _)
  refine jr_i2l K (D_at DL_snags_q0 5 rfl) (v := r9.toInt64) rfl ?_
  refine jr_last K (D_at DL_snags_q0 6 rfl) e2 ?_
  refine jr_goto K (D_at DL_snags_q0 7 rfl) (tgt := 15) (by decide) ?_
  refine jr_iconst K (D_at DL_snags_q0 11 rfl) (v := (0 : Int32)) (by decide) ?_
  exact jr_iret K E (D_at DL_snags_q1 0 rfl) rfl ⟨rfl, h2.1, Nat.le_refl _, rfl⟩)
noncomputable def FL_tries (n : Nat) (a0 : Nat) (a1 : Nat) (h : jH) : Option (Int32 × jH) :=
  (jcv 9 h a0 (F_X11_tries n a0 h)).bind fun q => match q.1 with
  | .inl v => (jasl q.2 a1 0 v.toInt64).bind fun h2 => some ((0 : Int32), h2)
  | .inr k => if k = 0 then some ((1 : Int32), q.2) else none
set_option maxHeartbeats 400000 in
theorem CL_tries {G : jG} {l : Launch} (hst : l.stackTraces = false) (d : Nat) {n : Nat} {a0 : Nat} {a1 : Nat} {h : jH} {res : Int32 × jH} (hf : FL_tries n a0 a1 h = some res) : jC G l mL_tries (d + 8) 1 6 [.ref a0, .ref a1] h (jPL res) :=
  jC.of (by decide +kernel) (jcats rfl) (Nat.le_of_ble_eq_true rfl) (fun X K E => by
  unfold FL_tries at hf
  obtain ⟨q, e, hf⟩ := jbind hf
  obtain ⟨rc, e⟩ := jcv_o e
  show jJ G X h 1 6 0 [some (.ref a0), some (.ref a1), none] []
  refine jr_aload_n K (D_at DL_tries_q0 0 rfl) rfl rfl ?_
  refine jr_iconst K (D_at DL_tries_q0 1 rfl) (v := (0 : Int32)) (by decide) ?_
  refine jr_aload_n K (D_at DL_tries_q0 2 rfl) rfl rfl ?_
  refine jr_callVx K (C_X11_tries hst (d) e) (D_at DL_tries_q0 3 rfl) cv_L_72_X11_tries (As := []) (ci := 9) rfl rc rfl rfl (by exact Nat.le_of_ble_eq_true rfl) (kc2 := 0) (ks2 := 0) rfl rfl (fun k9 z9 h9 w9 hz9 => ?_) (fun r9 h9 w9 => ?_)
  · obtain ⟨w1, w2⟩ := w9
    subst h9
    rw [← w1] at hf
    dsimp only at hf
    by_cases c0 : k9 = 0
    · subst c0
      replace hf := (if_pos rfl).symm.trans hf
      cases hf
      refine jr_catch K (E := "java/lang/IllegalArgumentException") (nm := "java/lang/IllegalArgumentException") [] ⟨0, 8, 11, 13⟩ [] rfl (fun z hz => by cases hz) rfl (by decide) (jw_3_12 6 rfl rfl) (jn_4_8 13 rfl rfl) rfl (fun q9 => ?_)
      refine jr_astore_n K (D_at DL_tries_q0 7 rfl) (i := 2) rfl (by decide) (L2 := [_, _, _]) rfl ?_
      refine jr_iconst K (D_at DL_tries_q0 8 rfl) (v := (1 : Int32)) (by decide) ?_
      exact jr_iret K E (D_at DL_tries_q0 9 rfl) rfl ⟨rfl, z9, hz9, rfl⟩
    replace hf := (if_neg c0).symm.trans hf
    exact jno hf
  obtain ⟨w1, w2⟩ := w9
  subst h9
  rw [← w1] at hf
  dsimp only at hf
  obtain ⟨h2, e2, hf⟩ := jbind hf
  cases hf
  show jJ G X _ 0 0 _ _ (.int r9 :: _)
  refine jr_i2l K (D_at DL_tries_q0 4 rfl) (v := r9.toInt64) rfl ?_
  refine jr_last K (D_at DL_tries_q0 5 rfl) e2 ?_
  refine jr_goto K (D_at DL_tries_q0 6 rfl) (tgt := 14) (by decide) ?_
  refine jr_iconst K (D_at DL_tries_q0 10 rfl) (v := (0 : Int32)) (by decide) ?_
  exact jr_iret K E (D_at DL_tries_q0 11 rfl) rfl ⟨rfl, h2.1, Nat.le_refl _, rfl⟩)
noncomputable def FL_loosen (n : Nat) (a0 : Nat) (x1 : Int32) (x2 : Int32) (x3 : Int32) (a4 : Nat) (h : jH) : Option (Int32 × jH) :=
  (jcv 9 h a0 (F_X11_loosen n a0 x1 x2 x3 h)).bind fun q => match q.1 with
  | .inl v => (jasl q.2 a4 0 v.toInt64).bind fun h2 => some ((0 : Int32), h2)
  | .inr k => if k = 2 then some ((1 : Int32), q.2) else if k = 0 then some ((2 : Int32), q.2) else none
set_option maxHeartbeats 400000 in
theorem CL_loosen {G : jG} {l : Launch} (hst : l.stackTraces = false) (d : Nat) {n : Nat} {a0 : Nat} {x1 : Int32} {x2 : Int32} {x3 : Int32} {a4 : Nat} {h : jH} {res : Int32 × jH} (hf : FL_loosen n a0 x1 x2 x3 a4 h = some res) : jC G l mL_loosen (d + 8) 2 12 [.ref a0, .int x1, .int x2, .int x3, .ref a4] h (jPL res) :=
  jC.of (by decide +kernel) (jcats rfl) (Nat.le_of_ble_eq_true rfl) (fun X K E => by
  unfold FL_loosen at hf
  obtain ⟨q, e, hf⟩ := jbind hf
  obtain ⟨rc, e⟩ := jcv_o e
  show jJ G X h 2 12 0 [some (.ref a0), some (.int x1), some (.int x2), some (.int x3), some (.ref a4), none] []
  refine jr_aload K (D_at DL_loosen_q0 0 rfl) rfl ?_
  refine jr_iconst K (D_at DL_loosen_q0 1 rfl) (v := (0 : Int32)) (by decide) ?_
  refine jr_aload_n K (D_at DL_loosen_q0 2 rfl) rfl rfl ?_
  refine jr_iload_n K (D_at DL_loosen_q0 3 rfl) rfl rfl ?_
  refine jr_iload_n K (D_at DL_loosen_q0 4 rfl) rfl rfl ?_
  refine jr_iload_n K (D_at DL_loosen_q0 5 rfl) rfl rfl ?_
  refine jr_callVx K (C_X11_loosen hst (d) e) (D_at DL_loosen_q0 6 rfl) cv_L_75_X11_loosen (As := [.int x1, .int x2, .int x3]) (ci := 9) rfl rc rfl rfl (by exact Nat.le_of_ble_eq_true rfl) (kc2 := 0) (ks2 := 0) rfl rfl (fun k9 z9 h9 w9 hz9 => ?_) (fun r9 h9 w9 => ?_)
  · obtain ⟨w1, w2⟩ := w9
    subst h9
    rw [← w1] at hf
    dsimp only at hf
    by_cases c0 : k9 = 2
    · subst c0
      replace hf := (if_pos rfl).symm.trans hf
      cases hf
      refine jr_catch K (E := "java/lang/IndexOutOfBoundsException") (nm := "java/lang/IndexOutOfBoundsException") [] ⟨0, 12, 15, 24⟩ [⟨0, 12, 19, 13⟩] rfl (fun z hz => by cases hz) rfl (by decide) (jw_5_0 1 rfl rfl) (jn_5_0 13 rfl rfl) rfl (fun q9 => ?_)
      refine jr_astore K (D_at DL_loosen_q0 10 rfl) (i := 5) (by decide) (L2 := [_, _, _, _, _, _]) rfl ?_
      refine jr_iconst K (D_at DL_loosen_q0 11 rfl) (v := (1 : Int32)) (by decide) ?_
      exact jr_iret K E (D_at DL_loosen_q1 0 rfl) rfl ⟨rfl, z9, hz9, rfl⟩
    replace hf := (if_neg c0).symm.trans hf
    by_cases c1 : k9 = 0
    · subst c1
      replace hf := (if_pos rfl).symm.trans hf
      cases hf
      refine jr_catch K (E := "java/lang/IllegalArgumentException") (nm := "java/lang/IllegalArgumentException") [⟨0, 12, 15, 24⟩] ⟨0, 12, 19, 13⟩ [] rfl (fun z hz => Or.inr (by
      simp only [List.mem_cons, List.not_mem_nil, or_false] at hz
      rcases hz with rfl
      · exact ⟨by decide, "java/lang/IndexOutOfBoundsException", (jw_5_0 1 rfl rfl), by decide⟩)) rfl (by decide) (jw_3_12 6 rfl rfl) (jn_4_8 13 rfl rfl) rfl (fun q9 => ?_)
      refine jr_astore K (D_at DL_loosen_q1 1 rfl) (i := 5) (by decide) (L2 := [_, _, _, _, _, _]) rfl ?_
      refine jr_iconst K (D_at DL_loosen_q1 2 rfl) (v := (2 : Int32)) (by decide) ?_
      exact jr_iret K E (D_at DL_loosen_q1 3 rfl) rfl ⟨rfl, z9, hz9, rfl⟩
    replace hf := (if_neg c1).symm.trans hf
    exact jno hf
  obtain ⟨w1, w2⟩ := w9
  subst h9
  rw [← w1] at hf
  dsimp only at hf
  obtain ⟨h2, e2, hf⟩ := jbind hf
  cases hf
  show jJ G X _ 0 0 _ _ (.int r9 :: _)
  refine jr_i2l K (D_at DL_loosen_q0 7 rfl) (v := r9.toInt64) rfl ?_
  refine jr_last K (D_at DL_loosen_q0 8 rfl) e2 ?_
  refine jr_goto K (D_at DL_loosen_q0 9 rfl) (tgt := 23) (by decide) ?_
  refine jr_iconst K (D_at DL_loosen_q1 4 rfl) (v := (0 : Int32)) (by decide) ?_
  exact jr_iret K E (D_at DL_loosen_q1 5 rfl) rfl ⟨rfl, h2.1, Nat.le_refl _, rfl⟩)
noncomputable def FL_tight (n : Nat) (a0 : Nat) (x1 : Int32) (a2 : Nat) (h : jH) : Option (Int32 × jH) :=
  (jcv 9 h a0 (F_X11_tight n a0 x1 h)).bind fun q => match q.1 with
  | .inl v => (jasl q.2 a2 0 v.toInt64).bind fun h2 => some ((0 : Int32), h2)
  | .inr k => if k = 0 then some ((1 : Int32), q.2) else none
set_option maxHeartbeats 400000 in
theorem CL_tight {G : jG} {l : Launch} (hst : l.stackTraces = false) (d : Nat) {n : Nat} {a0 : Nat} {x1 : Int32} {a2 : Nat} {h : jH} {res : Int32 × jH} (hf : FL_tight n a0 x1 a2 h = some res) : jC G l mL_tight (d + 8) 1 6 [.ref a0, .int x1, .ref a2] h (jPL res) :=
  jC.of (by decide +kernel) (jcats rfl) (Nat.le_of_ble_eq_true rfl) (fun X K E => by
  unfold FL_tight at hf
  obtain ⟨q, e, hf⟩ := jbind hf
  obtain ⟨rc, e⟩ := jcv_o e
  show jJ G X h 1 6 0 [some (.ref a0), some (.int x1), some (.ref a2), none] []
  refine jr_aload_n K (D_at DL_tight_q0 0 rfl) rfl rfl ?_
  refine jr_iconst K (D_at DL_tight_q0 1 rfl) (v := (0 : Int32)) (by decide) ?_
  refine jr_aload_n K (D_at DL_tight_q0 2 rfl) rfl rfl ?_
  refine jr_iload_n K (D_at DL_tight_q0 3 rfl) rfl rfl ?_
  refine jr_callVx K (C_X11_tight hst (d) e) (D_at DL_tight_q0 4 rfl) cv_L_78_X11_tight (As := [.int x1]) (ci := 9) rfl rc rfl rfl (by exact Nat.le_of_ble_eq_true rfl) (kc2 := 0) (ks2 := 0) rfl rfl (fun k9 z9 h9 w9 hz9 => ?_) (fun r9 h9 w9 => ?_)
  · obtain ⟨w1, w2⟩ := w9
    subst h9
    rw [← w1] at hf
    dsimp only at hf
    by_cases c0 : k9 = 0
    · subst c0
      replace hf := (if_pos rfl).symm.trans hf
      cases hf
      refine jr_catch K (E := "java/lang/IllegalArgumentException") (nm := "java/lang/IllegalArgumentException") [] ⟨0, 9, 12, 13⟩ [] rfl (fun z hz => by cases hz) rfl (by decide) (jw_3_12 6 rfl rfl) (jn_4_8 13 rfl rfl) rfl (fun q9 => ?_)
      refine jr_astore_n K (D_at DL_tight_q0 8 rfl) (i := 3) rfl (by decide) (L2 := [_, _, _, _]) rfl ?_
      refine jr_iconst K (D_at DL_tight_q0 9 rfl) (v := (1 : Int32)) (by decide) ?_
      exact jr_iret K E (D_at DL_tight_q0 10 rfl) rfl ⟨rfl, z9, hz9, rfl⟩
    replace hf := (if_neg c0).symm.trans hf
    exact jno hf
  obtain ⟨w1, w2⟩ := w9
  subst h9
  rw [← w1] at hf
  dsimp only at hf
  obtain ⟨h2, e2, hf⟩ := jbind hf
  cases hf
  show jJ G X _ 0 0 _ _ (.int r9 :: _)
  refine jr_i2l K (D_at DL_tight_q0 5 rfl) (v := r9.toInt64) rfl ?_
  refine jr_last K (D_at DL_tight_q0 6 rfl) e2 ?_
  refine jr_goto K (D_at DL_tight_q0 7 rfl) (tgt := 15) (by decide) ?_
  refine jr_iconst K (D_at DL_tight_q0 11 rfl) (v := (0 : Int32)) (by decide) ?_
  exact jr_iret K E (D_at DL_tight_q1 0 rfl) rfl ⟨rfl, h2.1, Nat.le_refl _, rfl⟩)
noncomputable def FL_lit (n : Nat) (a0 : Nat) (x1 : Int32) (a2 : Nat) (h : jH) : Option (Int32 × jH) :=
  (jcv 9 h a0 (F_X11_lit n a0 x1 h)).bind fun q => match q.1 with
  | .inl v => (jasl q.2 a2 0 v.toInt64).bind fun h2 => some ((0 : Int32), h2)
  | .inr k => if k = 2 then some ((1 : Int32), q.2) else none
set_option maxHeartbeats 400000 in
theorem CL_lit {G : jG} {l : Launch} (hst : l.stackTraces = false) (d : Nat) {n : Nat} {a0 : Nat} {x1 : Int32} {a2 : Nat} {h : jH} {res : Int32 × jH} (hf : FL_lit n a0 x1 a2 h = some res) : jC G l mL_lit (d + 7) 1 6 [.ref a0, .int x1, .ref a2] h (jPL res) :=
  jC.of (by decide +kernel) (jcats rfl) (Nat.le_of_ble_eq_true rfl) (fun X K E => by
  unfold FL_lit at hf
  obtain ⟨q, e, hf⟩ := jbind hf
  obtain ⟨rc, e⟩ := jcv_o e
  show jJ G X h 1 6 0 [some (.ref a0), some (.int x1), some (.ref a2), none] []
  refine jr_aload_n K (D_at DL_lit_q0 0 rfl) rfl rfl ?_
  refine jr_iconst K (D_at DL_lit_q0 1 rfl) (v := (0 : Int32)) (by decide) ?_
  refine jr_aload_n K (D_at DL_lit_q0 2 rfl) rfl rfl ?_
  refine jr_iload_n K (D_at DL_lit_q0 3 rfl) rfl rfl ?_
  refine jr_callVx K (C_X11_lit hst (d) e) (D_at DL_lit_q0 4 rfl) cv_L_81_X11_lit (As := [.int x1]) (ci := 9) rfl rc rfl rfl (by exact Nat.le_of_ble_eq_true rfl) (kc2 := 0) (ks2 := 0) rfl rfl (fun k9 z9 h9 w9 hz9 => ?_) (fun r9 h9 w9 => ?_)
  · obtain ⟨w1, w2⟩ := w9
    subst h9
    rw [← w1] at hf
    dsimp only at hf
    by_cases c0 : k9 = 2
    · subst c0
      replace hf := (if_pos rfl).symm.trans hf
      cases hf
      refine jr_catch K (E := "java/lang/IndexOutOfBoundsException") (nm := "java/lang/IndexOutOfBoundsException") [] ⟨0, 9, 12, 24⟩ [] rfl (fun z hz => by cases hz) rfl (by decide) (jw_5_0 1 rfl rfl) (jn_5_0 13 rfl rfl) rfl (fun q9 => ?_)
      refine jr_astore_n K (D_at DL_lit_q0 8 rfl) (i := 3) rfl (by decide) (L2 := [_, _, _, _]) rfl ?_
      refine jr_iconst K (D_at DL_lit_q0 9 rfl) (v := (1 : Int32)) (by decide) ?_
      exact jr_iret K E (D_at DL_lit_q0 10 rfl) rfl ⟨rfl, z9, hz9, rfl⟩
    replace hf := (if_neg c0).symm.trans hf
    exact jno hf
  obtain ⟨w1, w2⟩ := w9
  subst h9
  rw [← w1] at hf
  dsimp only at hf
  obtain ⟨h2, e2, hf⟩ := jbind hf
  cases hf
  show jJ G X _ 0 0 _ _ (.int r9 :: _)
  refine jr_i2l K (D_at DL_lit_q0 5 rfl) (v := r9.toInt64) rfl ?_
  refine jr_last K (D_at DL_lit_q0 6 rfl) e2 ?_
  refine jr_goto K (D_at DL_lit_q0 7 rfl) (tgt := 15) (by decide) ?_
  refine jr_iconst K (D_at DL_lit_q0 11 rfl) (v := (0 : Int32)) (by decide) ?_
  exact jr_iret K E (D_at DL_lit_q1 0 rfl) rfl ⟨rfl, h2.1, Nat.le_refl _, rfl⟩)
noncomputable def FL_faded (n : Nat) (a0 : Nat) (x1 : Int32) (a2 : Nat) (h : jH) : Option (Int32 × jH) :=
  (jcv 9 h a0 (F_X11_faded n a0 x1 h)).bind fun q => match q.1 with
  | .inl v => (jasl q.2 a2 0 v.toInt64).bind fun h2 => some ((0 : Int32), h2)
  | .inr k => if k = 0 then some ((1 : Int32), q.2) else none
set_option maxHeartbeats 400000 in
theorem CL_faded {G : jG} {l : Launch} (hst : l.stackTraces = false) (d : Nat) {n : Nat} {a0 : Nat} {x1 : Int32} {a2 : Nat} {h : jH} {res : Int32 × jH} (hf : FL_faded n a0 x1 a2 h = some res) : jC G l mL_faded (d + 8) 1 6 [.ref a0, .int x1, .ref a2] h (jPL res) :=
  jC.of (by decide +kernel) (jcats rfl) (Nat.le_of_ble_eq_true rfl) (fun X K E => by
  unfold FL_faded at hf
  obtain ⟨q, e, hf⟩ := jbind hf
  obtain ⟨rc, e⟩ := jcv_o e
  show jJ G X h 1 6 0 [some (.ref a0), some (.int x1), some (.ref a2), none] []
  refine jr_aload_n K (D_at DL_faded_q0 0 rfl) rfl rfl ?_
  refine jr_iconst K (D_at DL_faded_q0 1 rfl) (v := (0 : Int32)) (by decide) ?_
  refine jr_aload_n K (D_at DL_faded_q0 2 rfl) rfl rfl ?_
  refine jr_iload_n K (D_at DL_faded_q0 3 rfl) rfl rfl ?_
  refine jr_callVx K (C_X11_faded hst (d) e) (D_at DL_faded_q0 4 rfl) cv_L_84_X11_faded (As := [.int x1]) (ci := 9) rfl rc rfl rfl (by exact Nat.le_of_ble_eq_true rfl) (kc2 := 0) (ks2 := 0) rfl rfl (fun k9 z9 h9 w9 hz9 => ?_) (fun r9 h9 w9 => ?_)
  · obtain ⟨w1, w2⟩ := w9
    subst h9
    rw [← w1] at hf
    dsimp only at hf
    by_cases c0 : k9 = 0
    · subst c0
      replace hf := (if_pos rfl).symm.trans hf
      cases hf
      refine jr_catch K (E := "java/lang/IllegalArgumentException") (nm := "java/lang/IllegalArgumentException") [] ⟨0, 9, 12, 13⟩ [] rfl (fun z hz => by cases hz) rfl (by decide) (jw_3_12 6 rfl rfl) (jn_4_8 13 rfl rfl) rfl (fun q9 => ?_)
      refine jr_astore_n K (D_at DL_faded_q0 8 rfl) (i := 3) rfl (by decide) (L2 := [_, _, _, _]) rfl ?_
      refine jr_iconst K (D_at DL_faded_q0 9 rfl) (v := (1 : Int32)) (by decide) ?_
      exact jr_iret K E (D_at DL_faded_q0 10 rfl) rfl ⟨rfl, z9, hz9, rfl⟩
    replace hf := (if_neg c0).symm.trans hf
    exact jno hf
  obtain ⟨w1, w2⟩ := w9
  subst h9
  rw [← w1] at hf
  dsimp only at hf
  obtain ⟨h2, e2, hf⟩ := jbind hf
  cases hf
  show jJ G X _ 0 0 _ _ (.int r9 :: _)
  refine jr_i2l K (D_at DL_faded_q0 5 rfl) (v := r9.toInt64) rfl ?_
  refine jr_last K (D_at DL_faded_q0 6 rfl) e2 ?_
  refine jr_goto K (D_at DL_faded_q0 7 rfl) (tgt := 15) (by decide) ?_
  refine jr_iconst K (D_at DL_faded_q0 11 rfl) (v := (0 : Int32)) (by decide) ?_
  exact jr_iret K E (D_at DL_faded_q1 0 rfl) rfl ⟨rfl, h2.1, Nat.le_refl _, rfl⟩)
noncomputable def FL_lets (n : Nat) (a0 : Nat) (x1 : Int32) (x2 : Int32) (a3 : Nat) (h : jH) : Option (Int32 × jH) :=
  (jcv 9 h a0 (F_X11_lets n a0 x1 x2 h)).bind fun q => match q.1 with
  | .inl v => (jasl q.2 a3 0 v.toInt64).bind fun h2 => some ((0 : Int32), h2)
  | .inr k => if k = 2 then some ((1 : Int32), q.2) else if k = 0 then some ((2 : Int32), q.2) else none
set_option maxHeartbeats 400000 in
theorem CL_lets {G : jG} {l : Launch} (hst : l.stackTraces = false) (d : Nat) {n : Nat} {a0 : Nat} {x1 : Int32} {x2 : Int32} {a3 : Nat} {h : jH} {res : Int32 × jH} (hf : FL_lets n a0 x1 x2 a3 h = some res) : jC G l mL_lets (d + 8) 2 12 [.ref a0, .int x1, .int x2, .ref a3] h (jPL res) :=
  jC.of (by decide +kernel) (jcats rfl) (Nat.le_of_ble_eq_true rfl) (fun X K E => by
  unfold FL_lets at hf
  obtain ⟨q, e, hf⟩ := jbind hf
  obtain ⟨rc, e⟩ := jcv_o e
  show jJ G X h 2 12 0 [some (.ref a0), some (.int x1), some (.int x2), some (.ref a3), none] []
  refine jr_aload_n K (D_at DL_lets_q0 0 rfl) rfl rfl ?_
  refine jr_iconst K (D_at DL_lets_q0 1 rfl) (v := (0 : Int32)) (by decide) ?_
  refine jr_aload_n K (D_at DL_lets_q0 2 rfl) rfl rfl ?_
  refine jr_iload_n K (D_at DL_lets_q0 3 rfl) rfl rfl ?_
  refine jr_iload_n K (D_at DL_lets_q0 4 rfl) rfl rfl ?_
  refine jr_callVx K (C_X11_lets hst (d) e) (D_at DL_lets_q0 5 rfl) cv_L_87_X11_lets (As := [.int x1, .int x2]) (ci := 9) rfl rc rfl rfl (by exact Nat.le_of_ble_eq_true rfl) (kc2 := 0) (ks2 := 0) rfl rfl (fun k9 z9 h9 w9 hz9 => ?_) (fun r9 h9 w9 => ?_)
  · obtain ⟨w1, w2⟩ := w9
    subst h9
    rw [← w1] at hf
    dsimp only at hf
    by_cases c0 : k9 = 2
    · subst c0
      replace hf := (if_pos rfl).symm.trans hf
      cases hf
      refine jr_catch K (E := "java/lang/IndexOutOfBoundsException") (nm := "java/lang/IndexOutOfBoundsException") [] ⟨0, 10, 13, 24⟩ [⟨0, 10, 17, 13⟩] rfl (fun z hz => by cases hz) rfl (by decide) (jw_5_0 1 rfl rfl) (jn_5_0 13 rfl rfl) rfl (fun q9 => ?_)
      refine jr_astore K (D_at DL_lets_q0 9 rfl) (i := 4) (by decide) (L2 := [_, _, _, _, _]) rfl ?_
      refine jr_iconst K (D_at DL_lets_q0 10 rfl) (v := (1 : Int32)) (by decide) ?_
      exact jr_iret K E (D_at DL_lets_q0 11 rfl) rfl ⟨rfl, z9, hz9, rfl⟩
    replace hf := (if_neg c0).symm.trans hf
    by_cases c1 : k9 = 0
    · subst c1
      replace hf := (if_pos rfl).symm.trans hf
      cases hf
      refine jr_catch K (E := "java/lang/IllegalArgumentException") (nm := "java/lang/IllegalArgumentException") [⟨0, 10, 13, 24⟩] ⟨0, 10, 17, 13⟩ [] rfl (fun z hz => Or.inr (by
      simp only [List.mem_cons, List.not_mem_nil, or_false] at hz
      rcases hz with rfl
      · exact ⟨by decide, "java/lang/IndexOutOfBoundsException", (jw_5_0 1 rfl rfl), by decide⟩)) rfl (by decide) (jw_3_12 6 rfl rfl) (jn_4_8 13 rfl rfl) rfl (fun q9 => ?_)
      refine jr_astore K (D_at DL_lets_q1 0 rfl) (i := 4) (by decide) (L2 := [_, _, _, _, _]) rfl ?_
      refine jr_iconst K (D_at DL_lets_q1 1 rfl) (v := (2 : Int32)) (by decide) ?_
      exact jr_iret K E (D_at DL_lets_q1 2 rfl) rfl ⟨rfl, z9, hz9, rfl⟩
    replace hf := (if_neg c1).symm.trans hf
    exact jno hf
  obtain ⟨w1, w2⟩ := w9
  subst h9
  rw [← w1] at hf
  dsimp only at hf
  obtain ⟨h2, e2, hf⟩ := jbind hf
  cases hf
  show jJ G X _ 0 0 _ _ (.int r9 :: _)
  refine jr_i2l K (D_at DL_lets_q0 6 rfl) (v := r9.toInt64) rfl ?_
  refine jr_last K (D_at DL_lets_q0 7 rfl) e2 ?_
  refine jr_goto K (D_at DL_lets_q0 8 rfl) (tgt := 21) (by decide) ?_
  refine jr_iconst K (D_at DL_lets_q1 3 rfl) (v := (0 : Int32)) (by decide) ?_
  exact jr_iret K E (D_at DL_lets_q1 4 rfl) rfl ⟨rfl, h2.1, Nat.le_refl _, rfl⟩)
noncomputable def FL_rests (n : Nat) (a0 : Nat) (x1 : Int32) (a2 : Nat) (h : jH) : Option (Int32 × jH) :=
  (jcv 9 h a0 (F_X11_rests n a0 x1 h)).bind fun q => match q.1 with
  | .inl v => (jasl q.2 a2 0 v.toInt64).bind fun h2 => some ((0 : Int32), h2)
  | .inr k => if k = 2 then some ((1 : Int32), q.2) else none
set_option maxHeartbeats 400000 in
theorem CL_rests {G : jG} {l : Launch} (hst : l.stackTraces = false) (d : Nat) {n : Nat} {a0 : Nat} {x1 : Int32} {a2 : Nat} {h : jH} {res : Int32 × jH} (hf : FL_rests n a0 x1 a2 h = some res) : jC G l mL_rests (d + 8) 1 6 [.ref a0, .int x1, .ref a2] h (jPL res) :=
  jC.of (by decide +kernel) (jcats rfl) (Nat.le_of_ble_eq_true rfl) (fun X K E => by
  unfold FL_rests at hf
  obtain ⟨q, e, hf⟩ := jbind hf
  obtain ⟨rc, e⟩ := jcv_o e
  show jJ G X h 1 6 0 [some (.ref a0), some (.int x1), some (.ref a2), none] []
  refine jr_aload_n K (D_at DL_rests_q0 0 rfl) rfl rfl ?_
  refine jr_iconst K (D_at DL_rests_q0 1 rfl) (v := (0 : Int32)) (by decide) ?_
  refine jr_aload_n K (D_at DL_rests_q0 2 rfl) rfl rfl ?_
  refine jr_iload_n K (D_at DL_rests_q0 3 rfl) rfl rfl ?_
  refine jr_callVx K (C_X11_rests hst (d) e) (D_at DL_rests_q0 4 rfl) cv_L_90_X11_rests (As := [.int x1]) (ci := 9) rfl rc rfl rfl (by exact Nat.le_of_ble_eq_true rfl) (kc2 := 0) (ks2 := 0) rfl rfl (fun k9 z9 h9 w9 hz9 => ?_) (fun r9 h9 w9 => ?_)
  · obtain ⟨w1, w2⟩ := w9
    subst h9
    rw [← w1] at hf
    dsimp only at hf
    by_cases c0 : k9 = 2
    · subst c0
      replace hf := (if_pos rfl).symm.trans hf
      cases hf
      refine jr_catch K (E := "java/lang/IndexOutOfBoundsException") (nm := "java/lang/IndexOutOfBoundsException") [] ⟨0, 9, 12, 24⟩ [] rfl (fun z hz => by cases hz) rfl (by decide) (jw_5_0 1 rfl rfl) (jn_5_0 13 rfl rfl) rfl (fun q9 => ?_)
      refine jr_astore_n K (D_at DL_rests_q0 8 rfl) (i := 3) rfl (by decide) (L2 := [_, _, _, _]) rfl ?_
      refine jr_iconst K (D_at DL_rests_q0 9 rfl) (v := (1 : Int32)) (by decide) ?_
      exact jr_iret K E (D_at DL_rests_q0 10 rfl) rfl ⟨rfl, z9, hz9, rfl⟩
    replace hf := (if_neg c0).symm.trans hf
    exact jno hf
  obtain ⟨w1, w2⟩ := w9
  subst h9
  rw [← w1] at hf
  dsimp only at hf
  obtain ⟨h2, e2, hf⟩ := jbind hf
  cases hf
  show jJ G X _ 0 0 _ _ (.int r9 :: _)
  refine jr_i2l K (D_at DL_rests_q0 5 rfl) (v := r9.toInt64) rfl ?_
  refine jr_last K (D_at DL_rests_q0 6 rfl) e2 ?_
  refine jr_goto K (D_at DL_rests_q0 7 rfl) (tgt := 15) (by decide) ?_
  refine jr_iconst K (D_at DL_rests_q0 11 rfl) (v := (0 : Int32)) (by decide) ?_
  exact jr_iret K E (D_at DL_rests_q1 0 rfl) rfl ⟨rfl, h2.1, Nat.le_refl _, rfl⟩)
noncomputable def FL_odds (n : Nat) (a0 : Nat) (x1 : Int32) (x2 : Int32) (a3 : Nat) (h : jH) : Option (Int32 × jH) :=
  (jcv 9 h a0 (F_X11_odds n a0 x1 x2 h)).bind fun q => match q.1 with
  | .inl v => (jasl q.2 a3 0 v.toInt64).bind fun h2 => some ((0 : Int32), h2)
  | .inr k => if k = 2 then some ((1 : Int32), q.2) else if k = 0 then some ((2 : Int32), q.2) else none
set_option maxHeartbeats 400000 in
theorem CL_odds {G : jG} {l : Launch} (hst : l.stackTraces = false) (d : Nat) {n : Nat} {a0 : Nat} {x1 : Int32} {x2 : Int32} {a3 : Nat} {h : jH} {res : Int32 × jH} (hf : FL_odds n a0 x1 x2 a3 h = some res) : jC G l mL_odds (d + 8) 2 12 [.ref a0, .int x1, .int x2, .ref a3] h (jPL res) :=
  jC.of (by decide +kernel) (jcats rfl) (Nat.le_of_ble_eq_true rfl) (fun X K E => by
  unfold FL_odds at hf
  obtain ⟨q, e, hf⟩ := jbind hf
  obtain ⟨rc, e⟩ := jcv_o e
  show jJ G X h 2 12 0 [some (.ref a0), some (.int x1), some (.int x2), some (.ref a3), none] []
  refine jr_aload_n K (D_at DL_odds_q0 0 rfl) rfl rfl ?_
  refine jr_iconst K (D_at DL_odds_q0 1 rfl) (v := (0 : Int32)) (by decide) ?_
  refine jr_aload_n K (D_at DL_odds_q0 2 rfl) rfl rfl ?_
  refine jr_iload_n K (D_at DL_odds_q0 3 rfl) rfl rfl ?_
  refine jr_iload_n K (D_at DL_odds_q0 4 rfl) rfl rfl ?_
  refine jr_callVx K (C_X11_odds hst (d) e) (D_at DL_odds_q0 5 rfl) cv_L_93_X11_odds (As := [.int x1, .int x2]) (ci := 9) rfl rc rfl rfl (by exact Nat.le_of_ble_eq_true rfl) (kc2 := 0) (ks2 := 0) rfl rfl (fun k9 z9 h9 w9 hz9 => ?_) (fun r9 h9 w9 => ?_)
  · obtain ⟨w1, w2⟩ := w9
    subst h9
    rw [← w1] at hf
    dsimp only at hf
    by_cases c0 : k9 = 2
    · subst c0
      replace hf := (if_pos rfl).symm.trans hf
      cases hf
      refine jr_catch K (E := "java/lang/IndexOutOfBoundsException") (nm := "java/lang/IndexOutOfBoundsException") [] ⟨0, 10, 13, 24⟩ [⟨0, 10, 17, 13⟩] rfl (fun z hz => by cases hz) rfl (by decide) (jw_5_0 1 rfl rfl) (jn_5_0 13 rfl rfl) rfl (fun q9 => ?_)
      refine jr_astore K (D_at DL_odds_q0 9 rfl) (i := 4) (by decide) (L2 := [_, _, _, _, _]) rfl ?_
      refine jr_iconst K (D_at DL_odds_q0 10 rfl) (v := (1 : Int32)) (by decide) ?_
      exact jr_iret K E (D_at DL_odds_q0 11 rfl) rfl ⟨rfl, z9, hz9, rfl⟩
    replace hf := (if_neg c0).symm.trans hf
    by_cases c1 : k9 = 0
    · subst c1
      replace hf := (if_pos rfl).symm.trans hf
      cases hf
      refine jr_catch K (E := "java/lang/IllegalArgumentException") (nm := "java/lang/IllegalArgumentException") [⟨0, 10, 13, 24⟩] ⟨0, 10, 17, 13⟩ [] rfl (fun z hz => Or.inr (by
      simp only [List.mem_cons, List.not_mem_nil, or_false] at hz
      rcases hz with rfl
      · exact ⟨by decide, "java/lang/IndexOutOfBoundsException", (jw_5_0 1 rfl rfl), by decide⟩)) rfl (by decide) (jw_3_12 6 rfl rfl) (jn_4_8 13 rfl rfl) rfl (fun q9 => ?_)
      refine jr_astore K (D_at DL_odds_q1 0 rfl) (i := 4) (by decide) (L2 := [_, _, _, _, _]) rfl ?_
      refine jr_iconst K (D_at DL_odds_q1 1 rfl) (v := (2 : Int32)) (by decide) ?_
      exact jr_iret K E (D_at DL_odds_q1 2 rfl) rfl ⟨rfl, z9, hz9, rfl⟩
    replace hf := (if_neg c1).symm.trans hf
    exact jno hf
  obtain ⟨w1, w2⟩ := w9
  subst h9
  rw [← w1] at hf
  dsimp only at hf
  obtain ⟨h2, e2, hf⟩ := jbind hf
  cases hf
  show jJ G X _ 0 0 _ _ (.int r9 :: _)
  refine jr_i2l K (D_at DL_odds_q0 6 rfl) (v := r9.toInt64) rfl ?_
  refine jr_last K (D_at DL_odds_q0 7 rfl) e2 ?_
  refine jr_goto K (D_at DL_odds_q0 8 rfl) (tgt := 21) (by decide) ?_
  refine jr_iconst K (D_at DL_odds_q1 3 rfl) (v := (0 : Int32)) (by decide) ?_
  exact jr_iret K E (D_at DL_odds_q1 4 rfl) rfl ⟨rfl, h2.1, Nat.le_refl _, rfl⟩)
noncomputable def FL_ahead (n : Nat) (a0 : Nat) (x1 : Int32) (x2 : Int32) (a3 : Nat) (h : jH) : Option (Int32 × jH) :=
  (jcv 9 h a0 (F_X11_ahead n a0 x1 x2 h)).bind fun q => match q.1 with
  | .inl v => (jasl q.2 a3 0 v.toInt64).bind fun h2 => some ((0 : Int32), h2)
  | .inr k => if k = 2 then some ((1 : Int32), q.2) else if k = 0 then some ((2 : Int32), q.2) else none
set_option maxHeartbeats 400000 in
theorem CL_ahead {G : jG} {l : Launch} (hst : l.stackTraces = false) (d : Nat) {n : Nat} {a0 : Nat} {x1 : Int32} {x2 : Int32} {a3 : Nat} {h : jH} {res : Int32 × jH} (hf : FL_ahead n a0 x1 x2 a3 h = some res) : jC G l mL_ahead (d + 8) 2 12 [.ref a0, .int x1, .int x2, .ref a3] h (jPL res) :=
  jC.of (by decide +kernel) (jcats rfl) (Nat.le_of_ble_eq_true rfl) (fun X K E => by
  unfold FL_ahead at hf
  obtain ⟨q, e, hf⟩ := jbind hf
  obtain ⟨rc, e⟩ := jcv_o e
  show jJ G X h 2 12 0 [some (.ref a0), some (.int x1), some (.int x2), some (.ref a3), none] []
  refine jr_aload_n K (D_at DL_ahead_q0 0 rfl) rfl rfl ?_
  refine jr_iconst K (D_at DL_ahead_q0 1 rfl) (v := (0 : Int32)) (by decide) ?_
  refine jr_aload_n K (D_at DL_ahead_q0 2 rfl) rfl rfl ?_
  refine jr_iload_n K (D_at DL_ahead_q0 3 rfl) rfl rfl ?_
  refine jr_iload_n K (D_at DL_ahead_q0 4 rfl) rfl rfl ?_
  refine jr_callVx K (C_X11_ahead hst (d) e) (D_at DL_ahead_q0 5 rfl) cv_L_96_X11_ahead (As := [.int x1, .int x2]) (ci := 9) rfl rc rfl rfl (by exact Nat.le_of_ble_eq_true rfl) (kc2 := 0) (ks2 := 0) rfl rfl (fun k9 z9 h9 w9 hz9 => ?_) (fun r9 h9 w9 => ?_)
  · obtain ⟨w1, w2⟩ := w9
    subst h9
    rw [← w1] at hf
    dsimp only at hf
    by_cases c0 : k9 = 2
    · subst c0
      replace hf := (if_pos rfl).symm.trans hf
      cases hf
      refine jr_catch K (E := "java/lang/IndexOutOfBoundsException") (nm := "java/lang/IndexOutOfBoundsException") [] ⟨0, 10, 13, 24⟩ [⟨0, 10, 17, 13⟩] rfl (fun z hz => by cases hz) rfl (by decide) (jw_5_0 1 rfl rfl) (jn_5_0 13 rfl rfl) rfl (fun q9 => ?_)
      refine jr_astore K (D_at DL_ahead_q0 9 rfl) (i := 4) (by decide) (L2 := [_, _, _, _, _]) rfl ?_
      refine jr_iconst K (D_at DL_ahead_q0 10 rfl) (v := (1 : Int32)) (by decide) ?_
      exact jr_iret K E (D_at DL_ahead_q0 11 rfl) rfl ⟨rfl, z9, hz9, rfl⟩
    replace hf := (if_neg c0).symm.trans hf
    by_cases c1 : k9 = 0
    · subst c1
      replace hf := (if_pos rfl).symm.trans hf
      cases hf
      refine jr_catch K (E := "java/lang/IllegalArgumentException") (nm := "java/lang/IllegalArgumentException") [⟨0, 10, 13, 24⟩] ⟨0, 10, 17, 13⟩ [] rfl (fun z hz => Or.inr (by
      simp only [List.mem_cons, List.not_mem_nil, or_false] at hz
      rcases hz with rfl
      · exact ⟨by decide, "java/lang/IndexOutOfBoundsException", (jw_5_0 1 rfl rfl), by decide⟩)) rfl (by decide) (jw_3_12 6 rfl rfl) (jn_4_8 13 rfl rfl) rfl (fun q9 => ?_)
      refine jr_astore K (D_at DL_ahead_q1 0 rfl) (i := 4) (by decide) (L2 := [_, _, _, _, _]) rfl ?_
      refine jr_iconst K (D_at DL_ahead_q1 1 rfl) (v := (2 : Int32)) (by decide) ?_
      exact jr_iret K E (D_at DL_ahead_q1 2 rfl) rfl ⟨rfl, z9, hz9, rfl⟩
    replace hf := (if_neg c1).symm.trans hf
    exact jno hf
  obtain ⟨w1, w2⟩ := w9
  subst h9
  rw [← w1] at hf
  dsimp only at hf
  obtain ⟨h2, e2, hf⟩ := jbind hf
  cases hf
  show jJ G X _ 0 0 _ _ (.int r9 :: _)
  refine jr_i2l K (D_at DL_ahead_q0 6 rfl) (v := r9.toInt64) rfl ?_
  refine jr_last K (D_at DL_ahead_q0 7 rfl) e2 ?_
  refine jr_goto K (D_at DL_ahead_q0 8 rfl) (tgt := 21) (by decide) ?_
  refine jr_iconst K (D_at DL_ahead_q1 3 rfl) (v := (0 : Int32)) (by decide) ?_
  exact jr_iret K E (D_at DL_ahead_q1 4 rfl) rfl ⟨rfl, h2.1, Nat.le_refl _, rfl⟩)
noncomputable def FL_trial (n : Nat) (a0 : Nat) (x1 : Int32) (x2 : Int32) (a3 : Nat) (h : jH) : Option (Int32 × jH) :=
  (jcv 9 h a0 (F_X11_trial n a0 x1 x2 h)).bind fun q => match q.1 with
  | .inl v => (jasl q.2 a3 0 v.toInt64).bind fun h2 => some ((0 : Int32), h2)
  | .inr k => if k = 0 then some ((1 : Int32), q.2) else none
set_option maxHeartbeats 400000 in
theorem CL_trial {G : jG} {l : Launch} (hst : l.stackTraces = false) (d : Nat) {n : Nat} {a0 : Nat} {x1 : Int32} {x2 : Int32} {a3 : Nat} {h : jH} {res : Int32 × jH} (hf : FL_trial n a0 x1 x2 a3 h = some res) : jC G l mL_trial (d + 8) 1 6 [.ref a0, .int x1, .int x2, .ref a3] h (jPL res) :=
  jC.of (by decide +kernel) (jcats rfl) (Nat.le_of_ble_eq_true rfl) (fun X K E => by
  unfold FL_trial at hf
  obtain ⟨q, e, hf⟩ := jbind hf
  obtain ⟨rc, e⟩ := jcv_o e
  show jJ G X h 1 6 0 [some (.ref a0), some (.int x1), some (.int x2), some (.ref a3), none] []
  refine jr_aload_n K (D_at DL_trial_q0 0 rfl) rfl rfl ?_
  refine jr_iconst K (D_at DL_trial_q0 1 rfl) (v := (0 : Int32)) (by decide) ?_
  refine jr_aload_n K (D_at DL_trial_q0 2 rfl) rfl rfl ?_
  refine jr_iload_n K (D_at DL_trial_q0 3 rfl) rfl rfl ?_
  refine jr_iload_n K (D_at DL_trial_q0 4 rfl) rfl rfl ?_
  refine jr_callVx K (C_X11_trial hst (d) e) (D_at DL_trial_q0 5 rfl) cv_L_99_X11_trial (As := [.int x1, .int x2]) (ci := 9) rfl rc rfl rfl (by exact Nat.le_of_ble_eq_true rfl) (kc2 := 0) (ks2 := 0) rfl rfl (fun k9 z9 h9 w9 hz9 => ?_) (fun r9 h9 w9 => ?_)
  · obtain ⟨w1, w2⟩ := w9
    subst h9
    rw [← w1] at hf
    dsimp only at hf
    by_cases c0 : k9 = 0
    · subst c0
      replace hf := (if_pos rfl).symm.trans hf
      cases hf
      refine jr_catch K (E := "java/lang/IllegalArgumentException") (nm := "java/lang/IllegalArgumentException") [] ⟨0, 10, 13, 13⟩ [] rfl (fun z hz => by cases hz) rfl (by decide) (jw_3_12 6 rfl rfl) (jn_4_8 13 rfl rfl) rfl (fun q9 => ?_)
      refine jr_astore K (D_at DL_trial_q0 9 rfl) (i := 4) (by decide) (L2 := [_, _, _, _, _]) rfl ?_
      refine jr_iconst K (D_at DL_trial_q0 10 rfl) (v := (1 : Int32)) (by decide) ?_
      exact jr_iret K E (D_at DL_trial_q0 11 rfl) rfl ⟨rfl, z9, hz9, rfl⟩
    replace hf := (if_neg c0).symm.trans hf
    exact jno hf
  obtain ⟨w1, w2⟩ := w9
  subst h9
  rw [← w1] at hf
  dsimp only at hf
  obtain ⟨h2, e2, hf⟩ := jbind hf
  cases hf
  show jJ G X _ 0 0 _ _ (.int r9 :: _)
  refine jr_i2l K (D_at DL_trial_q0 6 rfl) (v := r9.toInt64) rfl ?_
  refine jr_last K (D_at DL_trial_q0 7 rfl) e2 ?_
  refine jr_goto K (D_at DL_trial_q0 8 rfl) (tgt := 17) (by decide) ?_
  refine jr_iconst K (D_at DL_trial_q1 0 rfl) (v := (0 : Int32)) (by decide) ?_
  exact jr_iret K E (D_at DL_trial_q1 1 rfl) rfl ⟨rfl, h2.1, Nat.le_refl _, rfl⟩)
noncomputable def FL_span (n : Nat) (a0 : Nat) (x1 : Int32) (x2 : Int32) (a3 : Nat) (h : jH) : Option (Int32 × jH) :=
  (jcv 9 h a0 (F_X11_span n a0 x1 x2 h)).bind fun q => match q.1 with
  | .inl v => (jasl q.2 a3 0 v.toInt64).bind fun h2 => some ((0 : Int32), h2)
  | .inr k => if k = 0 then some ((1 : Int32), q.2) else none
set_option maxHeartbeats 400000 in
theorem CL_span {G : jG} {l : Launch} (hst : l.stackTraces = false) (d : Nat) {n : Nat} {a0 : Nat} {x1 : Int32} {x2 : Int32} {a3 : Nat} {h : jH} {res : Int32 × jH} (hf : FL_span n a0 x1 x2 a3 h = some res) : jC G l mL_span (d + 8) 1 6 [.ref a0, .int x1, .int x2, .ref a3] h (jPL res) :=
  jC.of (by decide +kernel) (jcats rfl) (Nat.le_of_ble_eq_true rfl) (fun X K E => by
  unfold FL_span at hf
  obtain ⟨q, e, hf⟩ := jbind hf
  obtain ⟨rc, e⟩ := jcv_o e
  show jJ G X h 1 6 0 [some (.ref a0), some (.int x1), some (.int x2), some (.ref a3), none] []
  refine jr_aload_n K (D_at DL_span_q0 0 rfl) rfl rfl ?_
  refine jr_iconst K (D_at DL_span_q0 1 rfl) (v := (0 : Int32)) (by decide) ?_
  refine jr_aload_n K (D_at DL_span_q0 2 rfl) rfl rfl ?_
  refine jr_iload_n K (D_at DL_span_q0 3 rfl) rfl rfl ?_
  refine jr_iload_n K (D_at DL_span_q0 4 rfl) rfl rfl ?_
  refine jr_callVx K (C_X11_span hst (d) e) (D_at DL_span_q0 5 rfl) cv_L_102_X11_span (As := [.int x1, .int x2]) (ci := 9) rfl rc rfl rfl (by exact Nat.le_of_ble_eq_true rfl) (kc2 := 0) (ks2 := 0) rfl rfl (fun k9 z9 h9 w9 hz9 => ?_) (fun r9 h9 w9 => ?_)
  · obtain ⟨w1, w2⟩ := w9
    subst h9
    rw [← w1] at hf
    dsimp only at hf
    by_cases c0 : k9 = 0
    · subst c0
      replace hf := (if_pos rfl).symm.trans hf
      cases hf
      refine jr_catch K (E := "java/lang/IllegalArgumentException") (nm := "java/lang/IllegalArgumentException") [] ⟨0, 10, 13, 13⟩ [] rfl (fun z hz => by cases hz) rfl (by decide) (jw_3_12 6 rfl rfl) (jn_4_8 13 rfl rfl) rfl (fun q9 => ?_)
      refine jr_astore K (D_at DL_span_q0 9 rfl) (i := 4) (by decide) (L2 := [_, _, _, _, _]) rfl ?_
      refine jr_iconst K (D_at DL_span_q0 10 rfl) (v := (1 : Int32)) (by decide) ?_
      exact jr_iret K E (D_at DL_span_q0 11 rfl) rfl ⟨rfl, z9, hz9, rfl⟩
    replace hf := (if_neg c0).symm.trans hf
    exact jno hf
  obtain ⟨w1, w2⟩ := w9
  subst h9
  rw [← w1] at hf
  dsimp only at hf
  obtain ⟨h2, e2, hf⟩ := jbind hf
  cases hf
  show jJ G X _ 0 0 _ _ (.int r9 :: _)
  refine jr_i2l K (D_at DL_span_q0 6 rfl) (v := r9.toInt64) rfl ?_
  refine jr_last K (D_at DL_span_q0 7 rfl) e2 ?_
  refine jr_goto K (D_at DL_span_q0 8 rfl) (tgt := 17) (by decide) ?_
  refine jr_iconst K (D_at DL_span_q1 0 rfl) (v := (0 : Int32)) (by decide) ?_
  exact jr_iret K E (D_at DL_span_q1 1 rfl) rfl ⟨rfl, h2.1, Nat.le_refl _, rfl⟩)
noncomputable def FL_led (n : Nat) (a0 : Nat) (x1 : Int32) (x2 : Int32) (a3 : Nat) (h : jH) : Option (Int32 × jH) :=
  (jcv 9 h a0 (F_X11_led n a0 x1 x2 h)).bind fun q => match q.1 with
  | .inl v => (jasl q.2 a3 0 v.toInt64).bind fun h2 => some ((0 : Int32), h2)
  | .inr k => if k = 2 then some ((1 : Int32), q.2) else none
set_option maxHeartbeats 400000 in
theorem CL_led {G : jG} {l : Launch} (hst : l.stackTraces = false) (d : Nat) {n : Nat} {a0 : Nat} {x1 : Int32} {x2 : Int32} {a3 : Nat} {h : jH} {res : Int32 × jH} (hf : FL_led n a0 x1 x2 a3 h = some res) : jC G l mL_led (d + 8) 1 6 [.ref a0, .int x1, .int x2, .ref a3] h (jPL res) :=
  jC.of (by decide +kernel) (jcats rfl) (Nat.le_of_ble_eq_true rfl) (fun X K E => by
  unfold FL_led at hf
  obtain ⟨q, e, hf⟩ := jbind hf
  obtain ⟨rc, e⟩ := jcv_o e
  show jJ G X h 1 6 0 [some (.ref a0), some (.int x1), some (.int x2), some (.ref a3), none] []
  refine jr_aload_n K (D_at DL_led_q0 0 rfl) rfl rfl ?_
  refine jr_iconst K (D_at DL_led_q0 1 rfl) (v := (0 : Int32)) (by decide) ?_
  refine jr_aload_n K (D_at DL_led_q0 2 rfl) rfl rfl ?_
  refine jr_iload_n K (D_at DL_led_q0 3 rfl) rfl rfl ?_
  refine jr_iload_n K (D_at DL_led_q0 4 rfl) rfl rfl ?_
  refine jr_callVx K (C_X11_led hst (d) e) (D_at DL_led_q0 5 rfl) cv_L_105_X11_led (As := [.int x1, .int x2]) (ci := 9) rfl rc rfl rfl (by exact Nat.le_of_ble_eq_true rfl) (kc2 := 0) (ks2 := 0) rfl rfl (fun k9 z9 h9 w9 hz9 => ?_) (fun r9 h9 w9 => ?_)
  · obtain ⟨w1, w2⟩ := w9
    subst h9
    rw [← w1] at hf
    dsimp only at hf
    by_cases c0 : k9 = 2
    · subst c0
      replace hf := (if_pos rfl).symm.trans hf
      cases hf
      refine jr_catch K (E := "java/lang/IndexOutOfBoundsException") (nm := "java/lang/IndexOutOfBoundsException") [] ⟨0, 10, 13, 24⟩ [] rfl (fun z hz => by cases hz) rfl (by decide) (jw_5_0 1 rfl rfl) (jn_5_0 13 rfl rfl) rfl (fun q9 => ?_)
      refine jr_astore K (D_at DL_led_q0 9 rfl) (i := 4) (by decide) (L2 := [_, _, _, _, _]) rfl ?_
      refine jr_iconst K (D_at DL_led_q0 10 rfl) (v := (1 : Int32)) (by decide) ?_
      exact jr_iret K E (D_at DL_led_q0 11 rfl) rfl ⟨rfl, z9, hz9, rfl⟩
    replace hf := (if_neg c0).symm.trans hf
    exact jno hf
  obtain ⟨w1, w2⟩ := w9
  subst h9
  rw [← w1] at hf
  dsimp only at hf
  obtain ⟨h2, e2, hf⟩ := jbind hf
  cases hf
  show jJ G X _ 0 0 _ _ (.int r9 :: _)
  refine jr_i2l K (D_at DL_led_q0 6 rfl) (v := r9.toInt64) rfl ?_
  refine jr_last K (D_at DL_led_q0 7 rfl) e2 ?_
  refine jr_goto K (D_at DL_led_q0 8 rfl) (tgt := 17) (by decide) ?_
  refine jr_iconst K (D_at DL_led_q1 0 rfl) (v := (0 : Int32)) (by decide) ?_
  exact jr_iret K E (D_at DL_led_q1 1 rfl) rfl ⟨rfl, h2.1, Nat.le_refl _, rfl⟩)
noncomputable def FL_log (n : Nat) (a0 : Nat) (x1 : Int32) (x2 : Int32) (a3 : Nat) (h : jH) : Option (Int32 × jH) :=
  (jcv 9 h a0 (F_X11_log n a0 x1 x2 h)).bind fun q => match q.1 with
  | .inl v => (jasl q.2 a3 0 v.toInt64).bind fun h2 => some ((0 : Int32), h2)
  | .inr k => if k = 4 then some ((1 : Int32), q.2) else none
set_option maxHeartbeats 400000 in
theorem CL_log {G : jG} {l : Launch} (hst : l.stackTraces = false) (d : Nat) {n : Nat} {a0 : Nat} {x1 : Int32} {x2 : Int32} {a3 : Nat} {h : jH} {res : Int32 × jH} (hf : FL_log n a0 x1 x2 a3 h = some res) : jC G l mL_log (d + 7) 1 6 [.ref a0, .int x1, .int x2, .ref a3] h (jPL res) :=
  jC.of (by decide +kernel) (jcats rfl) (Nat.le_of_ble_eq_true rfl) (fun X K E => by
  unfold FL_log at hf
  obtain ⟨q, e, hf⟩ := jbind hf
  obtain ⟨rc, e⟩ := jcv_o e
  show jJ G X h 1 6 0 [some (.ref a0), some (.int x1), some (.int x2), some (.ref a3), none] []
  refine jr_aload_n K (D_at DL_log_q0 0 rfl) rfl rfl ?_
  refine jr_iconst K (D_at DL_log_q0 1 rfl) (v := (0 : Int32)) (by decide) ?_
  refine jr_aload_n K (D_at DL_log_q0 2 rfl) rfl rfl ?_
  refine jr_iload_n K (D_at DL_log_q0 3 rfl) rfl rfl ?_
  refine jr_iload_n K (D_at DL_log_q0 4 rfl) rfl rfl ?_
  refine jr_callVx K (C_X11_log hst (d) e) (D_at DL_log_q0 5 rfl) cv_L_108_X11_log (As := [.int x1, .int x2]) (ci := 9) rfl rc rfl rfl (by exact Nat.le_of_ble_eq_true rfl) (kc2 := 0) (ks2 := 0) rfl rfl (fun k9 z9 h9 w9 hz9 => ?_) (fun r9 h9 w9 => ?_)
  · obtain ⟨w1, w2⟩ := w9
    subst h9
    rw [← w1] at hf
    dsimp only at hf
    by_cases c0 : k9 = 4
    · subst c0
      replace hf := (if_pos rfl).symm.trans hf
      cases hf
      refine jr_catch K (E := "java/util/NoSuchElementException") (nm := "java/util/NoSuchElementException") [] ⟨0, 10, 13, 26⟩ [] rfl (fun z hz => by cases hz) rfl (by decide) (jw_5_0 2 rfl rfl) (jn_5_2 10 rfl rfl) rfl (fun q9 => ?_)
      refine jr_astore K (D_at DL_log_q0 9 rfl) (i := 4) (by decide) (L2 := [_, _, _, _, _]) rfl ?_
      refine jr_iconst K (D_at DL_log_q0 10 rfl) (v := (1 : Int32)) (by decide) ?_
      exact jr_iret K E (D_at DL_log_q0 11 rfl) rfl ⟨rfl, z9, hz9, rfl⟩
    replace hf := (if_neg c0).symm.trans hf
    exact jno hf
  obtain ⟨w1, w2⟩ := w9
  subst h9
  rw [← w1] at hf
  dsimp only at hf
  obtain ⟨h2, e2, hf⟩ := jbind hf
  cases hf
  show jJ G X _ 0 0 _ _ (.int r9 :: _)
  refine jr_i2l K (D_at DL_log_q0 6 rfl) (v := r9.toInt64) rfl ?_
  refine jr_last K (D_at DL_log_q0 7 rfl) e2 ?_
  refine jr_goto K (D_at DL_log_q0 8 rfl) (tgt := 17) (by decide) ?_
  refine jr_iconst K (D_at DL_log_q1 0 rfl) (v := (0 : Int32)) (by decide) ?_
  exact jr_iret K E (D_at DL_log_q1 1 rfl) rfl ⟨rfl, h2.1, Nat.le_refl _, rfl⟩)
end
