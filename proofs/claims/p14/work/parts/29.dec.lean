section
def TL_pole_q0 : List (Nat × Instr × Nat) := [(0, .aload_n 1, 1), (1, .iconst 0, 1), (2, .aload_n 0, 1), (3, .invokevirtual 7, 3), (6, .i2l, 1), (7, .lastore, 1), (8, .goto 9, 3), (11, .astore_n 2, 1), (12, .iconst 1, 1), (13, .ireturn, 1), (14, .astore_n 2, 1), (15, .iconst 2, 1)]
theorem DL_pole_q0 : ∀ q ∈ TL_pole_q0, decode cL_pole q.1 = .ok q.2 := dec_wk _ 0 (by decide +kernel)
def TL_pole_q1 : List (Nat × Instr × Nat) := [(16, .ireturn, 1), (17, .iconst 0, 1), (18, .ireturn, 1)]
theorem DL_pole_q1 : ∀ q ∈ TL_pole_q1, decode cL_pole q.1 = .ok q.2 := dec_wk _ 16 (by decide +kernel)
def TL_law_q0 : List (Nat × Instr × Nat) := [(0, .aload_n 1, 1), (1, .iconst 0, 1), (2, .aload_n 0, 1), (3, .invokevirtual 17, 3), (6, .i2l, 1), (7, .lastore, 1), (8, .goto 6, 3), (11, .astore_n 2, 1), (12, .iconst 1, 1), (13, .ireturn, 1), (14, .iconst 0, 1), (15, .ireturn, 1)]
theorem DL_law_q0 : ∀ q ∈ TL_law_q0, decode cL_law q.1 = .ok q.2 := dec_wk _ 0 (by decide +kernel)
def TL_ring_q0 : List (Nat × Instr × Nat) := [(0, .aload_n 3, 1), (1, .iconst 0, 1), (2, .aload_n 0, 1), (3, .iload_n 1, 1), (4, .iload_n 2, 1), (5, .invokevirtual 20, 3), (8, .i2l, 1), (9, .lastore, 1), (10, .goto 11, 3), (13, .astore 4, 2), (15, .iconst 1, 1), (16, .ireturn, 1)]
theorem DL_ring_q0 : ∀ q ∈ TL_ring_q0, decode cL_ring q.1 = .ok q.2 := dec_wk _ 0 (by decide +kernel)
def TL_ring_q1 : List (Nat × Instr × Nat) := [(17, .astore 4, 2), (19, .iconst 2, 1), (20, .ireturn, 1), (21, .iconst 0, 1), (22, .ireturn, 1)]
theorem DL_ring_q1 : ∀ q ∈ TL_ring_q1, decode cL_ring q.1 = .ok q.2 := dec_wk _ 17 (by decide +kernel)
def TL_pull_q0 : List (Nat × Instr × Nat) := [(0, .aload 4, 2), (2, .iconst 0, 1), (3, .aload_n 0, 1), (4, .iload_n 1, 1), (5, .iload_n 2, 1), (6, .iload_n 3, 1), (7, .invokevirtual 28, 3), (10, .i2l, 1), (11, .lastore, 1), (12, .goto 11, 3), (15, .astore 5, 2), (17, .iconst 1, 1)]
theorem DL_pull_q0 : ∀ q ∈ TL_pull_q0, decode cL_pull q.1 = .ok q.2 := dec_wk _ 0 (by decide +kernel)
def TL_pull_q1 : List (Nat × Instr × Nat) := [(18, .ireturn, 1), (19, .astore 5, 2), (21, .iconst 2, 1), (22, .ireturn, 1), (23, .iconst 0, 1), (24, .ireturn, 1)]
theorem DL_pull_q1 : ∀ q ∈ TL_pull_q1, decode cL_pull q.1 = .ok q.2 := dec_wk _ 18 (by decide +kernel)
def TL_free_q0 : List (Nat × Instr × Nat) := [(0, .aload_n 2, 1), (1, .iconst 0, 1), (2, .aload_n 0, 1), (3, .iload_n 1, 1), (4, .invokevirtual 32, 3), (7, .i2l, 1), (8, .lastore, 1), (9, .goto 9, 3), (12, .astore_n 3, 1), (13, .iconst 1, 1), (14, .ireturn, 1), (15, .astore_n 3, 1)]
theorem DL_free_q0 : ∀ q ∈ TL_free_q0, decode cL_free q.1 = .ok q.2 := dec_wk _ 0 (by decide +kernel)
def TL_free_q1 : List (Nat × Instr × Nat) := [(16, .iconst 2, 1), (17, .ireturn, 1), (18, .iconst 0, 1), (19, .ireturn, 1)]
theorem DL_free_q1 : ∀ q ∈ TL_free_q1, decode cL_free q.1 = .ok q.2 := dec_wk _ 16 (by decide +kernel)
def TL_snag_q0 : List (Nat × Instr × Nat) := [(0, .aload_n 2, 1), (1, .iconst 0, 1), (2, .aload_n 0, 1), (3, .iload_n 1, 1), (4, .invokevirtual 38, 3), (7, .i2l, 1), (8, .lastore, 1), (9, .goto 9, 3), (12, .astore_n 3, 1), (13, .iconst 1, 1), (14, .ireturn, 1), (15, .astore_n 3, 1)]
theorem DL_snag_q0 : ∀ q ∈ TL_snag_q0, decode cL_snag q.1 = .ok q.2 := dec_wk _ 0 (by decide +kernel)
def TL_snag_q1 : List (Nat × Instr × Nat) := [(16, .iconst 2, 1), (17, .ireturn, 1), (18, .iconst 0, 1), (19, .ireturn, 1)]
theorem DL_snag_q1 : ∀ q ∈ TL_snag_q1, decode cL_snag q.1 = .ok q.2 := dec_wk _ 16 (by decide +kernel)
def TL_hook_q0 : List (Nat × Instr × Nat) := [(0, .aload_n 3, 1), (1, .iconst 0, 1), (2, .aload_n 0, 1), (3, .iload_n 1, 1), (4, .iload_n 2, 1), (5, .invokevirtual 41, 3), (8, .ifCond .eq 7, 3), (11, .lconst 1, 1), (12, .goto 4, 3), (15, .lconst 0, 1), (16, .lastore, 1), (17, .goto 7, 3)]
theorem DL_hook_q0 : ∀ q ∈ TL_hook_q0, decode cL_hook q.1 = .ok q.2 := dec_wk _ 0 (by decide +kernel)
def TL_hook_q1 : List (Nat × Instr × Nat) := [(20, .astore 4, 2), (22, .iconst 1, 1), (23, .ireturn, 1), (24, .iconst 0, 1), (25, .ireturn, 1)]
theorem DL_hook_q1 : ∀ q ∈ TL_hook_q1, decode cL_hook q.1 = .ok q.2 := dec_wk _ 20 (by decide +kernel)
def TL_sew_q0 : List (Nat × Instr × Nat) := [(0, .aload_n 3, 1), (1, .iconst 0, 1), (2, .aload_n 0, 1), (3, .iload_n 1, 1), (4, .iload_n 2, 1), (5, .invokevirtual 45, 3), (8, .i2l, 1), (9, .lastore, 1), (10, .goto 15, 3), (13, .astore 4, 2), (15, .iconst 1, 1), (16, .ireturn, 1)]
theorem DL_sew_q0 : ∀ q ∈ TL_sew_q0, decode cL_sew q.1 = .ok q.2 := dec_wk _ 0 (by decide +kernel)
def TL_sew_q1 : List (Nat × Instr × Nat) := [(17, .astore 4, 2), (19, .iconst 2, 1), (20, .ireturn, 1), (21, .astore 4, 2), (23, .iconst 3, 1), (24, .ireturn, 1), (25, .iconst 0, 1), (26, .ireturn, 1)]
theorem DL_sew_q1 : ∀ q ∈ TL_sew_q1, decode cL_sew q.1 = .ok q.2 := dec_wk _ 17 (by decide +kernel)
def TL_let_q0 : List (Nat × Instr × Nat) := [(0, .aload_n 3, 1), (1, .iconst 0, 1), (2, .aload_n 0, 1), (3, .iload_n 1, 1), (4, .iload_n 2, 1), (5, .invokevirtual 48, 3), (8, .i2l, 1), (9, .lastore, 1), (10, .goto 11, 3), (13, .astore 4, 2), (15, .iconst 1, 1), (16, .ireturn, 1)]
theorem DL_let_q0 : ∀ q ∈ TL_let_q0, decode cL_let q.1 = .ok q.2 := dec_wk _ 0 (by decide +kernel)
def TL_let_q1 : List (Nat × Instr × Nat) := [(17, .astore 4, 2), (19, .iconst 2, 1), (20, .ireturn, 1), (21, .iconst 0, 1), (22, .ireturn, 1)]
theorem DL_let_q1 : ∀ q ∈ TL_let_q1, decode cL_let q.1 = .ok q.2 := dec_wk _ 17 (by decide +kernel)
def TL_chair_q0 : List (Nat × Instr × Nat) := [(0, .aload_n 3, 1), (1, .iconst 0, 1), (2, .aload_n 0, 1), (3, .iload_n 1, 1), (4, .iload_n 2, 1), (5, .invokevirtual 51, 3), (8, .ifCond .eq 7, 3), (11, .lconst 1, 1), (12, .goto 4, 3), (15, .lconst 0, 1), (16, .lastore, 1), (17, .goto 7, 3)]
theorem DL_chair_q0 : ∀ q ∈ TL_chair_q0, decode cL_chair q.1 = .ok q.2 := dec_wk _ 0 (by decide +kernel)
def TL_chair_q1 : List (Nat × Instr × Nat) := [(20, .astore 4, 2), (22, .iconst 1, 1), (23, .ireturn, 1), (24, .iconst 0, 1), (25, .ireturn, 1)]
theorem DL_chair_q1 : ∀ q ∈ TL_chair_q1, decode cL_chair q.1 = .ok q.2 := dec_wk _ 20 (by decide +kernel)
def TL_hours_q0 : List (Nat × Instr × Nat) := [(0, .aload_n 2, 1), (1, .iconst 0, 1), (2, .aload_n 0, 1), (3, .iload_n 1, 1), (4, .invokevirtual 54, 3), (7, .i2l, 1), (8, .lastore, 1), (9, .goto 6, 3), (12, .astore_n 3, 1), (13, .iconst 1, 1), (14, .ireturn, 1), (15, .iconst 0, 1)]
theorem DL_hours_q0 : ∀ q ∈ TL_hours_q0, decode cL_hours q.1 = .ok q.2 := dec_wk _ 0 (by decide +kernel)
def TL_hours_q1 : List (Nat × Instr × Nat) := [(16, .ireturn, 1)]
theorem DL_hours_q1 : ∀ q ∈ TL_hours_q1, decode cL_hours q.1 = .ok q.2 := dec_wk _ 16 (by decide +kernel)
def TL_goes_q0 : List (Nat × Instr × Nat) := [(0, .aload_n 3, 1), (1, .iconst 0, 1), (2, .aload_n 0, 1), (3, .iload_n 1, 1), (4, .iload_n 2, 1), (5, .invokevirtual 57, 3), (8, .i2l, 1), (9, .lastore, 1), (10, .goto 7, 3), (13, .astore 4, 2), (15, .iconst 1, 1), (16, .ireturn, 1)]
theorem DL_goes_q0 : ∀ q ∈ TL_goes_q0, decode cL_goes q.1 = .ok q.2 := dec_wk _ 0 (by decide +kernel)
def TL_goes_q1 : List (Nat × Instr × Nat) := [(17, .iconst 0, 1), (18, .ireturn, 1)]
theorem DL_goes_q1 : ∀ q ∈ TL_goes_q1, decode cL_goes q.1 = .ok q.2 := dec_wk _ 17 (by decide +kernel)
def TL_with_q0 : List (Nat × Instr × Nat) := [(0, .aload_n 3, 1), (1, .iconst 0, 1), (2, .aload_n 0, 1), (3, .iload_n 1, 1), (4, .iload_n 2, 1), (5, .invokevirtual 61, 3), (8, .i2l, 1), (9, .lastore, 1), (10, .goto 7, 3), (13, .astore 4, 2), (15, .iconst 1, 1), (16, .ireturn, 1)]
theorem DL_with_q0 : ∀ q ∈ TL_with_q0, decode cL_with q.1 = .ok q.2 := dec_wk _ 0 (by decide +kernel)
def TL_with_q1 : List (Nat × Instr × Nat) := [(17, .iconst 0, 1), (18, .ireturn, 1)]
theorem DL_with_q1 : ∀ q ∈ TL_with_q1, decode cL_with q.1 = .ok q.2 := dec_wk _ 17 (by decide +kernel)
def TL_would_q0 : List (Nat × Instr × Nat) := [(0, .aload 5, 2), (2, .iconst 0, 1), (3, .aload_n 0, 1), (4, .iload_n 1, 1), (5, .iload_n 2, 1), (6, .iload_n 3, 1), (7, .iload 4, 2), (9, .invokevirtual 64, 3), (12, .i2l, 1), (13, .lastore, 1), (14, .goto 11, 3), (17, .astore 6, 2)]
theorem DL_would_q0 : ∀ q ∈ TL_would_q0, decode cL_would q.1 = .ok q.2 := dec_wk _ 0 (by decide +kernel)
def TL_would_q1 : List (Nat × Instr × Nat) := [(19, .iconst 1, 1), (20, .ireturn, 1), (21, .astore 6, 2), (23, .iconst 2, 1), (24, .ireturn, 1), (25, .iconst 0, 1), (26, .ireturn, 1)]
theorem DL_would_q1 : ∀ q ∈ TL_would_q1, decode cL_would q.1 = .ok q.2 := dec_wk _ 19 (by decide +kernel)
def TL_snags_q0 : List (Nat × Instr × Nat) := [(0, .aload_n 2, 1), (1, .iconst 0, 1), (2, .aload_n 0, 1), (3, .iload_n 1, 1), (4, .invokevirtual 68, 3), (7, .i2l, 1), (8, .lastore, 1), (9, .goto 6, 3), (12, .astore_n 3, 1), (13, .iconst 1, 1), (14, .ireturn, 1), (15, .iconst 0, 1)]
theorem DL_snags_q0 : ∀ q ∈ TL_snags_q0, decode cL_snags q.1 = .ok q.2 := dec_wk _ 0 (by decide +kernel)
def TL_snags_q1 : List (Nat × Instr × Nat) := [(16, .ireturn, 1)]
theorem DL_snags_q1 : ∀ q ∈ TL_snags_q1, decode cL_snags q.1 = .ok q.2 := dec_wk _ 16 (by decide +kernel)
def TL_tries_q0 : List (Nat × Instr × Nat) := [(0, .aload_n 1, 1), (1, .iconst 0, 1), (2, .aload_n 0, 1), (3, .invokevirtual 72, 3), (6, .i2l, 1), (7, .lastore, 1), (8, .goto 6, 3), (11, .astore_n 2, 1), (12, .iconst 1, 1), (13, .ireturn, 1), (14, .iconst 0, 1), (15, .ireturn, 1)]
theorem DL_tries_q0 : ∀ q ∈ TL_tries_q0, decode cL_tries q.1 = .ok q.2 := dec_wk _ 0 (by decide +kernel)
def TL_loosen_q0 : List (Nat × Instr × Nat) := [(0, .aload 4, 2), (2, .iconst 0, 1), (3, .aload_n 0, 1), (4, .iload_n 1, 1), (5, .iload_n 2, 1), (6, .iload_n 3, 1), (7, .invokevirtual 75, 3), (10, .i2l, 1), (11, .lastore, 1), (12, .goto 11, 3), (15, .astore 5, 2), (17, .iconst 1, 1)]
theorem DL_loosen_q0 : ∀ q ∈ TL_loosen_q0, decode cL_loosen q.1 = .ok q.2 := dec_wk _ 0 (by decide +kernel)
def TL_loosen_q1 : List (Nat × Instr × Nat) := [(18, .ireturn, 1), (19, .astore 5, 2), (21, .iconst 2, 1), (22, .ireturn, 1), (23, .iconst 0, 1), (24, .ireturn, 1)]
theorem DL_loosen_q1 : ∀ q ∈ TL_loosen_q1, decode cL_loosen q.1 = .ok q.2 := dec_wk _ 18 (by decide +kernel)
def TL_tight_q0 : List (Nat × Instr × Nat) := [(0, .aload_n 2, 1), (1, .iconst 0, 1), (2, .aload_n 0, 1), (3, .iload_n 1, 1), (4, .invokevirtual 78, 3), (7, .i2l, 1), (8, .lastore, 1), (9, .goto 6, 3), (12, .astore_n 3, 1), (13, .iconst 1, 1), (14, .ireturn, 1), (15, .iconst 0, 1)]
theorem DL_tight_q0 : ∀ q ∈ TL_tight_q0, decode cL_tight q.1 = .ok q.2 := dec_wk _ 0 (by decide +kernel)
def TL_tight_q1 : List (Nat × Instr × Nat) := [(16, .ireturn, 1)]
theorem DL_tight_q1 : ∀ q ∈ TL_tight_q1, decode cL_tight q.1 = .ok q.2 := dec_wk _ 16 (by decide +kernel)
def TL_lit_q0 : List (Nat × Instr × Nat) := [(0, .aload_n 2, 1), (1, .iconst 0, 1), (2, .aload_n 0, 1), (3, .iload_n 1, 1), (4, .invokevirtual 81, 3), (7, .i2l, 1), (8, .lastore, 1), (9, .goto 6, 3), (12, .astore_n 3, 1), (13, .iconst 1, 1), (14, .ireturn, 1), (15, .iconst 0, 1)]
theorem DL_lit_q0 : ∀ q ∈ TL_lit_q0, decode cL_lit q.1 = .ok q.2 := dec_wk _ 0 (by decide +kernel)
def TL_lit_q1 : List (Nat × Instr × Nat) := [(16, .ireturn, 1)]
theorem DL_lit_q1 : ∀ q ∈ TL_lit_q1, decode cL_lit q.1 = .ok q.2 := dec_wk _ 16 (by decide +kernel)
def TL_faded_q0 : List (Nat × Instr × Nat) := [(0, .aload_n 2, 1), (1, .iconst 0, 1), (2, .aload_n 0, 1), (3, .iload_n 1, 1), (4, .invokevirtual 84, 3), (7, .i2l, 1), (8, .lastore, 1), (9, .goto 6, 3), (12, .astore_n 3, 1), (13, .iconst 1, 1), (14, .ireturn, 1), (15, .iconst 0, 1)]
theorem DL_faded_q0 : ∀ q ∈ TL_faded_q0, decode cL_faded q.1 = .ok q.2 := dec_wk _ 0 (by decide +kernel)
def TL_faded_q1 : List (Nat × Instr × Nat) := [(16, .ireturn, 1)]
theorem DL_faded_q1 : ∀ q ∈ TL_faded_q1, decode cL_faded q.1 = .ok q.2 := dec_wk _ 16 (by decide +kernel)
def TL_lets_q0 : List (Nat × Instr × Nat) := [(0, .aload_n 3, 1), (1, .iconst 0, 1), (2, .aload_n 0, 1), (3, .iload_n 1, 1), (4, .iload_n 2, 1), (5, .invokevirtual 87, 3), (8, .i2l, 1), (9, .lastore, 1), (10, .goto 11, 3), (13, .astore 4, 2), (15, .iconst 1, 1), (16, .ireturn, 1)]
theorem DL_lets_q0 : ∀ q ∈ TL_lets_q0, decode cL_lets q.1 = .ok q.2 := dec_wk _ 0 (by decide +kernel)
def TL_lets_q1 : List (Nat × Instr × Nat) := [(17, .astore 4, 2), (19, .iconst 2, 1), (20, .ireturn, 1), (21, .iconst 0, 1), (22, .ireturn, 1)]
theorem DL_lets_q1 : ∀ q ∈ TL_lets_q1, decode cL_lets q.1 = .ok q.2 := dec_wk _ 17 (by decide +kernel)
def TL_rests_q0 : List (Nat × Instr × Nat) := [(0, .aload_n 2, 1), (1, .iconst 0, 1), (2, .aload_n 0, 1), (3, .iload_n 1, 1), (4, .invokevirtual 90, 3), (7, .i2l, 1), (8, .lastore, 1), (9, .goto 6, 3), (12, .astore_n 3, 1), (13, .iconst 1, 1), (14, .ireturn, 1), (15, .iconst 0, 1)]
theorem DL_rests_q0 : ∀ q ∈ TL_rests_q0, decode cL_rests q.1 = .ok q.2 := dec_wk _ 0 (by decide +kernel)
def TL_rests_q1 : List (Nat × Instr × Nat) := [(16, .ireturn, 1)]
theorem DL_rests_q1 : ∀ q ∈ TL_rests_q1, decode cL_rests q.1 = .ok q.2 := dec_wk _ 16 (by decide +kernel)
def TL_odds_q0 : List (Nat × Instr × Nat) := [(0, .aload_n 3, 1), (1, .iconst 0, 1), (2, .aload_n 0, 1), (3, .iload_n 1, 1), (4, .iload_n 2, 1), (5, .invokevirtual 93, 3), (8, .i2l, 1), (9, .lastore, 1), (10, .goto 11, 3), (13, .astore 4, 2), (15, .iconst 1, 1), (16, .ireturn, 1)]
theorem DL_odds_q0 : ∀ q ∈ TL_odds_q0, decode cL_odds q.1 = .ok q.2 := dec_wk _ 0 (by decide +kernel)
def TL_odds_q1 : List (Nat × Instr × Nat) := [(17, .astore 4, 2), (19, .iconst 2, 1), (20, .ireturn, 1), (21, .iconst 0, 1), (22, .ireturn, 1)]
theorem DL_odds_q1 : ∀ q ∈ TL_odds_q1, decode cL_odds q.1 = .ok q.2 := dec_wk _ 17 (by decide +kernel)
def TL_ahead_q0 : List (Nat × Instr × Nat) := [(0, .aload_n 3, 1), (1, .iconst 0, 1), (2, .aload_n 0, 1), (3, .iload_n 1, 1), (4, .iload_n 2, 1), (5, .invokevirtual 96, 3), (8, .i2l, 1), (9, .lastore, 1), (10, .goto 11, 3), (13, .astore 4, 2), (15, .iconst 1, 1), (16, .ireturn, 1)]
theorem DL_ahead_q0 : ∀ q ∈ TL_ahead_q0, decode cL_ahead q.1 = .ok q.2 := dec_wk _ 0 (by decide +kernel)
def TL_ahead_q1 : List (Nat × Instr × Nat) := [(17, .astore 4, 2), (19, .iconst 2, 1), (20, .ireturn, 1), (21, .iconst 0, 1), (22, .ireturn, 1)]
theorem DL_ahead_q1 : ∀ q ∈ TL_ahead_q1, decode cL_ahead q.1 = .ok q.2 := dec_wk _ 17 (by decide +kernel)
def TL_trial_q0 : List (Nat × Instr × Nat) := [(0, .aload_n 3, 1), (1, .iconst 0, 1), (2, .aload_n 0, 1), (3, .iload_n 1, 1), (4, .iload_n 2, 1), (5, .invokevirtual 99, 3), (8, .i2l, 1), (9, .lastore, 1), (10, .goto 7, 3), (13, .astore 4, 2), (15, .iconst 1, 1), (16, .ireturn, 1)]
theorem DL_trial_q0 : ∀ q ∈ TL_trial_q0, decode cL_trial q.1 = .ok q.2 := dec_wk _ 0 (by decide +kernel)
def TL_trial_q1 : List (Nat × Instr × Nat) := [(17, .iconst 0, 1), (18, .ireturn, 1)]
theorem DL_trial_q1 : ∀ q ∈ TL_trial_q1, decode cL_trial q.1 = .ok q.2 := dec_wk _ 17 (by decide +kernel)
def TL_span_q0 : List (Nat × Instr × Nat) := [(0, .aload_n 3, 1), (1, .iconst 0, 1), (2, .aload_n 0, 1), (3, .iload_n 1, 1), (4, .iload_n 2, 1), (5, .invokevirtual 102, 3), (8, .i2l, 1), (9, .lastore, 1), (10, .goto 7, 3), (13, .astore 4, 2), (15, .iconst 1, 1), (16, .ireturn, 1)]
theorem DL_span_q0 : ∀ q ∈ TL_span_q0, decode cL_span q.1 = .ok q.2 := dec_wk _ 0 (by decide +kernel)
def TL_span_q1 : List (Nat × Instr × Nat) := [(17, .iconst 0, 1), (18, .ireturn, 1)]
theorem DL_span_q1 : ∀ q ∈ TL_span_q1, decode cL_span q.1 = .ok q.2 := dec_wk _ 17 (by decide +kernel)
def TL_led_q0 : List (Nat × Instr × Nat) := [(0, .aload_n 3, 1), (1, .iconst 0, 1), (2, .aload_n 0, 1), (3, .iload_n 1, 1), (4, .iload_n 2, 1), (5, .invokevirtual 105, 3), (8, .i2l, 1), (9, .lastore, 1), (10, .goto 7, 3), (13, .astore 4, 2), (15, .iconst 1, 1), (16, .ireturn, 1)]
theorem DL_led_q0 : ∀ q ∈ TL_led_q0, decode cL_led q.1 = .ok q.2 := dec_wk _ 0 (by decide +kernel)
def TL_led_q1 : List (Nat × Instr × Nat) := [(17, .iconst 0, 1), (18, .ireturn, 1)]
theorem DL_led_q1 : ∀ q ∈ TL_led_q1, decode cL_led q.1 = .ok q.2 := dec_wk _ 17 (by decide +kernel)
def TL_log_q0 : List (Nat × Instr × Nat) := [(0, .aload_n 3, 1), (1, .iconst 0, 1), (2, .aload_n 0, 1), (3, .iload_n 1, 1), (4, .iload_n 2, 1), (5, .invokevirtual 108, 3), (8, .i2l, 1), (9, .lastore, 1), (10, .goto 7, 3), (13, .astore 4, 2), (15, .iconst 1, 1), (16, .ireturn, 1)]
theorem DL_log_q0 : ∀ q ∈ TL_log_q0, decode cL_log q.1 = .ok q.2 := dec_wk _ 0 (by decide +kernel)
def TL_log_q1 : List (Nat × Instr × Nat) := [(17, .iconst 0, 1), (18, .ireturn, 1)]
theorem DL_log_q1 : ∀ q ∈ TL_log_q1, decode cL_log q.1 = .ok q.2 := dec_wk _ 17 (by decide +kernel)
def TL_law__q0 : List (Nat × Instr × Nat) := [(0, .new 8, 3), (3, .dup, 1), (4, .invokespecial 111, 3), (7, .astore_n 1, 1), (8, .new 112, 3), (11, .dup, 1), (12, .invokespecial 114, 3), (15, .astore_n 2, 1), (16, .iconst 1, 1), (17, .newarray .long, 2), (19, .astore_n 3, 1), (20, .iconst 0, 1)]
theorem DL_law__q0 : ∀ q ∈ TL_law__q0, decode cL_law_ q.1 = .ok q.2 := dec_wk _ 0 (by decide +kernel)
def TL_law__q1 : List (Nat × Instr × Nat) := [(21, .istore 4, 2), (23, .iload 4, 2), (25, .aload_n 0, 1), (26, .arraylength, 1), (27, .bipush 6, 2), (29, .isub, 1), (30, .if_icmp .gt 1931, 3), (33, .aload_n 0, 1), (34, .iload 4, 2), (36, .iaload, 1), (37, .bipush 63, 2), (39, .iand, 1)]
theorem DL_law__q1 : ∀ q ∈ TL_law__q1, decode cL_law_ q.1 = .ok q.2 := dec_wk _ 21 (by decide +kernel)
def TL_law__q2 : List (Nat × Instr × Nat) := [(40, .tableswitch 1915 0 53 #[232, 305, 330, 346, 362, 375, 415, 483, 511, 539, 595, 635, 675, 766, 794, 807, 820, 833, 889, 945, 1041, 1054, 1079, 1104, 1148, 1164, 1232, 1245, 1273, 1286, 1299, 1327, 1340, 1368, 1381, 1421, 1434, 1462, 1475, 1488, 1501, 1514, 1527, 1567, 1580, 1620, 1676, 1732, 1788, 1828, 1853, 1866, 1877, 1890], 232)]
theorem DL_law__q2 : ∀ q ∈ TL_law__q2, decode cL_law_ q.1 = .ok q.2 := by decide +kernel
def TL_law__q3 : List (Nat × Instr × Nat) := [(272, .aload_n 1, 1), (273, .aload_n 0, 1), (274, .iload 4, 2), (276, .iconst 1, 1), (277, .iadd, 1), (278, .iaload, 1), (279, .aload_n 0, 1), (280, .iload 4, 2), (282, .iconst 2, 1), (283, .iadd, 1), (284, .iaload, 1), (285, .aload_n 0, 1)]
theorem DL_law__q3 : ∀ q ∈ TL_law__q3, decode cL_law_ q.1 = .ok q.2 := dec_wk _ 272 (by decide +kernel)
def TL_law__q4 : List (Nat × Instr × Nat) := [(286, .iload 4, 2), (288, .iconst 3, 1), (289, .iadd, 1), (290, .iaload, 1), (291, .aload_n 0, 1), (292, .iload 4, 2), (294, .iconst 4, 1), (295, .iadd, 1), (296, .iaload, 1), (297, .aload_n 0, 1), (298, .iload 4, 2), (300, .iconst 5, 1)]
theorem DL_law__q4 : ∀ q ∈ TL_law__q4, decode cL_law_ q.1 = .ok q.2 := dec_wk _ 286 (by decide +kernel)
def TL_law__q5 : List (Nat × Instr × Nat) := [(301, .iadd, 1), (302, .iaload, 1), (303, .invokevirtual 115, 3), (306, .pop, 1), (307, .aload_n 2, 1), (308, .aload_n 0, 1), (309, .iload 4, 2), (311, .iconst 1, 1), (312, .iadd, 1), (313, .iaload, 1), (314, .aload_n 0, 1), (315, .iload 4, 2)]
theorem DL_law__q5 : ∀ q ∈ TL_law__q5, decode cL_law_ q.1 = .ok q.2 := dec_wk _ 301 (by decide +kernel)
def TL_law__q6 : List (Nat × Instr × Nat) := [(317, .iconst 2, 1), (318, .iadd, 1), (319, .iaload, 1)]
theorem DL_law__q6 : ∀ q ∈ TL_law__q6, decode cL_law_ q.1 = .ok q.2 := dec_wk _ 317 (by decide +kernel)
def TL_law__1_q0 : List (Nat × Instr × Nat) := [(320, .aload_n 0, 1), (321, .iload 4, 2), (323, .iconst 3, 1), (324, .iadd, 1), (325, .iaload, 1), (326, .aload_n 0, 1), (327, .iload 4, 2), (329, .iconst 4, 1), (330, .iadd, 1), (331, .iaload, 1), (332, .aload_n 0, 1), (333, .iload 4, 2)]
theorem DL_law__1_q0 : ∀ q ∈ TL_law__1_q0, decode cL_law_ q.1 = .ok q.2 := dec_wk _ 320 (by decide +kernel)
def TL_law__1_q1 : List (Nat × Instr × Nat) := [(335, .iconst 5, 1), (336, .iadd, 1), (337, .iaload, 1), (338, .invokevirtual 119, 3), (341, .pop, 1), (342, .goto 1613, 3), (345, .aload_n 1, 1), (346, .aload_n 0, 1), (347, .iload 4, 2), (349, .iconst 1, 1), (350, .iadd, 1), (351, .iaload, 1)]
theorem DL_law__1_q1 : ∀ q ∈ TL_law__1_q1, decode cL_law_ q.1 = .ok q.2 := dec_wk _ 335 (by decide +kernel)
def TL_law__1_q2 : List (Nat × Instr × Nat) := [(352, .invokevirtual 120, 3), (355, .pop, 1), (356, .aload_n 2, 1), (357, .aload_n 0, 1), (358, .iload 4, 2), (360, .iconst 1, 1), (361, .iadd, 1), (362, .iaload, 1), (363, .invokevirtual 124, 3), (366, .pop, 1), (367, .goto 1588, 3), (370, .aload_n 1, 1)]
theorem DL_law__1_q2 : ∀ q ∈ TL_law__1_q2, decode cL_law_ q.1 = .ok q.2 := dec_wk _ 352 (by decide +kernel)
def TL_law__1_q3 : List (Nat × Instr × Nat) := [(371, .aload_n 3, 1), (372, .invokestatic 125, 3), (375, .istore 5, 2), (377, .aload_n 2, 1), (378, .invokevirtual 130, 3), (381, .istore 6, 2), (383, .goto 1572, 3), (386, .aload_n 1, 1), (387, .aload_n 3, 1), (388, .invokestatic 131, 3), (391, .istore 5, 2), (393, .aload_n 2, 1)]
theorem DL_law__1_q3 : ∀ q ∈ TL_law__1_q3, decode cL_law_ q.1 = .ok q.2 := dec_wk _ 371 (by decide +kernel)
def TL_law__1_q4 : List (Nat × Instr × Nat) := [(394, .invokevirtual 133, 3), (397, .istore 6, 2), (399, .goto 1556, 3), (402, .aload_n 1, 1), (403, .invokevirtual 134, 3), (406, .pop, 1), (407, .aload_n 2, 1), (408, .invokevirtual 137, 3), (411, .pop, 1), (412, .goto 1543, 3), (415, .aload_n 1, 1), (416, .aload_n 0, 1)]
theorem DL_law__1_q4 : ∀ q ∈ TL_law__1_q4, decode cL_law_ q.1 = .ok q.2 := dec_wk _ 394 (by decide +kernel)
def TL_law__1_q5 : List (Nat × Instr × Nat) := [(417, .iload 4, 2), (419, .iconst 1, 1), (420, .iadd, 1), (421, .iaload, 1)]
theorem DL_law__1_q5 : ∀ q ∈ TL_law__1_q5, decode cL_law_ q.1 = .ok q.2 := dec_wk _ 417 (by decide +kernel)
def TL_law__2_q0 : List (Nat × Instr × Nat) := [(422, .aload_n 0, 1), (423, .iload 4, 2), (425, .iconst 2, 1), (426, .iadd, 1), (427, .iaload, 1), (428, .aload_n 3, 1), (429, .invokestatic 138, 3), (432, .istore 5, 2), (434, .aload_n 2, 1), (435, .aload_n 0, 1), (436, .iload 4, 2), (438, .iconst 1, 1)]
theorem DL_law__2_q0 : ∀ q ∈ TL_law__2_q0, decode cL_law_ q.1 = .ok q.2 := dec_wk _ 422 (by decide +kernel)
def TL_law__2_q1 : List (Nat × Instr × Nat) := [(439, .iadd, 1), (440, .iaload, 1), (441, .aload_n 0, 1), (442, .iload 4, 2), (444, .iconst 2, 1), (445, .iadd, 1), (446, .iaload, 1), (447, .invokevirtual 141, 3), (450, .istore 6, 2), (452, .goto 1503, 3), (455, .aload_n 1, 1), (456, .aload_n 0, 1)]
theorem DL_law__2_q1 : ∀ q ∈ TL_law__2_q1, decode cL_law_ q.1 = .ok q.2 := dec_wk _ 439 (by decide +kernel)
def TL_law__2_q2 : List (Nat × Instr × Nat) := [(457, .iload 4, 2), (459, .iconst 1, 1), (460, .iadd, 1), (461, .iaload, 1), (462, .aload_n 0, 1), (463, .iload 4, 2), (465, .iconst 2, 1), (466, .iadd, 1), (467, .iaload, 1), (468, .ifCond .eq 7, 3), (471, .iconst 1, 1), (472, .goto 4, 3)]
theorem DL_law__2_q2 : ∀ q ∈ TL_law__2_q2, decode cL_law_ q.1 = .ok q.2 := dec_wk _ 457 (by decide +kernel)
def TL_law__2_q3 : List (Nat × Instr × Nat) := [(475, .iconst 0, 1), (476, .aload_n 0, 1), (477, .iload 4, 2), (479, .iconst 3, 1), (480, .iadd, 1), (481, .iaload, 1), (482, .aload_n 3, 1), (483, .invokestatic 142, 3), (486, .istore 5, 2), (488, .aload_n 2, 1), (489, .aload_n 0, 1), (490, .iload 4, 2)]
theorem DL_law__2_q3 : ∀ q ∈ TL_law__2_q3, decode cL_law_ q.1 = .ok q.2 := dec_wk _ 475 (by decide +kernel)
def TL_law__2_q4 : List (Nat × Instr × Nat) := [(492, .iconst 1, 1), (493, .iadd, 1), (494, .iaload, 1), (495, .aload_n 0, 1), (496, .iload 4, 2), (498, .iconst 2, 1), (499, .iadd, 1), (500, .iaload, 1), (501, .ifCond .eq 7, 3), (504, .iconst 1, 1), (505, .goto 4, 3), (508, .iconst 0, 1)]
theorem DL_law__2_q4 : ∀ q ∈ TL_law__2_q4, decode cL_law_ q.1 = .ok q.2 := dec_wk _ 492 (by decide +kernel)
def TL_law__2_q5 : List (Nat × Instr × Nat) := [(509, .aload_n 0, 1), (510, .iload 4, 2), (512, .iconst 3, 1), (513, .iadd, 1)]
theorem DL_law__2_q5 : ∀ q ∈ TL_law__2_q5, decode cL_law_ q.1 = .ok q.2 := dec_wk _ 509 (by decide +kernel)
def TL_law__3_q0 : List (Nat × Instr × Nat) := [(514, .iaload, 1), (515, .invokevirtual 145, 3), (518, .istore 6, 2), (520, .goto 1435, 3), (523, .aload_n 1, 1), (524, .aload_n 0, 1), (525, .iload 4, 2), (527, .iconst 1, 1), (528, .iadd, 1), (529, .iaload, 1), (530, .aload_n 3, 1), (531, .invokestatic 146, 3)]
theorem DL_law__3_q0 : ∀ q ∈ TL_law__3_q0, decode cL_law_ q.1 = .ok q.2 := dec_wk _ 514 (by decide +kernel)
def TL_law__3_q1 : List (Nat × Instr × Nat) := [(534, .istore 5, 2), (536, .aload_n 2, 1), (537, .aload_n 0, 1), (538, .iload 4, 2), (540, .iconst 1, 1), (541, .iadd, 1), (542, .iaload, 1), (543, .invokevirtual 149, 3), (546, .istore 6, 2), (548, .goto 1407, 3), (551, .aload_n 1, 1), (552, .aload_n 0, 1)]
theorem DL_law__3_q1 : ∀ q ∈ TL_law__3_q1, decode cL_law_ q.1 = .ok q.2 := dec_wk _ 534 (by decide +kernel)
def TL_law__3_q2 : List (Nat × Instr × Nat) := [(553, .iload 4, 2), (555, .iconst 1, 1), (556, .iadd, 1), (557, .iaload, 1), (558, .aload_n 3, 1), (559, .invokestatic 150, 3), (562, .istore 5, 2), (564, .aload_n 2, 1), (565, .aload_n 0, 1), (566, .iload 4, 2), (568, .iconst 1, 1), (569, .iadd, 1)]
theorem DL_law__3_q2 : ∀ q ∈ TL_law__3_q2, decode cL_law_ q.1 = .ok q.2 := dec_wk _ 553 (by decide +kernel)
def TL_law__3_q3 : List (Nat × Instr × Nat) := [(570, .iaload, 1), (571, .invokevirtual 152, 3), (574, .istore 6, 2), (576, .goto 1379, 3), (579, .aload_n 1, 1), (580, .aload_n 0, 1), (581, .iload 4, 2), (583, .iconst 1, 1), (584, .iadd, 1), (585, .iaload, 1), (586, .aload_n 0, 1), (587, .iload 4, 2)]
theorem DL_law__3_q3 : ∀ q ∈ TL_law__3_q3, decode cL_law_ q.1 = .ok q.2 := dec_wk _ 570 (by decide +kernel)
def TL_law__3_q4 : List (Nat × Instr × Nat) := [(589, .iconst 2, 1), (590, .iadd, 1), (591, .iaload, 1), (592, .ifCond .eq 7, 3), (595, .iconst 1, 1), (596, .goto 4, 3), (599, .iconst 0, 1), (600, .aload_n 3, 1), (601, .invokestatic 153, 3), (604, .istore 5, 2), (606, .aload_n 2, 1), (607, .aload_n 0, 1)]
theorem DL_law__3_q4 : ∀ q ∈ TL_law__3_q4, decode cL_law_ q.1 = .ok q.2 := dec_wk _ 589 (by decide +kernel)
def TL_law__3_q5 : List (Nat × Instr × Nat) := [(608, .iload 4, 2), (610, .iconst 1, 1), (611, .iadd, 1), (612, .iaload, 1)]
theorem DL_law__3_q5 : ∀ q ∈ TL_law__3_q5, decode cL_law_ q.1 = .ok q.2 := dec_wk _ 608 (by decide +kernel)
def TL_law__4_q0 : List (Nat × Instr × Nat) := [(613, .aload_n 0, 1), (614, .iload 4, 2), (616, .iconst 2, 1), (617, .iadd, 1), (618, .iaload, 1), (619, .ifCond .eq 7, 3), (622, .iconst 1, 1), (623, .goto 4, 3), (626, .iconst 0, 1), (627, .invokevirtual 156, 3), (630, .istore 6, 2), (632, .goto 1323, 3)]
theorem DL_law__4_q0 : ∀ q ∈ TL_law__4_q0, decode cL_law_ q.1 = .ok q.2 := dec_wk _ 613 (by decide +kernel)
def TL_law__4_q1 : List (Nat × Instr × Nat) := [(635, .aload_n 1, 1), (636, .aload_n 0, 1), (637, .iload 4, 2), (639, .iconst 1, 1), (640, .iadd, 1), (641, .iaload, 1), (642, .aload_n 0, 1), (643, .iload 4, 2), (645, .iconst 2, 1), (646, .iadd, 1), (647, .iaload, 1), (648, .aload_n 3, 1)]
theorem DL_law__4_q1 : ∀ q ∈ TL_law__4_q1, decode cL_law_ q.1 = .ok q.2 := dec_wk _ 635 (by decide +kernel)
def TL_law__4_q2 : List (Nat × Instr × Nat) := [(649, .invokestatic 157, 3), (652, .istore 5, 2), (654, .aload_n 2, 1), (655, .aload_n 0, 1), (656, .iload 4, 2), (658, .iconst 1, 1), (659, .iadd, 1), (660, .iaload, 1), (661, .aload_n 0, 1), (662, .iload 4, 2), (664, .iconst 2, 1), (665, .iadd, 1)]
theorem DL_law__4_q2 : ∀ q ∈ TL_law__4_q2, decode cL_law_ q.1 = .ok q.2 := dec_wk _ 649 (by decide +kernel)
def TL_law__4_q3 : List (Nat × Instr × Nat) := [(666, .iaload, 1), (667, .invokevirtual 159, 3), (670, .istore 6, 2), (672, .goto 1283, 3), (675, .aload_n 1, 1), (676, .aload_n 0, 1), (677, .iload 4, 2), (679, .iconst 1, 1), (680, .iadd, 1), (681, .iaload, 1), (682, .aload_n 0, 1), (683, .iload 4, 2)]
theorem DL_law__4_q3 : ∀ q ∈ TL_law__4_q3, decode cL_law_ q.1 = .ok q.2 := dec_wk _ 666 (by decide +kernel)
def TL_law__4_q4 : List (Nat × Instr × Nat) := [(685, .iconst 2, 1), (686, .iadd, 1), (687, .iaload, 1), (688, .aload_n 3, 1), (689, .invokestatic 160, 3), (692, .istore 5, 2), (694, .aload_n 2, 1), (695, .aload_n 0, 1), (696, .iload 4, 2), (698, .iconst 1, 1), (699, .iadd, 1), (700, .iaload, 1)]
theorem DL_law__4_q4 : ∀ q ∈ TL_law__4_q4, decode cL_law_ q.1 = .ok q.2 := dec_wk _ 685 (by decide +kernel)
def TL_law__4_q5 : List (Nat × Instr × Nat) := [(701, .aload_n 0, 1), (702, .iload 4, 2), (704, .iconst 2, 1), (705, .iadd, 1)]
theorem DL_law__4_q5 : ∀ q ∈ TL_law__4_q5, decode cL_law_ q.1 = .ok q.2 := dec_wk _ 701 (by decide +kernel)
def TL_law__5_q0 : List (Nat × Instr × Nat) := [(706, .iaload, 1), (707, .invokevirtual 162, 3), (710, .istore 6, 2), (712, .goto 1243, 3), (715, .aload_n 1, 1), (716, .aload_n 0, 1), (717, .iload 4, 2), (719, .iconst 1, 1), (720, .iadd, 1), (721, .iaload, 1), (722, .aload_n 0, 1), (723, .iload 4, 2)]
theorem DL_law__5_q0 : ∀ q ∈ TL_law__5_q0, decode cL_law_ q.1 = .ok q.2 := dec_wk _ 706 (by decide +kernel)
def TL_law__5_q1 : List (Nat × Instr × Nat) := [(725, .iconst 2, 1), (726, .iadd, 1), (727, .iaload, 1), (728, .ifCond .eq 7, 3), (731, .iconst 1, 1), (732, .goto 4, 3), (735, .iconst 0, 1), (736, .aload_n 3, 1), (737, .invokestatic 163, 3), (740, .istore 5, 2), (742, .aload_n 2, 1), (743, .aload_n 0, 1)]
theorem DL_law__5_q1 : ∀ q ∈ TL_law__5_q1, decode cL_law_ q.1 = .ok q.2 := dec_wk _ 725 (by decide +kernel)
def TL_law__5_q2 : List (Nat × Instr × Nat) := [(744, .iload 4, 2), (746, .iconst 1, 1), (747, .iadd, 1), (748, .iaload, 1), (749, .aload_n 0, 1), (750, .iload 4, 2), (752, .iconst 2, 1), (753, .iadd, 1), (754, .iaload, 1), (755, .ifCond .eq 7, 3), (758, .iconst 1, 1), (759, .goto 4, 3)]
theorem DL_law__5_q2 : ∀ q ∈ TL_law__5_q2, decode cL_law_ q.1 = .ok q.2 := dec_wk _ 744 (by decide +kernel)
def TL_law__5_q3 : List (Nat × Instr × Nat) := [(762, .iconst 0, 1), (763, .invokevirtual 165, 3), (766, .istore 6, 2), (768, .aload_n 2, 1), (769, .invokevirtual 166, 3), (772, .iload 5, 2), (774, .if_icmp .eq 5, 3), (777, .iconst 0, 1), (778, .ireturn, 1), (779, .iload 5, 2), (781, .ifCond .ne 22, 3), (784, .aload_n 3, 1)]
theorem DL_law__5_q3 : ∀ q ∈ TL_law__5_q3, decode cL_law_ q.1 = .ok q.2 := dec_wk _ 762 (by decide +kernel)
def TL_law__5_q4 : List (Nat × Instr × Nat) := [(785, .iconst 0, 1), (786, .laload, 1), (787, .iload 6, 2), (789, .ifCond .eq 7, 3), (792, .lconst 1, 1), (793, .goto 4, 3), (796, .lconst 0, 1), (797, .lcmp, 1), (798, .ifCond .eq 5, 3), (801, .iconst 0, 1), (802, .ireturn, 1), (803, .goto 1152, 3)]
theorem DL_law__5_q4 : ∀ q ∈ TL_law__5_q4, decode cL_law_ q.1 = .ok q.2 := dec_wk _ 785 (by decide +kernel)
def TL_law__5_q5 : List (Nat × Instr × Nat) := [(806, .aload_n 1, 1), (807, .aload_n 0, 1), (808, .iload 4, 2), (810, .iconst 1, 1)]
theorem DL_law__5_q5 : ∀ q ∈ TL_law__5_q5, decode cL_law_ q.1 = .ok q.2 := dec_wk _ 806 (by decide +kernel)
def TL_law__6_q0 : List (Nat × Instr × Nat) := [(811, .iadd, 1), (812, .iaload, 1), (813, .aload_n 3, 1), (814, .invokestatic 169, 3), (817, .istore 5, 2), (819, .aload_n 2, 1), (820, .aload_n 0, 1), (821, .iload 4, 2), (823, .iconst 1, 1), (824, .iadd, 1), (825, .iaload, 1), (826, .invokevirtual 171, 3)]
theorem DL_law__6_q0 : ∀ q ∈ TL_law__6_q0, decode cL_law_ q.1 = .ok q.2 := dec_wk _ 811 (by decide +kernel)
def TL_law__6_q1 : List (Nat × Instr × Nat) := [(829, .istore 6, 2), (831, .goto 1124, 3), (834, .aload_n 1, 1), (835, .invokevirtual 172, 3), (838, .pop, 1), (839, .aload_n 2, 1), (840, .invokevirtual 175, 3), (843, .pop, 1), (844, .goto 1111, 3), (847, .aload_n 1, 1), (848, .invokevirtual 176, 3), (851, .pop, 1)]
theorem DL_law__6_q1 : ∀ q ∈ TL_law__6_q1, decode cL_law_ q.1 = .ok q.2 := dec_wk _ 829 (by decide +kernel)
def TL_law__6_q2 : List (Nat × Instr × Nat) := [(852, .aload_n 2, 1), (853, .invokevirtual 179, 3), (856, .pop, 1), (857, .goto 1098, 3), (860, .aload_n 1, 1), (861, .invokevirtual 180, 3), (864, .pop, 1), (865, .aload_n 2, 1), (866, .invokevirtual 183, 3), (869, .pop, 1), (870, .goto 1085, 3), (873, .aload_n 1, 1)]
theorem DL_law__6_q2 : ∀ q ∈ TL_law__6_q2, decode cL_law_ q.1 = .ok q.2 := dec_wk _ 852 (by decide +kernel)
def TL_law__6_q3 : List (Nat × Instr × Nat) := [(874, .aload_n 0, 1), (875, .iload 4, 2), (877, .iconst 1, 1), (878, .iadd, 1), (879, .iaload, 1), (880, .aload_n 0, 1), (881, .iload 4, 2), (883, .iconst 2, 1), (884, .iadd, 1), (885, .iaload, 1), (886, .ifCond .eq 7, 3), (889, .iconst 1, 1)]
theorem DL_law__6_q3 : ∀ q ∈ TL_law__6_q3, decode cL_law_ q.1 = .ok q.2 := dec_wk _ 874 (by decide +kernel)
def TL_law__6_q4 : List (Nat × Instr × Nat) := [(890, .goto 4, 3), (893, .iconst 0, 1), (894, .aload_n 3, 1), (895, .invokestatic 184, 3), (898, .istore 5, 2), (900, .aload_n 2, 1), (901, .aload_n 0, 1), (902, .iload 4, 2), (904, .iconst 1, 1), (905, .iadd, 1), (906, .iaload, 1), (907, .aload_n 0, 1)]
theorem DL_law__6_q4 : ∀ q ∈ TL_law__6_q4, decode cL_law_ q.1 = .ok q.2 := dec_wk _ 890 (by decide +kernel)
def TL_law__6_q5 : List (Nat × Instr × Nat) := [(908, .iload 4, 2), (910, .iconst 2, 1), (911, .iadd, 1), (912, .iaload, 1)]
theorem DL_law__6_q5 : ∀ q ∈ TL_law__6_q5, decode cL_law_ q.1 = .ok q.2 := dec_wk _ 908 (by decide +kernel)
def TL_law__7_q0 : List (Nat × Instr × Nat) := [(913, .ifCond .eq 7, 3), (916, .iconst 1, 1), (917, .goto 4, 3), (920, .iconst 0, 1), (921, .invokevirtual 186, 3), (924, .istore 6, 2), (926, .goto 1029, 3), (929, .aload_n 1, 1), (930, .aload_n 0, 1), (931, .iload 4, 2), (933, .iconst 1, 1), (934, .iadd, 1)]
theorem DL_law__7_q0 : ∀ q ∈ TL_law__7_q0, decode cL_law_ q.1 = .ok q.2 := dec_wk _ 913 (by decide +kernel)
def TL_law__7_q1 : List (Nat × Instr × Nat) := [(935, .iaload, 1), (936, .aload_n 0, 1), (937, .iload 4, 2), (939, .iconst 2, 1), (940, .iadd, 1), (941, .iaload, 1), (942, .ifCond .eq 7, 3), (945, .iconst 1, 1), (946, .goto 4, 3), (949, .iconst 0, 1), (950, .aload_n 3, 1), (951, .invokestatic 187, 3)]
theorem DL_law__7_q1 : ∀ q ∈ TL_law__7_q1, decode cL_law_ q.1 = .ok q.2 := dec_wk _ 935 (by decide +kernel)
def TL_law__7_q2 : List (Nat × Instr × Nat) := [(954, .istore 5, 2), (956, .aload_n 2, 1), (957, .aload_n 0, 1), (958, .iload 4, 2), (960, .iconst 1, 1), (961, .iadd, 1), (962, .iaload, 1), (963, .aload_n 0, 1), (964, .iload 4, 2), (966, .iconst 2, 1), (967, .iadd, 1), (968, .iaload, 1)]
theorem DL_law__7_q2 : ∀ q ∈ TL_law__7_q2, decode cL_law_ q.1 = .ok q.2 := dec_wk _ 954 (by decide +kernel)
def TL_law__7_q3 : List (Nat × Instr × Nat) := [(969, .ifCond .eq 7, 3), (972, .iconst 1, 1), (973, .goto 4, 3), (976, .iconst 0, 1), (977, .invokevirtual 189, 3), (980, .istore 6, 2), (982, .goto 973, 3), (985, .aload_n 1, 1), (986, .aload_n 0, 1), (987, .iload 4, 2), (989, .iconst 1, 1), (990, .iadd, 1)]
theorem DL_law__7_q3 : ∀ q ∈ TL_law__7_q3, decode cL_law_ q.1 = .ok q.2 := dec_wk _ 969 (by decide +kernel)
def TL_law__7_q4 : List (Nat × Instr × Nat) := [(991, .iaload, 1), (992, .aload_n 0, 1), (993, .iload 4, 2), (995, .iconst 2, 1), (996, .iadd, 1), (997, .iaload, 1), (998, .ifCond .eq 7, 3), (1001, .iconst 1, 1), (1002, .goto 4, 3), (1005, .iconst 0, 1), (1006, .aload_n 0, 1), (1007, .iload 4, 2)]
theorem DL_law__7_q4 : ∀ q ∈ TL_law__7_q4, decode cL_law_ q.1 = .ok q.2 := dec_wk _ 991 (by decide +kernel)
def TL_law__7_q5 : List (Nat × Instr × Nat) := [(1009, .iconst 3, 1), (1010, .iadd, 1), (1011, .iaload, 1), (1012, .aload_n 0, 1)]
theorem DL_law__7_q5 : ∀ q ∈ TL_law__7_q5, decode cL_law_ q.1 = .ok q.2 := dec_wk _ 1009 (by decide +kernel)
def TL_law__8_q0 : List (Nat × Instr × Nat) := [(1013, .iload 4, 2), (1015, .iconst 4, 1), (1016, .iadd, 1), (1017, .iaload, 1), (1018, .ifCond .eq 7, 3), (1021, .iconst 1, 1), (1022, .goto 4, 3), (1025, .iconst 0, 1), (1026, .aload_n 3, 1), (1027, .invokestatic 190, 3), (1030, .istore 5, 2), (1032, .aload_n 2, 1)]
theorem DL_law__8_q0 : ∀ q ∈ TL_law__8_q0, decode cL_law_ q.1 = .ok q.2 := dec_wk _ 1013 (by decide +kernel)
def TL_law__8_q1 : List (Nat × Instr × Nat) := [(1033, .aload_n 0, 1), (1034, .iload 4, 2), (1036, .iconst 1, 1), (1037, .iadd, 1), (1038, .iaload, 1), (1039, .aload_n 0, 1), (1040, .iload 4, 2), (1042, .iconst 2, 1), (1043, .iadd, 1), (1044, .iaload, 1), (1045, .ifCond .eq 7, 3), (1048, .iconst 1, 1)]
theorem DL_law__8_q1 : ∀ q ∈ TL_law__8_q1, decode cL_law_ q.1 = .ok q.2 := dec_wk _ 1033 (by decide +kernel)
def TL_law__8_q2 : List (Nat × Instr × Nat) := [(1049, .goto 4, 3), (1052, .iconst 0, 1), (1053, .aload_n 0, 1), (1054, .iload 4, 2), (1056, .iconst 3, 1), (1057, .iadd, 1), (1058, .iaload, 1), (1059, .aload_n 0, 1), (1060, .iload 4, 2), (1062, .iconst 4, 1), (1063, .iadd, 1), (1064, .iaload, 1)]
theorem DL_law__8_q2 : ∀ q ∈ TL_law__8_q2, decode cL_law_ q.1 = .ok q.2 := dec_wk _ 1049 (by decide +kernel)
def TL_law__8_q3 : List (Nat × Instr × Nat) := [(1065, .ifCond .eq 7, 3), (1068, .iconst 1, 1), (1069, .goto 4, 3), (1072, .iconst 0, 1), (1073, .invokevirtual 193, 3), (1076, .istore 6, 2), (1078, .goto 877, 3), (1081, .aload_n 1, 1), (1082, .invokevirtual 194, 3), (1085, .pop, 1), (1086, .aload_n 2, 1), (1087, .invokevirtual 197, 3)]
theorem DL_law__8_q3 : ∀ q ∈ TL_law__8_q3, decode cL_law_ q.1 = .ok q.2 := dec_wk _ 1065 (by decide +kernel)
def TL_law__8_q4 : List (Nat × Instr × Nat) := [(1090, .pop, 1), (1091, .goto 864, 3), (1094, .aload_n 1, 1), (1095, .aload_n 0, 1), (1096, .iload 4, 2), (1098, .iconst 1, 1), (1099, .iadd, 1), (1100, .iaload, 1), (1101, .invokevirtual 198, 3), (1104, .pop, 1), (1105, .aload_n 2, 1), (1106, .aload_n 0, 1)]
theorem DL_law__8_q4 : ∀ q ∈ TL_law__8_q4, decode cL_law_ q.1 = .ok q.2 := dec_wk _ 1090 (by decide +kernel)
def TL_law__8_q5 : List (Nat × Instr × Nat) := [(1107, .iload 4, 2), (1109, .iconst 1, 1), (1110, .iadd, 1), (1111, .iaload, 1)]
theorem DL_law__8_q5 : ∀ q ∈ TL_law__8_q5, decode cL_law_ q.1 = .ok q.2 := dec_wk _ 1107 (by decide +kernel)
def TL_law__9_q0 : List (Nat × Instr × Nat) := [(1112, .invokevirtual 201, 3), (1115, .pop, 1), (1116, .goto 839, 3), (1119, .aload_n 1, 1), (1120, .aload_n 0, 1), (1121, .iload 4, 2), (1123, .iconst 1, 1), (1124, .iadd, 1), (1125, .iaload, 1), (1126, .invokevirtual 202, 3), (1129, .pop, 1), (1130, .aload_n 2, 1)]
theorem DL_law__9_q0 : ∀ q ∈ TL_law__9_q0, decode cL_law_ q.1 = .ok q.2 := dec_wk _ 1112 (by decide +kernel)
def TL_law__9_q1 : List (Nat × Instr × Nat) := [(1131, .aload_n 0, 1), (1132, .iload 4, 2), (1134, .iconst 1, 1), (1135, .iadd, 1), (1136, .iaload, 1), (1137, .invokevirtual 205, 3), (1140, .pop, 1), (1141, .goto 814, 3), (1144, .aload_n 1, 1), (1145, .aload_n 0, 1), (1146, .iload 4, 2), (1148, .iconst 1, 1)]
theorem DL_law__9_q1 : ∀ q ∈ TL_law__9_q1, decode cL_law_ q.1 = .ok q.2 := dec_wk _ 1131 (by decide +kernel)
def TL_law__9_q2 : List (Nat × Instr × Nat) := [(1149, .iadd, 1), (1150, .iaload, 1), (1151, .ifCond .eq 7, 3), (1154, .iconst 1, 1), (1155, .goto 4, 3), (1158, .iconst 0, 1), (1159, .aload_n 3, 1), (1160, .invokestatic 206, 3), (1163, .istore 5, 2), (1165, .aload_n 2, 1), (1166, .aload_n 0, 1), (1167, .iload 4, 2)]
theorem DL_law__9_q2 : ∀ q ∈ TL_law__9_q2, decode cL_law_ q.1 = .ok q.2 := dec_wk _ 1149 (by decide +kernel)
def TL_law__9_q3 : List (Nat × Instr × Nat) := [(1169, .iconst 1, 1), (1170, .iadd, 1), (1171, .iaload, 1), (1172, .ifCond .eq 7, 3), (1175, .iconst 1, 1), (1176, .goto 4, 3), (1179, .iconst 0, 1), (1180, .invokevirtual 209, 3), (1183, .istore 6, 2), (1185, .goto 770, 3), (1188, .aload_n 1, 1), (1189, .aload_n 3, 1)]
theorem DL_law__9_q3 : ∀ q ∈ TL_law__9_q3, decode cL_law_ q.1 = .ok q.2 := dec_wk _ 1169 (by decide +kernel)
def TL_law__9_q4 : List (Nat × Instr × Nat) := [(1190, .invokestatic 210, 3), (1193, .istore 5, 2), (1195, .aload_n 2, 1), (1196, .invokevirtual 212, 3), (1199, .istore 6, 2), (1201, .goto 754, 3), (1204, .aload_n 1, 1), (1205, .aload_n 0, 1), (1206, .iload 4, 2), (1208, .iconst 1, 1), (1209, .iadd, 1), (1210, .iaload, 1)]
theorem DL_law__9_q4 : ∀ q ∈ TL_law__9_q4, decode cL_law_ q.1 = .ok q.2 := dec_wk _ 1190 (by decide +kernel)
def TL_law__9_q5 : List (Nat × Instr × Nat) := [(1211, .aload_n 0, 1), (1212, .iload 4, 2), (1214, .iconst 2, 1), (1215, .iadd, 1)]
theorem DL_law__9_q5 : ∀ q ∈ TL_law__9_q5, decode cL_law_ q.1 = .ok q.2 := dec_wk _ 1211 (by decide +kernel)
def TL_law__10_q0 : List (Nat × Instr × Nat) := [(1216, .iaload, 1), (1217, .ifCond .eq 7, 3), (1220, .iconst 1, 1), (1221, .goto 4, 3), (1224, .iconst 0, 1), (1225, .aload_n 0, 1), (1226, .iload 4, 2), (1228, .iconst 3, 1), (1229, .iadd, 1), (1230, .iaload, 1), (1231, .aload_n 3, 1), (1232, .invokestatic 213, 3)]
theorem DL_law__10_q0 : ∀ q ∈ TL_law__10_q0, decode cL_law_ q.1 = .ok q.2 := dec_wk _ 1216 (by decide +kernel)
def TL_law__10_q1 : List (Nat × Instr × Nat) := [(1235, .istore 5, 2), (1237, .aload_n 2, 1), (1238, .aload_n 0, 1), (1239, .iload 4, 2), (1241, .iconst 1, 1), (1242, .iadd, 1), (1243, .iaload, 1), (1244, .aload_n 0, 1), (1245, .iload 4, 2), (1247, .iconst 2, 1), (1248, .iadd, 1), (1249, .iaload, 1)]
theorem DL_law__10_q1 : ∀ q ∈ TL_law__10_q1, decode cL_law_ q.1 = .ok q.2 := dec_wk _ 1235 (by decide +kernel)
def TL_law__10_q2 : List (Nat × Instr × Nat) := [(1250, .ifCond .eq 7, 3), (1253, .iconst 1, 1), (1254, .goto 4, 3), (1257, .iconst 0, 1), (1258, .aload_n 0, 1), (1259, .iload 4, 2), (1261, .iconst 3, 1), (1262, .iadd, 1), (1263, .iaload, 1), (1264, .invokevirtual 215, 3), (1267, .istore 6, 2), (1269, .goto 686, 3)]
theorem DL_law__10_q2 : ∀ q ∈ TL_law__10_q2, decode cL_law_ q.1 = .ok q.2 := dec_wk _ 1250 (by decide +kernel)
def TL_law__10_q3 : List (Nat × Instr × Nat) := [(1272, .aload_n 1, 1), (1273, .invokevirtual 216, 3), (1276, .pop, 1), (1277, .aload_n 2, 1), (1278, .invokevirtual 219, 3), (1281, .pop, 1), (1282, .goto 673, 3), (1285, .aload_n 1, 1), (1286, .aload_n 0, 1), (1287, .iload 4, 2), (1289, .iconst 1, 1), (1290, .iadd, 1)]
theorem DL_law__10_q3 : ∀ q ∈ TL_law__10_q3, decode cL_law_ q.1 = .ok q.2 := dec_wk _ 1272 (by decide +kernel)
def TL_law__10_q4 : List (Nat × Instr × Nat) := [(1291, .iaload, 1), (1292, .aload_n 3, 1), (1293, .invokestatic 220, 3), (1296, .istore 5, 2), (1298, .aload_n 2, 1), (1299, .aload_n 0, 1), (1300, .iload 4, 2), (1302, .iconst 1, 1), (1303, .iadd, 1), (1304, .iaload, 1), (1305, .invokevirtual 222, 3), (1308, .istore 6, 2)]
theorem DL_law__10_q4 : ∀ q ∈ TL_law__10_q4, decode cL_law_ q.1 = .ok q.2 := dec_wk _ 1291 (by decide +kernel)
def TL_law__10_q5 : List (Nat × Instr × Nat) := [(1310, .goto 645, 3), (1313, .aload_n 1, 1), (1314, .invokevirtual 223, 3), (1317, .pop, 1)]
theorem DL_law__10_q5 : ∀ q ∈ TL_law__10_q5, decode cL_law_ q.1 = .ok q.2 := dec_wk _ 1310 (by decide +kernel)
def TL_law__11_q0 : List (Nat × Instr × Nat) := [(1318, .aload_n 2, 1), (1319, .invokevirtual 226, 3), (1322, .pop, 1), (1323, .goto 632, 3), (1326, .aload_n 1, 1), (1327, .invokevirtual 227, 3), (1330, .pop, 1), (1331, .aload_n 2, 1), (1332, .invokevirtual 230, 3), (1335, .pop, 1), (1336, .goto 619, 3), (1339, .aload_n 1, 1)]
theorem DL_law__11_q0 : ∀ q ∈ TL_law__11_q0, decode cL_law_ q.1 = .ok q.2 := dec_wk _ 1318 (by decide +kernel)
def TL_law__11_q1 : List (Nat × Instr × Nat) := [(1340, .aload_n 0, 1), (1341, .iload 4, 2), (1343, .iconst 1, 1), (1344, .iadd, 1), (1345, .iaload, 1), (1346, .aload_n 3, 1), (1347, .invokestatic 231, 3), (1350, .istore 5, 2), (1352, .aload_n 2, 1), (1353, .aload_n 0, 1), (1354, .iload 4, 2), (1356, .iconst 1, 1)]
theorem DL_law__11_q1 : ∀ q ∈ TL_law__11_q1, decode cL_law_ q.1 = .ok q.2 := dec_wk _ 1340 (by decide +kernel)
def TL_law__11_q2 : List (Nat × Instr × Nat) := [(1357, .iadd, 1), (1358, .iaload, 1), (1359, .invokevirtual 233, 3), (1362, .istore 6, 2), (1364, .goto 591, 3), (1367, .aload_n 1, 1), (1368, .invokevirtual 234, 3), (1371, .pop, 1), (1372, .aload_n 2, 1), (1373, .invokevirtual 237, 3), (1376, .pop, 1), (1377, .goto 578, 3)]
theorem DL_law__11_q2 : ∀ q ∈ TL_law__11_q2, decode cL_law_ q.1 = .ok q.2 := dec_wk _ 1357 (by decide +kernel)
def TL_law__11_q3 : List (Nat × Instr × Nat) := [(1380, .aload_n 1, 1), (1381, .aload_n 0, 1), (1382, .iload 4, 2), (1384, .iconst 1, 1), (1385, .iadd, 1), (1386, .iaload, 1), (1387, .aload_n 3, 1), (1388, .invokestatic 238, 3), (1391, .istore 5, 2), (1393, .aload_n 2, 1), (1394, .aload_n 0, 1), (1395, .iload 4, 2)]
theorem DL_law__11_q3 : ∀ q ∈ TL_law__11_q3, decode cL_law_ q.1 = .ok q.2 := dec_wk _ 1380 (by decide +kernel)
def TL_law__11_q4 : List (Nat × Instr × Nat) := [(1397, .iconst 1, 1), (1398, .iadd, 1), (1399, .iaload, 1), (1400, .invokevirtual 240, 3), (1403, .istore 6, 2), (1405, .goto 550, 3), (1408, .aload_n 1, 1), (1409, .invokevirtual 241, 3), (1412, .pop, 1), (1413, .aload_n 2, 1), (1414, .invokevirtual 244, 3), (1417, .pop, 1)]
theorem DL_law__11_q4 : ∀ q ∈ TL_law__11_q4, decode cL_law_ q.1 = .ok q.2 := dec_wk _ 1397 (by decide +kernel)
def TL_law__11_q5 : List (Nat × Instr × Nat) := [(1418, .goto 537, 3), (1421, .aload_n 1, 1), (1422, .aload_n 0, 1), (1423, .iload 4, 2)]
theorem DL_law__11_q5 : ∀ q ∈ TL_law__11_q5, decode cL_law_ q.1 = .ok q.2 := dec_wk _ 1418 (by decide +kernel)
def TL_law__12_q0 : List (Nat × Instr × Nat) := [(1425, .iconst 1, 1), (1426, .iadd, 1), (1427, .iaload, 1), (1428, .aload_n 0, 1), (1429, .iload 4, 2), (1431, .iconst 2, 1), (1432, .iadd, 1), (1433, .iaload, 1), (1434, .aload_n 3, 1), (1435, .invokestatic 245, 3), (1438, .istore 5, 2), (1440, .aload_n 2, 1)]
theorem DL_law__12_q0 : ∀ q ∈ TL_law__12_q0, decode cL_law_ q.1 = .ok q.2 := dec_wk _ 1425 (by decide +kernel)
def TL_law__12_q1 : List (Nat × Instr × Nat) := [(1441, .aload_n 0, 1), (1442, .iload 4, 2), (1444, .iconst 1, 1), (1445, .iadd, 1), (1446, .iaload, 1), (1447, .aload_n 0, 1), (1448, .iload 4, 2), (1450, .iconst 2, 1), (1451, .iadd, 1), (1452, .iaload, 1), (1453, .invokevirtual 247, 3), (1456, .istore 6, 2)]
theorem DL_law__12_q1 : ∀ q ∈ TL_law__12_q1, decode cL_law_ q.1 = .ok q.2 := dec_wk _ 1441 (by decide +kernel)
def TL_law__12_q2 : List (Nat × Instr × Nat) := [(1458, .goto 497, 3), (1461, .aload_n 1, 1), (1462, .invokevirtual 248, 3), (1465, .pop, 1), (1466, .aload_n 2, 1), (1467, .invokevirtual 251, 3), (1470, .pop, 1), (1471, .goto 484, 3), (1474, .aload_n 1, 1), (1475, .aload_n 0, 1), (1476, .iload 4, 2), (1478, .iconst 1, 1)]
theorem DL_law__12_q2 : ∀ q ∈ TL_law__12_q2, decode cL_law_ q.1 = .ok q.2 := dec_wk _ 1458 (by decide +kernel)
def TL_law__12_q3 : List (Nat × Instr × Nat) := [(1479, .iadd, 1), (1480, .iaload, 1), (1481, .aload_n 3, 1), (1482, .invokestatic 252, 3), (1485, .istore 5, 2), (1487, .aload_n 2, 1), (1488, .aload_n 0, 1), (1489, .iload 4, 2), (1491, .iconst 1, 1), (1492, .iadd, 1), (1493, .iaload, 1), (1494, .invokevirtual 254, 3)]
theorem DL_law__12_q3 : ∀ q ∈ TL_law__12_q3, decode cL_law_ q.1 = .ok q.2 := dec_wk _ 1479 (by decide +kernel)
def TL_law__12_q4 : List (Nat × Instr × Nat) := [(1497, .istore 6, 2), (1499, .goto 456, 3), (1502, .aload_n 1, 1), (1503, .invokevirtual 255, 3), (1506, .pop, 1), (1507, .aload_n 2, 1), (1508, .invokevirtual 258, 3), (1511, .pop, 1), (1512, .goto 443, 3), (1515, .aload_n 1, 1), (1516, .invokevirtual 259, 3), (1519, .pop, 1)]
theorem DL_law__12_q4 : ∀ q ∈ TL_law__12_q4, decode cL_law_ q.1 = .ok q.2 := dec_wk _ 1497 (by decide +kernel)
def TL_law__12_q5 : List (Nat × Instr × Nat) := [(1520, .aload_n 2, 1), (1521, .invokevirtual 262, 3), (1524, .pop, 1), (1525, .goto 430, 3)]
theorem DL_law__12_q5 : ∀ q ∈ TL_law__12_q5, decode cL_law_ q.1 = .ok q.2 := dec_wk _ 1520 (by decide +kernel)
def TL_law__13_q0 : List (Nat × Instr × Nat) := [(1528, .aload_n 1, 1), (1529, .invokevirtual 263, 3), (1532, .pop, 1), (1533, .aload_n 2, 1), (1534, .invokevirtual 266, 3), (1537, .pop, 1), (1538, .goto 417, 3), (1541, .aload_n 1, 1), (1542, .invokevirtual 267, 3), (1545, .pop, 1), (1546, .aload_n 2, 1), (1547, .invokevirtual 270, 3)]
theorem DL_law__13_q0 : ∀ q ∈ TL_law__13_q0, decode cL_law_ q.1 = .ok q.2 := dec_wk _ 1528 (by decide +kernel)
def TL_law__13_q1 : List (Nat × Instr × Nat) := [(1550, .pop, 1), (1551, .goto 404, 3), (1554, .aload_n 1, 1), (1555, .invokevirtual 271, 3), (1558, .pop, 1), (1559, .aload_n 2, 1), (1560, .invokevirtual 274, 3), (1563, .pop, 1), (1564, .goto 391, 3), (1567, .aload_n 1, 1), (1568, .aload_n 0, 1), (1569, .iload 4, 2)]
theorem DL_law__13_q1 : ∀ q ∈ TL_law__13_q1, decode cL_law_ q.1 = .ok q.2 := dec_wk _ 1550 (by decide +kernel)
def TL_law__13_q2 : List (Nat × Instr × Nat) := [(1571, .iconst 1, 1), (1572, .iadd, 1), (1573, .iaload, 1), (1574, .aload_n 0, 1), (1575, .iload 4, 2), (1577, .iconst 2, 1), (1578, .iadd, 1), (1579, .iaload, 1), (1580, .aload_n 3, 1), (1581, .invokestatic 275, 3), (1584, .istore 5, 2), (1586, .aload_n 2, 1)]
theorem DL_law__13_q2 : ∀ q ∈ TL_law__13_q2, decode cL_law_ q.1 = .ok q.2 := dec_wk _ 1571 (by decide +kernel)
def TL_law__13_q3 : List (Nat × Instr × Nat) := [(1587, .aload_n 0, 1), (1588, .iload 4, 2), (1590, .iconst 1, 1), (1591, .iadd, 1), (1592, .iaload, 1), (1593, .aload_n 0, 1), (1594, .iload 4, 2), (1596, .iconst 2, 1), (1597, .iadd, 1), (1598, .iaload, 1), (1599, .invokevirtual 277, 3), (1602, .istore 6, 2)]
theorem DL_law__13_q3 : ∀ q ∈ TL_law__13_q3, decode cL_law_ q.1 = .ok q.2 := dec_wk _ 1587 (by decide +kernel)
def TL_law__13_q4 : List (Nat × Instr × Nat) := [(1604, .goto 351, 3), (1607, .aload_n 1, 1), (1608, .invokevirtual 278, 3), (1611, .pop, 1), (1612, .aload_n 2, 1), (1613, .invokevirtual 281, 3), (1616, .pop, 1), (1617, .goto 338, 3), (1620, .aload_n 1, 1), (1621, .aload_n 0, 1), (1622, .iload 4, 2), (1624, .iconst 1, 1)]
theorem DL_law__13_q4 : ∀ q ∈ TL_law__13_q4, decode cL_law_ q.1 = .ok q.2 := dec_wk _ 1604 (by decide +kernel)
def TL_law__13_q5 : List (Nat × Instr × Nat) := [(1625, .iadd, 1), (1626, .iaload, 1), (1627, .aload_n 0, 1), (1628, .iload 4, 2)]
theorem DL_law__13_q5 : ∀ q ∈ TL_law__13_q5, decode cL_law_ q.1 = .ok q.2 := dec_wk _ 1625 (by decide +kernel)
def TL_law__14_q0 : List (Nat × Instr × Nat) := [(1630, .iconst 2, 1), (1631, .iadd, 1), (1632, .iaload, 1), (1633, .aload_n 3, 1), (1634, .invokestatic 282, 3), (1637, .istore 5, 2), (1639, .aload_n 2, 1), (1640, .aload_n 0, 1), (1641, .iload 4, 2), (1643, .iconst 1, 1), (1644, .iadd, 1), (1645, .iaload, 1)]
theorem DL_law__14_q0 : ∀ q ∈ TL_law__14_q0, decode cL_law_ q.1 = .ok q.2 := dec_wk _ 1630 (by decide +kernel)
def TL_law__14_q1 : List (Nat × Instr × Nat) := [(1646, .aload_n 0, 1), (1647, .iload 4, 2), (1649, .iconst 2, 1), (1650, .iadd, 1), (1651, .iaload, 1), (1652, .invokevirtual 284, 3), (1655, .istore 6, 2), (1657, .goto 298, 3), (1660, .aload_n 1, 1), (1661, .aload_n 0, 1), (1662, .iload 4, 2), (1664, .iconst 1, 1)]
theorem DL_law__14_q1 : ∀ q ∈ TL_law__14_q1, decode cL_law_ q.1 = .ok q.2 := dec_wk _ 1646 (by decide +kernel)
def TL_law__14_q2 : List (Nat × Instr × Nat) := [(1665, .iadd, 1), (1666, .iaload, 1), (1667, .aload_n 0, 1), (1668, .iload 4, 2), (1670, .iconst 2, 1), (1671, .iadd, 1), (1672, .iaload, 1), (1673, .ifCond .eq 7, 3), (1676, .iconst 1, 1), (1677, .goto 4, 3), (1680, .iconst 0, 1), (1681, .aload_n 3, 1)]
theorem DL_law__14_q2 : ∀ q ∈ TL_law__14_q2, decode cL_law_ q.1 = .ok q.2 := dec_wk _ 1665 (by decide +kernel)
def TL_law__14_q3 : List (Nat × Instr × Nat) := [(1682, .invokestatic 285, 3), (1685, .istore 5, 2), (1687, .aload_n 2, 1), (1688, .aload_n 0, 1), (1689, .iload 4, 2), (1691, .iconst 1, 1), (1692, .iadd, 1), (1693, .iaload, 1), (1694, .aload_n 0, 1), (1695, .iload 4, 2), (1697, .iconst 2, 1), (1698, .iadd, 1)]
theorem DL_law__14_q3 : ∀ q ∈ TL_law__14_q3, decode cL_law_ q.1 = .ok q.2 := dec_wk _ 1682 (by decide +kernel)
def TL_law__14_q4 : List (Nat × Instr × Nat) := [(1699, .iaload, 1), (1700, .ifCond .eq 7, 3), (1703, .iconst 1, 1), (1704, .goto 4, 3), (1707, .iconst 0, 1), (1708, .invokevirtual 287, 3), (1711, .istore 6, 2), (1713, .goto 242, 3), (1716, .aload_n 1, 1), (1717, .aload_n 0, 1), (1718, .iload 4, 2), (1720, .iconst 1, 1)]
theorem DL_law__14_q4 : ∀ q ∈ TL_law__14_q4, decode cL_law_ q.1 = .ok q.2 := dec_wk _ 1699 (by decide +kernel)
def TL_law__14_q5 : List (Nat × Instr × Nat) := [(1721, .iadd, 1), (1722, .iaload, 1), (1723, .aload_n 0, 1), (1724, .iload 4, 2)]
theorem DL_law__14_q5 : ∀ q ∈ TL_law__14_q5, decode cL_law_ q.1 = .ok q.2 := dec_wk _ 1721 (by decide +kernel)
def TL_law__15_q0 : List (Nat × Instr × Nat) := [(1726, .iconst 2, 1), (1727, .iadd, 1), (1728, .iaload, 1), (1729, .ifCond .eq 7, 3), (1732, .iconst 1, 1), (1733, .goto 4, 3), (1736, .iconst 0, 1), (1737, .aload_n 3, 1), (1738, .invokestatic 288, 3), (1741, .istore 5, 2), (1743, .aload_n 2, 1), (1744, .aload_n 0, 1)]
theorem DL_law__15_q0 : ∀ q ∈ TL_law__15_q0, decode cL_law_ q.1 = .ok q.2 := dec_wk _ 1726 (by decide +kernel)
def TL_law__15_q1 : List (Nat × Instr × Nat) := [(1745, .iload 4, 2), (1747, .iconst 1, 1), (1748, .iadd, 1), (1749, .iaload, 1), (1750, .aload_n 0, 1), (1751, .iload 4, 2), (1753, .iconst 2, 1), (1754, .iadd, 1), (1755, .iaload, 1), (1756, .ifCond .eq 7, 3), (1759, .iconst 1, 1), (1760, .goto 4, 3)]
theorem DL_law__15_q1 : ∀ q ∈ TL_law__15_q1, decode cL_law_ q.1 = .ok q.2 := dec_wk _ 1745 (by decide +kernel)
def TL_law__15_q2 : List (Nat × Instr × Nat) := [(1763, .iconst 0, 1), (1764, .invokevirtual 290, 3), (1767, .istore 6, 2), (1769, .goto 186, 3), (1772, .aload_n 1, 1), (1773, .aload_n 0, 1), (1774, .iload 4, 2), (1776, .iconst 1, 1), (1777, .iadd, 1), (1778, .iaload, 1), (1779, .aload_n 0, 1), (1780, .iload 4, 2)]
theorem DL_law__15_q2 : ∀ q ∈ TL_law__15_q2, decode cL_law_ q.1 = .ok q.2 := dec_wk _ 1763 (by decide +kernel)
def TL_law__15_q3 : List (Nat × Instr × Nat) := [(1782, .iconst 2, 1), (1783, .iadd, 1), (1784, .iaload, 1), (1785, .ifCond .eq 7, 3), (1788, .iconst 1, 1), (1789, .goto 4, 3), (1792, .iconst 0, 1), (1793, .aload_n 3, 1), (1794, .invokestatic 291, 3), (1797, .istore 5, 2), (1799, .aload_n 2, 1), (1800, .aload_n 0, 1)]
theorem DL_law__15_q3 : ∀ q ∈ TL_law__15_q3, decode cL_law_ q.1 = .ok q.2 := dec_wk _ 1782 (by decide +kernel)
def TL_law__15_q4 : List (Nat × Instr × Nat) := [(1801, .iload 4, 2), (1803, .iconst 1, 1), (1804, .iadd, 1), (1805, .iaload, 1), (1806, .aload_n 0, 1), (1807, .iload 4, 2), (1809, .iconst 2, 1), (1810, .iadd, 1), (1811, .iaload, 1), (1812, .ifCond .eq 7, 3), (1815, .iconst 1, 1), (1816, .goto 4, 3)]
theorem DL_law__15_q4 : ∀ q ∈ TL_law__15_q4, decode cL_law_ q.1 = .ok q.2 := dec_wk _ 1801 (by decide +kernel)
def TL_law__15_q5 : List (Nat × Instr × Nat) := [(1819, .iconst 0, 1), (1820, .invokevirtual 293, 3), (1823, .istore 6, 2), (1825, .goto 130, 3)]
theorem DL_law__15_q5 : ∀ q ∈ TL_law__15_q5, decode cL_law_ q.1 = .ok q.2 := dec_wk _ 1819 (by decide +kernel)
def TL_law__16_q0 : List (Nat × Instr × Nat) := [(1828, .aload_n 1, 1), (1829, .aload_n 0, 1), (1830, .iload 4, 2), (1832, .iconst 1, 1), (1833, .iadd, 1), (1834, .iaload, 1), (1835, .aload_n 0, 1), (1836, .iload 4, 2), (1838, .iconst 2, 1), (1839, .iadd, 1), (1840, .iaload, 1), (1841, .aload_n 3, 1)]
theorem DL_law__16_q0 : ∀ q ∈ TL_law__16_q0, decode cL_law_ q.1 = .ok q.2 := dec_wk _ 1828 (by decide +kernel)
def TL_law__16_q1 : List (Nat × Instr × Nat) := [(1842, .invokestatic 294, 3), (1845, .istore 5, 2), (1847, .aload_n 2, 1), (1848, .aload_n 0, 1), (1849, .iload 4, 2), (1851, .iconst 1, 1), (1852, .iadd, 1), (1853, .iaload, 1), (1854, .aload_n 0, 1), (1855, .iload 4, 2), (1857, .iconst 2, 1), (1858, .iadd, 1)]
theorem DL_law__16_q1 : ∀ q ∈ TL_law__16_q1, decode cL_law_ q.1 = .ok q.2 := dec_wk _ 1842 (by decide +kernel)
def TL_law__16_q2 : List (Nat × Instr × Nat) := [(1859, .iaload, 1), (1860, .invokevirtual 296, 3), (1863, .istore 6, 2), (1865, .goto 90, 3), (1868, .aload_n 1, 1), (1869, .aload_n 0, 1), (1870, .iload 4, 2), (1872, .iconst 1, 1), (1873, .iadd, 1), (1874, .iaload, 1), (1875, .invokevirtual 297, 3), (1878, .pop, 1)]
theorem DL_law__16_q2 : ∀ q ∈ TL_law__16_q2, decode cL_law_ q.1 = .ok q.2 := dec_wk _ 1859 (by decide +kernel)
def TL_law__16_q3 : List (Nat × Instr × Nat) := [(1879, .aload_n 2, 1), (1880, .aload_n 0, 1), (1881, .iload 4, 2), (1883, .iconst 1, 1), (1884, .iadd, 1), (1885, .iaload, 1), (1886, .invokevirtual 300, 3), (1889, .pop, 1), (1890, .goto 65, 3), (1893, .aload_n 1, 1), (1894, .invokevirtual 301, 3), (1897, .pop, 1)]
theorem DL_law__16_q3 : ∀ q ∈ TL_law__16_q3, decode cL_law_ q.1 = .ok q.2 := dec_wk _ 1879 (by decide +kernel)
def TL_law__16_q4 : List (Nat × Instr × Nat) := [(1898, .aload_n 2, 1), (1899, .invokevirtual 305, 3), (1902, .pop, 1), (1903, .goto 52, 3), (1906, .aload_n 1, 1), (1907, .invokevirtual 306, 3), (1910, .aload_n 2, 1), (1911, .invokevirtual 309, 3), (1914, .goto 41, 3), (1917, .aload_n 1, 1), (1918, .invokevirtual 310, 3), (1921, .pop, 1)]
theorem DL_law__16_q4 : ∀ q ∈ TL_law__16_q4, decode cL_law_ q.1 = .ok q.2 := dec_wk _ 1898 (by decide +kernel)
def TL_law__16_q5 : List (Nat × Instr × Nat) := [(1922, .aload_n 2, 1), (1923, .invokevirtual 313, 3), (1926, .pop, 1), (1927, .goto 28, 3)]
theorem DL_law__16_q5 : ∀ q ∈ TL_law__16_q5, decode cL_law_ q.1 = .ok q.2 := dec_wk _ 1922 (by decide +kernel)
def TL_law__17_q0 : List (Nat × Instr × Nat) := [(1930, .aload_n 1, 1), (1931, .aload_n 0, 1), (1932, .iload 4, 2), (1934, .iconst 1, 1), (1935, .iadd, 1), (1936, .iaload, 1), (1937, .invokevirtual 314, 3), (1940, .pop, 1), (1941, .aload_n 2, 1), (1942, .aload_n 0, 1), (1943, .iload 4, 2), (1945, .iconst 1, 1)]
theorem DL_law__17_q0 : ∀ q ∈ TL_law__17_q0, decode cL_law_ q.1 = .ok q.2 := dec_wk _ 1930 (by decide +kernel)
def TL_law__17_q1 : List (Nat × Instr × Nat) := [(1946, .iadd, 1), (1947, .iaload, 1), (1948, .invokevirtual 317, 3), (1951, .pop, 1), (1952, .goto 3, 3), (1955, .iinc 4 6, 3), (1958, .goto (-1935), 3), (1961, .iconst 1, 1), (1962, .ireturn, 1)]
theorem DL_law__17_q1 : ∀ q ∈ TL_law__17_q1, decode cL_law_ q.1 = .ok q.2 := dec_wk _ 1946 (by decide +kernel)
end
