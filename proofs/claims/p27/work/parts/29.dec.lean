section
def TL_pole_q0 : List (Nat × Instr × Nat) := [(0, .aload_n 1, 1), (1, .iconst 0, 1), (2, .aload_n 0, 1), (3, .invokevirtual 7, 3), (6, .i2l, 1), (7, .lastore, 1), (8, .goto 9, 3), (11, .astore_n 2, 1), (12, .iconst 1, 1), (13, .ireturn, 1), (14, .astore_n 2, 1), (15, .iconst 2, 1)]
theorem DL_pole_q0 : ∀ q ∈ TL_pole_q0, decode cL_pole q.1 = .ok q.2 := dec_wk _ 0 (by decide +kernel)
def TL_pole_q1 : List (Nat × Instr × Nat) := [(16, .ireturn, 1), (17, .iconst 0, 1), (18, .ireturn, 1)]
theorem DL_pole_q1 : ∀ q ∈ TL_pole_q1, decode cL_pole q.1 = .ok q.2 := dec_wk _ 16 (by decide +kernel)
def TL_law_q0 : List (Nat × Instr × Nat) := [(0, .aload_n 1, 1), (1, .iconst 0, 1), (2, .aload_n 0, 1), (3, .invokevirtual 17, 3), (6, .i2l, 1), (7, .lastore, 1), (8, .goto 6, 3), (11, .astore_n 2, 1), (12, .iconst 1, 1), (13, .ireturn, 1), (14, .iconst 0, 1), (15, .ireturn, 1)]
theorem DL_law_q0 : ∀ q ∈ TL_law_q0, decode cL_law q.1 = .ok q.2 := dec_wk _ 0 (by decide +kernel)
def TL_ring_q0 : List (Nat × Instr × Nat) := [(0, .aload_n 3, 1), (1, .iconst 0, 1), (2, .aload_n 0, 1), (3, .iload_n 1, 1), (4, .iload_n 2, 1), (5, .invokevirtual 20, 3), (8, .i2l, 1), (9, .lastore, 1), (10, .goto 11, 3), (13, .astore 4, 2), (15, .iconst 1, 1), (16, .ireturn, 1)]
theorem DL_ring_q0 : ∀ q ∈ TL_ring_q0, decode cL_ring q.1 = .ok q.2 := dec_wk _ 0 (by decide +kernel)
def TL_ring_q1 : List (Nat × Instr × Nat) := [(17, .astore 4, 2), (19, .iconst 2, 1), (20, .ireturn, 1), (21, .iconst 0, 1), (22, .ireturn, 1)]
theorem DL_ring_q1 : ∀ q ∈ TL_ring_q1, decode cL_ring q.1 = .ok q.2 := dec_wk _ 17 (by decide +kernel)
def TL_pull_q0 : List (Nat × Instr × Nat) := [(0, .aload 4, 2), (2, .iconst 0, 1), (3, .aload_n 0, 1), (4, .iload_n 1, 1), (5, .iload_n 2, 1), (6, .iload_n 3, 1), (7, .invokevirtual 28, 3), (10, .i2l, 1), (11, .lastore, 1), (12, .goto 11, 3), (15, .astore 5, 2), (17, .iconst 1, 1)]
theorem DL_pull_q0 : ∀ q ∈ TL_pull_q0, decode cL_pull q.1 = .ok q.2 := dec_wk _ 0 (by decide +kernel)
def TL_pull_q1 : List (Nat × Instr × Nat) := [(18, .ireturn, 1), (19, .astore 5, 2), (21, .iconst 2, 1), (22, .ireturn, 1), (23, .iconst 0, 1), (24, .ireturn, 1)]
theorem DL_pull_q1 : ∀ q ∈ TL_pull_q1, decode cL_pull q.1 = .ok q.2 := dec_wk _ 18 (by decide +kernel)
def TL_free_q0 : List (Nat × Instr × Nat) := [(0, .aload_n 2, 1), (1, .iconst 0, 1), (2, .aload_n 0, 1), (3, .iload_n 1, 1), (4, .invokevirtual 32, 3), (7, .i2l, 1), (8, .lastore, 1), (9, .goto 9, 3), (12, .astore_n 3, 1), (13, .iconst 1, 1), (14, .ireturn, 1), (15, .astore_n 3, 1)]
theorem DL_free_q0 : ∀ q ∈ TL_free_q0, decode cL_free q.1 = .ok q.2 := dec_wk _ 0 (by decide +kernel)
def TL_free_q1 : List (Nat × Instr × Nat) := [(16, .iconst 2, 1), (17, .ireturn, 1), (18, .iconst 0, 1), (19, .ireturn, 1)]
theorem DL_free_q1 : ∀ q ∈ TL_free_q1, decode cL_free q.1 = .ok q.2 := dec_wk _ 16 (by decide +kernel)
def TL_snag_q0 : List (Nat × Instr × Nat) := [(0, .aload_n 2, 1), (1, .iconst 0, 1), (2, .aload_n 0, 1), (3, .iload_n 1, 1), (4, .invokevirtual 38, 3), (7, .i2l, 1), (8, .lastore, 1), (9, .goto 9, 3), (12, .astore_n 3, 1), (13, .iconst 1, 1), (14, .ireturn, 1), (15, .astore_n 3, 1)]
theorem DL_snag_q0 : ∀ q ∈ TL_snag_q0, decode cL_snag q.1 = .ok q.2 := dec_wk _ 0 (by decide +kernel)
def TL_snag_q1 : List (Nat × Instr × Nat) := [(16, .iconst 2, 1), (17, .ireturn, 1), (18, .iconst 0, 1), (19, .ireturn, 1)]
theorem DL_snag_q1 : ∀ q ∈ TL_snag_q1, decode cL_snag q.1 = .ok q.2 := dec_wk _ 16 (by decide +kernel)
def TL_hook_q0 : List (Nat × Instr × Nat) := [(0, .aload_n 3, 1), (1, .iconst 0, 1), (2, .aload_n 0, 1), (3, .iload_n 1, 1), (4, .iload_n 2, 1), (5, .invokevirtual 41, 3), (8, .ifCond .eq 7, 3), (11, .lconst 1, 1), (12, .goto 4, 3), (15, .lconst 0, 1), (16, .lastore, 1), (17, .goto 7, 3)]
theorem DL_hook_q0 : ∀ q ∈ TL_hook_q0, decode cL_hook q.1 = .ok q.2 := dec_wk _ 0 (by decide +kernel)
def TL_hook_q1 : List (Nat × Instr × Nat) := [(20, .astore 4, 2), (22, .iconst 1, 1), (23, .ireturn, 1), (24, .iconst 0, 1), (25, .ireturn, 1)]
theorem DL_hook_q1 : ∀ q ∈ TL_hook_q1, decode cL_hook q.1 = .ok q.2 := dec_wk _ 20 (by decide +kernel)
def TL_sew_q0 : List (Nat × Instr × Nat) := [(0, .aload_n 3, 1), (1, .iconst 0, 1), (2, .aload_n 0, 1), (3, .iload_n 1, 1), (4, .iload_n 2, 1), (5, .invokevirtual 45, 3), (8, .i2l, 1), (9, .lastore, 1), (10, .goto 15, 3), (13, .astore 4, 2), (15, .iconst 1, 1), (16, .ireturn, 1)]
theorem DL_sew_q0 : ∀ q ∈ TL_sew_q0, decode cL_sew q.1 = .ok q.2 := dec_wk _ 0 (by decide +kernel)
def TL_sew_q1 : List (Nat × Instr × Nat) := [(17, .astore 4, 2), (19, .iconst 2, 1), (20, .ireturn, 1), (21, .astore 4, 2), (23, .iconst 3, 1), (24, .ireturn, 1), (25, .iconst 0, 1), (26, .ireturn, 1)]
theorem DL_sew_q1 : ∀ q ∈ TL_sew_q1, decode cL_sew q.1 = .ok q.2 := dec_wk _ 17 (by decide +kernel)
def TL_let_q0 : List (Nat × Instr × Nat) := [(0, .aload_n 3, 1), (1, .iconst 0, 1), (2, .aload_n 0, 1), (3, .iload_n 1, 1), (4, .iload_n 2, 1), (5, .invokevirtual 48, 3), (8, .i2l, 1), (9, .lastore, 1), (10, .goto 11, 3), (13, .astore 4, 2), (15, .iconst 1, 1), (16, .ireturn, 1)]
theorem DL_let_q0 : ∀ q ∈ TL_let_q0, decode cL_let q.1 = .ok q.2 := dec_wk _ 0 (by decide +kernel)
def TL_let_q1 : List (Nat × Instr × Nat) := [(17, .astore 4, 2), (19, .iconst 2, 1), (20, .ireturn, 1), (21, .iconst 0, 1), (22, .ireturn, 1)]
theorem DL_let_q1 : ∀ q ∈ TL_let_q1, decode cL_let q.1 = .ok q.2 := dec_wk _ 17 (by decide +kernel)
def TL_chair_q0 : List (Nat × Instr × Nat) := [(0, .aload_n 3, 1), (1, .iconst 0, 1), (2, .aload_n 0, 1), (3, .iload_n 1, 1), (4, .iload_n 2, 1), (5, .invokevirtual 51, 3), (8, .ifCond .eq 7, 3), (11, .lconst 1, 1), (12, .goto 4, 3), (15, .lconst 0, 1), (16, .lastore, 1), (17, .goto 7, 3)]
theorem DL_chair_q0 : ∀ q ∈ TL_chair_q0, decode cL_chair q.1 = .ok q.2 := dec_wk _ 0 (by decide +kernel)
def TL_chair_q1 : List (Nat × Instr × Nat) := [(20, .astore 4, 2), (22, .iconst 1, 1), (23, .ireturn, 1), (24, .iconst 0, 1), (25, .ireturn, 1)]
theorem DL_chair_q1 : ∀ q ∈ TL_chair_q1, decode cL_chair q.1 = .ok q.2 := dec_wk _ 20 (by decide +kernel)
def TL_hours_q0 : List (Nat × Instr × Nat) := [(0, .aload_n 2, 1), (1, .iconst 0, 1), (2, .aload_n 0, 1), (3, .iload_n 1, 1), (4, .invokevirtual 54, 3), (7, .i2l, 1), (8, .lastore, 1), (9, .goto 6, 3), (12, .astore_n 3, 1), (13, .iconst 1, 1), (14, .ireturn, 1), (15, .iconst 0, 1)]
theorem DL_hours_q0 : ∀ q ∈ TL_hours_q0, decode cL_hours q.1 = .ok q.2 := dec_wk _ 0 (by decide +kernel)
def TL_hours_q1 : List (Nat × Instr × Nat) := [(16, .ireturn, 1)]
theorem DL_hours_q1 : ∀ q ∈ TL_hours_q1, decode cL_hours q.1 = .ok q.2 := dec_wk _ 16 (by decide +kernel)
def TL_goes_q0 : List (Nat × Instr × Nat) := [(0, .aload_n 3, 1), (1, .iconst 0, 1), (2, .aload_n 0, 1), (3, .iload_n 1, 1), (4, .iload_n 2, 1), (5, .invokevirtual 57, 3), (8, .i2l, 1), (9, .lastore, 1), (10, .goto 7, 3), (13, .astore 4, 2), (15, .iconst 1, 1), (16, .ireturn, 1)]
theorem DL_goes_q0 : ∀ q ∈ TL_goes_q0, decode cL_goes q.1 = .ok q.2 := dec_wk _ 0 (by decide +kernel)
def TL_goes_q1 : List (Nat × Instr × Nat) := [(17, .iconst 0, 1), (18, .ireturn, 1)]
theorem DL_goes_q1 : ∀ q ∈ TL_goes_q1, decode cL_goes q.1 = .ok q.2 := dec_wk _ 17 (by decide +kernel)
def TL_with_q0 : List (Nat × Instr × Nat) := [(0, .aload_n 3, 1), (1, .iconst 0, 1), (2, .aload_n 0, 1), (3, .iload_n 1, 1), (4, .iload_n 2, 1), (5, .invokevirtual 61, 3), (8, .i2l, 1), (9, .lastore, 1), (10, .goto 7, 3), (13, .astore 4, 2), (15, .iconst 1, 1), (16, .ireturn, 1)]
theorem DL_with_q0 : ∀ q ∈ TL_with_q0, decode cL_with q.1 = .ok q.2 := dec_wk _ 0 (by decide +kernel)
def TL_with_q1 : List (Nat × Instr × Nat) := [(17, .iconst 0, 1), (18, .ireturn, 1)]
theorem DL_with_q1 : ∀ q ∈ TL_with_q1, decode cL_with q.1 = .ok q.2 := dec_wk _ 17 (by decide +kernel)
def TL_would_q0 : List (Nat × Instr × Nat) := [(0, .aload 5, 2), (2, .iconst 0, 1), (3, .aload_n 0, 1), (4, .iload_n 1, 1), (5, .iload_n 2, 1), (6, .iload_n 3, 1), (7, .iload 4, 2), (9, .invokevirtual 64, 3), (12, .i2l, 1), (13, .lastore, 1), (14, .goto 11, 3), (17, .astore 6, 2)]
theorem DL_would_q0 : ∀ q ∈ TL_would_q0, decode cL_would q.1 = .ok q.2 := dec_wk _ 0 (by decide +kernel)
def TL_would_q1 : List (Nat × Instr × Nat) := [(19, .iconst 1, 1), (20, .ireturn, 1), (21, .astore 6, 2), (23, .iconst 2, 1), (24, .ireturn, 1), (25, .iconst 0, 1), (26, .ireturn, 1)]
theorem DL_would_q1 : ∀ q ∈ TL_would_q1, decode cL_would q.1 = .ok q.2 := dec_wk _ 19 (by decide +kernel)
def TL_snags_q0 : List (Nat × Instr × Nat) := [(0, .aload_n 2, 1), (1, .iconst 0, 1), (2, .aload_n 0, 1), (3, .iload_n 1, 1), (4, .invokevirtual 68, 3), (7, .i2l, 1), (8, .lastore, 1), (9, .goto 6, 3), (12, .astore_n 3, 1), (13, .iconst 1, 1), (14, .ireturn, 1), (15, .iconst 0, 1)]
theorem DL_snags_q0 : ∀ q ∈ TL_snags_q0, decode cL_snags q.1 = .ok q.2 := dec_wk _ 0 (by decide +kernel)
def TL_snags_q1 : List (Nat × Instr × Nat) := [(16, .ireturn, 1)]
theorem DL_snags_q1 : ∀ q ∈ TL_snags_q1, decode cL_snags q.1 = .ok q.2 := dec_wk _ 16 (by decide +kernel)
def TL_tries_q0 : List (Nat × Instr × Nat) := [(0, .aload_n 1, 1), (1, .iconst 0, 1), (2, .aload_n 0, 1), (3, .invokevirtual 72, 3), (6, .i2l, 1), (7, .lastore, 1), (8, .goto 6, 3), (11, .astore_n 2, 1), (12, .iconst 1, 1), (13, .ireturn, 1), (14, .iconst 0, 1), (15, .ireturn, 1)]
theorem DL_tries_q0 : ∀ q ∈ TL_tries_q0, decode cL_tries q.1 = .ok q.2 := dec_wk _ 0 (by decide +kernel)
def TL_loosen_q0 : List (Nat × Instr × Nat) := [(0, .aload 4, 2), (2, .iconst 0, 1), (3, .aload_n 0, 1), (4, .iload_n 1, 1), (5, .iload_n 2, 1), (6, .iload_n 3, 1), (7, .invokevirtual 75, 3), (10, .i2l, 1), (11, .lastore, 1), (12, .goto 11, 3), (15, .astore 5, 2), (17, .iconst 1, 1)]
theorem DL_loosen_q0 : ∀ q ∈ TL_loosen_q0, decode cL_loosen q.1 = .ok q.2 := dec_wk _ 0 (by decide +kernel)
def TL_loosen_q1 : List (Nat × Instr × Nat) := [(18, .ireturn, 1), (19, .astore 5, 2), (21, .iconst 2, 1), (22, .ireturn, 1), (23, .iconst 0, 1), (24, .ireturn, 1)]
theorem DL_loosen_q1 : ∀ q ∈ TL_loosen_q1, decode cL_loosen q.1 = .ok q.2 := dec_wk _ 18 (by decide +kernel)
def TL_tight_q0 : List (Nat × Instr × Nat) := [(0, .aload_n 2, 1), (1, .iconst 0, 1), (2, .aload_n 0, 1), (3, .iload_n 1, 1), (4, .invokevirtual 78, 3), (7, .i2l, 1), (8, .lastore, 1), (9, .goto 6, 3), (12, .astore_n 3, 1), (13, .iconst 1, 1), (14, .ireturn, 1), (15, .iconst 0, 1)]
theorem DL_tight_q0 : ∀ q ∈ TL_tight_q0, decode cL_tight q.1 = .ok q.2 := dec_wk _ 0 (by decide +kernel)
def TL_tight_q1 : List (Nat × Instr × Nat) := [(16, .ireturn, 1)]
theorem DL_tight_q1 : ∀ q ∈ TL_tight_q1, decode cL_tight q.1 = .ok q.2 := dec_wk _ 16 (by decide +kernel)
def TL_lit_q0 : List (Nat × Instr × Nat) := [(0, .aload_n 2, 1), (1, .iconst 0, 1), (2, .aload_n 0, 1), (3, .iload_n 1, 1), (4, .invokevirtual 81, 3), (7, .i2l, 1), (8, .lastore, 1), (9, .goto 6, 3), (12, .astore_n 3, 1), (13, .iconst 1, 1), (14, .ireturn, 1), (15, .iconst 0, 1)]
theorem DL_lit_q0 : ∀ q ∈ TL_lit_q0, decode cL_lit q.1 = .ok q.2 := dec_wk _ 0 (by decide +kernel)
def TL_lit_q1 : List (Nat × Instr × Nat) := [(16, .ireturn, 1)]
theorem DL_lit_q1 : ∀ q ∈ TL_lit_q1, decode cL_lit q.1 = .ok q.2 := dec_wk _ 16 (by decide +kernel)
def TL_faded_q0 : List (Nat × Instr × Nat) := [(0, .aload_n 2, 1), (1, .iconst 0, 1), (2, .aload_n 0, 1), (3, .iload_n 1, 1), (4, .invokevirtual 84, 3), (7, .i2l, 1), (8, .lastore, 1), (9, .goto 6, 3), (12, .astore_n 3, 1), (13, .iconst 1, 1), (14, .ireturn, 1), (15, .iconst 0, 1)]
theorem DL_faded_q0 : ∀ q ∈ TL_faded_q0, decode cL_faded q.1 = .ok q.2 := dec_wk _ 0 (by decide +kernel)
def TL_faded_q1 : List (Nat × Instr × Nat) := [(16, .ireturn, 1)]
theorem DL_faded_q1 : ∀ q ∈ TL_faded_q1, decode cL_faded q.1 = .ok q.2 := dec_wk _ 16 (by decide +kernel)
def TL_lets_q0 : List (Nat × Instr × Nat) := [(0, .aload_n 3, 1), (1, .iconst 0, 1), (2, .aload_n 0, 1), (3, .iload_n 1, 1), (4, .iload_n 2, 1), (5, .invokevirtual 87, 3), (8, .i2l, 1), (9, .lastore, 1), (10, .goto 11, 3), (13, .astore 4, 2), (15, .iconst 1, 1), (16, .ireturn, 1)]
theorem DL_lets_q0 : ∀ q ∈ TL_lets_q0, decode cL_lets q.1 = .ok q.2 := dec_wk _ 0 (by decide +kernel)
def TL_lets_q1 : List (Nat × Instr × Nat) := [(17, .astore 4, 2), (19, .iconst 2, 1), (20, .ireturn, 1), (21, .iconst 0, 1), (22, .ireturn, 1)]
theorem DL_lets_q1 : ∀ q ∈ TL_lets_q1, decode cL_lets q.1 = .ok q.2 := dec_wk _ 17 (by decide +kernel)
def TL_rests_q0 : List (Nat × Instr × Nat) := [(0, .aload_n 2, 1), (1, .iconst 0, 1), (2, .aload_n 0, 1), (3, .iload_n 1, 1), (4, .invokevirtual 90, 3), (7, .i2l, 1), (8, .lastore, 1), (9, .goto 6, 3), (12, .astore_n 3, 1), (13, .iconst 1, 1), (14, .ireturn, 1), (15, .iconst 0, 1)]
theorem DL_rests_q0 : ∀ q ∈ TL_rests_q0, decode cL_rests q.1 = .ok q.2 := dec_wk _ 0 (by decide +kernel)
def TL_rests_q1 : List (Nat × Instr × Nat) := [(16, .ireturn, 1)]
theorem DL_rests_q1 : ∀ q ∈ TL_rests_q1, decode cL_rests q.1 = .ok q.2 := dec_wk _ 16 (by decide +kernel)
def TL_odds_q0 : List (Nat × Instr × Nat) := [(0, .aload_n 3, 1), (1, .iconst 0, 1), (2, .aload_n 0, 1), (3, .iload_n 1, 1), (4, .iload_n 2, 1), (5, .invokevirtual 93, 3), (8, .i2l, 1), (9, .lastore, 1), (10, .goto 11, 3), (13, .astore 4, 2), (15, .iconst 1, 1), (16, .ireturn, 1)]
theorem DL_odds_q0 : ∀ q ∈ TL_odds_q0, decode cL_odds q.1 = .ok q.2 := dec_wk _ 0 (by decide +kernel)
def TL_odds_q1 : List (Nat × Instr × Nat) := [(17, .astore 4, 2), (19, .iconst 2, 1), (20, .ireturn, 1), (21, .iconst 0, 1), (22, .ireturn, 1)]
theorem DL_odds_q1 : ∀ q ∈ TL_odds_q1, decode cL_odds q.1 = .ok q.2 := dec_wk _ 17 (by decide +kernel)
def TL_ahead_q0 : List (Nat × Instr × Nat) := [(0, .aload_n 3, 1), (1, .iconst 0, 1), (2, .aload_n 0, 1), (3, .iload_n 1, 1), (4, .iload_n 2, 1), (5, .invokevirtual 96, 3), (8, .i2l, 1), (9, .lastore, 1), (10, .goto 11, 3), (13, .astore 4, 2), (15, .iconst 1, 1), (16, .ireturn, 1)]
theorem DL_ahead_q0 : ∀ q ∈ TL_ahead_q0, decode cL_ahead q.1 = .ok q.2 := dec_wk _ 0 (by decide +kernel)
def TL_ahead_q1 : List (Nat × Instr × Nat) := [(17, .astore 4, 2), (19, .iconst 2, 1), (20, .ireturn, 1), (21, .iconst 0, 1), (22, .ireturn, 1)]
theorem DL_ahead_q1 : ∀ q ∈ TL_ahead_q1, decode cL_ahead q.1 = .ok q.2 := dec_wk _ 17 (by decide +kernel)
def TL_trial_q0 : List (Nat × Instr × Nat) := [(0, .aload_n 3, 1), (1, .iconst 0, 1), (2, .aload_n 0, 1), (3, .iload_n 1, 1), (4, .iload_n 2, 1), (5, .invokevirtual 99, 3), (8, .i2l, 1), (9, .lastore, 1), (10, .goto 7, 3), (13, .astore 4, 2), (15, .iconst 1, 1), (16, .ireturn, 1)]
theorem DL_trial_q0 : ∀ q ∈ TL_trial_q0, decode cL_trial q.1 = .ok q.2 := dec_wk _ 0 (by decide +kernel)
def TL_trial_q1 : List (Nat × Instr × Nat) := [(17, .iconst 0, 1), (18, .ireturn, 1)]
theorem DL_trial_q1 : ∀ q ∈ TL_trial_q1, decode cL_trial q.1 = .ok q.2 := dec_wk _ 17 (by decide +kernel)
def TL_span_q0 : List (Nat × Instr × Nat) := [(0, .aload_n 3, 1), (1, .iconst 0, 1), (2, .aload_n 0, 1), (3, .iload_n 1, 1), (4, .iload_n 2, 1), (5, .invokevirtual 102, 3), (8, .i2l, 1), (9, .lastore, 1), (10, .goto 7, 3), (13, .astore 4, 2), (15, .iconst 1, 1), (16, .ireturn, 1)]
theorem DL_span_q0 : ∀ q ∈ TL_span_q0, decode cL_span q.1 = .ok q.2 := dec_wk _ 0 (by decide +kernel)
def TL_span_q1 : List (Nat × Instr × Nat) := [(17, .iconst 0, 1), (18, .ireturn, 1)]
theorem DL_span_q1 : ∀ q ∈ TL_span_q1, decode cL_span q.1 = .ok q.2 := dec_wk _ 17 (by decide +kernel)
def TL_led_q0 : List (Nat × Instr × Nat) := [(0, .aload_n 3, 1), (1, .iconst 0, 1), (2, .aload_n 0, 1), (3, .iload_n 1, 1), (4, .iload_n 2, 1), (5, .invokevirtual 105, 3), (8, .i2l, 1), (9, .lastore, 1), (10, .goto 7, 3), (13, .astore 4, 2), (15, .iconst 1, 1), (16, .ireturn, 1)]
theorem DL_led_q0 : ∀ q ∈ TL_led_q0, decode cL_led q.1 = .ok q.2 := dec_wk _ 0 (by decide +kernel)
def TL_led_q1 : List (Nat × Instr × Nat) := [(17, .iconst 0, 1), (18, .ireturn, 1)]
theorem DL_led_q1 : ∀ q ∈ TL_led_q1, decode cL_led q.1 = .ok q.2 := dec_wk _ 17 (by decide +kernel)
def TL_log_q0 : List (Nat × Instr × Nat) := [(0, .aload_n 3, 1), (1, .iconst 0, 1), (2, .aload_n 0, 1), (3, .iload_n 1, 1), (4, .iload_n 2, 1), (5, .invokevirtual 108, 3), (8, .i2l, 1), (9, .lastore, 1), (10, .goto 7, 3), (13, .astore 4, 2), (15, .iconst 1, 1), (16, .ireturn, 1)]
theorem DL_log_q0 : ∀ q ∈ TL_log_q0, decode cL_log q.1 = .ok q.2 := dec_wk _ 0 (by decide +kernel)
def TL_log_q1 : List (Nat × Instr × Nat) := [(17, .iconst 0, 1), (18, .ireturn, 1)]
theorem DL_log_q1 : ∀ q ∈ TL_log_q1, decode cL_log q.1 = .ok q.2 := dec_wk _ 17 (by decide +kernel)
def TL_law__q0 : List (Nat × Instr × Nat) := [(0, .new 8, 3), (3, .dup, 1), (4, .invokespecial 111, 3), (7, .astore_n 1, 1), (8, .new 112, 3), (11, .dup, 1), (12, .invokespecial 114, 3), (15, .astore_n 2, 1), (16, .iconst 1, 1), (17, .newarray .long, 2), (19, .astore_n 3, 1), (20, .iconst 0, 1)]
theorem DL_law__q0 : ∀ q ∈ TL_law__q0, decode cL_law_ q.1 = .ok q.2 := dec_wk _ 0 (by decide +kernel)
def TL_law__q1 : List (Nat × Instr × Nat) := [(21, .istore 4, 2), (23, .iload 4, 2), (25, .aload_n 0, 1), (26, .arraylength, 1), (27, .bipush 6, 2), (29, .isub, 1), (30, .if_icmp .gt 1924, 3), (33, .aload_n 0, 1), (34, .iload 4, 2), (36, .iaload, 1), (37, .bipush 63, 2), (39, .iand, 1)]
theorem DL_law__q1 : ∀ q ∈ TL_law__q1, decode cL_law_ q.1 = .ok q.2 := dec_wk _ 21 (by decide +kernel)
def TL_law__q2 : List (Nat × Instr × Nat) := [(40, .tableswitch 1908 0 53 #[232, 305, 330, 346, 362, 375, 415, 483, 511, 539, 595, 635, 675, 731, 759, 772, 785, 798, 854, 910, 1006, 1019, 1044, 1069, 1113, 1129, 1225, 1238, 1266, 1279, 1292, 1320, 1333, 1361, 1374, 1414, 1427, 1455, 1468, 1481, 1494, 1507, 1520, 1560, 1573, 1613, 1669, 1725, 1781, 1821, 1846, 1859, 1870, 1883], 232)]
theorem DL_law__q2 : ∀ q ∈ TL_law__q2, decode cL_law_ q.1 = .ok q.2 := by decide +kernel
def TL_law__q3 : List (Nat × Instr × Nat) := [(272, .aload_n 1, 1), (273, .aload_n 0, 1), (274, .iload 4, 2), (276, .iconst 1, 1), (277, .iadd, 1), (278, .iaload, 1), (279, .aload_n 0, 1), (280, .iload 4, 2), (282, .iconst 2, 1), (283, .iadd, 1), (284, .iaload, 1), (285, .aload_n 0, 1)]
theorem DL_law__q3 : ∀ q ∈ TL_law__q3, decode cL_law_ q.1 = .ok q.2 := dec_wk _ 272 (by decide +kernel)
def TL_law__q4 : List (Nat × Instr × Nat) := [(286, .iload 4, 2), (288, .iconst 3, 1), (289, .iadd, 1), (290, .iaload, 1), (291, .aload_n 0, 1), (292, .iload 4, 2), (294, .iconst 4, 1), (295, .iadd, 1), (296, .iaload, 1), (297, .aload_n 0, 1), (298, .iload 4, 2), (300, .iconst 5, 1)]
theorem DL_law__q4 : ∀ q ∈ TL_law__q4, decode cL_law_ q.1 = .ok q.2 := dec_wk _ 286 (by decide +kernel)
def TL_law__q5 : List (Nat × Instr × Nat) := [(301, .iadd, 1), (302, .iaload, 1), (303, .invokevirtual 115, 3), (306, .pop, 1), (307, .aload_n 2, 1), (308, .aload_n 0, 1), (309, .iload 4, 2), (311, .iconst 1, 1), (312, .iadd, 1), (313, .iaload, 1), (314, .aload_n 0, 1), (315, .iload 4, 2)]
theorem DL_law__q5 : ∀ q ∈ TL_law__q5, decode cL_law_ q.1 = .ok q.2 := dec_wk _ 301 (by decide +kernel)
def TL_law__q6 : List (Nat × Instr × Nat) := [(317, .iconst 2, 1), (318, .iadd, 1), (319, .iaload, 1)]
theorem DL_law__q6 : ∀ q ∈ TL_law__q6, decode cL_law_ q.1 = .ok q.2 := dec_wk _ 317 (by decide +kernel)
def TL_law__1_q0 : List (Nat × Instr × Nat) := [(320, .aload_n 0, 1), (321, .iload 4, 2), (323, .iconst 3, 1), (324, .iadd, 1), (325, .iaload, 1), (326, .aload_n 0, 1), (327, .iload 4, 2), (329, .iconst 4, 1), (330, .iadd, 1), (331, .iaload, 1), (332, .aload_n 0, 1), (333, .iload 4, 2)]
theorem DL_law__1_q0 : ∀ q ∈ TL_law__1_q0, decode cL_law_ q.1 = .ok q.2 := dec_wk _ 320 (by decide +kernel)
def TL_law__1_q1 : List (Nat × Instr × Nat) := [(335, .iconst 5, 1), (336, .iadd, 1), (337, .iaload, 1), (338, .invokevirtual 119, 3), (341, .pop, 1), (342, .goto 1606, 3), (345, .aload_n 1, 1), (346, .aload_n 0, 1), (347, .iload 4, 2), (349, .iconst 1, 1), (350, .iadd, 1), (351, .iaload, 1)]
theorem DL_law__1_q1 : ∀ q ∈ TL_law__1_q1, decode cL_law_ q.1 = .ok q.2 := dec_wk _ 335 (by decide +kernel)
def TL_law__1_q2 : List (Nat × Instr × Nat) := [(352, .invokevirtual 120, 3), (355, .pop, 1), (356, .aload_n 2, 1), (357, .aload_n 0, 1), (358, .iload 4, 2), (360, .iconst 1, 1), (361, .iadd, 1), (362, .iaload, 1), (363, .invokevirtual 124, 3), (366, .pop, 1), (367, .goto 1581, 3), (370, .aload_n 1, 1)]
theorem DL_law__1_q2 : ∀ q ∈ TL_law__1_q2, decode cL_law_ q.1 = .ok q.2 := dec_wk _ 352 (by decide +kernel)
def TL_law__1_q3 : List (Nat × Instr × Nat) := [(371, .aload_n 3, 1), (372, .invokestatic 125, 3), (375, .istore 5, 2), (377, .aload_n 2, 1), (378, .invokevirtual 130, 3), (381, .istore 6, 2), (383, .goto 1565, 3), (386, .aload_n 1, 1), (387, .aload_n 3, 1), (388, .invokestatic 131, 3), (391, .istore 5, 2), (393, .aload_n 2, 1)]
theorem DL_law__1_q3 : ∀ q ∈ TL_law__1_q3, decode cL_law_ q.1 = .ok q.2 := dec_wk _ 371 (by decide +kernel)
def TL_law__1_q4 : List (Nat × Instr × Nat) := [(394, .invokevirtual 133, 3), (397, .istore 6, 2), (399, .goto 1549, 3), (402, .aload_n 1, 1), (403, .invokevirtual 134, 3), (406, .pop, 1), (407, .aload_n 2, 1), (408, .invokevirtual 137, 3), (411, .pop, 1), (412, .goto 1536, 3), (415, .aload_n 1, 1), (416, .aload_n 0, 1)]
theorem DL_law__1_q4 : ∀ q ∈ TL_law__1_q4, decode cL_law_ q.1 = .ok q.2 := dec_wk _ 394 (by decide +kernel)
def TL_law__1_q5 : List (Nat × Instr × Nat) := [(417, .iload 4, 2), (419, .iconst 1, 1), (420, .iadd, 1), (421, .iaload, 1)]
theorem DL_law__1_q5 : ∀ q ∈ TL_law__1_q5, decode cL_law_ q.1 = .ok q.2 := dec_wk _ 417 (by decide +kernel)
def TL_law__2_q0 : List (Nat × Instr × Nat) := [(422, .aload_n 0, 1), (423, .iload 4, 2), (425, .iconst 2, 1), (426, .iadd, 1), (427, .iaload, 1), (428, .aload_n 3, 1), (429, .invokestatic 138, 3), (432, .istore 5, 2), (434, .aload_n 2, 1), (435, .aload_n 0, 1), (436, .iload 4, 2), (438, .iconst 1, 1)]
theorem DL_law__2_q0 : ∀ q ∈ TL_law__2_q0, decode cL_law_ q.1 = .ok q.2 := dec_wk _ 422 (by decide +kernel)
def TL_law__2_q1 : List (Nat × Instr × Nat) := [(439, .iadd, 1), (440, .iaload, 1), (441, .aload_n 0, 1), (442, .iload 4, 2), (444, .iconst 2, 1), (445, .iadd, 1), (446, .iaload, 1), (447, .invokevirtual 141, 3), (450, .istore 6, 2), (452, .goto 1496, 3), (455, .aload_n 1, 1), (456, .aload_n 0, 1)]
theorem DL_law__2_q1 : ∀ q ∈ TL_law__2_q1, decode cL_law_ q.1 = .ok q.2 := dec_wk _ 439 (by decide +kernel)
def TL_law__2_q2 : List (Nat × Instr × Nat) := [(457, .iload 4, 2), (459, .iconst 1, 1), (460, .iadd, 1), (461, .iaload, 1), (462, .aload_n 0, 1), (463, .iload 4, 2), (465, .iconst 2, 1), (466, .iadd, 1), (467, .iaload, 1), (468, .ifCond .eq 7, 3), (471, .iconst 1, 1), (472, .goto 4, 3)]
theorem DL_law__2_q2 : ∀ q ∈ TL_law__2_q2, decode cL_law_ q.1 = .ok q.2 := dec_wk _ 457 (by decide +kernel)
def TL_law__2_q3 : List (Nat × Instr × Nat) := [(475, .iconst 0, 1), (476, .aload_n 0, 1), (477, .iload 4, 2), (479, .iconst 3, 1), (480, .iadd, 1), (481, .iaload, 1), (482, .aload_n 3, 1), (483, .invokestatic 142, 3), (486, .istore 5, 2), (488, .aload_n 2, 1), (489, .aload_n 0, 1), (490, .iload 4, 2)]
theorem DL_law__2_q3 : ∀ q ∈ TL_law__2_q3, decode cL_law_ q.1 = .ok q.2 := dec_wk _ 475 (by decide +kernel)
def TL_law__2_q4 : List (Nat × Instr × Nat) := [(492, .iconst 1, 1), (493, .iadd, 1), (494, .iaload, 1), (495, .aload_n 0, 1), (496, .iload 4, 2), (498, .iconst 2, 1), (499, .iadd, 1), (500, .iaload, 1), (501, .ifCond .eq 7, 3), (504, .iconst 1, 1), (505, .goto 4, 3), (508, .iconst 0, 1)]
theorem DL_law__2_q4 : ∀ q ∈ TL_law__2_q4, decode cL_law_ q.1 = .ok q.2 := dec_wk _ 492 (by decide +kernel)
def TL_law__2_q5 : List (Nat × Instr × Nat) := [(509, .aload_n 0, 1), (510, .iload 4, 2), (512, .iconst 3, 1), (513, .iadd, 1)]
theorem DL_law__2_q5 : ∀ q ∈ TL_law__2_q5, decode cL_law_ q.1 = .ok q.2 := dec_wk _ 509 (by decide +kernel)
def TL_law__3_q0 : List (Nat × Instr × Nat) := [(514, .iaload, 1), (515, .invokevirtual 145, 3), (518, .istore 6, 2), (520, .goto 1428, 3), (523, .aload_n 1, 1), (524, .aload_n 0, 1), (525, .iload 4, 2), (527, .iconst 1, 1), (528, .iadd, 1), (529, .iaload, 1), (530, .aload_n 3, 1), (531, .invokestatic 146, 3)]
theorem DL_law__3_q0 : ∀ q ∈ TL_law__3_q0, decode cL_law_ q.1 = .ok q.2 := dec_wk _ 514 (by decide +kernel)
def TL_law__3_q1 : List (Nat × Instr × Nat) := [(534, .istore 5, 2), (536, .aload_n 2, 1), (537, .aload_n 0, 1), (538, .iload 4, 2), (540, .iconst 1, 1), (541, .iadd, 1), (542, .iaload, 1), (543, .invokevirtual 149, 3), (546, .istore 6, 2), (548, .goto 1400, 3), (551, .aload_n 1, 1), (552, .aload_n 0, 1)]
theorem DL_law__3_q1 : ∀ q ∈ TL_law__3_q1, decode cL_law_ q.1 = .ok q.2 := dec_wk _ 534 (by decide +kernel)
def TL_law__3_q2 : List (Nat × Instr × Nat) := [(553, .iload 4, 2), (555, .iconst 1, 1), (556, .iadd, 1), (557, .iaload, 1), (558, .aload_n 3, 1), (559, .invokestatic 150, 3), (562, .istore 5, 2), (564, .aload_n 2, 1), (565, .aload_n 0, 1), (566, .iload 4, 2), (568, .iconst 1, 1), (569, .iadd, 1)]
theorem DL_law__3_q2 : ∀ q ∈ TL_law__3_q2, decode cL_law_ q.1 = .ok q.2 := dec_wk _ 553 (by decide +kernel)
def TL_law__3_q3 : List (Nat × Instr × Nat) := [(570, .iaload, 1), (571, .invokevirtual 152, 3), (574, .istore 6, 2), (576, .goto 1372, 3), (579, .aload_n 1, 1), (580, .aload_n 0, 1), (581, .iload 4, 2), (583, .iconst 1, 1), (584, .iadd, 1), (585, .iaload, 1), (586, .aload_n 0, 1), (587, .iload 4, 2)]
theorem DL_law__3_q3 : ∀ q ∈ TL_law__3_q3, decode cL_law_ q.1 = .ok q.2 := dec_wk _ 570 (by decide +kernel)
def TL_law__3_q4 : List (Nat × Instr × Nat) := [(589, .iconst 2, 1), (590, .iadd, 1), (591, .iaload, 1), (592, .ifCond .eq 7, 3), (595, .iconst 1, 1), (596, .goto 4, 3), (599, .iconst 0, 1), (600, .aload_n 3, 1), (601, .invokestatic 153, 3), (604, .istore 5, 2), (606, .aload_n 2, 1), (607, .aload_n 0, 1)]
theorem DL_law__3_q4 : ∀ q ∈ TL_law__3_q4, decode cL_law_ q.1 = .ok q.2 := dec_wk _ 589 (by decide +kernel)
def TL_law__3_q5 : List (Nat × Instr × Nat) := [(608, .iload 4, 2), (610, .iconst 1, 1), (611, .iadd, 1), (612, .iaload, 1)]
theorem DL_law__3_q5 : ∀ q ∈ TL_law__3_q5, decode cL_law_ q.1 = .ok q.2 := dec_wk _ 608 (by decide +kernel)
def TL_law__4_q0 : List (Nat × Instr × Nat) := [(613, .aload_n 0, 1), (614, .iload 4, 2), (616, .iconst 2, 1), (617, .iadd, 1), (618, .iaload, 1), (619, .ifCond .eq 7, 3), (622, .iconst 1, 1), (623, .goto 4, 3), (626, .iconst 0, 1), (627, .invokevirtual 156, 3), (630, .istore 6, 2), (632, .goto 1316, 3)]
theorem DL_law__4_q0 : ∀ q ∈ TL_law__4_q0, decode cL_law_ q.1 = .ok q.2 := dec_wk _ 613 (by decide +kernel)
def TL_law__4_q1 : List (Nat × Instr × Nat) := [(635, .aload_n 1, 1), (636, .aload_n 0, 1), (637, .iload 4, 2), (639, .iconst 1, 1), (640, .iadd, 1), (641, .iaload, 1), (642, .aload_n 0, 1), (643, .iload 4, 2), (645, .iconst 2, 1), (646, .iadd, 1), (647, .iaload, 1), (648, .aload_n 3, 1)]
theorem DL_law__4_q1 : ∀ q ∈ TL_law__4_q1, decode cL_law_ q.1 = .ok q.2 := dec_wk _ 635 (by decide +kernel)
def TL_law__4_q2 : List (Nat × Instr × Nat) := [(649, .invokestatic 157, 3), (652, .istore 5, 2), (654, .aload_n 2, 1), (655, .aload_n 0, 1), (656, .iload 4, 2), (658, .iconst 1, 1), (659, .iadd, 1), (660, .iaload, 1), (661, .aload_n 0, 1), (662, .iload 4, 2), (664, .iconst 2, 1), (665, .iadd, 1)]
theorem DL_law__4_q2 : ∀ q ∈ TL_law__4_q2, decode cL_law_ q.1 = .ok q.2 := dec_wk _ 649 (by decide +kernel)
def TL_law__4_q3 : List (Nat × Instr × Nat) := [(666, .iaload, 1), (667, .invokevirtual 159, 3), (670, .istore 6, 2), (672, .goto 1276, 3), (675, .aload_n 1, 1), (676, .aload_n 0, 1), (677, .iload 4, 2), (679, .iconst 1, 1), (680, .iadd, 1), (681, .iaload, 1), (682, .aload_n 0, 1), (683, .iload 4, 2)]
theorem DL_law__4_q3 : ∀ q ∈ TL_law__4_q3, decode cL_law_ q.1 = .ok q.2 := dec_wk _ 666 (by decide +kernel)
def TL_law__4_q4 : List (Nat × Instr × Nat) := [(685, .iconst 2, 1), (686, .iadd, 1), (687, .iaload, 1), (688, .aload_n 3, 1), (689, .invokestatic 160, 3), (692, .istore 5, 2), (694, .aload_n 2, 1), (695, .aload_n 0, 1), (696, .iload 4, 2), (698, .iconst 1, 1), (699, .iadd, 1), (700, .iaload, 1)]
theorem DL_law__4_q4 : ∀ q ∈ TL_law__4_q4, decode cL_law_ q.1 = .ok q.2 := dec_wk _ 685 (by decide +kernel)
def TL_law__4_q5 : List (Nat × Instr × Nat) := [(701, .aload_n 0, 1), (702, .iload 4, 2), (704, .iconst 2, 1), (705, .iadd, 1)]
theorem DL_law__4_q5 : ∀ q ∈ TL_law__4_q5, decode cL_law_ q.1 = .ok q.2 := dec_wk _ 701 (by decide +kernel)
def TL_law__5_q0 : List (Nat × Instr × Nat) := [(706, .iaload, 1), (707, .invokevirtual 162, 3), (710, .istore 6, 2), (712, .goto 1236, 3), (715, .aload_n 1, 1), (716, .aload_n 0, 1), (717, .iload 4, 2), (719, .iconst 1, 1), (720, .iadd, 1), (721, .iaload, 1), (722, .aload_n 0, 1), (723, .iload 4, 2)]
theorem DL_law__5_q0 : ∀ q ∈ TL_law__5_q0, decode cL_law_ q.1 = .ok q.2 := dec_wk _ 706 (by decide +kernel)
def TL_law__5_q1 : List (Nat × Instr × Nat) := [(725, .iconst 2, 1), (726, .iadd, 1), (727, .iaload, 1), (728, .ifCond .eq 7, 3), (731, .iconst 1, 1), (732, .goto 4, 3), (735, .iconst 0, 1), (736, .aload_n 3, 1), (737, .invokestatic 163, 3), (740, .istore 5, 2), (742, .aload_n 2, 1), (743, .aload_n 0, 1)]
theorem DL_law__5_q1 : ∀ q ∈ TL_law__5_q1, decode cL_law_ q.1 = .ok q.2 := dec_wk _ 725 (by decide +kernel)
def TL_law__5_q2 : List (Nat × Instr × Nat) := [(744, .iload 4, 2), (746, .iconst 1, 1), (747, .iadd, 1), (748, .iaload, 1), (749, .aload_n 0, 1), (750, .iload 4, 2), (752, .iconst 2, 1), (753, .iadd, 1), (754, .iaload, 1), (755, .ifCond .eq 7, 3), (758, .iconst 1, 1), (759, .goto 4, 3)]
theorem DL_law__5_q2 : ∀ q ∈ TL_law__5_q2, decode cL_law_ q.1 = .ok q.2 := dec_wk _ 744 (by decide +kernel)
def TL_law__5_q3 : List (Nat × Instr × Nat) := [(762, .iconst 0, 1), (763, .invokevirtual 165, 3), (766, .istore 6, 2), (768, .goto 1180, 3), (771, .aload_n 1, 1), (772, .aload_n 0, 1), (773, .iload 4, 2), (775, .iconst 1, 1), (776, .iadd, 1), (777, .iaload, 1), (778, .aload_n 3, 1), (779, .invokestatic 166, 3)]
theorem DL_law__5_q3 : ∀ q ∈ TL_law__5_q3, decode cL_law_ q.1 = .ok q.2 := dec_wk _ 762 (by decide +kernel)
def TL_law__5_q4 : List (Nat × Instr × Nat) := [(782, .istore 5, 2), (784, .aload_n 2, 1), (785, .aload_n 0, 1), (786, .iload 4, 2), (788, .iconst 1, 1), (789, .iadd, 1), (790, .iaload, 1), (791, .invokevirtual 168, 3), (794, .istore 6, 2), (796, .goto 1152, 3), (799, .aload_n 1, 1), (800, .invokevirtual 169, 3)]
theorem DL_law__5_q4 : ∀ q ∈ TL_law__5_q4, decode cL_law_ q.1 = .ok q.2 := dec_wk _ 782 (by decide +kernel)
def TL_law__5_q5 : List (Nat × Instr × Nat) := [(803, .pop, 1), (804, .aload_n 2, 1), (805, .invokevirtual 172, 3), (808, .pop, 1)]
theorem DL_law__5_q5 : ∀ q ∈ TL_law__5_q5, decode cL_law_ q.1 = .ok q.2 := dec_wk _ 803 (by decide +kernel)
def TL_law__6_q0 : List (Nat × Instr × Nat) := [(809, .goto 1139, 3), (812, .aload_n 1, 1), (813, .invokevirtual 173, 3), (816, .pop, 1), (817, .aload_n 2, 1), (818, .invokevirtual 176, 3), (821, .pop, 1), (822, .goto 1126, 3), (825, .aload_n 1, 1), (826, .invokevirtual 177, 3), (829, .pop, 1), (830, .aload_n 2, 1)]
theorem DL_law__6_q0 : ∀ q ∈ TL_law__6_q0, decode cL_law_ q.1 = .ok q.2 := dec_wk _ 809 (by decide +kernel)
def TL_law__6_q1 : List (Nat × Instr × Nat) := [(831, .invokevirtual 180, 3), (834, .pop, 1), (835, .goto 1113, 3), (838, .aload_n 1, 1), (839, .aload_n 0, 1), (840, .iload 4, 2), (842, .iconst 1, 1), (843, .iadd, 1), (844, .iaload, 1), (845, .aload_n 0, 1), (846, .iload 4, 2), (848, .iconst 2, 1)]
theorem DL_law__6_q1 : ∀ q ∈ TL_law__6_q1, decode cL_law_ q.1 = .ok q.2 := dec_wk _ 831 (by decide +kernel)
def TL_law__6_q2 : List (Nat × Instr × Nat) := [(849, .iadd, 1), (850, .iaload, 1), (851, .ifCond .eq 7, 3), (854, .iconst 1, 1), (855, .goto 4, 3), (858, .iconst 0, 1), (859, .aload_n 3, 1), (860, .invokestatic 181, 3), (863, .istore 5, 2), (865, .aload_n 2, 1), (866, .aload_n 0, 1), (867, .iload 4, 2)]
theorem DL_law__6_q2 : ∀ q ∈ TL_law__6_q2, decode cL_law_ q.1 = .ok q.2 := dec_wk _ 849 (by decide +kernel)
def TL_law__6_q3 : List (Nat × Instr × Nat) := [(869, .iconst 1, 1), (870, .iadd, 1), (871, .iaload, 1), (872, .aload_n 0, 1), (873, .iload 4, 2), (875, .iconst 2, 1), (876, .iadd, 1), (877, .iaload, 1), (878, .ifCond .eq 7, 3), (881, .iconst 1, 1), (882, .goto 4, 3), (885, .iconst 0, 1)]
theorem DL_law__6_q3 : ∀ q ∈ TL_law__6_q3, decode cL_law_ q.1 = .ok q.2 := dec_wk _ 869 (by decide +kernel)
def TL_law__6_q4 : List (Nat × Instr × Nat) := [(886, .invokevirtual 183, 3), (889, .istore 6, 2), (891, .goto 1057, 3), (894, .aload_n 1, 1), (895, .aload_n 0, 1), (896, .iload 4, 2), (898, .iconst 1, 1), (899, .iadd, 1), (900, .iaload, 1), (901, .aload_n 0, 1), (902, .iload 4, 2), (904, .iconst 2, 1)]
theorem DL_law__6_q4 : ∀ q ∈ TL_law__6_q4, decode cL_law_ q.1 = .ok q.2 := dec_wk _ 886 (by decide +kernel)
def TL_law__6_q5 : List (Nat × Instr × Nat) := [(905, .iadd, 1), (906, .iaload, 1), (907, .ifCond .eq 7, 3), (910, .iconst 1, 1)]
theorem DL_law__6_q5 : ∀ q ∈ TL_law__6_q5, decode cL_law_ q.1 = .ok q.2 := dec_wk _ 905 (by decide +kernel)
def TL_law__7_q0 : List (Nat × Instr × Nat) := [(911, .goto 4, 3), (914, .iconst 0, 1), (915, .aload_n 3, 1), (916, .invokestatic 184, 3), (919, .istore 5, 2), (921, .aload_n 2, 1), (922, .aload_n 0, 1), (923, .iload 4, 2), (925, .iconst 1, 1), (926, .iadd, 1), (927, .iaload, 1), (928, .aload_n 0, 1)]
theorem DL_law__7_q0 : ∀ q ∈ TL_law__7_q0, decode cL_law_ q.1 = .ok q.2 := dec_wk _ 911 (by decide +kernel)
def TL_law__7_q1 : List (Nat × Instr × Nat) := [(929, .iload 4, 2), (931, .iconst 2, 1), (932, .iadd, 1), (933, .iaload, 1), (934, .ifCond .eq 7, 3), (937, .iconst 1, 1), (938, .goto 4, 3), (941, .iconst 0, 1), (942, .invokevirtual 186, 3), (945, .istore 6, 2), (947, .goto 1001, 3), (950, .aload_n 1, 1)]
theorem DL_law__7_q1 : ∀ q ∈ TL_law__7_q1, decode cL_law_ q.1 = .ok q.2 := dec_wk _ 929 (by decide +kernel)
def TL_law__7_q2 : List (Nat × Instr × Nat) := [(951, .aload_n 0, 1), (952, .iload 4, 2), (954, .iconst 1, 1), (955, .iadd, 1), (956, .iaload, 1), (957, .aload_n 0, 1), (958, .iload 4, 2), (960, .iconst 2, 1), (961, .iadd, 1), (962, .iaload, 1), (963, .ifCond .eq 7, 3), (966, .iconst 1, 1)]
theorem DL_law__7_q2 : ∀ q ∈ TL_law__7_q2, decode cL_law_ q.1 = .ok q.2 := dec_wk _ 951 (by decide +kernel)
def TL_law__7_q3 : List (Nat × Instr × Nat) := [(967, .goto 4, 3), (970, .iconst 0, 1), (971, .aload_n 0, 1), (972, .iload 4, 2), (974, .iconst 3, 1), (975, .iadd, 1), (976, .iaload, 1), (977, .aload_n 0, 1), (978, .iload 4, 2), (980, .iconst 4, 1), (981, .iadd, 1), (982, .iaload, 1)]
theorem DL_law__7_q3 : ∀ q ∈ TL_law__7_q3, decode cL_law_ q.1 = .ok q.2 := dec_wk _ 967 (by decide +kernel)
def TL_law__7_q4 : List (Nat × Instr × Nat) := [(983, .ifCond .eq 7, 3), (986, .iconst 1, 1), (987, .goto 4, 3), (990, .iconst 0, 1), (991, .aload_n 3, 1), (992, .invokestatic 187, 3), (995, .istore 5, 2), (997, .aload_n 2, 1), (998, .aload_n 0, 1), (999, .iload 4, 2), (1001, .iconst 1, 1), (1002, .iadd, 1)]
theorem DL_law__7_q4 : ∀ q ∈ TL_law__7_q4, decode cL_law_ q.1 = .ok q.2 := dec_wk _ 983 (by decide +kernel)
def TL_law__7_q5 : List (Nat × Instr × Nat) := [(1003, .iaload, 1), (1004, .aload_n 0, 1), (1005, .iload 4, 2), (1007, .iconst 2, 1)]
theorem DL_law__7_q5 : ∀ q ∈ TL_law__7_q5, decode cL_law_ q.1 = .ok q.2 := dec_wk _ 1003 (by decide +kernel)
def TL_law__8_q0 : List (Nat × Instr × Nat) := [(1008, .iadd, 1), (1009, .iaload, 1), (1010, .ifCond .eq 7, 3), (1013, .iconst 1, 1), (1014, .goto 4, 3), (1017, .iconst 0, 1), (1018, .aload_n 0, 1), (1019, .iload 4, 2), (1021, .iconst 3, 1), (1022, .iadd, 1), (1023, .iaload, 1), (1024, .aload_n 0, 1)]
theorem DL_law__8_q0 : ∀ q ∈ TL_law__8_q0, decode cL_law_ q.1 = .ok q.2 := dec_wk _ 1008 (by decide +kernel)
def TL_law__8_q1 : List (Nat × Instr × Nat) := [(1025, .iload 4, 2), (1027, .iconst 4, 1), (1028, .iadd, 1), (1029, .iaload, 1), (1030, .ifCond .eq 7, 3), (1033, .iconst 1, 1), (1034, .goto 4, 3), (1037, .iconst 0, 1), (1038, .invokevirtual 190, 3), (1041, .istore 6, 2), (1043, .goto 905, 3), (1046, .aload_n 1, 1)]
theorem DL_law__8_q1 : ∀ q ∈ TL_law__8_q1, decode cL_law_ q.1 = .ok q.2 := dec_wk _ 1025 (by decide +kernel)
def TL_law__8_q2 : List (Nat × Instr × Nat) := [(1047, .invokevirtual 191, 3), (1050, .pop, 1), (1051, .aload_n 2, 1), (1052, .invokevirtual 194, 3), (1055, .pop, 1), (1056, .goto 892, 3), (1059, .aload_n 1, 1), (1060, .aload_n 0, 1), (1061, .iload 4, 2), (1063, .iconst 1, 1), (1064, .iadd, 1), (1065, .iaload, 1)]
theorem DL_law__8_q2 : ∀ q ∈ TL_law__8_q2, decode cL_law_ q.1 = .ok q.2 := dec_wk _ 1047 (by decide +kernel)
def TL_law__8_q3 : List (Nat × Instr × Nat) := [(1066, .invokevirtual 195, 3), (1069, .pop, 1), (1070, .aload_n 2, 1), (1071, .aload_n 0, 1), (1072, .iload 4, 2), (1074, .iconst 1, 1), (1075, .iadd, 1), (1076, .iaload, 1), (1077, .invokevirtual 198, 3), (1080, .pop, 1), (1081, .goto 867, 3), (1084, .aload_n 1, 1)]
theorem DL_law__8_q3 : ∀ q ∈ TL_law__8_q3, decode cL_law_ q.1 = .ok q.2 := dec_wk _ 1066 (by decide +kernel)
def TL_law__8_q4 : List (Nat × Instr × Nat) := [(1085, .aload_n 0, 1), (1086, .iload 4, 2), (1088, .iconst 1, 1), (1089, .iadd, 1), (1090, .iaload, 1), (1091, .invokevirtual 199, 3), (1094, .pop, 1), (1095, .aload_n 2, 1), (1096, .aload_n 0, 1), (1097, .iload 4, 2), (1099, .iconst 1, 1), (1100, .iadd, 1)]
theorem DL_law__8_q4 : ∀ q ∈ TL_law__8_q4, decode cL_law_ q.1 = .ok q.2 := dec_wk _ 1085 (by decide +kernel)
def TL_law__8_q5 : List (Nat × Instr × Nat) := [(1101, .iaload, 1), (1102, .invokevirtual 202, 3), (1105, .pop, 1), (1106, .goto 842, 3)]
theorem DL_law__8_q5 : ∀ q ∈ TL_law__8_q5, decode cL_law_ q.1 = .ok q.2 := dec_wk _ 1101 (by decide +kernel)
def TL_law__9_q0 : List (Nat × Instr × Nat) := [(1109, .aload_n 1, 1), (1110, .aload_n 0, 1), (1111, .iload 4, 2), (1113, .iconst 1, 1), (1114, .iadd, 1), (1115, .iaload, 1), (1116, .ifCond .eq 7, 3), (1119, .iconst 1, 1), (1120, .goto 4, 3), (1123, .iconst 0, 1), (1124, .aload_n 3, 1), (1125, .invokestatic 203, 3)]
theorem DL_law__9_q0 : ∀ q ∈ TL_law__9_q0, decode cL_law_ q.1 = .ok q.2 := dec_wk _ 1109 (by decide +kernel)
def TL_law__9_q1 : List (Nat × Instr × Nat) := [(1128, .istore 5, 2), (1130, .aload_n 2, 1), (1131, .aload_n 0, 1), (1132, .iload 4, 2), (1134, .iconst 1, 1), (1135, .iadd, 1), (1136, .iaload, 1), (1137, .ifCond .eq 7, 3), (1140, .iconst 1, 1), (1141, .goto 4, 3), (1144, .iconst 0, 1), (1145, .invokevirtual 206, 3)]
theorem DL_law__9_q1 : ∀ q ∈ TL_law__9_q1, decode cL_law_ q.1 = .ok q.2 := dec_wk _ 1128 (by decide +kernel)
def TL_law__9_q2 : List (Nat × Instr × Nat) := [(1148, .istore 6, 2), (1150, .goto 798, 3), (1153, .aload_n 1, 1), (1154, .aload_n 3, 1), (1155, .invokestatic 207, 3), (1158, .istore 5, 2), (1160, .aload_n 2, 1), (1161, .invokevirtual 209, 3), (1164, .istore 6, 2), (1166, .goto 782, 3), (1169, .aload_n 1, 1), (1170, .aload_n 0, 1)]
theorem DL_law__9_q2 : ∀ q ∈ TL_law__9_q2, decode cL_law_ q.1 = .ok q.2 := dec_wk _ 1148 (by decide +kernel)
def TL_law__9_q3 : List (Nat × Instr × Nat) := [(1171, .iload 4, 2), (1173, .iconst 1, 1), (1174, .iadd, 1), (1175, .iaload, 1), (1176, .aload_n 0, 1), (1177, .iload 4, 2), (1179, .iconst 2, 1), (1180, .iadd, 1), (1181, .iaload, 1), (1182, .ifCond .eq 7, 3), (1185, .iconst 1, 1), (1186, .goto 4, 3)]
theorem DL_law__9_q3 : ∀ q ∈ TL_law__9_q3, decode cL_law_ q.1 = .ok q.2 := dec_wk _ 1171 (by decide +kernel)
def TL_law__9_q4 : List (Nat × Instr × Nat) := [(1189, .iconst 0, 1), (1190, .aload_n 0, 1), (1191, .iload 4, 2), (1193, .iconst 3, 1), (1194, .iadd, 1), (1195, .iaload, 1), (1196, .aload_n 3, 1), (1197, .invokestatic 210, 3), (1200, .istore 5, 2), (1202, .aload_n 2, 1), (1203, .aload_n 0, 1), (1204, .iload 4, 2)]
theorem DL_law__9_q4 : ∀ q ∈ TL_law__9_q4, decode cL_law_ q.1 = .ok q.2 := dec_wk _ 1189 (by decide +kernel)
def TL_law__9_q5 : List (Nat × Instr × Nat) := [(1206, .iconst 1, 1), (1207, .iadd, 1), (1208, .iaload, 1), (1209, .aload_n 0, 1)]
theorem DL_law__9_q5 : ∀ q ∈ TL_law__9_q5, decode cL_law_ q.1 = .ok q.2 := dec_wk _ 1206 (by decide +kernel)
def TL_law__10_q0 : List (Nat × Instr × Nat) := [(1210, .iload 4, 2), (1212, .iconst 2, 1), (1213, .iadd, 1), (1214, .iaload, 1), (1215, .ifCond .eq 7, 3), (1218, .iconst 1, 1), (1219, .goto 4, 3), (1222, .iconst 0, 1), (1223, .aload_n 0, 1), (1224, .iload 4, 2), (1226, .iconst 3, 1), (1227, .iadd, 1)]
theorem DL_law__10_q0 : ∀ q ∈ TL_law__10_q0, decode cL_law_ q.1 = .ok q.2 := dec_wk _ 1210 (by decide +kernel)
def TL_law__10_q1 : List (Nat × Instr × Nat) := [(1228, .iaload, 1), (1229, .invokevirtual 212, 3), (1232, .istore 6, 2), (1234, .aload_n 2, 1), (1235, .invokevirtual 213, 3), (1238, .iload 5, 2), (1240, .if_icmp .eq 5, 3), (1243, .iconst 0, 1), (1244, .ireturn, 1), (1245, .iload 5, 2), (1247, .ifCond .ne 15, 3), (1250, .aload_n 3, 1)]
theorem DL_law__10_q1 : ∀ q ∈ TL_law__10_q1, decode cL_law_ q.1 = .ok q.2 := dec_wk _ 1228 (by decide +kernel)
def TL_law__10_q2 : List (Nat × Instr × Nat) := [(1251, .iconst 0, 1), (1252, .laload, 1), (1253, .iload 6, 2), (1255, .i2l, 1), (1256, .lcmp, 1), (1257, .ifCond .eq 5, 3), (1260, .iconst 0, 1), (1261, .ireturn, 1), (1262, .goto 686, 3), (1265, .aload_n 1, 1), (1266, .invokevirtual 216, 3), (1269, .pop, 1)]
theorem DL_law__10_q2 : ∀ q ∈ TL_law__10_q2, decode cL_law_ q.1 = .ok q.2 := dec_wk _ 1251 (by decide +kernel)
def TL_law__10_q3 : List (Nat × Instr × Nat) := [(1270, .aload_n 2, 1), (1271, .invokevirtual 219, 3), (1274, .pop, 1), (1275, .goto 673, 3), (1278, .aload_n 1, 1), (1279, .aload_n 0, 1), (1280, .iload 4, 2), (1282, .iconst 1, 1), (1283, .iadd, 1), (1284, .iaload, 1), (1285, .aload_n 3, 1), (1286, .invokestatic 220, 3)]
theorem DL_law__10_q3 : ∀ q ∈ TL_law__10_q3, decode cL_law_ q.1 = .ok q.2 := dec_wk _ 1270 (by decide +kernel)
def TL_law__10_q4 : List (Nat × Instr × Nat) := [(1289, .istore 5, 2), (1291, .aload_n 2, 1), (1292, .aload_n 0, 1), (1293, .iload 4, 2), (1295, .iconst 1, 1), (1296, .iadd, 1), (1297, .iaload, 1), (1298, .invokevirtual 222, 3), (1301, .istore 6, 2), (1303, .goto 645, 3), (1306, .aload_n 1, 1), (1307, .invokevirtual 223, 3)]
theorem DL_law__10_q4 : ∀ q ∈ TL_law__10_q4, decode cL_law_ q.1 = .ok q.2 := dec_wk _ 1289 (by decide +kernel)
def TL_law__10_q5 : List (Nat × Instr × Nat) := [(1310, .pop, 1), (1311, .aload_n 2, 1), (1312, .invokevirtual 226, 3), (1315, .pop, 1)]
theorem DL_law__10_q5 : ∀ q ∈ TL_law__10_q5, decode cL_law_ q.1 = .ok q.2 := dec_wk _ 1310 (by decide +kernel)
def TL_law__11_q0 : List (Nat × Instr × Nat) := [(1316, .goto 632, 3), (1319, .aload_n 1, 1), (1320, .invokevirtual 227, 3), (1323, .pop, 1), (1324, .aload_n 2, 1), (1325, .invokevirtual 230, 3), (1328, .pop, 1), (1329, .goto 619, 3), (1332, .aload_n 1, 1), (1333, .aload_n 0, 1), (1334, .iload 4, 2), (1336, .iconst 1, 1)]
theorem DL_law__11_q0 : ∀ q ∈ TL_law__11_q0, decode cL_law_ q.1 = .ok q.2 := dec_wk _ 1316 (by decide +kernel)
def TL_law__11_q1 : List (Nat × Instr × Nat) := [(1337, .iadd, 1), (1338, .iaload, 1), (1339, .aload_n 3, 1), (1340, .invokestatic 231, 3), (1343, .istore 5, 2), (1345, .aload_n 2, 1), (1346, .aload_n 0, 1), (1347, .iload 4, 2), (1349, .iconst 1, 1), (1350, .iadd, 1), (1351, .iaload, 1), (1352, .invokevirtual 233, 3)]
theorem DL_law__11_q1 : ∀ q ∈ TL_law__11_q1, decode cL_law_ q.1 = .ok q.2 := dec_wk _ 1337 (by decide +kernel)
def TL_law__11_q2 : List (Nat × Instr × Nat) := [(1355, .istore 6, 2), (1357, .goto 591, 3), (1360, .aload_n 1, 1), (1361, .invokevirtual 234, 3), (1364, .pop, 1), (1365, .aload_n 2, 1), (1366, .invokevirtual 237, 3), (1369, .pop, 1), (1370, .goto 578, 3), (1373, .aload_n 1, 1), (1374, .aload_n 0, 1), (1375, .iload 4, 2)]
theorem DL_law__11_q2 : ∀ q ∈ TL_law__11_q2, decode cL_law_ q.1 = .ok q.2 := dec_wk _ 1355 (by decide +kernel)
def TL_law__11_q3 : List (Nat × Instr × Nat) := [(1377, .iconst 1, 1), (1378, .iadd, 1), (1379, .iaload, 1), (1380, .aload_n 3, 1), (1381, .invokestatic 238, 3), (1384, .istore 5, 2), (1386, .aload_n 2, 1), (1387, .aload_n 0, 1), (1388, .iload 4, 2), (1390, .iconst 1, 1), (1391, .iadd, 1), (1392, .iaload, 1)]
theorem DL_law__11_q3 : ∀ q ∈ TL_law__11_q3, decode cL_law_ q.1 = .ok q.2 := dec_wk _ 1377 (by decide +kernel)
def TL_law__11_q4 : List (Nat × Instr × Nat) := [(1393, .invokevirtual 240, 3), (1396, .istore 6, 2), (1398, .goto 550, 3), (1401, .aload_n 1, 1), (1402, .invokevirtual 241, 3), (1405, .pop, 1), (1406, .aload_n 2, 1), (1407, .invokevirtual 244, 3), (1410, .pop, 1), (1411, .goto 537, 3), (1414, .aload_n 1, 1), (1415, .aload_n 0, 1)]
theorem DL_law__11_q4 : ∀ q ∈ TL_law__11_q4, decode cL_law_ q.1 = .ok q.2 := dec_wk _ 1393 (by decide +kernel)
def TL_law__11_q5 : List (Nat × Instr × Nat) := [(1416, .iload 4, 2), (1418, .iconst 1, 1), (1419, .iadd, 1), (1420, .iaload, 1)]
theorem DL_law__11_q5 : ∀ q ∈ TL_law__11_q5, decode cL_law_ q.1 = .ok q.2 := dec_wk _ 1416 (by decide +kernel)
def TL_law__12_q0 : List (Nat × Instr × Nat) := [(1421, .aload_n 0, 1), (1422, .iload 4, 2), (1424, .iconst 2, 1), (1425, .iadd, 1), (1426, .iaload, 1), (1427, .aload_n 3, 1), (1428, .invokestatic 245, 3), (1431, .istore 5, 2), (1433, .aload_n 2, 1), (1434, .aload_n 0, 1), (1435, .iload 4, 2), (1437, .iconst 1, 1)]
theorem DL_law__12_q0 : ∀ q ∈ TL_law__12_q0, decode cL_law_ q.1 = .ok q.2 := dec_wk _ 1421 (by decide +kernel)
def TL_law__12_q1 : List (Nat × Instr × Nat) := [(1438, .iadd, 1), (1439, .iaload, 1), (1440, .aload_n 0, 1), (1441, .iload 4, 2), (1443, .iconst 2, 1), (1444, .iadd, 1), (1445, .iaload, 1), (1446, .invokevirtual 247, 3), (1449, .istore 6, 2), (1451, .goto 497, 3), (1454, .aload_n 1, 1), (1455, .invokevirtual 248, 3)]
theorem DL_law__12_q1 : ∀ q ∈ TL_law__12_q1, decode cL_law_ q.1 = .ok q.2 := dec_wk _ 1438 (by decide +kernel)
def TL_law__12_q2 : List (Nat × Instr × Nat) := [(1458, .pop, 1), (1459, .aload_n 2, 1), (1460, .invokevirtual 251, 3), (1463, .pop, 1), (1464, .goto 484, 3), (1467, .aload_n 1, 1), (1468, .aload_n 0, 1), (1469, .iload 4, 2), (1471, .iconst 1, 1), (1472, .iadd, 1), (1473, .iaload, 1), (1474, .aload_n 3, 1)]
theorem DL_law__12_q2 : ∀ q ∈ TL_law__12_q2, decode cL_law_ q.1 = .ok q.2 := dec_wk _ 1458 (by decide +kernel)
def TL_law__12_q3 : List (Nat × Instr × Nat) := [(1475, .invokestatic 252, 3), (1478, .istore 5, 2), (1480, .aload_n 2, 1), (1481, .aload_n 0, 1), (1482, .iload 4, 2), (1484, .iconst 1, 1), (1485, .iadd, 1), (1486, .iaload, 1), (1487, .invokevirtual 254, 3), (1490, .istore 6, 2), (1492, .goto 456, 3), (1495, .aload_n 1, 1)]
theorem DL_law__12_q3 : ∀ q ∈ TL_law__12_q3, decode cL_law_ q.1 = .ok q.2 := dec_wk _ 1475 (by decide +kernel)
def TL_law__12_q4 : List (Nat × Instr × Nat) := [(1496, .invokevirtual 255, 3), (1499, .pop, 1), (1500, .aload_n 2, 1), (1501, .invokevirtual 258, 3), (1504, .pop, 1), (1505, .goto 443, 3), (1508, .aload_n 1, 1), (1509, .invokevirtual 259, 3), (1512, .pop, 1), (1513, .aload_n 2, 1), (1514, .invokevirtual 262, 3), (1517, .pop, 1)]
theorem DL_law__12_q4 : ∀ q ∈ TL_law__12_q4, decode cL_law_ q.1 = .ok q.2 := dec_wk _ 1496 (by decide +kernel)
def TL_law__12_q5 : List (Nat × Instr × Nat) := [(1518, .goto 430, 3), (1521, .aload_n 1, 1), (1522, .invokevirtual 263, 3), (1525, .pop, 1)]
theorem DL_law__12_q5 : ∀ q ∈ TL_law__12_q5, decode cL_law_ q.1 = .ok q.2 := dec_wk _ 1518 (by decide +kernel)
def TL_law__13_q0 : List (Nat × Instr × Nat) := [(1526, .aload_n 2, 1), (1527, .invokevirtual 266, 3), (1530, .pop, 1), (1531, .goto 417, 3), (1534, .aload_n 1, 1), (1535, .invokevirtual 267, 3), (1538, .pop, 1), (1539, .aload_n 2, 1), (1540, .invokevirtual 270, 3), (1543, .pop, 1), (1544, .goto 404, 3), (1547, .aload_n 1, 1)]
theorem DL_law__13_q0 : ∀ q ∈ TL_law__13_q0, decode cL_law_ q.1 = .ok q.2 := dec_wk _ 1526 (by decide +kernel)
def TL_law__13_q1 : List (Nat × Instr × Nat) := [(1548, .invokevirtual 271, 3), (1551, .pop, 1), (1552, .aload_n 2, 1), (1553, .invokevirtual 274, 3), (1556, .pop, 1), (1557, .goto 391, 3), (1560, .aload_n 1, 1), (1561, .aload_n 0, 1), (1562, .iload 4, 2), (1564, .iconst 1, 1), (1565, .iadd, 1), (1566, .iaload, 1)]
theorem DL_law__13_q1 : ∀ q ∈ TL_law__13_q1, decode cL_law_ q.1 = .ok q.2 := dec_wk _ 1548 (by decide +kernel)
def TL_law__13_q2 : List (Nat × Instr × Nat) := [(1567, .aload_n 0, 1), (1568, .iload 4, 2), (1570, .iconst 2, 1), (1571, .iadd, 1), (1572, .iaload, 1), (1573, .aload_n 3, 1), (1574, .invokestatic 275, 3), (1577, .istore 5, 2), (1579, .aload_n 2, 1), (1580, .aload_n 0, 1), (1581, .iload 4, 2), (1583, .iconst 1, 1)]
theorem DL_law__13_q2 : ∀ q ∈ TL_law__13_q2, decode cL_law_ q.1 = .ok q.2 := dec_wk _ 1567 (by decide +kernel)
def TL_law__13_q3 : List (Nat × Instr × Nat) := [(1584, .iadd, 1), (1585, .iaload, 1), (1586, .aload_n 0, 1), (1587, .iload 4, 2), (1589, .iconst 2, 1), (1590, .iadd, 1), (1591, .iaload, 1), (1592, .invokevirtual 277, 3), (1595, .istore 6, 2), (1597, .goto 351, 3), (1600, .aload_n 1, 1), (1601, .invokevirtual 278, 3)]
theorem DL_law__13_q3 : ∀ q ∈ TL_law__13_q3, decode cL_law_ q.1 = .ok q.2 := dec_wk _ 1584 (by decide +kernel)
def TL_law__13_q4 : List (Nat × Instr × Nat) := [(1604, .pop, 1), (1605, .aload_n 2, 1), (1606, .invokevirtual 281, 3), (1609, .pop, 1), (1610, .goto 338, 3), (1613, .aload_n 1, 1), (1614, .aload_n 0, 1), (1615, .iload 4, 2), (1617, .iconst 1, 1), (1618, .iadd, 1), (1619, .iaload, 1), (1620, .aload_n 0, 1)]
theorem DL_law__13_q4 : ∀ q ∈ TL_law__13_q4, decode cL_law_ q.1 = .ok q.2 := dec_wk _ 1604 (by decide +kernel)
def TL_law__13_q5 : List (Nat × Instr × Nat) := [(1621, .iload 4, 2), (1623, .iconst 2, 1), (1624, .iadd, 1), (1625, .iaload, 1)]
theorem DL_law__13_q5 : ∀ q ∈ TL_law__13_q5, decode cL_law_ q.1 = .ok q.2 := dec_wk _ 1621 (by decide +kernel)
def TL_law__14_q0 : List (Nat × Instr × Nat) := [(1626, .aload_n 3, 1), (1627, .invokestatic 282, 3), (1630, .istore 5, 2), (1632, .aload_n 2, 1), (1633, .aload_n 0, 1), (1634, .iload 4, 2), (1636, .iconst 1, 1), (1637, .iadd, 1), (1638, .iaload, 1), (1639, .aload_n 0, 1), (1640, .iload 4, 2), (1642, .iconst 2, 1)]
theorem DL_law__14_q0 : ∀ q ∈ TL_law__14_q0, decode cL_law_ q.1 = .ok q.2 := dec_wk _ 1626 (by decide +kernel)
def TL_law__14_q1 : List (Nat × Instr × Nat) := [(1643, .iadd, 1), (1644, .iaload, 1), (1645, .invokevirtual 284, 3), (1648, .istore 6, 2), (1650, .goto 298, 3), (1653, .aload_n 1, 1), (1654, .aload_n 0, 1), (1655, .iload 4, 2), (1657, .iconst 1, 1), (1658, .iadd, 1), (1659, .iaload, 1), (1660, .aload_n 0, 1)]
theorem DL_law__14_q1 : ∀ q ∈ TL_law__14_q1, decode cL_law_ q.1 = .ok q.2 := dec_wk _ 1643 (by decide +kernel)
def TL_law__14_q2 : List (Nat × Instr × Nat) := [(1661, .iload 4, 2), (1663, .iconst 2, 1), (1664, .iadd, 1), (1665, .iaload, 1), (1666, .ifCond .eq 7, 3), (1669, .iconst 1, 1), (1670, .goto 4, 3), (1673, .iconst 0, 1), (1674, .aload_n 3, 1), (1675, .invokestatic 285, 3), (1678, .istore 5, 2), (1680, .aload_n 2, 1)]
theorem DL_law__14_q2 : ∀ q ∈ TL_law__14_q2, decode cL_law_ q.1 = .ok q.2 := dec_wk _ 1661 (by decide +kernel)
def TL_law__14_q3 : List (Nat × Instr × Nat) := [(1681, .aload_n 0, 1), (1682, .iload 4, 2), (1684, .iconst 1, 1), (1685, .iadd, 1), (1686, .iaload, 1), (1687, .aload_n 0, 1), (1688, .iload 4, 2), (1690, .iconst 2, 1), (1691, .iadd, 1), (1692, .iaload, 1), (1693, .ifCond .eq 7, 3), (1696, .iconst 1, 1)]
theorem DL_law__14_q3 : ∀ q ∈ TL_law__14_q3, decode cL_law_ q.1 = .ok q.2 := dec_wk _ 1681 (by decide +kernel)
def TL_law__14_q4 : List (Nat × Instr × Nat) := [(1697, .goto 4, 3), (1700, .iconst 0, 1), (1701, .invokevirtual 287, 3), (1704, .istore 6, 2), (1706, .goto 242, 3), (1709, .aload_n 1, 1), (1710, .aload_n 0, 1), (1711, .iload 4, 2), (1713, .iconst 1, 1), (1714, .iadd, 1), (1715, .iaload, 1), (1716, .aload_n 0, 1)]
theorem DL_law__14_q4 : ∀ q ∈ TL_law__14_q4, decode cL_law_ q.1 = .ok q.2 := dec_wk _ 1697 (by decide +kernel)
def TL_law__14_q5 : List (Nat × Instr × Nat) := [(1717, .iload 4, 2), (1719, .iconst 2, 1), (1720, .iadd, 1), (1721, .iaload, 1)]
theorem DL_law__14_q5 : ∀ q ∈ TL_law__14_q5, decode cL_law_ q.1 = .ok q.2 := dec_wk _ 1717 (by decide +kernel)
def TL_law__15_q0 : List (Nat × Instr × Nat) := [(1722, .ifCond .eq 7, 3), (1725, .iconst 1, 1), (1726, .goto 4, 3), (1729, .iconst 0, 1), (1730, .aload_n 3, 1), (1731, .invokestatic 288, 3), (1734, .istore 5, 2), (1736, .aload_n 2, 1), (1737, .aload_n 0, 1), (1738, .iload 4, 2), (1740, .iconst 1, 1), (1741, .iadd, 1)]
theorem DL_law__15_q0 : ∀ q ∈ TL_law__15_q0, decode cL_law_ q.1 = .ok q.2 := dec_wk _ 1722 (by decide +kernel)
def TL_law__15_q1 : List (Nat × Instr × Nat) := [(1742, .iaload, 1), (1743, .aload_n 0, 1), (1744, .iload 4, 2), (1746, .iconst 2, 1), (1747, .iadd, 1), (1748, .iaload, 1), (1749, .ifCond .eq 7, 3), (1752, .iconst 1, 1), (1753, .goto 4, 3), (1756, .iconst 0, 1), (1757, .invokevirtual 290, 3), (1760, .istore 6, 2)]
theorem DL_law__15_q1 : ∀ q ∈ TL_law__15_q1, decode cL_law_ q.1 = .ok q.2 := dec_wk _ 1742 (by decide +kernel)
def TL_law__15_q2 : List (Nat × Instr × Nat) := [(1762, .goto 186, 3), (1765, .aload_n 1, 1), (1766, .aload_n 0, 1), (1767, .iload 4, 2), (1769, .iconst 1, 1), (1770, .iadd, 1), (1771, .iaload, 1), (1772, .aload_n 0, 1), (1773, .iload 4, 2), (1775, .iconst 2, 1), (1776, .iadd, 1), (1777, .iaload, 1)]
theorem DL_law__15_q2 : ∀ q ∈ TL_law__15_q2, decode cL_law_ q.1 = .ok q.2 := dec_wk _ 1762 (by decide +kernel)
def TL_law__15_q3 : List (Nat × Instr × Nat) := [(1778, .ifCond .eq 7, 3), (1781, .iconst 1, 1), (1782, .goto 4, 3), (1785, .iconst 0, 1), (1786, .aload_n 3, 1), (1787, .invokestatic 291, 3), (1790, .istore 5, 2), (1792, .aload_n 2, 1), (1793, .aload_n 0, 1), (1794, .iload 4, 2), (1796, .iconst 1, 1), (1797, .iadd, 1)]
theorem DL_law__15_q3 : ∀ q ∈ TL_law__15_q3, decode cL_law_ q.1 = .ok q.2 := dec_wk _ 1778 (by decide +kernel)
def TL_law__15_q4 : List (Nat × Instr × Nat) := [(1798, .iaload, 1), (1799, .aload_n 0, 1), (1800, .iload 4, 2), (1802, .iconst 2, 1), (1803, .iadd, 1), (1804, .iaload, 1), (1805, .ifCond .eq 7, 3), (1808, .iconst 1, 1), (1809, .goto 4, 3), (1812, .iconst 0, 1), (1813, .invokevirtual 293, 3), (1816, .istore 6, 2)]
theorem DL_law__15_q4 : ∀ q ∈ TL_law__15_q4, decode cL_law_ q.1 = .ok q.2 := dec_wk _ 1798 (by decide +kernel)
def TL_law__15_q5 : List (Nat × Instr × Nat) := [(1818, .goto 130, 3), (1821, .aload_n 1, 1), (1822, .aload_n 0, 1), (1823, .iload 4, 2)]
theorem DL_law__15_q5 : ∀ q ∈ TL_law__15_q5, decode cL_law_ q.1 = .ok q.2 := dec_wk _ 1818 (by decide +kernel)
def TL_law__16_q0 : List (Nat × Instr × Nat) := [(1825, .iconst 1, 1), (1826, .iadd, 1), (1827, .iaload, 1), (1828, .aload_n 0, 1), (1829, .iload 4, 2), (1831, .iconst 2, 1), (1832, .iadd, 1), (1833, .iaload, 1), (1834, .aload_n 3, 1), (1835, .invokestatic 294, 3), (1838, .istore 5, 2), (1840, .aload_n 2, 1)]
theorem DL_law__16_q0 : ∀ q ∈ TL_law__16_q0, decode cL_law_ q.1 = .ok q.2 := dec_wk _ 1825 (by decide +kernel)
def TL_law__16_q1 : List (Nat × Instr × Nat) := [(1841, .aload_n 0, 1), (1842, .iload 4, 2), (1844, .iconst 1, 1), (1845, .iadd, 1), (1846, .iaload, 1), (1847, .aload_n 0, 1), (1848, .iload 4, 2), (1850, .iconst 2, 1), (1851, .iadd, 1), (1852, .iaload, 1), (1853, .invokevirtual 296, 3), (1856, .istore 6, 2)]
theorem DL_law__16_q1 : ∀ q ∈ TL_law__16_q1, decode cL_law_ q.1 = .ok q.2 := dec_wk _ 1841 (by decide +kernel)
def TL_law__16_q2 : List (Nat × Instr × Nat) := [(1858, .goto 90, 3), (1861, .aload_n 1, 1), (1862, .aload_n 0, 1), (1863, .iload 4, 2), (1865, .iconst 1, 1), (1866, .iadd, 1), (1867, .iaload, 1), (1868, .invokevirtual 297, 3), (1871, .pop, 1), (1872, .aload_n 2, 1), (1873, .aload_n 0, 1), (1874, .iload 4, 2)]
theorem DL_law__16_q2 : ∀ q ∈ TL_law__16_q2, decode cL_law_ q.1 = .ok q.2 := dec_wk _ 1858 (by decide +kernel)
def TL_law__16_q3 : List (Nat × Instr × Nat) := [(1876, .iconst 1, 1), (1877, .iadd, 1), (1878, .iaload, 1), (1879, .invokevirtual 300, 3), (1882, .pop, 1), (1883, .goto 65, 3), (1886, .aload_n 1, 1), (1887, .invokevirtual 301, 3), (1890, .pop, 1), (1891, .aload_n 2, 1), (1892, .invokevirtual 305, 3), (1895, .pop, 1)]
theorem DL_law__16_q3 : ∀ q ∈ TL_law__16_q3, decode cL_law_ q.1 = .ok q.2 := dec_wk _ 1876 (by decide +kernel)
def TL_law__16_q4 : List (Nat × Instr × Nat) := [(1896, .goto 52, 3), (1899, .aload_n 1, 1), (1900, .invokevirtual 306, 3), (1903, .aload_n 2, 1), (1904, .invokevirtual 309, 3), (1907, .goto 41, 3), (1910, .aload_n 1, 1), (1911, .invokevirtual 310, 3), (1914, .pop, 1), (1915, .aload_n 2, 1), (1916, .invokevirtual 313, 3), (1919, .pop, 1)]
theorem DL_law__16_q4 : ∀ q ∈ TL_law__16_q4, decode cL_law_ q.1 = .ok q.2 := dec_wk _ 1896 (by decide +kernel)
def TL_law__16_q5 : List (Nat × Instr × Nat) := [(1920, .goto 28, 3), (1923, .aload_n 1, 1), (1924, .aload_n 0, 1), (1925, .iload 4, 2)]
theorem DL_law__16_q5 : ∀ q ∈ TL_law__16_q5, decode cL_law_ q.1 = .ok q.2 := dec_wk _ 1920 (by decide +kernel)
def TL_law__17_q0 : List (Nat × Instr × Nat) := [(1927, .iconst 1, 1), (1928, .iadd, 1), (1929, .iaload, 1), (1930, .invokevirtual 314, 3), (1933, .pop, 1), (1934, .aload_n 2, 1), (1935, .aload_n 0, 1), (1936, .iload 4, 2), (1938, .iconst 1, 1), (1939, .iadd, 1), (1940, .iaload, 1), (1941, .invokevirtual 317, 3)]
theorem DL_law__17_q0 : ∀ q ∈ TL_law__17_q0, decode cL_law_ q.1 = .ok q.2 := dec_wk _ 1927 (by decide +kernel)
def TL_law__17_q1 : List (Nat × Instr × Nat) := [(1944, .pop, 1), (1945, .goto 3, 3), (1948, .iinc 4 6, 3), (1951, .goto (-1928), 3), (1954, .iconst 1, 1), (1955, .ireturn, 1)]
theorem DL_law__17_q1 : ∀ q ∈ TL_law__17_q1, decode cL_law_ q.1 = .ok q.2 := dec_wk _ 1944 (by decide +kernel)
end
