section
def TX0_init_q0 : List (Nat × Instr × Nat) := [(0, .aload_n 0, 1), (1, .invokespecial 1, 3), (4, .aload_n 0, 1), (5, .bipush 12, 2), (7, .anewarray 9, 3), (10, .putfield 11, 3), (13, .return_, 1)]
theorem DX0_init_q0 : ∀ q ∈ TX0_init_q0, decode cX0_init q.1 = .ok q.2 := dec_wk _ 0 (by decide +kernel)
def TX0_remember_q0 : List (Nat × Instr × Nat) := [(0, .aload_n 0, 1), (1, .getfield 11, 3), (4, .aload_n 0, 1), (5, .getfield 15, 3), (8, .aaload, 1), (9, .ifnonnull 19, 3), (12, .aload_n 0, 1), (13, .getfield 11, 3), (16, .aload_n 0, 1), (17, .getfield 15, 3), (20, .new 9, 3), (23, .dup, 1)]
theorem DX0_remember_q0 : ∀ q ∈ TX0_remember_q0, decode cX0_remember q.1 = .ok q.2 := dec_wk _ 0 (by decide +kernel)
def TX0_remember_q1 : List (Nat × Instr × Nat) := [(24, .invokespecial 19, 3), (27, .aastore, 1), (28, .aload_n 0, 1), (29, .getfield 11, 3), (32, .aload_n 0, 1), (33, .getfield 15, 3), (36, .aaload, 1), (37, .aload_n 1, 1), (38, .invokevirtual 20, 3), (41, .aload_n 0, 1), (42, .aload_n 0, 1), (43, .getfield 15, 3)]
theorem DX0_remember_q1 : ∀ q ∈ TX0_remember_q1, decode cX0_remember q.1 = .ok q.2 := dec_wk _ 24 (by decide +kernel)
def TX0_remember_q2 : List (Nat × Instr × Nat) := [(46, .iconst 1, 1), (47, .iadd, 1), (48, .bipush 12, 2), (50, .if_icmp .ge 12, 3), (53, .aload_n 0, 1), (54, .getfield 15, 3), (57, .iconst 1, 1), (58, .iadd, 1), (59, .goto 4, 3), (62, .iconst 0, 1), (63, .putfield 15, 3), (66, .aload_n 0, 1)]
theorem DX0_remember_q2 : ∀ q ∈ TX0_remember_q2, decode cX0_remember q.1 = .ok q.2 := dec_wk _ 46 (by decide +kernel)
def TX0_remember_q3 : List (Nat × Instr × Nat) := [(67, .bipush 12, 2), (69, .aload_n 0, 1), (70, .getfield 24, 3), (73, .iconst 1, 1), (74, .iadd, 1), (75, .invokestatic 27, 3), (78, .putfield 24, 3), (81, .return_, 1)]
theorem DX0_remember_q3 : ∀ q ∈ TX0_remember_q3, decode cX0_remember q.1 = .ok q.2 := dec_wk _ 67 (by decide +kernel)
def TX0_takeBack_q0 : List (Nat × Instr × Nat) := [(0, .aload_n 0, 1), (1, .getfield 15, 3), (4, .ifCond .le 12, 3), (7, .aload_n 0, 1), (8, .getfield 15, 3), (11, .iconst 1, 1), (12, .isub, 1), (13, .goto 5, 3), (16, .bipush 11, 2), (18, .istore_n 2, 1), (19, .aload_n 0, 1), (20, .getfield 24, 3)]
theorem DX0_takeBack_q0 : ∀ q ∈ TX0_takeBack_q0, decode cX0_takeBack q.1 = .ok q.2 := dec_wk _ 0 (by decide +kernel)
def TX0_takeBack_q1 : List (Nat × Instr × Nat) := [(23, .ifCond .eq 12, 3), (26, .aload_n 0, 1), (27, .getfield 11, 3), (30, .iload_n 2, 1), (31, .aaload, 1), (32, .ifnonnull 5, 3), (35, .iconst 0, 1), (36, .ireturn, 1), (37, .aload_n 1, 1), (38, .aload_n 0, 1), (39, .getfield 11, 3), (42, .iload_n 2, 1)]
theorem DX0_takeBack_q1 : ∀ q ∈ TX0_takeBack_q1, decode cX0_takeBack q.1 = .ok q.2 := dec_wk _ 23 (by decide +kernel)
def TX0_takeBack_q2 : List (Nat × Instr × Nat) := [(43, .aaload, 1), (44, .invokevirtual 20, 3), (47, .aload_n 0, 1), (48, .iload_n 2, 1), (49, .putfield 15, 3), (52, .aload_n 0, 1), (53, .dup, 1), (54, .getfield 24, 3), (57, .iconst 1, 1), (58, .isub, 1), (59, .putfield 24, 3), (62, .iconst 1, 1)]
theorem DX0_takeBack_q2 : ∀ q ∈ TX0_takeBack_q2, decode cX0_takeBack q.1 = .ok q.2 := dec_wk _ 43 (by decide +kernel)
def TX0_takeBack_q3 : List (Nat × Instr × Nat) := [(63, .ireturn, 1)]
theorem DX0_takeBack_q3 : ∀ q ∈ TX0_takeBack_q3, decode cX0_takeBack q.1 = .ok q.2 := dec_wk _ 63 (by decide +kernel)
def TX0_forget_q0 : List (Nat × Instr × Nat) := [(0, .aload_n 0, 1), (1, .iconst 0, 1), (2, .putfield 24, 3), (5, .return_, 1)]
theorem DX0_forget_q0 : ∀ q ∈ TX0_forget_q0, decode cX0_forget q.1 = .ok q.2 := dec_wk _ 0 (by decide +kernel)
def TX1_init_q0 : List (Nat × Instr × Nat) := [(0, .aload_n 0, 1), (1, .invokespecial 3, 3), (4, .aload_n 0, 1), (5, .aload_n 1, 1), (6, .putfield 9, 3), (9, .aload_n 0, 1), (10, .aload_n 2, 1), (11, .putfield 15, 3), (14, .return_, 1)]
theorem DX1_init_q0 : ∀ q ∈ TX1_init_q0, decode cX1_init q.1 = .ok q.2 := dec_wk _ 0 (by decide +kernel)
def TX1_run_q0 : List (Nat × Instr × Nat) := [(0, .iconst 0, 1), (1, .istore_n 3, 1), (2, .iconst 0, 1), (3, .istore 4, 2), (5, .iload 4, 2), (7, .iload_n 2, 1), (8, .if_icmp .ge 32, 3), (11, .aload_n 0, 1), (12, .aload_n 1, 1), (13, .invokevirtual 19, 3), (16, .iload_n 3, 1), (17, .aload_n 0, 1)]
theorem DX1_run_q0 : ∀ q ∈ TX1_run_q0, decode cX1_run q.1 = .ok q.2 := dec_wk _ 0 (by decide +kernel)
def TX1_run_q1 : List (Nat × Instr × Nat) := [(18, .aload_n 1, 1), (19, .invokevirtual 23, 3), (22, .aload_n 0, 1), (23, .aload_n 1, 1), (24, .invokevirtual 27, 3), (27, .iadd, 1), (28, .iadd, 1), (29, .istore_n 3, 1), (30, .aload_n 1, 1), (31, .invokestatic 30, 3), (34, .iinc 4 1, 3), (37, .goto (-32), 3)]
theorem DX1_run_q1 : ∀ q ∈ TX1_run_q1, decode cX1_run q.1 = .ok q.2 := dec_wk _ 18 (by decide +kernel)
def TX1_run_q2 : List (Nat × Instr × Nat) := [(40, .iload_n 3, 1), (41, .ireturn, 1)]
theorem DX1_run_q2 : ∀ q ∈ TX1_run_q2, decode cX1_run q.1 = .ok q.2 := dec_wk _ 40 (by decide +kernel)
def TX1_tryHours_q0 : List (Nat × Instr × Nat) := [(0, .aload_n 0, 1), (1, .getfield 15, 3), (4, .aload_n 1, 1), (5, .invokevirtual 33, 3), (8, .aload_n 0, 1), (9, .getfield 15, 3), (12, .iload_n 3, 1), (13, .putfield 38, 3), (16, .aload_n 0, 1), (17, .aload_n 0, 1), (18, .getfield 15, 3), (21, .iload_n 2, 1)]
theorem DX1_tryHours_q0 : ∀ q ∈ TX1_tryHours_q0, decode cX1_tryHours q.1 = .ok q.2 := dec_wk _ 0 (by decide +kernel)
def TX1_tryHours_q1 : List (Nat × Instr × Nat) := [(22, .invokevirtual 42, 3), (25, .pop, 1), (26, .return_, 1)]
theorem DX1_tryHours_q1 : ∀ q ∈ TX1_tryHours_q1, decode cX1_tryHours q.1 = .ok q.2 := dec_wk _ 22 (by decide +kernel)
def TX1_goAhead_q0 : List (Nat × Instr × Nat) := [(0, .aload_n 0, 1), (1, .getfield 15, 3), (4, .aload_n 1, 1), (5, .invokevirtual 33, 3), (8, .iconst 0, 1), (9, .istore_n 3, 1), (10, .iload_n 3, 1), (11, .iload_n 2, 1), (12, .if_icmp .ge 24, 3), (15, .aload_n 0, 1), (16, .aload_n 0, 1), (17, .getfield 15, 3)]
theorem DX1_goAhead_q0 : ∀ q ∈ TX1_goAhead_q0, decode cX1_goAhead q.1 = .ok q.2 := dec_wk _ 0 (by decide +kernel)
def TX1_goAhead_q1 : List (Nat × Instr × Nat) := [(20, .invokevirtual 19, 3), (23, .aload_n 0, 1), (24, .getfield 15, 3), (27, .invokestatic 30, 3), (30, .iinc 3 1, 3), (33, .goto (-23), 3), (36, .return_, 1)]
theorem DX1_goAhead_q1 : ∀ q ∈ TX1_goAhead_q1, decode cX1_goAhead q.1 = .ok q.2 := dec_wk _ 20 (by decide +kernel)
def TX1_firstPale_q0 : List (Nat × Instr × Nat) := [(0, .aload_n 0, 1), (1, .getfield 15, 3), (4, .aload_n 1, 1), (5, .invokevirtual 33, 3), (8, .iconst 0, 1), (9, .istore_n 2, 1), (10, .iload_n 2, 1), (11, .bipush 80, 2), (13, .if_icmp .gt 36, 3), (16, .aload_n 0, 1), (17, .getfield 15, 3), (20, .invokestatic 46, 3)]
theorem DX1_firstPale_q0 : ∀ q ∈ TX1_firstPale_q0, decode cX1_firstPale q.1 = .ok q.2 := dec_wk _ 0 (by decide +kernel)
def TX1_firstPale_q1 : List (Nat × Instr × Nat) := [(23, .ifCond .eq 5, 3), (26, .iload_n 2, 1), (27, .ireturn, 1), (28, .aload_n 0, 1), (29, .aload_n 0, 1), (30, .getfield 15, 3), (33, .invokevirtual 19, 3), (36, .aload_n 0, 1), (37, .getfield 15, 3), (40, .invokestatic 30, 3), (43, .iinc 2 1, 3), (46, .goto (-36), 3)]
theorem DX1_firstPale_q1 : ∀ q ∈ TX1_firstPale_q1, decode cX1_firstPale q.1 = .ok q.2 := dec_wk _ 23 (by decide +kernel)
def TX1_firstPale_q2 : List (Nat × Instr × Nat) := [(49, .iconst (-1), 1), (50, .ireturn, 1)]
theorem DX1_firstPale_q2 : ∀ q ∈ TX1_firstPale_q2, decode cX1_firstPale q.1 = .ok q.2 := dec_wk _ 49 (by decide +kernel)
def TX1_oddsToStay_q0 : List (Nat × Instr × Nat) := [(0, .bipush 100, 2), (2, .aload_n 0, 1), (3, .getfield 9, 3), (6, .iconst 2, 1), (7, .aload_n 1, 1), (8, .iload_n 2, 1), (9, .invokevirtual 50, 3), (12, .invokestatic 56, 3), (15, .istore 4, 2), (17, .sipush 10000, 3), (20, .istore 5, 2), (22, .iconst 0, 1)]
theorem DX1_oddsToStay_q0 : ∀ q ∈ TX1_oddsToStay_q0, decode cX1_oddsToStay q.1 = .ok q.2 := dec_wk _ 0 (by decide +kernel)
def TX1_oddsToStay_q1 : List (Nat × Instr × Nat) := [(23, .istore 6, 2), (25, .iload 6, 2), (27, .iload_n 3, 1), (28, .if_icmp .ge 22, 3), (31, .iload 5, 2), (33, .bipush 100, 2), (35, .iload 4, 2), (37, .isub, 1), (38, .imul, 1), (39, .bipush 100, 2), (41, .idiv, 1), (42, .istore 5, 2)]
theorem DX1_oddsToStay_q1 : ∀ q ∈ TX1_oddsToStay_q1, decode cX1_oddsToStay q.1 = .ok q.2 := dec_wk _ 23 (by decide +kernel)
def TX1_oddsToStay_q2 : List (Nat × Instr × Nat) := [(44, .iinc 6 1, 3), (47, .goto (-22), 3), (50, .iload 5, 2), (52, .ireturn, 1)]
theorem DX1_oddsToStay_q2 : ∀ q ∈ TX1_oddsToStay_q2, decode cX1_oddsToStay q.1 = .ok q.2 := dec_wk _ 44 (by decide +kernel)
def TX1_isSomePale_q0 : List (Nat × Instr × Nat) := [(0, .iconst 0, 1), (1, .istore_n 1, 1), (2, .iload_n 1, 1), (3, .aload_n 0, 1), (4, .getfield 62, 3), (7, .if_icmp .ge 22, 3), (10, .aload_n 0, 1), (11, .getfield 65, 3), (14, .iload_n 1, 1), (15, .iaload, 1), (16, .bipush 99, 2), (18, .if_icmp .ne 5, 3)]
theorem DX1_isSomePale_q0 : ∀ q ∈ TX1_isSomePale_q0, decode cX1_isSomePale q.1 = .ok q.2 := dec_wk _ 0 (by decide +kernel)
def TX1_isSomePale_q1 : List (Nat × Instr × Nat) := [(21, .iconst 1, 1), (22, .ireturn, 1), (23, .iinc 1 1, 3), (26, .goto (-24), 3), (29, .iconst 0, 1), (30, .ireturn, 1)]
theorem DX1_isSomePale_q1 : ∀ q ∈ TX1_isSomePale_q1, decode cX1_isSomePale q.1 = .ok q.2 := dec_wk _ 21 (by decide +kernel)
def TX1_fadeAll_q0 : List (Nat × Instr × Nat) := [(0, .iconst 0, 1), (1, .istore_n 2, 1), (2, .iload_n 2, 1), (3, .aload_n 1, 1), (4, .getfield 62, 3), (7, .if_icmp .ge 37, 3), (10, .aload_n 1, 1), (11, .getfield 65, 3), (14, .iload_n 2, 1), (15, .bipush 99, 2), (17, .aload_n 1, 1), (18, .getfield 65, 3)]
theorem DX1_fadeAll_q0 : ∀ q ∈ TX1_fadeAll_q0, decode cX1_fadeAll q.1 = .ok q.2 := dec_wk _ 0 (by decide +kernel)
def TX1_fadeAll_q1 : List (Nat × Instr × Nat) := [(21, .iload_n 2, 1), (22, .iaload, 1), (23, .aload_n 0, 1), (24, .getfield 9, 3), (27, .iconst 0, 1), (28, .aload_n 1, 1), (29, .iload_n 2, 1), (30, .invokevirtual 50, 3), (33, .iadd, 1), (34, .invokestatic 56, 3), (37, .iastore, 1), (38, .iinc 2 1, 3)]
theorem DX1_fadeAll_q1 : ∀ q ∈ TX1_fadeAll_q1, decode cX1_fadeAll q.1 = .ok q.2 := dec_wk _ 21 (by decide +kernel)
def TX1_fadeAll_q2 : List (Nat × Instr × Nat) := [(41, .goto (-39), 3), (44, .return_, 1)]
theorem DX1_fadeAll_q2 : ∀ q ∈ TX1_fadeAll_q2, decode cX1_fadeAll q.1 = .ok q.2 := dec_wk _ 41 (by decide +kernel)
def TX1_catchSome_q0 : List (Nat × Instr × Nat) := [(0, .iconst 0, 1), (1, .istore_n 2, 1), (2, .iconst 0, 1), (3, .istore_n 3, 1), (4, .iload_n 3, 1), (5, .aload_n 1, 1), (6, .getfield 62, 3), (9, .if_icmp .ge 74, 3), (12, .aload_n 1, 1), (13, .iload_n 3, 1), (14, .iconst (-1), 1), (15, .invokevirtual 69, 3)]
theorem DX1_catchSome_q0 : ∀ q ∈ TX1_catchSome_q0, decode cX1_catchSome q.1 = .ok q.2 := dec_wk _ 0 (by decide +kernel)
def TX1_catchSome_q1 : List (Nat × Instr × Nat) := [(18, .iconst 1, 1), (19, .if_icmp .ne 58, 3), (22, .aload_n 1, 1), (23, .getfield 72, 3), (26, .iload_n 3, 1), (27, .invokestatic 75, 3), (30, .ifCond .ne 47, 3), (33, .aload_n 1, 1), (34, .invokestatic 78, 3), (37, .aload_n 0, 1), (38, .getfield 9, 3), (41, .iconst 1, 1)]
theorem DX1_catchSome_q1 : ∀ q ∈ TX1_catchSome_q1, decode cX1_catchSome q.1 = .ok q.2 := dec_wk _ 18 (by decide +kernel)
def TX1_catchSome_q2 : List (Nat × Instr × Nat) := [(42, .aload_n 1, 1), (43, .iload_n 3, 1), (44, .invokevirtual 50, 3), (47, .if_icmp .ge 30, 3), (50, .aload_n 1, 1), (51, .aload_n 1, 1), (52, .getfield 72, 3), (55, .iload_n 3, 1), (56, .iconst 1, 1), (57, .invokestatic 81, 3), (60, .putfield 72, 3), (63, .aload_n 1, 1)]
theorem DX1_catchSome_q2 : ∀ q ∈ TX1_catchSome_q2, decode cX1_catchSome q.1 = .ok q.2 := dec_wk _ 42 (by decide +kernel)
def TX1_catchSome_q3 : List (Nat × Instr × Nat) := [(64, .getfield 85, 3), (67, .aload_n 1, 1), (68, .iload_n 3, 1), (69, .iconst 1, 1), (70, .iconst 0, 1), (71, .invokevirtual 89, 3), (74, .iinc 2 1, 3), (77, .iinc 3 1, 3), (80, .goto (-76), 3), (83, .iload_n 2, 1), (84, .ireturn, 1)]
theorem DX1_catchSome_q3 : ∀ q ∈ TX1_catchSome_q3, decode cX1_catchSome q.1 = .ok q.2 := dec_wk _ 64 (by decide +kernel)
def TX1_dropSome_q0 : List (Nat × Instr × Nat) := [(0, .iconst 0, 1), (1, .istore_n 2, 1), (2, .iconst 0, 1), (3, .istore_n 3, 1), (4, .iload_n 3, 1), (5, .aload_n 1, 1), (6, .getfield 62, 3), (9, .if_icmp .ge 65, 3), (12, .aload_n 1, 1), (13, .getfield 95, 3), (16, .iload_n 3, 1), (17, .invokestatic 75, 3)]
theorem DX1_dropSome_q0 : ∀ q ∈ TX1_dropSome_q0, decode cX1_dropSome q.1 = .ok q.2 := dec_wk _ 0 (by decide +kernel)
def TX1_dropSome_q1 : List (Nat × Instr × Nat) := [(20, .iconst 1, 1), (21, .if_icmp .ne 47, 3), (24, .aload_n 1, 1), (25, .invokestatic 78, 3), (28, .aload_n 0, 1), (29, .getfield 9, 3), (32, .iconst 2, 1), (33, .aload_n 1, 1), (34, .iload_n 3, 1), (35, .invokevirtual 50, 3), (38, .if_icmp .ge 30, 3), (41, .aload_n 1, 1)]
theorem DX1_dropSome_q1 : ∀ q ∈ TX1_dropSome_q1, decode cX1_dropSome q.1 = .ok q.2 := dec_wk _ 20 (by decide +kernel)
def TX1_dropSome_q2 : List (Nat × Instr × Nat) := [(42, .aload_n 1, 1), (43, .getfield 95, 3), (46, .iload_n 3, 1), (47, .iconst 0, 1), (48, .invokestatic 81, 3), (51, .putfield 95, 3), (54, .aload_n 1, 1), (55, .getfield 85, 3), (58, .aload_n 1, 1), (59, .iload_n 3, 1), (60, .iconst 2, 1), (61, .iconst 0, 1)]
theorem DX1_dropSome_q2 : ∀ q ∈ TX1_dropSome_q2, decode cX1_dropSome q.1 = .ok q.2 := dec_wk _ 42 (by decide +kernel)
def TX1_dropSome_q3 : List (Nat × Instr × Nat) := [(62, .invokevirtual 89, 3), (65, .iinc 2 1, 3), (68, .iinc 3 1, 3), (71, .goto (-67), 3), (74, .iload_n 2, 1), (75, .ireturn, 1)]
theorem DX1_dropSome_q3 : ∀ q ∈ TX1_dropSome_q3, decode cX1_dropSome q.1 = .ok q.2 := dec_wk _ 62 (by decide +kernel)
def TX1_draw_q0 : List (Nat × Instr × Nat) := [(0, .aload_n 0, 1), (1, .ldc 98, 2), (3, .aload_n 0, 1), (4, .getfield 38, 3), (7, .imul, 1), (8, .sipush 12345, 3), (11, .iadd, 1), (12, .putfield 38, 3), (15, .aload_n 0, 1), (16, .getfield 38, 3), (19, .bipush 16, 2), (21, .iushr, 1)]
theorem DX1_draw_q0 : ∀ q ∈ TX1_draw_q0, decode cX1_draw q.1 = .ok q.2 := dec_wk _ 0 (by decide +kernel)
def TX1_draw_q1 : List (Nat × Instr × Nat) := [(22, .sipush 32767, 3), (25, .iand, 1), (26, .bipush 100, 2), (28, .irem, 1), (29, .ireturn, 1)]
theorem DX1_draw_q1 : ∀ q ∈ TX1_draw_q1, decode cX1_draw q.1 = .ok q.2 := dec_wk _ 22 (by decide +kernel)
def TX1_turn_q0 : List (Nat × Instr × Nat) := [(0, .aload_n 0, 1), (1, .dup, 1), (2, .getfield 99, 3), (5, .iconst 1, 1), (6, .iadd, 1), (7, .putfield 99, 3), (10, .aload_n 0, 1), (11, .getfield 99, 3), (14, .bipush 8, 2), (16, .if_icmp .lt 24, 3), (19, .aload_n 0, 1), (20, .iconst 0, 1)]
theorem DX1_turn_q0 : ∀ q ∈ TX1_turn_q0, decode cX1_turn q.1 = .ok q.2 := dec_wk _ 0 (by decide +kernel)
def TX1_turn_q1 : List (Nat × Instr × Nat) := [(21, .putfield 99, 3), (24, .aload_n 0, 1), (25, .sipush 9999, 3), (28, .aload_n 0, 1), (29, .getfield 102, 3), (32, .iconst 1, 1), (33, .iadd, 1), (34, .invokestatic 56, 3), (37, .putfield 102, 3), (40, .return_, 1)]
theorem DX1_turn_q1 : ∀ q ∈ TX1_turn_q1, decode cX1_turn q.1 = .ok q.2 := dec_wk _ 21 (by decide +kernel)
def TX2_init_q0 : List (Nat × Instr × Nat) := [(0, .aload_n 0, 1), (1, .invokespecial 3, 3), (4, .aload_n 0, 1), (5, .bipush 12, 2), (7, .newarray .int, 2), (9, .putfield 11, 3), (12, .aload_n 0, 1), (13, .bipush 12, 2), (15, .newarray .int, 2), (17, .putfield 15, 3), (20, .aload_n 0, 1), (21, .bipush 12, 2)]
theorem DX2_init_q0 : ∀ q ∈ TX2_init_q0, decode cX2_init q.1 = .ok q.2 := dec_wk _ 0 (by decide +kernel)
def TX2_init_q1 : List (Nat × Instr × Nat) := [(23, .newarray .int, 2), (25, .putfield 18, 3), (28, .aload_n 0, 1), (29, .sipush 400, 3), (32, .newarray .int, 2), (34, .putfield 21, 3), (37, .aload_n 0, 1), (38, .bipush 24, 2), (40, .newarray .int, 2), (42, .putfield 24, 3), (45, .return_, 1)]
theorem DX2_init_q1 : ∀ q ∈ TX2_init_q1, decode cX2_init q.1 = .ok q.2 := dec_wk _ 23 (by decide +kernel)
def TX2_begin_q0 : List (Nat × Instr × Nat) := [(0, .aload_n 0, 1), (1, .iconst 1, 1), (2, .putfield 27, 3), (5, .aload_n 0, 1), (6, .iconst 0, 1), (7, .putfield 31, 3), (10, .aload_n 0, 1), (11, .iconst 0, 1), (12, .putfield 35, 3), (15, .return_, 1)]
theorem DX2_begin_q0 : ∀ q ∈ TX2_begin_q0, decode cX2_begin q.1 = .ok q.2 := dec_wk _ 0 (by decide +kernel)
def TX2_copyFrom_q0 : List (Nat × Instr × Nat) := [(0, .aload_n 1, 1), (1, .getfield 11, 3), (4, .iconst 0, 1), (5, .aload_n 0, 1), (6, .getfield 11, 3), (9, .iconst 0, 1), (10, .bipush 12, 2), (12, .invokestatic 38, 3), (15, .aload_n 1, 1), (16, .getfield 15, 3), (19, .iconst 0, 1), (20, .aload_n 0, 1)]
theorem DX2_copyFrom_q0 : ∀ q ∈ TX2_copyFrom_q0, decode cX2_copyFrom q.1 = .ok q.2 := dec_wk _ 0 (by decide +kernel)
def TX2_copyFrom_q1 : List (Nat × Instr × Nat) := [(21, .getfield 15, 3), (24, .iconst 0, 1), (25, .bipush 12, 2), (27, .invokestatic 38, 3), (30, .aload_n 1, 1), (31, .getfield 18, 3), (34, .iconst 0, 1), (35, .aload_n 0, 1), (36, .getfield 18, 3), (39, .iconst 0, 1), (40, .bipush 12, 2), (42, .invokestatic 38, 3)]
theorem DX2_copyFrom_q1 : ∀ q ∈ TX2_copyFrom_q1, decode cX2_copyFrom q.1 = .ok q.2 := dec_wk _ 21 (by decide +kernel)
def TX2_copyFrom_q2 : List (Nat × Instr × Nat) := [(45, .aload_n 1, 1), (46, .getfield 21, 3), (49, .iconst 0, 1), (50, .aload_n 0, 1), (51, .getfield 21, 3), (54, .iconst 0, 1), (55, .sipush 400, 3), (58, .invokestatic 38, 3), (61, .aload_n 0, 1), (62, .aload_n 1, 1), (63, .getfield 35, 3), (66, .putfield 35, 3)]
theorem DX2_copyFrom_q2 : ∀ q ∈ TX2_copyFrom_q2, decode cX2_copyFrom q.1 = .ok q.2 := dec_wk _ 45 (by decide +kernel)
def TX2_copyFrom_q3 : List (Nat × Instr × Nat) := [(69, .aload_n 0, 1), (70, .aload_n 1, 1), (71, .getfield 27, 3), (74, .putfield 27, 3), (77, .aload_n 0, 1), (78, .aload_n 1, 1), (79, .getfield 31, 3), (82, .putfield 31, 3), (85, .return_, 1)]
theorem DX2_copyFrom_q3 : ∀ q ∈ TX2_copyFrom_q3, decode cX2_copyFrom q.1 = .ok q.2 := dec_wk _ 69 (by decide +kernel)
def TX2_addLine_q0 : List (Nat × Instr × Nat) := [(0, .aload_n 0, 1), (1, .getfield 31, 3), (4, .bipush 12, 2), (6, .if_icmp .ge 46, 3), (9, .aload_n 0, 1), (10, .getfield 11, 3), (13, .aload_n 0, 1), (14, .getfield 31, 3), (17, .iload_n 1, 1), (18, .iastore, 1), (19, .aload_n 0, 1), (20, .getfield 15, 3)]
theorem DX2_addLine_q0 : ∀ q ∈ TX2_addLine_q0, decode cX2_addLine q.1 = .ok q.2 := dec_wk _ 0 (by decide +kernel)
def TX2_addLine_q1 : List (Nat × Instr × Nat) := [(23, .aload_n 0, 1), (24, .getfield 31, 3), (27, .iload_n 2, 1), (28, .iastore, 1), (29, .aload_n 0, 1), (30, .getfield 18, 3), (33, .aload_n 0, 1), (34, .getfield 31, 3), (37, .aload_n 0, 1), (38, .getfield 35, 3), (41, .iastore, 1), (42, .aload_n 0, 1)]
theorem DX2_addLine_q1 : ∀ q ∈ TX2_addLine_q1, decode cX2_addLine q.1 = .ok q.2 := dec_wk _ 23 (by decide +kernel)
def TX2_addLine_q2 : List (Nat × Instr × Nat) := [(43, .dup, 1), (44, .getfield 31, 3), (47, .iconst 1, 1), (48, .iadd, 1), (49, .putfield 31, 3), (52, .return_, 1)]
theorem DX2_addLine_q2 : ∀ q ∈ TX2_addLine_q2, decode cX2_addLine q.1 = .ok q.2 := dec_wk _ 43 (by decide +kernel)
def TX2_addCode_q0 : List (Nat × Instr × Nat) := [(0, .aload_n 0, 1), (1, .getfield 35, 3), (4, .sipush 400, 3), (7, .if_icmp .ge 45, 3), (10, .aload_n 0, 1), (11, .getfield 31, 3), (14, .ifCond .le 38, 3), (17, .aload_n 0, 1), (18, .getfield 21, 3), (21, .aload_n 0, 1), (22, .getfield 35, 3), (25, .iload_n 1, 1)]
theorem DX2_addCode_q0 : ∀ q ∈ TX2_addCode_q0, decode cX2_addCode q.1 = .ok q.2 := dec_wk _ 0 (by decide +kernel)
def TX2_addCode_q1 : List (Nat × Instr × Nat) := [(26, .iastore, 1), (27, .aload_n 0, 1), (28, .dup, 1), (29, .getfield 35, 3), (32, .iconst 1, 1), (33, .iadd, 1), (34, .putfield 35, 3), (37, .aload_n 0, 1), (38, .getfield 18, 3), (41, .aload_n 0, 1), (42, .getfield 31, 3), (45, .iconst 1, 1)]
theorem DX2_addCode_q1 : ∀ q ∈ TX2_addCode_q1, decode cX2_addCode q.1 = .ok q.2 := dec_wk _ 26 (by decide +kernel)
def TX2_addCode_q2 : List (Nat × Instr × Nat) := [(46, .isub, 1), (47, .aload_n 0, 1), (48, .getfield 35, 3), (51, .iastore, 1), (52, .return_, 1)]
theorem DX2_addCode_q2 : ∀ q ∈ TX2_addCode_q2, decode cX2_addCode q.1 = .ok q.2 := dec_wk _ 46 (by decide +kernel)
def TX2_amount_q0 : List (Nat × Instr × Nat) := [(0, .aload_n 0, 1), (1, .getfield 27, 3), (4, .ifCond .ne 10, 3), (7, .iload_n 1, 1), (8, .aload_n 2, 1), (9, .iload_n 3, 1), (10, .invokestatic 44, 3), (13, .ireturn, 1), (14, .iconst 0, 1), (15, .istore 4, 2), (17, .iconst 0, 1), (18, .istore 5, 2)]
theorem DX2_amount_q0 : ∀ q ∈ TX2_amount_q0, decode cX2_amount q.1 = .ok q.2 := dec_wk _ 0 (by decide +kernel)
def TX2_amount_q1 : List (Nat × Instr × Nat) := [(20, .iload 5, 2), (22, .aload_n 0, 1), (23, .getfield 31, 3), (26, .if_icmp .ge 43, 3), (29, .aload_n 0, 1), (30, .getfield 11, 3), (33, .iload 5, 2), (35, .iaload, 1), (36, .iload_n 1, 1), (37, .if_icmp .ne 26, 3), (40, .aload_n 0, 1), (41, .iload 5, 2)]
theorem DX2_amount_q1 : ∀ q ∈ TX2_amount_q1, decode cX2_amount q.1 = .ok q.2 := dec_wk _ 20 (by decide +kernel)
def TX2_amount_q2 : List (Nat × Instr × Nat) := [(43, .aload_n 2, 1), (44, .iload_n 3, 1), (45, .invokevirtual 48, 3), (48, .ifCond .eq 15, 3), (51, .iload 4, 2), (53, .aload_n 0, 1), (54, .getfield 15, 3), (57, .iload 5, 2), (59, .iaload, 1), (60, .iadd, 1), (61, .istore 4, 2), (63, .iinc 5 1, 3)]
theorem DX2_amount_q2 : ∀ q ∈ TX2_amount_q2, decode cX2_amount q.1 = .ok q.2 := dec_wk _ 43 (by decide +kernel)
def TX2_amount_q3 : List (Nat × Instr × Nat) := [(66, .goto (-46), 3), (69, .iload 4, 2), (71, .ireturn, 1)]
theorem DX2_amount_q3 : ∀ q ∈ TX2_amount_q3, decode cX2_amount q.1 = .ok q.2 := dec_wk _ 66 (by decide +kernel)
def TX2_untoldAmount_q0 : List (Nat × Instr × Nat) := [(0, .iload_n 0, 1), (1, .ifCond .ne 21, 3), (4, .aload_n 1, 1), (5, .iload_n 2, 1), (6, .aload_n 1, 1), (7, .getfield 52, 3), (10, .invokevirtual 57, 3), (13, .ifCond .eq 7, 3), (16, .iconst 1, 1), (17, .goto 4, 3), (20, .iconst 0, 1), (21, .ireturn, 1)]
theorem DX2_untoldAmount_q0 : ∀ q ∈ TX2_untoldAmount_q0, decode cX2_untoldAmount q.1 = .ok q.2 := dec_wk _ 0 (by decide +kernel)
def TX2_untoldAmount_q1 : List (Nat × Instr × Nat) := [(22, .iload_n 0, 1), (23, .iconst 1, 1), (24, .if_icmp .ne 8, 3), (27, .bipush 10, 2), (29, .goto 4, 3), (32, .iconst 0, 1), (33, .ireturn, 1)]
theorem DX2_untoldAmount_q1 : ∀ q ∈ TX2_untoldAmount_q1, decode cX2_untoldAmount q.1 = .ok q.2 := dec_wk _ 22 (by decide +kernel)
def TX2_holds_q0 : List (Nat × Instr × Nat) := [(0, .aload_n 0, 1), (1, .iconst 0, 1), (2, .putfield 61, 3), (5, .iload_n 1, 1), (6, .ifCond .ne 7, 3), (9, .iconst 0, 1), (10, .goto 11, 3), (13, .aload_n 0, 1), (14, .getfield 18, 3), (17, .iload_n 1, 1), (18, .iconst 1, 1), (19, .isub, 1)]
theorem DX2_holds_q0 : ∀ q ∈ TX2_holds_q0, decode cX2_holds q.1 = .ok q.2 := dec_wk _ 0 (by decide +kernel)
def TX2_holds_q1 : List (Nat × Instr × Nat) := [(20, .iaload, 1), (21, .istore 4, 2), (23, .iload 4, 2), (25, .aload_n 0, 1), (26, .getfield 18, 3), (29, .iload_n 1, 1), (30, .iaload, 1), (31, .if_icmp .ge 81, 3), (34, .aload_n 0, 1), (35, .getfield 21, 3), (38, .iload 4, 2), (40, .iaload, 1)]
theorem DX2_holds_q1 : ∀ q ∈ TX2_holds_q1, decode cX2_holds q.1 = .ok q.2 := dec_wk _ 20 (by decide +kernel)
def TX2_holds_q2 : List (Nat × Instr × Nat) := [(41, .istore 5, 2), (43, .iload 5, 2), (45, .invokestatic 64, 3), (48, .ifCond .eq 17, 3), (51, .aload_n 0, 1), (52, .iload 5, 2), (54, .aload_n 2, 1), (55, .iload_n 3, 1), (56, .invokestatic 68, 3), (59, .invokevirtual 71, 3), (62, .goto 44, 3), (65, .iload 5, 2)]
theorem DX2_holds_q2 : ∀ q ∈ TX2_holds_q2, decode cX2_holds q.1 = .ok q.2 := dec_wk _ 41 (by decide +kernel)
def TX2_holds_q3 : List (Nat × Instr × Nat) := [(67, .bipush 11, 2), (69, .if_icmp .ne 16, 3), (72, .aload_n 0, 1), (73, .iconst 1, 1), (74, .aload_n 0, 1), (75, .invokevirtual 77, 3), (78, .isub, 1), (79, .invokevirtual 71, 3), (82, .goto 24, 3), (85, .aload_n 0, 1), (86, .invokevirtual 77, 3), (89, .istore 6, 2)]
theorem DX2_holds_q3 : ∀ q ∈ TX2_holds_q3, decode cX2_holds q.1 = .ok q.2 := dec_wk _ 67 (by decide +kernel)
def TX2_holds_q4 : List (Nat × Instr × Nat) := [(91, .aload_n 0, 1), (92, .iload 5, 2), (94, .aload_n 0, 1), (95, .invokevirtual 77, 3), (98, .iload 6, 2), (100, .invokestatic 81, 3), (103, .invokevirtual 71, 3), (106, .iinc 4 1, 3), (109, .goto (-86), 3), (112, .aload_n 0, 1), (113, .getfield 61, 3), (116, .ifCond .eq 10, 3)]
theorem DX2_holds_q4 : ∀ q ∈ TX2_holds_q4, decode cX2_holds q.1 = .ok q.2 := dec_wk _ 91 (by decide +kernel)
def TX2_holds_q5 : List (Nat × Instr × Nat) := [(119, .aload_n 0, 1), (120, .invokevirtual 77, 3), (123, .ifCond .eq 7, 3), (126, .iconst 1, 1)]
theorem DX2_holds_q5 : ∀ q ∈ TX2_holds_q5, decode cX2_holds q.1 = .ok q.2 := dec_wk _ 119 (by decide +kernel)
def TX2_holds_1_q0 : List (Nat × Instr × Nat) := [(127, .goto 4, 3), (130, .iconst 0, 1), (131, .ireturn, 1)]
theorem DX2_holds_1_q0 : ∀ q ∈ TX2_holds_1_q0, decode cX2_holds q.1 = .ok q.2 := dec_wk _ 127 (by decide +kernel)
def TX2_isValue_q0 : List (Nat × Instr × Nat) := [(0, .iload_n 0, 1), (1, .sipush 256, 3), (4, .if_icmp .ge 9, 3), (7, .iload_n 0, 1), (8, .bipush 10, 2), (10, .if_icmp .gt 7, 3), (13, .iconst 1, 1), (14, .goto 4, 3), (17, .iconst 0, 1), (18, .ireturn, 1)]
theorem DX2_isValue_q0 : ∀ q ∈ TX2_isValue_q0, decode cX2_isValue q.1 = .ok q.2 := dec_wk _ 0 (by decide +kernel)
def TX2_push_q0 : List (Nat × Instr × Nat) := [(0, .aload_n 0, 1), (1, .getfield 61, 3), (4, .bipush 24, 2), (6, .if_icmp .ge 23, 3), (9, .aload_n 0, 1), (10, .getfield 24, 3), (13, .aload_n 0, 1), (14, .getfield 61, 3), (17, .iload_n 1, 1), (18, .iastore, 1), (19, .aload_n 0, 1), (20, .dup, 1)]
theorem DX2_push_q0 : ∀ q ∈ TX2_push_q0, decode cX2_push q.1 = .ok q.2 := dec_wk _ 0 (by decide +kernel)
def TX2_push_q1 : List (Nat × Instr × Nat) := [(21, .getfield 61, 3), (24, .iconst 1, 1), (25, .iadd, 1), (26, .putfield 61, 3), (29, .return_, 1)]
theorem DX2_push_q1 : ∀ q ∈ TX2_push_q1, decode cX2_push q.1 = .ok q.2 := dec_wk _ 21 (by decide +kernel)
def TX2_pop_q0 : List (Nat × Instr × Nat) := [(0, .aload_n 0, 1), (1, .getfield 61, 3), (4, .ifCond .gt 5, 3), (7, .iconst 0, 1), (8, .ireturn, 1), (9, .aload_n 0, 1), (10, .dup, 1), (11, .getfield 61, 3), (14, .iconst 1, 1), (15, .isub, 1), (16, .putfield 61, 3), (19, .aload_n 0, 1)]
theorem DX2_pop_q0 : ∀ q ∈ TX2_pop_q0, decode cX2_pop q.1 = .ok q.2 := dec_wk _ 0 (by decide +kernel)
def TX2_pop_q1 : List (Nat × Instr × Nat) := [(20, .getfield 24, 3), (23, .aload_n 0, 1), (24, .getfield 61, 3), (27, .iaload, 1), (28, .ireturn, 1)]
theorem DX2_pop_q1 : ∀ q ∈ TX2_pop_q1, decode cX2_pop q.1 = .ok q.2 := dec_wk _ 20 (by decide +kernel)
def TX2_value_q0 : List (Nat × Instr × Nat) := [(0, .iload_n 0, 1)]
theorem DX2_value_q0 : ∀ q ∈ TX2_value_q0, decode cX2_value q.1 = .ok q.2 := dec_wk _ 0 (by decide +kernel)
def TX2_value_q1 : List (Nat × Instr × Nat) := [(1, .tableswitch 145 0 10 #[59, 61, 68, 76, 83, 90, 95, 100, 109, 118, 136], 59)]
theorem DX2_value_q1 : ∀ q ∈ TX2_value_q1, decode cX2_value q.1 = .ok q.2 := by decide +kernel
def TX2_value_q2 : List (Nat × Instr × Nat) := [(60, .iload_n 2, 1), (61, .ireturn, 1), (62, .aload_n 1, 1), (63, .getfield 85, 3), (66, .iload_n 2, 1), (67, .iaload, 1), (68, .ireturn, 1), (69, .aload_n 1, 1), (70, .iload_n 2, 1), (71, .bipush 99, 2), (73, .invokevirtual 88, 3), (76, .ireturn, 1)]
theorem DX2_value_q2 : ∀ q ∈ TX2_value_q2, decode cX2_value q.1 = .ok q.2 := dec_wk _ 60 (by decide +kernel)
def TX2_value_q3 : List (Nat × Instr × Nat) := [(77, .aload_n 1, 1), (78, .getfield 92, 3), (81, .iload_n 2, 1), (82, .iaload, 1), (83, .ireturn, 1), (84, .aload_n 1, 1), (85, .getfield 95, 3), (88, .iload_n 2, 1), (89, .iaload, 1), (90, .ireturn, 1), (91, .aload_n 1, 1), (92, .getfield 52, 3)]
theorem DX2_value_q3 : ∀ q ∈ TX2_value_q3, decode cX2_value q.1 = .ok q.2 := dec_wk _ 77 (by decide +kernel)
def TX2_value_q4 : List (Nat × Instr × Nat) := [(95, .ireturn, 1), (96, .aload_n 1, 1), (97, .getfield 98, 3), (100, .ireturn, 1), (101, .aload_n 1, 1), (102, .getfield 101, 3), (105, .iload_n 2, 1), (106, .invokestatic 104, 3), (109, .ireturn, 1), (110, .aload_n 1, 1), (111, .getfield 107, 3), (114, .iload_n 2, 1)]
theorem DX2_value_q4 : ∀ q ∈ TX2_value_q4, decode cX2_value q.1 = .ok q.2 := dec_wk _ 95 (by decide +kernel)
def TX2_value_q5 : List (Nat × Instr × Nat) := [(115, .invokestatic 104, 3), (118, .ireturn, 1), (119, .aload_n 1, 1), (120, .iload_n 2, 1), (121, .aload_n 1, 1), (122, .getfield 52, 3), (125, .invokevirtual 57, 3), (128, .ifCond .eq 7, 3), (131, .iconst 1, 1), (132, .goto 4, 3), (135, .iconst 0, 1), (136, .ireturn, 1)]
theorem DX2_value_q5 : ∀ q ∈ TX2_value_q5, decode cX2_value q.1 = .ok q.2 := dec_wk _ 115 (by decide +kernel)
def TX2_value_q6 : List (Nat × Instr × Nat) := [(137, .aload_n 1, 1), (138, .getfield 110, 3), (141, .iload_n 2, 1), (142, .invokestatic 104, 3), (145, .ireturn, 1), (146, .iload_n 0, 1), (147, .sipush 256, 3), (150, .isub, 1), (151, .ireturn, 1)]
theorem DX2_value_q6 : ∀ q ∈ TX2_value_q6, decode cX2_value q.1 = .ok q.2 := dec_wk _ 137 (by decide +kernel)
def TX2_joined_q0 : List (Nat × Instr × Nat) := [(0, .iload_n 0, 1)]
theorem DX2_joined_q0 : ∀ q ∈ TX2_joined_q0, decode cX2_joined q.1 = .ok q.2 := dec_wk _ 0 (by decide +kernel)
def TX2_joined_q1 : List (Nat × Instr × Nat) := [(1, .lookupswitch 73 #[(12, 69), (43, 43), (60, 47), (62, 58)], 43)]
theorem DX2_joined_q1 : ∀ q ∈ TX2_joined_q1, decode cX2_joined q.1 = .ok q.2 := by decide +kernel
def TX2_joined_q2 : List (Nat × Instr × Nat) := [(44, .iload_n 1, 1), (45, .iload_n 2, 1), (46, .iadd, 1), (47, .ireturn, 1), (48, .iload_n 1, 1), (49, .iload_n 2, 1), (50, .if_icmp .ge 7, 3), (53, .iconst 1, 1), (54, .goto 4, 3), (57, .iconst 0, 1), (58, .ireturn, 1), (59, .iload_n 1, 1)]
theorem DX2_joined_q2 : ∀ q ∈ TX2_joined_q2, decode cX2_joined q.1 = .ok q.2 := dec_wk _ 44 (by decide +kernel)
def TX2_joined_q3 : List (Nat × Instr × Nat) := [(60, .iload_n 2, 1), (61, .if_icmp .le 7, 3), (64, .iconst 1, 1), (65, .goto 4, 3), (68, .iconst 0, 1), (69, .ireturn, 1), (70, .iload_n 1, 1), (71, .iload_n 2, 1), (72, .iand, 1), (73, .ireturn, 1), (74, .iload_n 1, 1), (75, .iload_n 2, 1)]
theorem DX2_joined_q3 : ∀ q ∈ TX2_joined_q3, decode cX2_joined q.1 = .ok q.2 := dec_wk _ 60 (by decide +kernel)
def TX2_joined_q4 : List (Nat × Instr × Nat) := [(76, .ior, 1), (77, .ireturn, 1)]
theorem DX2_joined_q4 : ∀ q ∈ TX2_joined_q4, decode cX2_joined q.1 = .ok q.2 := dec_wk _ 76 (by decide +kernel)
def TX3_init_q0 : List (Nat × Instr × Nat) := [(0, .aload_n 0, 1), (1, .aload_n 1, 1), (2, .bipush 12, 2), (4, .invokespecial 5, 3), (7, .aload_n 0, 1), (8, .aload_n 2, 1), (9, .putfield 11, 3), (12, .return_, 1)]
theorem DX3_init_q0 : ∀ q ∈ TX3_init_q0, decode cX3_init q.1 = .ok q.2 := dec_wk _ 0 (by decide +kernel)
def TX3_readLine_q0 : List (Nat × Instr × Nat) := [(0, .aload_n 0, 1), (1, .getfield 17, 3), (4, .invokevirtual 21, 3), (7, .istore_n 1, 1), (8, .iload_n 1, 1), (9, .iconst 3, 1), (10, .if_icmp .eq 17, 3), (13, .iload_n 1, 1), (14, .bipush 15, 2), (16, .if_icmp .eq 11, 3), (19, .iload_n 1, 1), (20, .bipush 16, 2)]
theorem DX3_readLine_q0 : ∀ q ∈ TX3_readLine_q0, decode cX3_readLine q.1 = .ok q.2 := dec_wk _ 0 (by decide +kernel)
def TX3_readLine_q1 : List (Nat × Instr × Nat) := [(22, .if_icmp .eq 5, 3), (25, .iconst 0, 1), (26, .ireturn, 1), (27, .aload_n 0, 1), (28, .getfield 17, 3), (31, .invokevirtual 27, 3), (34, .aload_n 0, 1), (35, .getfield 17, 3), (38, .iconst 0, 1), (39, .bipush 100, 2), (41, .invokevirtual 31, 3), (44, .istore_n 2, 1)]
theorem DX3_readLine_q1 : ∀ q ∈ TX3_readLine_q1, decode cX3_readLine q.1 = .ok q.2 := dec_wk _ 22 (by decide +kernel)
def TX3_readLine_q2 : List (Nat × Instr × Nat) := [(45, .iload_n 2, 1), (46, .iconst (-1), 1), (47, .if_icmp .ne 5, 3), (50, .iconst 0, 1), (51, .ireturn, 1), (52, .aload_n 0, 1), (53, .getfield 11, 3), (56, .iload_n 1, 1), (57, .iconst 3, 1), (58, .if_icmp .ne 7, 3), (61, .iconst 0, 1), (62, .goto 14, 3)]
theorem DX3_readLine_q2 : ∀ q ∈ TX3_readLine_q2, decode cX3_readLine q.1 = .ok q.2 := dec_wk _ 45 (by decide +kernel)
def TX3_readLine_q3 : List (Nat × Instr × Nat) := [(65, .iload_n 1, 1), (66, .bipush 15, 2), (68, .if_icmp .ne 7, 3), (71, .iconst 1, 1), (72, .goto 4, 3), (75, .iconst 2, 1), (76, .iload_n 2, 1), (77, .invokevirtual 35, 3), (80, .aload_n 0, 1), (81, .getfield 17, 3), (84, .bipush 14, 2), (86, .invokevirtual 39, 3)]
theorem DX3_readLine_q3 : ∀ q ∈ TX3_readLine_q3, decode cX3_readLine q.1 = .ok q.2 := dec_wk _ 65 (by decide +kernel)
def TX3_readLine_q4 : List (Nat × Instr × Nat) := [(89, .ifCond .eq 11, 3), (92, .aload_n 0, 1), (93, .iconst 0, 1), (94, .invokevirtual 43, 3), (97, .ifCond .eq 7, 3), (100, .iconst 1, 1), (101, .goto 4, 3), (104, .iconst 0, 1), (105, .ireturn, 1)]
theorem DX3_readLine_q4 : ∀ q ∈ TX3_readLine_q4, decode cX3_readLine q.1 = .ok q.2 := dec_wk _ 89 (by decide +kernel)
def TX3_readCondition_q0 : List (Nat × Instr × Nat) := [(0, .iconst 0, 1), (1, .istore_n 2, 1), (2, .iconst 0, 1), (3, .istore_n 3, 1), (4, .iconst 0, 1), (5, .istore 4, 2), (7, .iload 4, 2), (9, .sipush 400, 3), (12, .if_icmp .ge 75, 3), (15, .aload_n 0, 1), (16, .iload_n 1, 1), (17, .invokevirtual 46, 3)]
theorem DX3_readCondition_q0 : ∀ q ∈ TX3_readCondition_q0, decode cX3_readCondition q.1 = .ok q.2 := dec_wk _ 0 (by decide +kernel)
def TX3_readCondition_q1 : List (Nat × Instr × Nat) := [(20, .ifCond .ne 5, 3), (23, .iconst 0, 1), (24, .ireturn, 1), (25, .iload_n 2, 1), (26, .ifCond .eq 12, 3), (29, .aload_n 0, 1), (30, .getfield 11, 3), (33, .bipush 12, 2), (35, .invokevirtual 49, 3), (38, .aload_n 0, 1), (39, .getfield 17, 3), (42, .bipush 12, 2)]
theorem DX3_readCondition_q1 : ∀ q ∈ TX3_readCondition_q1, decode cX3_readCondition q.1 = .ok q.2 := dec_wk _ 20 (by decide +kernel)
def TX3_readCondition_q2 : List (Nat × Instr × Nat) := [(44, .invokevirtual 39, 3), (47, .istore_n 2, 1), (48, .iload_n 2, 1), (49, .ifCond .ne 32, 3), (52, .iload_n 3, 1), (53, .ifCond .eq 12, 3), (56, .aload_n 0, 1), (57, .getfield 11, 3), (60, .bipush 13, 2), (62, .invokevirtual 49, 3), (65, .aload_n 0, 1), (66, .getfield 17, 3)]
theorem DX3_readCondition_q2 : ∀ q ∈ TX3_readCondition_q2, decode cX3_readCondition q.1 = .ok q.2 := dec_wk _ 44 (by decide +kernel)
def TX3_readCondition_q3 : List (Nat × Instr × Nat) := [(69, .bipush 13, 2), (71, .invokevirtual 39, 3), (74, .istore_n 3, 1), (75, .iload_n 3, 1), (76, .ifCond .ne 5, 3), (79, .iconst 1, 1), (80, .ireturn, 1), (81, .iinc 4 1, 3), (84, .goto (-77), 3), (87, .iconst 0, 1), (88, .ireturn, 1)]
theorem DX3_readCondition_q3 : ∀ q ∈ TX3_readCondition_q3, decode cX3_readCondition q.1 = .ok q.2 := dec_wk _ 69 (by decide +kernel)
def TX3_readAtom_q0 : List (Nat × Instr × Nat) := [(0, .aload_n 0, 1), (1, .getfield 17, 3), (4, .invokevirtual 21, 3), (7, .istore_n 2, 1), (8, .iload_n 2, 1), (9, .bipush 11, 2), (11, .if_icmp .eq 9, 3), (14, .iload_n 2, 1), (15, .bipush 40, 2), (17, .if_icmp .ne 11, 3), (20, .iload_n 1, 1), (21, .bipush 6, 2)]
theorem DX3_readAtom_q0 : ∀ q ∈ TX3_readAtom_q0, decode cX3_readAtom q.1 = .ok q.2 := dec_wk _ 0 (by decide +kernel)
def TX3_readAtom_q1 : List (Nat × Instr × Nat) := [(23, .if_icmp .lt 5, 3), (26, .iconst 0, 1), (27, .ireturn, 1), (28, .aload_n 0, 1), (29, .getfield 17, 3), (32, .bipush 11, 2), (34, .invokevirtual 39, 3), (37, .ifCond .eq 22, 3), (40, .aload_n 0, 1), (41, .iload_n 1, 1), (42, .iconst 1, 1), (43, .iadd, 1)]
theorem DX3_readAtom_q1 : ∀ q ∈ TX3_readAtom_q1, decode cX3_readAtom q.1 = .ok q.2 := dec_wk _ 23 (by decide +kernel)
def TX3_readAtom_q2 : List (Nat × Instr × Nat) := [(44, .invokevirtual 46, 3), (47, .istore_n 3, 1), (48, .aload_n 0, 1), (49, .getfield 11, 3), (52, .bipush 11, 2), (54, .invokevirtual 49, 3), (57, .iload_n 3, 1), (58, .ireturn, 1), (59, .aload_n 0, 1), (60, .getfield 17, 3), (63, .bipush 40, 2), (65, .invokevirtual 39, 3)]
theorem DX3_readAtom_q2 : ∀ q ∈ TX3_readAtom_q2, decode cX3_readAtom q.1 = .ok q.2 := dec_wk _ 44 (by decide +kernel)
def TX3_readAtom_q3 : List (Nat × Instr × Nat) := [(68, .ifCond .eq 31, 3), (71, .aload_n 0, 1), (72, .iload_n 1, 1), (73, .iconst 1, 1), (74, .iadd, 1), (75, .invokevirtual 43, 3), (78, .ifCond .eq 19, 3), (81, .aload_n 0, 1), (82, .getfield 17, 3), (85, .bipush 41, 2), (87, .invokevirtual 39, 3), (90, .ifCond .eq 7, 3)]
theorem DX3_readAtom_q3 : ∀ q ∈ TX3_readAtom_q3, decode cX3_readAtom q.1 = .ok q.2 := dec_wk _ 68 (by decide +kernel)
def TX3_readAtom_q4 : List (Nat × Instr × Nat) := [(93, .iconst 1, 1), (94, .goto 4, 3), (97, .iconst 0, 1), (98, .ireturn, 1), (99, .iload_n 2, 1), (100, .bipush 7, 2), (102, .if_icmp .lt 26, 3), (105, .iload_n 2, 1), (106, .bipush 10, 2), (108, .if_icmp .gt 20, 3), (111, .aload_n 0, 1), (112, .getfield 17, 3)]
theorem DX3_readAtom_q4 : ∀ q ∈ TX3_readAtom_q4, decode cX3_readAtom q.1 = .ok q.2 := dec_wk _ 93 (by decide +kernel)
def TX3_readAtom_q5 : List (Nat × Instr × Nat) := [(115, .invokevirtual 27, 3), (118, .aload_n 0, 1), (119, .getfield 11, 3), (122, .iload_n 2, 1)]
theorem DX3_readAtom_q5 : ∀ q ∈ TX3_readAtom_q5, decode cX3_readAtom q.1 = .ok q.2 := dec_wk _ 115 (by decide +kernel)
def TX3_readAtom_1_q0 : List (Nat × Instr × Nat) := [(123, .invokevirtual 49, 3), (126, .iconst 1, 1), (127, .ireturn, 1), (128, .aload_n 0, 1), (129, .invokevirtual 53, 3), (132, .ireturn, 1)]
theorem DX3_readAtom_1_q0 : ∀ q ∈ TX3_readAtom_1_q0, decode cX3_readAtom q.1 = .ok q.2 := dec_wk _ 123 (by decide +kernel)
def TX3_readComparison_q0 : List (Nat × Instr × Nat) := [(0, .aload_n 0, 1), (1, .invokevirtual 57, 3), (4, .ifCond .ne 5, 3), (7, .iconst 0, 1), (8, .ireturn, 1), (9, .aload_n 0, 1), (10, .getfield 17, 3), (13, .invokevirtual 21, 3), (16, .istore_n 1, 1), (17, .aload_n 0, 1), (18, .getfield 17, 3), (21, .bipush 60, 2)]
theorem DX3_readComparison_q0 : ∀ q ∈ TX3_readComparison_q0, decode cX3_readComparison q.1 = .ok q.2 := dec_wk _ 0 (by decide +kernel)
def TX3_readComparison_q1 : List (Nat × Instr × Nat) := [(23, .invokevirtual 39, 3), (26, .ifCond .ne 17, 3), (29, .aload_n 0, 1), (30, .getfield 17, 3), (33, .bipush 62, 2), (35, .invokevirtual 39, 3), (38, .ifCond .ne 5, 3), (41, .iconst 0, 1), (42, .ireturn, 1), (43, .aload_n 0, 1), (44, .invokevirtual 57, 3), (47, .istore_n 2, 1)]
theorem DX3_readComparison_q1 : ∀ q ∈ TX3_readComparison_q1, decode cX3_readComparison q.1 = .ok q.2 := dec_wk _ 23 (by decide +kernel)
def TX3_readComparison_q2 : List (Nat × Instr × Nat) := [(48, .aload_n 0, 1), (49, .getfield 11, 3), (52, .iload_n 1, 1), (53, .invokevirtual 49, 3), (56, .iload_n 2, 1), (57, .ireturn, 1)]
theorem DX3_readComparison_q2 : ∀ q ∈ TX3_readComparison_q2, decode cX3_readComparison q.1 = .ok q.2 := dec_wk _ 48 (by decide +kernel)
def TX3_readSum_q0 : List (Nat × Instr × Nat) := [(0, .iconst 0, 1), (1, .istore_n 1, 1), (2, .iconst 0, 1), (3, .istore_n 2, 1), (4, .iload_n 2, 1), (5, .sipush 400, 3), (8, .if_icmp .ge 108, 3), (11, .aload_n 0, 1), (12, .getfield 17, 3), (15, .invokevirtual 21, 3), (18, .istore_n 3, 1), (19, .iload_n 3, 1)]
theorem DX3_readSum_q0 : ∀ q ∈ TX3_readSum_q0, decode cX3_readSum q.1 = .ok q.2 := dec_wk _ 0 (by decide +kernel)
def TX3_readSum_q1 : List (Nat × Instr × Nat) := [(20, .ifCond .lt 27, 3), (23, .iload_n 3, 1), (24, .bipush 6, 2), (26, .if_icmp .gt 21, 3), (29, .aload_n 0, 1), (30, .getfield 17, 3), (33, .invokevirtual 27, 3), (36, .aload_n 0, 1), (37, .getfield 11, 3), (40, .iload_n 3, 1), (41, .invokevirtual 49, 3), (44, .goto 37, 3)]
theorem DX3_readSum_q1 : ∀ q ∈ TX3_readSum_q1, decode cX3_readSum q.1 = .ok q.2 := dec_wk _ 20 (by decide +kernel)
def TX3_readSum_q2 : List (Nat × Instr × Nat) := [(47, .aload_n 0, 1), (48, .getfield 17, 3), (51, .iconst 0, 1), (52, .sipush 999, 3), (55, .invokevirtual 31, 3), (58, .istore 4, 2), (60, .iload 4, 2), (62, .iconst (-1), 1), (63, .if_icmp .ne 5, 3), (66, .iconst 0, 1), (67, .ireturn, 1), (68, .aload_n 0, 1)]
theorem DX3_readSum_q2 : ∀ q ∈ TX3_readSum_q2, decode cX3_readSum q.1 = .ok q.2 := dec_wk _ 47 (by decide +kernel)
def TX3_readSum_q3 : List (Nat × Instr × Nat) := [(69, .getfield 11, 3), (72, .sipush 256, 3), (75, .iload 4, 2), (77, .iadd, 1), (78, .invokevirtual 49, 3), (81, .iload_n 1, 1), (82, .ifCond .eq 12, 3), (85, .aload_n 0, 1), (86, .getfield 11, 3), (89, .bipush 43, 2), (91, .invokevirtual 49, 3), (94, .aload_n 0, 1)]
theorem DX3_readSum_q3 : ∀ q ∈ TX3_readSum_q3, decode cX3_readSum q.1 = .ok q.2 := dec_wk _ 69 (by decide +kernel)
def TX3_readSum_q4 : List (Nat × Instr × Nat) := [(95, .getfield 17, 3), (98, .bipush 43, 2), (100, .invokevirtual 39, 3), (103, .istore_n 1, 1), (104, .iload_n 1, 1), (105, .ifCond .ne 5, 3), (108, .iconst 1, 1), (109, .ireturn, 1), (110, .iinc 2 1, 3), (113, .goto (-109), 3), (116, .iconst 0, 1), (117, .ireturn, 1)]
theorem DX3_readSum_q4 : ∀ q ∈ TX3_readSum_q4, decode cX3_readSum q.1 = .ok q.2 := dec_wk _ 95 (by decide +kernel)
def TX4_init_q0 : List (Nat × Instr × Nat) := [(0, .aload_n 0, 1), (1, .invokespecial 3, 3), (4, .aload_n 0, 1), (5, .aload_n 1, 1), (6, .putfield 9, 3), (9, .aload_n 0, 1), (10, .iload_n 2, 1), (11, .putfield 15, 3), (14, .return_, 1)]
theorem DX4_init_q0 : ∀ q ∈ TX4_init_q0, decode cX4_init q.1 = .ok q.2 := dec_wk _ 0 (by decide +kernel)
def TX4_read_q0 : List (Nat × Instr × Nat) := [(0, .aload_n 0, 1), (1, .getfield 9, 3), (4, .invokevirtual 19, 3), (7, .aload_n 0, 1), (8, .getfield 9, 3), (11, .invokevirtual 24, 3), (14, .iconst (-1), 1), (15, .if_icmp .ne 5, 3), (18, .iconst (-1), 1), (19, .ireturn, 1), (20, .iconst 0, 1), (21, .istore_n 1, 1)]
theorem DX4_read_q0 : ∀ q ∈ TX4_read_q0, decode cX4_read q.1 = .ok q.2 := dec_wk _ 0 (by decide +kernel)
def TX4_read_q1 : List (Nat × Instr × Nat) := [(22, .iload_n 1, 1), (23, .aload_n 0, 1), (24, .getfield 15, 3), (27, .if_icmp .ge 57, 3), (30, .aload_n 0, 1), (31, .invokevirtual 28, 3), (34, .ifCond .ne 11, 3), (37, .aload_n 0, 1), (38, .getfield 9, 3), (41, .invokevirtual 32, 3), (44, .ireturn, 1), (45, .aload_n 0, 1)]
theorem DX4_read_q1 : ∀ q ∈ TX4_read_q1, decode cX4_read q.1 = .ok q.2 := dec_wk _ 22 (by decide +kernel)
def TX4_read_q2 : List (Nat × Instr × Nat) := [(46, .getfield 9, 3), (49, .invokevirtual 24, 3), (52, .iconst (-1), 1), (53, .if_icmp .ne 5, 3), (56, .iconst (-1), 1), (57, .ireturn, 1), (58, .aload_n 0, 1), (59, .getfield 9, 3), (62, .bipush 59, 2), (64, .invokevirtual 35, 3), (67, .ifCond .ne 11, 3), (70, .aload_n 0, 1)]
theorem DX4_read_q2 : ∀ q ∈ TX4_read_q2, decode cX4_read q.1 = .ok q.2 := dec_wk _ 46 (by decide +kernel)
def TX4_read_q3 : List (Nat × Instr × Nat) := [(71, .getfield 9, 3), (74, .invokevirtual 32, 3), (77, .ireturn, 1), (78, .iinc 1 1, 3), (81, .goto (-59), 3), (84, .aload_n 0, 1), (85, .getfield 9, 3), (88, .invokevirtual 32, 3), (91, .ireturn, 1)]
theorem DX4_read_q3 : ∀ q ∈ TX4_read_q3, decode cX4_read q.1 = .ok q.2 := dec_wk _ 71 (by decide +kernel)
def TX5_init_q0 : List (Nat × Instr × Nat) := [(0, .aload_n 0, 1), (1, .invokespecial 3, 3), (4, .aload_n 0, 1), (5, .bipush 60, 2), (7, .newarray .int, 2), (9, .putfield 11, 3), (12, .return_, 1)]
theorem DX5_init_q0 : ∀ q ∈ TX5_init_q0, decode cX5_init q.1 = .ok q.2 := dec_wk _ 0 (by decide +kernel)
def TX5_copyFrom_q0 : List (Nat × Instr × Nat) := [(0, .aload_n 1, 1), (1, .getfield 11, 3), (4, .iconst 0, 1), (5, .aload_n 0, 1), (6, .getfield 11, 3), (9, .iconst 0, 1), (10, .bipush 60, 2), (12, .invokestatic 15, 3), (15, .aload_n 0, 1), (16, .aload_n 1, 1), (17, .getfield 21, 3), (20, .putfield 21, 3)]
theorem DX5_copyFrom_q0 : ∀ q ∈ TX5_copyFrom_q0, decode cX5_copyFrom q.1 = .ok q.2 := dec_wk _ 0 (by decide +kernel)
def TX5_copyFrom_q1 : List (Nat × Instr × Nat) := [(23, .aload_n 0, 1), (24, .aload_n 1, 1), (25, .getfield 25, 3), (28, .putfield 25, 3), (31, .return_, 1)]
theorem DX5_copyFrom_q1 : ∀ q ∈ TX5_copyFrom_q1, decode cX5_copyFrom q.1 = .ok q.2 := dec_wk _ 23 (by decide +kernel)
def TX5_add_q0 : List (Nat × Instr × Nat) := [(0, .aload_n 0, 1), (1, .getfield 11, 3), (4, .aload_n 0, 1), (5, .getfield 25, 3), (8, .aload_n 1, 1), (9, .getfield 28, 3), (12, .getstatic 33, 3), (15, .iconst 0, 1), (16, .iaload, 1), (17, .ishl, 1), (18, .aload_n 1, 1), (19, .getfield 36, 3)]
theorem DX5_add_q0 : ∀ q ∈ TX5_add_q0, decode cX5_add q.1 = .ok q.2 := dec_wk _ 0 (by decide +kernel)
def TX5_add_q1 : List (Nat × Instr × Nat) := [(22, .getstatic 33, 3), (25, .iconst 1, 1), (26, .iaload, 1), (27, .ishl, 1), (28, .ior, 1), (29, .iload_n 2, 1), (30, .getstatic 33, 3), (33, .iconst 2, 1), (34, .iaload, 1), (35, .ishl, 1), (36, .ior, 1), (37, .iload_n 3, 1)]
theorem DX5_add_q1 : ∀ q ∈ TX5_add_q1, decode cX5_add q.1 = .ok q.2 := dec_wk _ 22 (by decide +kernel)
def TX5_add_q2 : List (Nat × Instr × Nat) := [(38, .getstatic 33, 3), (41, .iconst 3, 1), (42, .iaload, 1), (43, .ishl, 1), (44, .ior, 1), (45, .iload 4, 2), (47, .getstatic 33, 3), (50, .iconst 4, 1), (51, .iaload, 1), (52, .ishl, 1), (53, .ior, 1), (54, .aload_n 1, 1)]
theorem DX5_add_q2 : ∀ q ∈ TX5_add_q2, decode cX5_add q.1 = .ok q.2 := dec_wk _ 38 (by decide +kernel)
def TX5_add_q3 : List (Nat × Instr × Nat) := [(55, .getfield 39, 3), (58, .iload_n 2, 1), (59, .iaload, 1), (60, .getstatic 33, 3), (63, .iconst 5, 1), (64, .iaload, 1), (65, .ishl, 1), (66, .ior, 1), (67, .iastore, 1), (68, .aload_n 0, 1), (69, .aload_n 0, 1), (70, .getfield 25, 3)]
theorem DX5_add_q3 : ∀ q ∈ TX5_add_q3, decode cX5_add q.1 = .ok q.2 := dec_wk _ 55 (by decide +kernel)
def TX5_add_q4 : List (Nat × Instr × Nat) := [(73, .iconst 1, 1), (74, .iadd, 1), (75, .bipush 60, 2), (77, .if_icmp .ge 12, 3), (80, .aload_n 0, 1), (81, .getfield 25, 3), (84, .iconst 1, 1), (85, .iadd, 1), (86, .goto 4, 3), (89, .iconst 0, 1), (90, .putfield 25, 3), (93, .aload_n 0, 1)]
theorem DX5_add_q4 : ∀ q ∈ TX5_add_q4, decode cX5_add q.1 = .ok q.2 := dec_wk _ 73 (by decide +kernel)
def TX5_add_q5 : List (Nat × Instr × Nat) := [(94, .bipush 60, 2), (96, .aload_n 0, 1), (97, .getfield 21, 3), (100, .iconst 1, 1)]
theorem DX5_add_q5 : ∀ q ∈ TX5_add_q5, decode cX5_add q.1 = .ok q.2 := dec_wk _ 94 (by decide +kernel)
def TX5_add_1_q0 : List (Nat × Instr × Nat) := [(101, .iadd, 1), (102, .invokestatic 42, 3), (105, .putfield 21, 3), (108, .return_, 1)]
theorem DX5_add_1_q0 : ∀ q ∈ TX5_add_1_q0, decode cX5_add q.1 = .ok q.2 := dec_wk _ 101 (by decide +kernel)
def TX5_read_q0 : List (Nat × Instr × Nat) := [(0, .iload_n 1, 1), (1, .ifCond .lt 21, 3), (4, .iload_n 1, 1), (5, .aload_n 0, 1), (6, .getfield 21, 3), (9, .if_icmp .ge 13, 3), (12, .iload_n 2, 1), (13, .ifCond .lt 9, 3), (16, .iload_n 2, 1), (17, .bipush 6, 2), (19, .if_icmp .lt 5, 3), (22, .iconst (-1), 1)]
theorem DX5_read_q0 : ∀ q ∈ TX5_read_q0, decode cX5_read q.1 = .ok q.2 := dec_wk _ 0 (by decide +kernel)
def TX5_read_q1 : List (Nat × Instr × Nat) := [(23, .ireturn, 1), (24, .aload_n 0, 1), (25, .getfield 11, 3), (28, .aload_n 0, 1), (29, .getfield 25, 3), (32, .iconst 1, 1), (33, .isub, 1), (34, .iload_n 1, 1), (35, .isub, 1), (36, .bipush 60, 2), (38, .invokestatic 48, 3), (41, .iaload, 1)]
theorem DX5_read_q1 : ∀ q ∈ TX5_read_q1, decode cX5_read q.1 = .ok q.2 := dec_wk _ 23 (by decide +kernel)
def TX5_read_q2 : List (Nat × Instr × Nat) := [(42, .istore_n 3, 1), (43, .iload_n 3, 1), (44, .getstatic 33, 3), (47, .iload_n 2, 1), (48, .iaload, 1), (49, .iushr, 1), (50, .getstatic 51, 3), (53, .iload_n 2, 1), (54, .iaload, 1), (55, .iand, 1), (56, .ireturn, 1)]
theorem DX5_read_q2 : ∀ q ∈ TX5_read_q2, decode cX5_read q.1 = .ok q.2 := dec_wk _ 42 (by decide +kernel)
def TX5_rowsOf_q0 : List (Nat × Instr × Nat) := [(0, .iconst 0, 1), (1, .istore_n 2, 1), (2, .iconst 0, 1), (3, .istore_n 3, 1), (4, .iload_n 3, 1), (5, .aload_n 0, 1), (6, .getfield 21, 3), (9, .if_icmp .ge 22, 3), (12, .aload_n 0, 1), (13, .iload_n 3, 1), (14, .iconst 2, 1), (15, .invokevirtual 54, 3)]
theorem DX5_rowsOf_q0 : ∀ q ∈ TX5_rowsOf_q0, decode cX5_rowsOf q.1 = .ok q.2 := dec_wk _ 0 (by decide +kernel)
def TX5_rowsOf_q1 : List (Nat × Instr × Nat) := [(18, .iload_n 1, 1), (19, .if_icmp .ne 6, 3), (22, .iinc 2 1, 3), (25, .iinc 3 1, 3), (28, .goto (-24), 3), (31, .iload_n 2, 1), (32, .ireturn, 1)]
theorem DX5_rowsOf_q1 : ∀ q ∈ TX5_rowsOf_q1, decode cX5_rowsOf q.1 = .ok q.2 := dec_wk _ 18 (by decide +kernel)
def TX5_latestPlace_q0 : List (Nat × Instr × Nat) := [(0, .iconst 0, 1), (1, .istore_n 2, 1), (2, .iload_n 2, 1), (3, .aload_n 0, 1), (4, .getfield 21, 3), (7, .if_icmp .ge 26, 3), (10, .aload_n 0, 1), (11, .iload_n 2, 1), (12, .iconst 2, 1), (13, .invokevirtual 54, 3), (16, .iload_n 1, 1), (17, .if_icmp .ne 10, 3)]
theorem DX5_latestPlace_q0 : ∀ q ∈ TX5_latestPlace_q0, decode cX5_latestPlace q.1 = .ok q.2 := dec_wk _ 0 (by decide +kernel)
def TX5_latestPlace_q1 : List (Nat × Instr × Nat) := [(20, .aload_n 0, 1), (21, .iload_n 2, 1), (22, .iconst 5, 1), (23, .invokevirtual 54, 3), (26, .ireturn, 1), (27, .iinc 2 1, 3), (30, .goto (-28), 3), (33, .iconst (-1), 1), (34, .ireturn, 1)]
theorem DX5_latestPlace_q1 : ∀ q ∈ TX5_latestPlace_q1, decode cX5_latestPlace q.1 = .ok q.2 := dec_wk _ 20 (by decide +kernel)
def TX6_hangsBy_q0 : List (Nat × Instr × Nat) := [(0, .aload_n 0, 1), (1, .getfield 9, 3), (4, .iload_n 1, 1), (5, .invokestatic 15, 3), (8, .iconst 1, 1), (9, .if_icmp .ne 5, 3), (12, .iload_n 1, 1), (13, .ireturn, 1), (14, .iconst (-1), 1), (15, .istore_n 2, 1), (16, .bipush 32, 2), (18, .istore_n 3, 1)]
theorem DX6_hangsBy_q0 : ∀ q ∈ TX6_hangsBy_q0, decode cX6_hangsBy q.1 = .ok q.2 := dec_wk _ 0 (by decide +kernel)
def TX6_hangsBy_q1 : List (Nat × Instr × Nat) := [(19, .iconst 0, 1), (20, .istore 4, 2), (22, .iload 4, 2), (24, .aload_n 0, 1), (25, .getfield 19, 3), (28, .if_icmp .ge 53, 3), (31, .aload_n 0, 1), (32, .getfield 22, 3), (35, .iload 4, 2), (37, .iaload, 1), (38, .aload_n 0, 1), (39, .getfield 22, 3)]
theorem DX6_hangsBy_q1 : ∀ q ∈ TX6_hangsBy_q1, decode cX6_hangsBy q.1 = .ok q.2 := dec_wk _ 19 (by decide +kernel)
def TX6_hangsBy_q2 : List (Nat × Instr × Nat) := [(42, .iload_n 1, 1), (43, .iaload, 1), (44, .isub, 1), (45, .invokestatic 26, 3), (48, .istore 5, 2), (50, .aload_n 0, 1), (51, .getfield 9, 3), (54, .iload 4, 2), (56, .invokestatic 15, 3), (59, .iconst 1, 1), (60, .if_icmp .ne 15, 3), (63, .iload 5, 2)]
theorem DX6_hangsBy_q2 : ∀ q ∈ TX6_hangsBy_q2, decode cX6_hangsBy q.1 = .ok q.2 := dec_wk _ 42 (by decide +kernel)
def TX6_hangsBy_q3 : List (Nat × Instr × Nat) := [(65, .iload_n 3, 1), (66, .if_icmp .ge 9, 3), (69, .iload 5, 2), (71, .istore_n 3, 1), (72, .iload 4, 2), (74, .istore_n 2, 1), (75, .iinc 4 1, 3), (78, .goto (-56), 3), (81, .iload_n 2, 1), (82, .ireturn, 1)]
theorem DX6_hangsBy_q3 : ∀ q ∈ TX6_hangsBy_q3, decode cX6_hangsBy q.1 = .ok q.2 := dec_wk _ 65 (by decide +kernel)
def TX6_share_q0 : List (Nat × Instr × Nat) := [(0, .aload_n 0, 1), (1, .invokevirtual 32, 3), (4, .istore_n 2, 1), (5, .iload_n 2, 1), (6, .ifCond .ne 7, 3), (9, .iconst 0, 1), (10, .goto 14, 3), (13, .bipush 100, 2), (15, .aload_n 0, 1), (16, .getfield 36, 3), (19, .iload_n 1, 1), (20, .iaload, 1)]
theorem DX6_share_q0 : ∀ q ∈ TX6_share_q0, decode cX6_share q.1 = .ok q.2 := dec_wk _ 0 (by decide +kernel)
def TX6_share_q1 : List (Nat × Instr × Nat) := [(21, .imul, 1), (22, .iload_n 2, 1), (23, .idiv, 1), (24, .ireturn, 1)]
theorem DX6_share_q1 : ∀ q ∈ TX6_share_q1, decode cX6_share q.1 = .ok q.2 := dec_wk _ 21 (by decide +kernel)
def TX6_outOfOrder_q0 : List (Nat × Instr × Nat) := [(0, .iconst 0, 1), (1, .istore_n 1, 1), (2, .iconst 0, 1), (3, .istore_n 2, 1), (4, .iload_n 2, 1), (5, .iconst 1, 1), (6, .aload_n 0, 1), (7, .getfield 19, 3), (10, .ishl, 1), (11, .if_icmp .ge 26, 3), (14, .aload_n 0, 1), (15, .iload_n 2, 1)]
theorem DX6_outOfOrder_q0 : ∀ q ∈ TX6_outOfOrder_q0, decode cX6_outOfOrder q.1 = .ok q.2 := dec_wk _ 0 (by decide +kernel)
def TX6_outOfOrder_q1 : List (Nat × Instr × Nat) := [(16, .invokestatic 39, 3), (19, .ifCond .eq 12, 3), (22, .iload_n 1, 1), (23, .iload_n 2, 1), (24, .invokestatic 45, 3), (27, .invokestatic 50, 3), (30, .istore_n 1, 1), (31, .iinc 2 1, 3), (34, .goto (-30), 3), (37, .aload_n 0, 1), (38, .getfield 19, 3), (41, .iload_n 1, 1)]
theorem DX6_outOfOrder_q1 : ∀ q ∈ TX6_outOfOrder_q1, decode cX6_outOfOrder q.1 = .ok q.2 := dec_wk _ 16 (by decide +kernel)
def TX6_outOfOrder_q2 : List (Nat × Instr × Nat) := [(42, .isub, 1), (43, .ireturn, 1)]
theorem DX6_outOfOrder_q2 : ∀ q ∈ TX6_outOfOrder_q2, decode cX6_outOfOrder q.1 = .ok q.2 := dec_wk _ 42 (by decide +kernel)
def TX6_isInOrder_q0 : List (Nat × Instr × Nat) := [(0, .iconst 0, 1), (1, .istore_n 2, 1), (2, .iconst 0, 1), (3, .istore_n 3, 1), (4, .iload_n 3, 1), (5, .aload_n 0, 1), (6, .getfield 19, 3), (9, .if_icmp .ge 37, 3), (12, .iload_n 1, 1), (13, .iload_n 3, 1), (14, .invokestatic 15, 3), (17, .iconst 1, 1)]
theorem DX6_isInOrder_q0 : ∀ q ∈ TX6_isInOrder_q0, decode cX6_isInOrder q.1 = .ok q.2 := dec_wk _ 0 (by decide +kernel)
def TX6_isInOrder_q1 : List (Nat × Instr × Nat) := [(18, .if_icmp .ne 22, 3), (21, .aload_n 0, 1), (22, .getfield 36, 3), (25, .iload_n 3, 1), (26, .iaload, 1), (27, .iload_n 2, 1), (28, .if_icmp .ge 5, 3), (31, .iconst 0, 1), (32, .ireturn, 1), (33, .aload_n 0, 1), (34, .getfield 36, 3), (37, .iload_n 3, 1)]
theorem DX6_isInOrder_q1 : ∀ q ∈ TX6_isInOrder_q1, decode cX6_isInOrder q.1 = .ok q.2 := dec_wk _ 18 (by decide +kernel)
def TX6_isInOrder_q2 : List (Nat × Instr × Nat) := [(38, .iaload, 1), (39, .istore_n 2, 1), (40, .iinc 3 1, 3), (43, .goto (-39), 3), (46, .iconst 1, 1), (47, .ireturn, 1)]
theorem DX6_isInOrder_q2 : ∀ q ∈ TX6_isInOrder_q2, decode cX6_isInOrder q.1 = .ok q.2 := dec_wk _ 38 (by decide +kernel)
def TX6_tightest_q0 : List (Nat × Instr × Nat) := [(0, .iconst (-1), 1), (1, .istore_n 2, 1), (2, .bipush 32, 2), (4, .istore_n 3, 1), (5, .iconst 0, 1), (6, .istore 4, 2), (8, .iload 4, 2), (10, .iload_n 1, 1), (11, .iadd, 1), (12, .aload_n 0, 1), (13, .getfield 19, 3), (16, .if_icmp .gt 42, 3)]
theorem DX6_tightest_q0 : ∀ q ∈ TX6_tightest_q0, decode cX6_tightest q.1 = .ok q.2 := dec_wk _ 0 (by decide +kernel)
def TX6_tightest_q1 : List (Nat × Instr × Nat) := [(19, .aload_n 0, 1), (20, .getfield 22, 3), (23, .iload 4, 2), (25, .iload_n 1, 1), (26, .iadd, 1), (27, .iconst 1, 1), (28, .isub, 1), (29, .iaload, 1), (30, .aload_n 0, 1), (31, .getfield 22, 3), (34, .iload 4, 2), (36, .iaload, 1)]
theorem DX6_tightest_q1 : ∀ q ∈ TX6_tightest_q1, decode cX6_tightest q.1 = .ok q.2 := dec_wk _ 19 (by decide +kernel)
def TX6_tightest_q2 : List (Nat × Instr × Nat) := [(37, .isub, 1), (38, .istore 5, 2), (40, .iload 5, 2), (42, .iload_n 3, 1), (43, .if_icmp .ge 9, 3), (46, .iload 5, 2), (48, .istore_n 3, 1), (49, .iload 4, 2), (51, .istore_n 2, 1), (52, .iinc 4 1, 3), (55, .goto (-47), 3), (58, .iload_n 2, 1)]
theorem DX6_tightest_q2 : ∀ q ∈ TX6_tightest_q2, decode cX6_tightest q.1 = .ok q.2 := dec_wk _ 37 (by decide +kernel)
def TX6_tightest_q3 : List (Nat × Instr × Nat) := [(59, .ireturn, 1)]
theorem DX6_tightest_q3 : ∀ q ∈ TX6_tightest_q3, decode cX6_tightest q.1 = .ok q.2 := dec_wk _ 59 (by decide +kernel)
def TX6_spareCloth_q0 : List (Nat × Instr × Nat) := [(0, .iconst 0, 1), (1, .istore_n 1, 1), (2, .iconst 0, 1), (3, .istore_n 2, 1), (4, .iload_n 2, 1), (5, .iconst 1, 1), (6, .iadd, 1), (7, .aload_n 0, 1), (8, .getfield 19, 3), (11, .if_icmp .ge 25, 3), (14, .iload_n 1, 1), (15, .aload_n 0, 1)]
theorem DX6_spareCloth_q0 : ∀ q ∈ TX6_spareCloth_q0, decode cX6_spareCloth q.1 = .ok q.2 := dec_wk _ 0 (by decide +kernel)
def TX6_spareCloth_q1 : List (Nat × Instr × Nat) := [(16, .getfield 53, 3), (19, .iload_n 2, 1), (20, .iaload, 1), (21, .aload_n 0, 1), (22, .iload_n 2, 1), (23, .iconst 0, 1), (24, .invokevirtual 56, 3), (27, .isub, 1), (28, .iadd, 1), (29, .istore_n 1, 1), (30, .iinc 2 1, 3), (33, .goto (-29), 3)]
theorem DX6_spareCloth_q1 : ∀ q ∈ TX6_spareCloth_q1, decode cX6_spareCloth q.1 = .ok q.2 := dec_wk _ 16 (by decide +kernel)
def TX6_spareCloth_q2 : List (Nat × Instr × Nat) := [(36, .iload_n 1, 1), (37, .ireturn, 1)]
theorem DX6_spareCloth_q2 : ∀ q ∈ TX6_spareCloth_q2, decode cX6_spareCloth q.1 = .ok q.2 := dec_wk _ 36 (by decide +kernel)
def TX6_tautRings_q0 : List (Nat × Instr × Nat) := [(0, .iconst 0, 1), (1, .istore_n 1, 1), (2, .iconst 0, 1), (3, .istore_n 2, 1), (4, .iload_n 2, 1), (5, .iconst 1, 1), (6, .iadd, 1), (7, .aload_n 0, 1), (8, .getfield 19, 3), (11, .if_icmp .ge 35, 3), (14, .iload_n 1, 1), (15, .iload_n 2, 1)]
theorem DX6_tautRings_q0 : ∀ q ∈ TX6_tautRings_q0, decode cX6_tautRings q.1 = .ok q.2 := dec_wk _ 0 (by decide +kernel)
def TX6_tautRings_q1 : List (Nat × Instr × Nat) := [(16, .aload_n 0, 1), (17, .iload_n 2, 1), (18, .iconst 0, 1), (19, .invokevirtual 56, 3), (22, .aload_n 0, 1), (23, .getfield 53, 3), (26, .iload_n 2, 1), (27, .iaload, 1), (28, .if_icmp .ne 7, 3), (31, .iconst 1, 1), (32, .goto 4, 3), (35, .iconst 0, 1)]
theorem DX6_tautRings_q1 : ∀ q ∈ TX6_tautRings_q1, decode cX6_tautRings q.1 = .ok q.2 := dec_wk _ 16 (by decide +kernel)
def TX6_tautRings_q2 : List (Nat × Instr × Nat) := [(36, .invokestatic 59, 3), (39, .istore_n 1, 1), (40, .iinc 2 1, 3), (43, .goto (-39), 3), (46, .iload_n 1, 1), (47, .ireturn, 1)]
theorem DX6_tautRings_q2 : ∀ q ∈ TX6_tautRings_q2, decode cX6_tautRings q.1 = .ok q.2 := dec_wk _ 36 (by decide +kernel)
def TX6_litRings_q0 : List (Nat × Instr × Nat) := [(0, .iconst 0, 1), (1, .istore_n 2, 1), (2, .iconst 0, 1), (3, .istore_n 3, 1), (4, .iload_n 3, 1), (5, .aload_n 0, 1), (6, .getfield 19, 3), (9, .if_icmp .ge 21, 3), (12, .iload_n 2, 1), (13, .iload_n 3, 1), (14, .aload_n 0, 1), (15, .iload_n 3, 1)]
theorem DX6_litRings_q0 : ∀ q ∈ TX6_litRings_q0, decode cX6_litRings q.1 = .ok q.2 := dec_wk _ 0 (by decide +kernel)
def TX6_litRings_q1 : List (Nat × Instr × Nat) := [(16, .iload_n 1, 1), (17, .invokevirtual 63, 3), (20, .invokestatic 59, 3), (23, .istore_n 2, 1), (24, .iinc 3 1, 3), (27, .goto (-23), 3), (30, .iload_n 2, 1), (31, .ireturn, 1)]
theorem DX6_litRings_q1 : ∀ q ∈ TX6_litRings_q1, decode cX6_litRings q.1 = .ok q.2 := dec_wk _ 16 (by decide +kernel)
def TX6_sunniest_q0 : List (Nat × Instr × Nat) := [(0, .iconst (-1), 1), (1, .istore_n 1, 1), (2, .iconst (-1), 1), (3, .istore_n 2, 1), (4, .iconst 0, 1), (5, .istore_n 3, 1), (6, .iload_n 3, 1), (7, .aload_n 0, 1), (8, .getfield 19, 3), (11, .if_icmp .ge 27, 3), (14, .aload_n 0, 1), (15, .iload_n 3, 1)]
theorem DX6_sunniest_q0 : ∀ q ∈ TX6_sunniest_q0, decode cX6_sunniest q.1 = .ok q.2 := dec_wk _ 0 (by decide +kernel)
def TX6_sunniest_q1 : List (Nat × Instr × Nat) := [(16, .invokestatic 67, 3), (19, .istore 4, 2), (21, .iload 4, 2), (23, .iload_n 2, 1), (24, .if_icmp .le 8, 3), (27, .iload 4, 2), (29, .istore_n 2, 1), (30, .iload_n 3, 1), (31, .istore_n 1, 1), (32, .iinc 3 1, 3), (35, .goto (-29), 3), (38, .iload_n 1, 1)]
theorem DX6_sunniest_q1 : ∀ q ∈ TX6_sunniest_q1, decode cX6_sunniest q.1 = .ok q.2 := dec_wk _ 16 (by decide +kernel)
def TX6_sunniest_q2 : List (Nat × Instr × Nat) := [(39, .ireturn, 1)]
theorem DX6_sunniest_q2 : ∀ q ∈ TX6_sunniest_q2, decode cX6_sunniest q.1 = .ok q.2 := dec_wk _ 39 (by decide +kernel)
def TX6_litHours_q0 : List (Nat × Instr × Nat) := [(0, .iconst 0, 1), (1, .istore_n 2, 1), (2, .iconst 0, 1), (3, .istore_n 3, 1), (4, .iload_n 3, 1), (5, .bipush 8, 2), (7, .if_icmp .ge 21, 3), (10, .aload_n 0, 1), (11, .iload_n 1, 1), (12, .iload_n 3, 1), (13, .invokevirtual 63, 3), (16, .ifCond .eq 6, 3)]
theorem DX6_litHours_q0 : ∀ q ∈ TX6_litHours_q0, decode cX6_litHours q.1 = .ok q.2 := dec_wk _ 0 (by decide +kernel)
def TX6_litHours_q1 : List (Nat × Instr × Nat) := [(19, .iinc 2 1, 3), (22, .iinc 3 1, 3), (25, .goto (-21), 3), (28, .iload_n 2, 1), (29, .ireturn, 1)]
theorem DX6_litHours_q1 : ∀ q ∈ TX6_litHours_q1, decode cX6_litHours q.1 = .ok q.2 := dec_wk _ 19 (by decide +kernel)
def TX6_evenLength_q0 : List (Nat × Instr × Nat) := [(0, .aload_n 0, 1), (1, .getfield 19, 3), (4, .ifCond .ne 5, 3), (7, .iconst (-1), 1), (8, .ireturn, 1), (9, .iconst 0, 1), (10, .istore_n 3, 1), (11, .iconst 0, 1), (12, .istore 4, 2), (14, .iload 4, 2), (16, .aload_n 0, 1), (17, .getfield 19, 3)]
theorem DX6_evenLength_q0 : ∀ q ∈ TX6_evenLength_q0, decode cX6_evenLength q.1 = .ok q.2 := dec_wk _ 0 (by decide +kernel)
def TX6_evenLength_q1 : List (Nat × Instr × Nat) := [(20, .if_icmp .ge 19, 3), (23, .iload_n 3, 1), (24, .aload_n 0, 1), (25, .getfield 71, 3), (28, .iload 4, 2), (30, .iaload, 1), (31, .iadd, 1), (32, .istore_n 3, 1), (33, .iinc 4 1, 3), (36, .goto (-22), 3), (39, .iload_n 3, 1), (40, .aload_n 0, 1)]
theorem DX6_evenLength_q1 : ∀ q ∈ TX6_evenLength_q1, decode cX6_evenLength q.1 = .ok q.2 := dec_wk _ 20 (by decide +kernel)
def TX6_evenLength_q2 : List (Nat × Instr × Nat) := [(41, .getfield 19, 3), (44, .idiv, 1), (45, .istore 4, 2), (47, .iload_n 3, 1), (48, .aload_n 0, 1), (49, .getfield 19, 3), (52, .irem, 1), (53, .istore 5, 2), (55, .iload 4, 2), (57, .iload 5, 2), (59, .ifCond .le 7, 3), (62, .iconst 1, 1)]
theorem DX6_evenLength_q2 : ∀ q ∈ TX6_evenLength_q2, decode cX6_evenLength q.1 = .ok q.2 := dec_wk _ 41 (by decide +kernel)
def TX6_evenLength_q3 : List (Nat × Instr × Nat) := [(63, .goto 4, 3), (66, .iconst 0, 1), (67, .iadd, 1), (68, .iload_n 2, 1), (69, .if_icmp .le 5, 3), (72, .iconst (-1), 1), (73, .ireturn, 1), (74, .iload_n 1, 1), (75, .iload 5, 2), (77, .if_icmp .ge 10, 3), (80, .iload 4, 2), (82, .iconst 1, 1)]
theorem DX6_evenLength_q3 : ∀ q ∈ TX6_evenLength_q3, decode cX6_evenLength q.1 = .ok q.2 := dec_wk _ 63 (by decide +kernel)
def TX6_evenLength_q4 : List (Nat × Instr × Nat) := [(83, .iadd, 1), (84, .goto 5, 3), (87, .iload 4, 2), (89, .ireturn, 1)]
theorem DX6_evenLength_q4 : ∀ q ∈ TX6_evenLength_q4, decode cX6_evenLength q.1 = .ok q.2 := dec_wk _ 83 (by decide +kernel)
def TX6_enviousPairs_q0 : List (Nat × Instr × Nat) := [(0, .iconst 0, 1), (1, .istore_n 1, 1), (2, .iconst 0, 1), (3, .istore_n 2, 1), (4, .iload_n 2, 1), (5, .iconst 1, 1), (6, .iadd, 1), (7, .aload_n 0, 1), (8, .getfield 19, 3), (11, .if_icmp .ge 34, 3), (14, .aload_n 0, 1), (15, .getfield 71, 3)]
theorem DX6_enviousPairs_q0 : ∀ q ∈ TX6_enviousPairs_q0, decode cX6_enviousPairs q.1 = .ok q.2 := dec_wk _ 0 (by decide +kernel)
def TX6_enviousPairs_q1 : List (Nat × Instr × Nat) := [(18, .iload_n 2, 1), (19, .iaload, 1), (20, .aload_n 0, 1), (21, .getfield 71, 3), (24, .iload_n 2, 1), (25, .iconst 1, 1), (26, .iadd, 1), (27, .iaload, 1), (28, .isub, 1), (29, .invokestatic 26, 3), (32, .iconst 2, 1), (33, .if_icmp .lt 6, 3)]
theorem DX6_enviousPairs_q1 : ∀ q ∈ TX6_enviousPairs_q1, decode cX6_enviousPairs q.1 = .ok q.2 := dec_wk _ 18 (by decide +kernel)
def TX6_enviousPairs_q2 : List (Nat × Instr × Nat) := [(36, .iinc 1 1, 3), (39, .iinc 2 1, 3), (42, .goto (-38), 3), (45, .iload_n 1, 1), (46, .ireturn, 1)]
theorem DX6_enviousPairs_q2 : ∀ q ∈ TX6_enviousPairs_q2, decode cX6_enviousPairs q.1 = .ok q.2 := dec_wk _ 36 (by decide +kernel)
def TX6_restingChoices_q0 : List (Nat × Instr × Nat) := [(0, .iload_n 1, 1), (1, .aload_n 0, 1), (2, .getfield 19, 3), (5, .iconst 1, 1), (6, .isub, 1), (7, .if_icmp .lt 5, 3), (10, .iconst (-1), 1), (11, .ireturn, 1), (12, .iconst 0, 1), (13, .istore_n 2, 1), (14, .iconst 0, 1), (15, .istore_n 3, 1)]
theorem DX6_restingChoices_q0 : ∀ q ∈ TX6_restingChoices_q0, decode cX6_restingChoices q.1 = .ok q.2 := dec_wk _ 0 (by decide +kernel)
def TX6_restingChoices_q1 : List (Nat × Instr × Nat) := [(16, .iload_n 3, 1), (17, .iconst 4, 1), (18, .if_icmp .ge 54, 3), (21, .aload_n 0, 1), (22, .iload_n 1, 1), (23, .iload_n 3, 1), (24, .invokestatic 74, 3), (27, .istore 4, 2), (29, .iload_n 2, 1), (30, .iload_n 3, 1), (31, .iload 4, 2), (33, .aload_n 0, 1)]
theorem DX6_restingChoices_q1 : ∀ q ∈ TX6_restingChoices_q1, decode cX6_restingChoices q.1 = .ok q.2 := dec_wk _ 16 (by decide +kernel)
def TX6_restingChoices_q2 : List (Nat × Instr × Nat) := [(34, .iload_n 1, 1), (35, .iload_n 3, 1), (36, .iconst 2, 1), (37, .ixor, 1), (38, .invokestatic 74, 3), (41, .if_icmp .lt 20, 3), (44, .iload 4, 2), (46, .aload_n 0, 1), (47, .iload_n 1, 1), (48, .iload_n 3, 1), (49, .iconst 1, 1), (50, .ixor, 1)]
theorem DX6_restingChoices_q2 : ∀ q ∈ TX6_restingChoices_q2, decode cX6_restingChoices q.1 = .ok q.2 := dec_wk _ 34 (by decide +kernel)
def TX6_restingChoices_q3 : List (Nat × Instr × Nat) := [(51, .invokestatic 74, 3), (54, .if_icmp .lt 7, 3), (57, .iconst 1, 1), (58, .goto 4, 3), (61, .iconst 0, 1), (62, .invokestatic 59, 3), (65, .istore_n 2, 1), (66, .iinc 3 1, 3), (69, .goto (-53), 3), (72, .iload_n 2, 1), (73, .ireturn, 1)]
theorem DX6_restingChoices_q3 : ∀ q ∈ TX6_restingChoices_q3, decode cX6_restingChoices q.1 = .ok q.2 := dec_wk _ 51 (by decide +kernel)
def TX6_gain_q0 : List (Nat × Instr × Nat) := [(0, .iload_n 2, 1)]
theorem DX6_gain_q0 : ∀ q ∈ TX6_gain_q0, decode cX6_gain q.1 = .ok q.2 := dec_wk _ 0 (by decide +kernel)
def TX6_gain_q1 : List (Nat × Instr × Nat) := [(1, .lookupswitch 55 #[(1, 27), (2, 46)], 27)]
theorem DX6_gain_q1 : ∀ q ∈ TX6_gain_q1, decode cX6_gain q.1 = .ok q.2 := by decide +kernel
def TX6_gain_q2 : List (Nat × Instr × Nat) := [(28, .aload_n 0, 1), (29, .getfield 78, 3), (32, .iload_n 1, 1), (33, .invokestatic 15, 3), (36, .iconst 1, 1), (37, .if_icmp .ne 8, 3), (40, .bipush (-2), 2), (42, .goto 4, 3), (45, .iconst 1, 1), (46, .ireturn, 1), (47, .aload_n 0, 1), (48, .iload_n 1, 1)]
theorem DX6_gain_q2 : ∀ q ∈ TX6_gain_q2, decode cX6_gain q.1 = .ok q.2 := dec_wk _ 28 (by decide +kernel)
def TX6_gain_q3 : List (Nat × Instr × Nat) := [(49, .iconst 0, 1), (50, .invokevirtual 56, 3), (53, .iconst 1, 1), (54, .isub, 1), (55, .ireturn, 1), (56, .iconst 2, 1), (57, .ireturn, 1)]
theorem DX6_gain_q3 : ∀ q ∈ TX6_gain_q3, decode cX6_gain q.1 = .ok q.2 := dec_wk _ 49 (by decide +kernel)
def TX6_largestBunch_q0 : List (Nat × Instr × Nat) := [(0, .iconst 0, 1), (1, .istore_n 1, 1), (2, .iconst 0, 1), (3, .istore_n 2, 1), (4, .iconst 0, 1), (5, .istore_n 3, 1), (6, .iload_n 3, 1), (7, .aload_n 0, 1), (8, .getfield 19, 3), (11, .if_icmp .ge 35, 3), (14, .aload_n 0, 1), (15, .iload_n 3, 1)]
theorem DX6_largestBunch_q0 : ∀ q ∈ TX6_largestBunch_q0, decode cX6_largestBunch q.1 = .ok q.2 := dec_wk _ 0 (by decide +kernel)
def TX6_largestBunch_q1 : List (Nat × Instr × Nat) := [(16, .iconst 1, 1), (17, .isub, 1), (18, .iconst (-1), 1), (19, .invokevirtual 56, 3), (22, .iconst 1, 1), (23, .if_icmp .ne 9, 3), (26, .iload_n 2, 1), (27, .iconst 1, 1), (28, .iadd, 1), (29, .goto 4, 3), (32, .iconst 1, 1), (33, .istore_n 2, 1)]
theorem DX6_largestBunch_q1 : ∀ q ∈ TX6_largestBunch_q1, decode cX6_largestBunch q.1 = .ok q.2 := dec_wk _ 16 (by decide +kernel)
def TX6_largestBunch_q2 : List (Nat × Instr × Nat) := [(34, .iload_n 1, 1), (35, .iload_n 2, 1), (36, .invokestatic 50, 3), (39, .istore_n 1, 1), (40, .iinc 3 1, 3), (43, .goto (-37), 3), (46, .iload_n 1, 1), (47, .ireturn, 1)]
theorem DX6_largestBunch_q2 : ∀ q ∈ TX6_largestBunch_q2, decode cX6_largestBunch q.1 = .ok q.2 := dec_wk _ 34 (by decide +kernel)
def TX6_thickBeyondJoin_q0 : List (Nat × Instr × Nat) := [(0, .iconst 0, 1), (1, .istore_n 1, 1), (2, .iconst 0, 1), (3, .istore_n 2, 1), (4, .iload_n 2, 1), (5, .aload_n 0, 1), (6, .getfield 19, 3), (9, .if_icmp .ge 45, 3), (12, .iload_n 1, 1), (13, .iload_n 2, 1), (14, .aload_n 0, 1), (15, .getfield 81, 3)]
theorem DX6_thickBeyondJoin_q0 : ∀ q ∈ TX6_thickBeyondJoin_q0, decode cX6_thickBeyondJoin q.1 = .ok q.2 := dec_wk _ 0 (by decide +kernel)
def TX6_thickBeyondJoin_q1 : List (Nat × Instr × Nat) := [(18, .iload_n 2, 1), (19, .invokestatic 15, 3), (22, .iconst 1, 1), (23, .if_icmp .ne 20, 3), (26, .aload_n 0, 1), (27, .getfield 22, 3), (30, .iload_n 2, 1), (31, .iaload, 1), (32, .aload_n 0, 1), (33, .getfield 84, 3), (36, .if_icmp .lt 7, 3), (39, .iconst 1, 1)]
theorem DX6_thickBeyondJoin_q1 : ∀ q ∈ TX6_thickBeyondJoin_q1, decode cX6_thickBeyondJoin q.1 = .ok q.2 := dec_wk _ 18 (by decide +kernel)
def TX6_thickBeyondJoin_q2 : List (Nat × Instr × Nat) := [(40, .goto 4, 3), (43, .iconst 0, 1), (44, .invokestatic 59, 3), (47, .istore_n 1, 1), (48, .iinc 2 1, 3), (51, .goto (-47), 3), (54, .iload_n 1, 1), (55, .ireturn, 1)]
theorem DX6_thickBeyondJoin_q2 : ∀ q ∈ TX6_thickBeyondJoin_q2, decode cX6_thickBeyondJoin q.1 = .ok q.2 := dec_wk _ 40 (by decide +kernel)
def TX6_likePairs_q0 : List (Nat × Instr × Nat) := [(0, .iconst 0, 1), (1, .istore_n 1, 1), (2, .iconst 0, 1), (3, .istore_n 2, 1), (4, .iload_n 2, 1), (5, .aload_n 0, 1), (6, .getfield 19, 3), (9, .if_icmp .ge 75, 3), (12, .iload_n 2, 1), (13, .iconst 1, 1), (14, .iadd, 1), (15, .istore_n 3, 1)]
theorem DX6_likePairs_q0 : ∀ q ∈ TX6_likePairs_q0, decode cX6_likePairs q.1 = .ok q.2 := dec_wk _ 0 (by decide +kernel)
def TX6_likePairs_q1 : List (Nat × Instr × Nat) := [(16, .iload_n 3, 1), (17, .aload_n 0, 1), (18, .getfield 19, 3), (21, .if_icmp .ge 57, 3), (24, .aload_n 0, 1), (25, .getfield 53, 3), (28, .iload_n 2, 1), (29, .iaload, 1), (30, .aload_n 0, 1), (31, .getfield 53, 3), (34, .iload_n 3, 1), (35, .iaload, 1)]
theorem DX6_likePairs_q1 : ∀ q ∈ TX6_likePairs_q1, decode cX6_likePairs q.1 = .ok q.2 := dec_wk _ 16 (by decide +kernel)
def TX6_likePairs_q2 : List (Nat × Instr × Nat) := [(36, .if_icmp .ne 36, 3), (39, .aload_n 0, 1), (40, .getfield 71, 3), (43, .iload_n 2, 1), (44, .iaload, 1), (45, .aload_n 0, 1), (46, .getfield 71, 3), (49, .iload_n 3, 1), (50, .iaload, 1), (51, .if_icmp .ne 21, 3), (54, .aload_n 0, 1), (55, .getfield 36, 3)]
theorem DX6_likePairs_q2 : ∀ q ∈ TX6_likePairs_q2, decode cX6_likePairs q.1 = .ok q.2 := dec_wk _ 36 (by decide +kernel)
def TX6_likePairs_q3 : List (Nat × Instr × Nat) := [(58, .iload_n 2, 1), (59, .iaload, 1), (60, .aload_n 0, 1), (61, .getfield 36, 3), (64, .iload_n 3, 1), (65, .iaload, 1), (66, .if_icmp .ne 6, 3), (69, .iinc 1 1, 3), (72, .iinc 3 1, 3), (75, .goto (-59), 3), (78, .iinc 2 1, 3), (81, .goto (-77), 3)]
theorem DX6_likePairs_q3 : ∀ q ∈ TX6_likePairs_q3, decode cX6_likePairs q.1 = .ok q.2 := dec_wk _ 58 (by decide +kernel)
def TX6_likePairs_q4 : List (Nat × Instr × Nat) := [(84, .iload_n 1, 1), (85, .ireturn, 1)]
theorem DX6_likePairs_q4 : ∀ q ∈ TX6_likePairs_q4, decode cX6_likePairs q.1 = .ok q.2 := dec_wk _ 84 (by decide +kernel)
def TX7_init_q0 : List (Nat × Instr × Nat) := [(0, .aload_n 0, 1), (1, .invokespecial 3, 3), (4, .aload_n 0, 1), (5, .sipush 128, 3), (8, .newarray .int, 2), (10, .putfield 11, 3), (13, .aload_n 0, 1), (14, .bipush 32, 2), (16, .newarray .int, 2), (18, .putfield 15, 3), (21, .aload_n 0, 1), (22, .aload_n 1, 1)]
theorem DX7_init_q0 : ∀ q ∈ TX7_init_q0, decode cX7_init q.1 = .ok q.2 := dec_wk _ 0 (by decide +kernel)
def TX7_init_q1 : List (Nat × Instr × Nat) := [(23, .putfield 18, 3), (26, .aload_n 0, 1), (27, .aload_n 2, 1), (28, .putfield 22, 3), (31, .return_, 1)]
theorem DX7_init_q1 : ∀ q ∈ TX7_init_q1, decode cX7_init q.1 = .ok q.2 := dec_wk _ 23 (by decide +kernel)
def TX7_shadiest_q0 : List (Nat × Instr × Nat) := [(0, .aload_n 0, 1), (1, .getfield 22, 3), (4, .aload_n 1, 1), (5, .invokevirtual 26, 3), (8, .aload_n 1, 1), (9, .invokevirtual 32, 3), (12, .istore_n 2, 1), (13, .iconst (-1), 1), (14, .istore_n 3, 1), (15, .iconst 0, 1), (16, .istore 4, 2), (18, .iload 4, 2)]
theorem DX7_shadiest_q0 : ∀ q ∈ TX7_shadiest_q0, decode cX7_shadiest q.1 = .ok q.2 := dec_wk _ 0 (by decide +kernel)
def TX7_shadiest_q1 : List (Nat × Instr × Nat) := [(20, .iconst 2, 1), (21, .aload_n 1, 1), (22, .getfield 36, 3), (25, .imul, 1), (26, .if_icmp .ge 89, 3), (29, .aload_n 0, 1), (30, .getfield 22, 3), (33, .aload_n 1, 1), (34, .invokevirtual 40, 3), (37, .iconst 1, 1), (38, .istore 5, 2), (40, .iload 5, 2)]
theorem DX7_shadiest_q1 : ∀ q ∈ TX7_shadiest_q1, decode cX7_shadiest q.1 = .ok q.2 := dec_wk _ 20 (by decide +kernel)
def TX7_shadiest_q2 : List (Nat × Instr × Nat) := [(42, .bipush 31, 2), (44, .if_icmp .gt 65, 3), (47, .aload_n 0, 1), (48, .getfield 22, 3), (51, .iload 4, 2), (53, .iconst 2, 1), (54, .idiv, 1), (55, .iload 4, 2), (57, .iconst 2, 1), (58, .irem, 1), (59, .iconst 1, 1), (60, .if_icmp .ne 7, 3)]
theorem DX7_shadiest_q2 : ∀ q ∈ TX7_shadiest_q2, decode cX7_shadiest q.1 = .ok q.2 := dec_wk _ 42 (by decide +kernel)
def TX7_shadiest_q3 : List (Nat × Instr × Nat) := [(63, .iconst 1, 1), (64, .goto 4, 3), (67, .iconst 0, 1), (68, .iconst 1, 1), (69, .invokevirtual 43, 3), (72, .iconst 1, 1), (73, .if_icmp .ne 36, 3), (76, .aload_n 0, 1), (77, .getfield 22, 3), (80, .invokevirtual 32, 3), (83, .istore 6, 2), (85, .iload 6, 2)]
theorem DX7_shadiest_q3 : ∀ q ∈ TX7_shadiest_q3, decode cX7_shadiest q.1 = .ok q.2 := dec_wk _ 63 (by decide +kernel)
def TX7_shadiest_q4 : List (Nat × Instr × Nat) := [(87, .iload_n 2, 1), (88, .if_icmp .le 15, 3), (91, .iload 6, 2), (93, .istore_n 2, 1), (94, .bipush 32, 2), (96, .iload 4, 2), (98, .imul, 1), (99, .iload 5, 2), (101, .iadd, 1), (102, .istore_n 3, 1), (103, .iinc 5 1, 3), (106, .goto (-66), 3)]
theorem DX7_shadiest_q4 : ∀ q ∈ TX7_shadiest_q4, decode cX7_shadiest q.1 = .ok q.2 := dec_wk _ 87 (by decide +kernel)
def TX7_shadiest_q5 : List (Nat × Instr × Nat) := [(109, .iinc 4 1, 3), (112, .goto (-94), 3), (115, .iload_n 3, 1), (116, .ireturn, 1)]
theorem DX7_shadiest_q5 : ∀ q ∈ TX7_shadiest_q5, decode cX7_shadiest q.1 = .ok q.2 := dec_wk _ 109 (by decide +kernel)
def TX7_seekShade_q0 : List (Nat × Instr × Nat) := [(0, .aload_n 0, 1), (1, .iconst (-1), 1), (2, .putfield 47, 3), (5, .aload_n 0, 1), (6, .aload_n 1, 1), (7, .invokevirtual 50, 3), (10, .iload_n 2, 1), (11, .iand, 1), (12, .iload_n 2, 1), (13, .if_icmp .ne 7, 3), (16, .iconst 0, 1), (17, .goto 4, 3)]
theorem DX7_seekShade_q0 : ∀ q ∈ TX7_seekShade_q0, decode cX7_seekShade q.1 = .ok q.2 := dec_wk _ 0 (by decide +kernel)
def TX7_seekShade_q1 : List (Nat × Instr × Nat) := [(20, .iconst (-1), 1), (21, .putfield 53, 3), (24, .aload_n 0, 1), (25, .getfield 53, 3), (28, .ifCond .ne 4, 3), (31, .return_, 1), (32, .aload_n 0, 1), (33, .getfield 22, 3), (36, .aload_n 1, 1), (37, .invokevirtual 26, 3), (40, .iconst 0, 1), (41, .istore_n 3, 1)]
theorem DX7_seekShade_q1 : ∀ q ∈ TX7_seekShade_q1, decode cX7_seekShade q.1 = .ok q.2 := dec_wk _ 20 (by decide +kernel)
def TX7_seekShade_q2 : List (Nat × Instr × Nat) := [(42, .iload_n 3, 1), (43, .iconst 2, 1), (44, .aload_n 1, 1), (45, .getfield 36, 3), (48, .imul, 1), (49, .if_icmp .ge 52, 3), (52, .aload_n 0, 1), (53, .aload_n 1, 1), (54, .iload_n 2, 1), (55, .iload_n 3, 1), (56, .invokevirtual 56, 3), (59, .istore 4, 2)]
theorem DX7_seekShade_q2 : ∀ q ∈ TX7_seekShade_q2, decode cX7_seekShade q.1 = .ok q.2 := dec_wk _ 42 (by decide +kernel)
def TX7_seekShade_q3 : List (Nat × Instr × Nat) := [(61, .iload 4, 2), (63, .iconst (-1), 1), (64, .if_icmp .eq 31, 3), (67, .aload_n 0, 1), (68, .getfield 53, 3), (71, .iconst (-1), 1), (72, .if_icmp .eq 12, 3), (75, .iload 4, 2), (77, .aload_n 0, 1), (78, .getfield 53, 3), (81, .if_icmp .ge 14, 3), (84, .aload_n 0, 1)]
theorem DX7_seekShade_q3 : ∀ q ∈ TX7_seekShade_q3, decode cX7_seekShade q.1 = .ok q.2 := dec_wk _ 61 (by decide +kernel)
def TX7_seekShade_q4 : List (Nat × Instr × Nat) := [(85, .iload 4, 2), (87, .putfield 53, 3), (90, .aload_n 0, 1), (91, .iload_n 3, 1), (92, .putfield 47, 3), (95, .iinc 3 1, 3), (98, .goto (-56), 3), (101, .return_, 1)]
theorem DX7_seekShade_q4 : ∀ q ∈ TX7_seekShade_q4, decode cX7_seekShade q.1 = .ok q.2 := dec_wk _ 85 (by decide +kernel)
def TX7_stepsToShade_q0 : List (Nat × Instr × Nat) := [(0, .aload_n 0, 1), (1, .getfield 22, 3), (4, .aload_n 1, 1), (5, .invokevirtual 40, 3), (8, .iconst 1, 1), (9, .istore 4, 2), (11, .iload 4, 2), (13, .bipush 31, 2), (15, .if_icmp .gt 52, 3), (18, .aload_n 0, 1), (19, .getfield 22, 3), (22, .iload_n 3, 1)]
theorem DX7_stepsToShade_q0 : ∀ q ∈ TX7_stepsToShade_q0, decode cX7_stepsToShade q.1 = .ok q.2 := dec_wk _ 0 (by decide +kernel)
def TX7_stepsToShade_q1 : List (Nat × Instr × Nat) := [(23, .iconst 2, 1), (24, .idiv, 1), (25, .iload_n 3, 1), (26, .iconst 2, 1), (27, .irem, 1), (28, .iconst 1, 1), (29, .if_icmp .ne 7, 3), (32, .iconst 1, 1), (33, .goto 4, 3), (36, .iconst 0, 1), (37, .iconst 1, 1), (38, .invokevirtual 43, 3)]
theorem DX7_stepsToShade_q1 : ∀ q ∈ TX7_stepsToShade_q1, decode cX7_stepsToShade q.1 = .ok q.2 := dec_wk _ 23 (by decide +kernel)
def TX7_stepsToShade_q2 : List (Nat × Instr × Nat) := [(41, .iconst 1, 1), (42, .if_icmp .ne 25, 3), (45, .aload_n 0, 1), (46, .getfield 22, 3), (49, .invokevirtual 50, 3), (52, .iload_n 2, 1), (53, .iand, 1), (54, .iload_n 2, 1), (55, .if_icmp .ne 6, 3), (58, .iload 4, 2), (60, .ireturn, 1), (61, .iinc 4 1, 3)]
theorem DX7_stepsToShade_q2 : ∀ q ∈ TX7_stepsToShade_q2, decode cX7_stepsToShade q.1 = .ok q.2 := dec_wk _ 41 (by decide +kernel)
def TX7_stepsToShade_q3 : List (Nat × Instr × Nat) := [(64, .goto (-53), 3), (67, .iconst (-1), 1), (68, .ireturn, 1)]
theorem DX7_stepsToShade_q3 : ∀ q ∈ TX7_stepsToShade_q3, decode cX7_stepsToShade q.1 = .ok q.2 := dec_wk _ 64 (by decide +kernel)
def TX7_fewestFreed_q0 : List (Nat × Instr × Nat) := [(0, .aload_n 0, 1), (1, .getfield 22, 3), (4, .aload_n 1, 1), (5, .invokevirtual 26, 3), (8, .iconst (-1), 1), (9, .istore 5, 2), (11, .iconst 0, 1), (12, .istore 6, 2), (14, .iload 6, 2), (16, .sipush 128, 3), (19, .if_icmp .ge 79, 3), (22, .iload 5, 2)]
theorem DX7_fewestFreed_q0 : ∀ q ∈ TX7_fewestFreed_q0, decode cX7_fewestFreed q.1 = .ok q.2 := dec_wk _ 0 (by decide +kernel)
def TX7_fewestFreed_q1 : List (Nat × Instr × Nat) := [(24, .iconst (-1), 1), (25, .if_icmp .eq 16, 3), (28, .iload 6, 2), (30, .invokestatic 60, 3), (33, .iload 5, 2), (35, .invokestatic 60, 3), (38, .if_icmp .ge 7, 3), (41, .iconst 1, 1), (42, .goto 4, 3), (45, .iconst 0, 1), (46, .istore 7, 2), (48, .iload 6, 2)]
theorem DX7_fewestFreed_q1 : ∀ q ∈ TX7_fewestFreed_q1, decode cX7_fewestFreed q.1 = .ok q.2 := dec_wk _ 24 (by decide +kernel)
def TX7_fewestFreed_q2 : List (Nat × Instr × Nat) := [(50, .aload_n 1, 1), (51, .getfield 66, 3), (54, .iconst (-1), 1), (55, .ixor, 1), (56, .iand, 1), (57, .ifCond .ne 35, 3), (60, .iload 7, 2), (62, .ifCond .eq 30, 3), (65, .aload_n 0, 1), (66, .aload_n 1, 1), (67, .aload_n 1, 1), (68, .getfield 66, 3)]
theorem DX7_fewestFreed_q2 : ∀ q ∈ TX7_fewestFreed_q2, decode cX7_fewestFreed q.1 = .ok q.2 := dec_wk _ 50 (by decide +kernel)
def TX7_fewestFreed_q3 : List (Nat × Instr × Nat) := [(71, .iload 6, 2), (73, .iconst (-1), 1), (74, .ixor, 1), (75, .iand, 1), (76, .iload_n 2, 1), (77, .iload_n 3, 1), (78, .iload 4, 2), (80, .invokevirtual 69, 3), (83, .iload 4, 2), (85, .if_icmp .ne 7, 3), (88, .iload 6, 2), (90, .istore 5, 2)]
theorem DX7_fewestFreed_q3 : ∀ q ∈ TX7_fewestFreed_q3, decode cX7_fewestFreed q.1 = .ok q.2 := dec_wk _ 71 (by decide +kernel)
def TX7_fewestFreed_q4 : List (Nat × Instr × Nat) := [(92, .iinc 6 1, 3), (95, .goto (-81), 3), (98, .iload 5, 2), (100, .ireturn, 1)]
theorem DX7_fewestFreed_q4 : ∀ q ∈ TX7_fewestFreed_q4, decode cX7_fewestFreed q.1 = .ok q.2 := dec_wk _ 92 (by decide +kernel)
def TX7_farWith_q0 : List (Nat × Instr × Nat) := [(0, .aload_n 0, 1), (1, .getfield 22, 3), (4, .aload_n 1, 1), (5, .invokevirtual 40, 3), (8, .aload_n 0, 1), (9, .getfield 22, 3), (12, .iload_n 2, 1), (13, .putfield 66, 3), (16, .aload_n 0, 1), (17, .getfield 22, 3), (20, .iload_n 3, 1), (21, .iload 4, 2)]
theorem DX7_farWith_q0 : ∀ q ∈ TX7_farWith_q0, decode cX7_farWith q.1 = .ok q.2 := dec_wk _ 0 (by decide +kernel)
def TX7_farWith_q1 : List (Nat × Instr × Nat) := [(23, .iload 5, 2), (25, .invokevirtual 43, 3), (28, .ireturn, 1)]
theorem DX7_farWith_q1 : ∀ q ∈ TX7_farWith_q1, decode cX7_farWith q.1 = .ok q.2 := dec_wk _ 23 (by decide +kernel)
def TX7_areRows_q0 : List (Nat × Instr × Nat) := [(0, .aload_n 0, 1), (1, .getfield 18, 3), (4, .getfield 73, 3), (7, .iconst 4, 1), (8, .irem, 1), (9, .ifCond .ne 16, 3), (12, .aload_n 0, 1), (13, .getfield 18, 3), (16, .getfield 73, 3), (19, .sipush 160, 3), (22, .if_icmp .le 5, 3), (25, .iconst 0, 1)]
theorem DX7_areRows_q0 : ∀ q ∈ TX7_areRows_q0, decode cX7_areRows q.1 = .ok q.2 := dec_wk _ 0 (by decide +kernel)
def TX7_areRows_q1 : List (Nat × Instr × Nat) := [(26, .ireturn, 1), (27, .iconst 0, 1), (28, .istore_n 2, 1), (29, .iload_n 2, 1), (30, .aload_n 0, 1), (31, .getfield 18, 3), (34, .getfield 73, 3), (37, .if_icmp .ge 81, 3), (40, .aload_n 0, 1), (41, .getfield 18, 3), (44, .iload_n 2, 1), (45, .invokevirtual 78, 3)]
theorem DX7_areRows_q1 : ∀ q ∈ TX7_areRows_q1, decode cX7_areRows q.1 = .ok q.2 := dec_wk _ 26 (by decide +kernel)
def TX7_areRows_q2 : List (Nat × Instr × Nat) := [(48, .iload_n 1, 1), (49, .if_icmp .ge 61, 3), (52, .aload_n 0, 1), (53, .getfield 18, 3), (56, .iload_n 2, 1), (57, .iconst 1, 1), (58, .iadd, 1), (59, .invokevirtual 78, 3), (62, .iconst 1, 1), (63, .if_icmp .gt 47, 3), (66, .aload_n 0, 1), (67, .getfield 18, 3)]
theorem DX7_areRows_q2 : ∀ q ∈ TX7_areRows_q2, decode cX7_areRows q.1 = .ok q.2 := dec_wk _ 48 (by decide +kernel)
def TX7_areRows_q3 : List (Nat × Instr × Nat) := [(70, .iload_n 2, 1), (71, .iconst 2, 1), (72, .iadd, 1), (73, .invokevirtual 78, 3), (76, .iconst 1, 1), (77, .if_icmp .lt 33, 3), (80, .aload_n 0, 1), (81, .getfield 18, 3), (84, .iload_n 2, 1), (85, .iconst 2, 1), (86, .iadd, 1), (87, .invokevirtual 78, 3)]
theorem DX7_areRows_q3 : ∀ q ∈ TX7_areRows_q3, decode cX7_areRows q.1 = .ok q.2 := dec_wk _ 70 (by decide +kernel)
def TX7_areRows_q4 : List (Nat × Instr × Nat) := [(90, .bipush 31, 2), (92, .if_icmp .gt 18, 3), (95, .aload_n 0, 1), (96, .getfield 18, 3), (99, .iload_n 2, 1), (100, .iconst 3, 1), (101, .iadd, 1), (102, .invokevirtual 78, 3), (105, .bipush 31, 2), (107, .if_icmp .le 5, 3), (110, .iconst 0, 1), (111, .ireturn, 1)]
theorem DX7_areRows_q4 : ∀ q ∈ TX7_areRows_q4, decode cX7_areRows q.1 = .ok q.2 := dec_wk _ 90 (by decide +kernel)
def TX7_areRows_q5 : List (Nat × Instr × Nat) := [(112, .iinc 2 4, 3), (115, .goto (-86), 3), (118, .iconst 1, 1), (119, .ireturn, 1)]
theorem DX7_areRows_q5 : ∀ q ∈ TX7_areRows_q5, decode cX7_areRows q.1 = .ok q.2 := dec_wk _ 112 (by decide +kernel)
def TX7_seekSnags_q0 : List (Nat × Instr × Nat) := [(0, .aload_n 0, 1), (1, .getfield 22, 3), (4, .aload_n 1, 1), (5, .invokevirtual 26, 3), (8, .aload_n 0, 1), (9, .iconst 0, 1), (10, .putfield 81, 3), (13, .aload_n 1, 1), (14, .getfield 36, 3), (17, .ifCond .ne 7, 3), (20, .iconst 1, 1), (21, .goto 11, 3)]
theorem DX7_seekSnags_q0 : ∀ q ∈ TX7_seekSnags_q0, decode cX7_seekSnags q.1 = .ok q.2 := dec_wk _ 0 (by decide +kernel)
def TX7_seekSnags_q1 : List (Nat × Instr × Nat) := [(24, .iconst 1, 1), (25, .aload_n 1, 1), (26, .getfield 36, 3), (29, .iconst 1, 1), (30, .isub, 1), (31, .ishl, 1), (32, .istore_n 2, 1), (33, .iconst 0, 1), (34, .istore_n 3, 1), (35, .iload_n 3, 1), (36, .iload_n 2, 1), (37, .if_icmp .ge 48, 3)]
theorem DX7_seekSnags_q1 : ∀ q ∈ TX7_seekSnags_q1, decode cX7_seekSnags q.1 = .ok q.2 := dec_wk _ 24 (by decide +kernel)
def TX7_seekSnags_q2 : List (Nat × Instr × Nat) := [(40, .aload_n 0, 1), (41, .getfield 81, 3), (44, .sipush 128, 3), (47, .if_icmp .ge 38, 3), (50, .aload_n 0, 1), (51, .aload_n 1, 1), (52, .iload_n 3, 1), (53, .invokevirtual 84, 3), (56, .ifCond .eq 23, 3), (59, .aload_n 0, 1), (60, .getfield 11, 3), (63, .aload_n 0, 1)]
theorem DX7_seekSnags_q2 : ∀ q ∈ TX7_seekSnags_q2, decode cX7_seekSnags q.1 = .ok q.2 := dec_wk _ 40 (by decide +kernel)
def TX7_seekSnags_q3 : List (Nat × Instr × Nat) := [(64, .getfield 81, 3), (67, .iload_n 3, 1), (68, .iastore, 1), (69, .aload_n 0, 1), (70, .dup, 1), (71, .getfield 81, 3), (74, .iconst 1, 1), (75, .iadd, 1), (76, .putfield 81, 3), (79, .iinc 3 1, 3), (82, .goto (-47), 3), (85, .return_, 1)]
theorem DX7_seekSnags_q3 : ∀ q ∈ TX7_seekSnags_q3, decode cX7_seekSnags q.1 = .ok q.2 := dec_wk _ 64 (by decide +kernel)
def TX7_isFitting_q0 : List (Nat × Instr × Nat) := [(0, .iconst 0, 1), (1, .istore_n 3, 1), (2, .iload_n 3, 1), (3, .aload_n 0, 1), (4, .getfield 18, 3), (7, .getfield 73, 3), (10, .if_icmp .ge 71, 3), (13, .aload_n 0, 1), (14, .aload_n 1, 1), (15, .iload_n 2, 1), (16, .aload_n 0, 1), (17, .getfield 18, 3)]
theorem DX7_isFitting_q0 : ∀ q ∈ TX7_isFitting_q0, decode cX7_isFitting q.1 = .ok q.2 := dec_wk _ 0 (by decide +kernel)
def TX7_isFitting_q1 : List (Nat × Instr × Nat) := [(20, .iload_n 3, 1), (21, .invokevirtual 78, 3), (24, .aload_n 0, 1), (25, .getfield 18, 3), (28, .iload_n 3, 1), (29, .iconst 1, 1), (30, .iadd, 1), (31, .invokevirtual 78, 3), (34, .iconst 1, 1), (35, .if_icmp .ne 7, 3), (38, .iconst 1, 1), (39, .goto 4, 3)]
theorem DX7_isFitting_q1 : ∀ q ∈ TX7_isFitting_q1, decode cX7_isFitting q.1 = .ok q.2 := dec_wk _ 20 (by decide +kernel)
def TX7_isFitting_q2 : List (Nat × Instr × Nat) := [(42, .iconst 0, 1), (43, .aload_n 0, 1), (44, .getfield 18, 3), (47, .iload_n 3, 1), (48, .iconst 2, 1), (49, .iadd, 1), (50, .invokevirtual 78, 3), (53, .invokevirtual 69, 3), (56, .istore 4, 2), (58, .iload 4, 2), (60, .aload_n 0, 1), (61, .getfield 18, 3)]
theorem DX7_isFitting_q2 : ∀ q ∈ TX7_isFitting_q2, decode cX7_isFitting q.1 = .ok q.2 := dec_wk _ 42 (by decide +kernel)
def TX7_isFitting_q3 : List (Nat × Instr × Nat) := [(64, .iload_n 3, 1), (65, .iconst 3, 1), (66, .iadd, 1), (67, .invokevirtual 78, 3), (70, .if_icmp .eq 5, 3), (73, .iconst 0, 1), (74, .ireturn, 1), (75, .iinc 3 4, 3), (78, .goto (-76), 3), (81, .iconst 1, 1), (82, .ireturn, 1)]
theorem DX7_isFitting_q3 : ∀ q ∈ TX7_isFitting_q3, decode cX7_isFitting q.1 = .ok q.2 := dec_wk _ 64 (by decide +kernel)
def TX7_inAllFitting_q0 : List (Nat × Instr × Nat) := [(0, .aload_n 0, 1), (1, .getfield 81, 3), (4, .ifCond .ne 7, 3), (7, .iconst 0, 1), (8, .goto 9, 3), (11, .aload_n 0, 1), (12, .getfield 11, 3), (15, .iconst 0, 1), (16, .iaload, 1), (17, .istore_n 1, 1), (18, .iconst 1, 1), (19, .istore_n 2, 1)]
theorem DX7_inAllFitting_q0 : ∀ q ∈ TX7_inAllFitting_q0, decode cX7_inAllFitting q.1 = .ok q.2 := dec_wk _ 0 (by decide +kernel)
def TX7_inAllFitting_q1 : List (Nat × Instr × Nat) := [(20, .iload_n 2, 1), (21, .aload_n 0, 1), (22, .getfield 81, 3), (25, .if_icmp .ge 18, 3), (28, .iload_n 1, 1), (29, .aload_n 0, 1), (30, .getfield 11, 3), (33, .iload_n 2, 1), (34, .iaload, 1), (35, .iand, 1), (36, .istore_n 1, 1), (37, .iinc 2 1, 3)]
theorem DX7_inAllFitting_q1 : ∀ q ∈ TX7_inAllFitting_q1, decode cX7_inAllFitting q.1 = .ok q.2 := dec_wk _ 20 (by decide +kernel)
def TX7_inAllFitting_q2 : List (Nat × Instr × Nat) := [(40, .goto (-20), 3), (43, .iload_n 1, 1), (44, .ireturn, 1)]
theorem DX7_inAllFitting_q2 : ∀ q ∈ TX7_inAllFitting_q2, decode cX7_inAllFitting q.1 = .ok q.2 := dec_wk _ 40 (by decide +kernel)
def TX7_partingPull_q0 : List (Nat × Instr × Nat) := [(0, .aload_n 0, 1), (1, .getfield 81, 3), (4, .iconst 2, 1), (5, .if_icmp .ge 5, 3), (8, .iconst (-1), 1), (9, .ireturn, 1), (10, .iconst (-1), 1), (11, .istore_n 2, 1), (12, .sipush 129, 3), (15, .istore_n 3, 1), (16, .iconst 0, 1), (17, .istore 4, 2)]
theorem DX7_partingPull_q0 : ∀ q ∈ TX7_partingPull_q0, decode cX7_partingPull q.1 = .ok q.2 := dec_wk _ 0 (by decide +kernel)
def TX7_partingPull_q1 : List (Nat × Instr × Nat) := [(19, .iload 4, 2), (21, .iconst 2, 1), (22, .aload_n 1, 1), (23, .getfield 36, 3), (26, .imul, 1), (27, .if_icmp .ge 30, 3), (30, .aload_n 0, 1), (31, .aload_n 1, 1), (32, .iload 4, 2), (34, .invokevirtual 88, 3), (37, .istore 5, 2), (39, .iload 5, 2)]
theorem DX7_partingPull_q1 : ∀ q ∈ TX7_partingPull_q1, decode cX7_partingPull q.1 = .ok q.2 := dec_wk _ 19 (by decide +kernel)
def TX7_partingPull_q2 : List (Nat × Instr × Nat) := [(41, .iload_n 3, 1), (42, .if_icmp .ge 9, 3), (45, .iload 5, 2), (47, .istore_n 3, 1), (48, .iload 4, 2), (50, .istore_n 2, 1), (51, .iinc 4 1, 3), (54, .goto (-35), 3), (57, .iload_n 2, 1), (58, .ireturn, 1)]
theorem DX7_partingPull_q2 : ∀ q ∈ TX7_partingPull_q2, decode cX7_partingPull q.1 = .ok q.2 := dec_wk _ 41 (by decide +kernel)
def TX7_greatestPart_q0 : List (Nat × Instr × Nat) := [(0, .iconst 0, 1), (1, .istore_n 3, 1), (2, .iload_n 3, 1), (3, .aload_n 0, 1), (4, .getfield 15, 3), (7, .arraylength, 1), (8, .if_icmp .ge 16, 3), (11, .aload_n 0, 1), (12, .getfield 15, 3), (15, .iload_n 3, 1), (16, .iconst 0, 1), (17, .iastore, 1)]
theorem DX7_greatestPart_q0 : ∀ q ∈ TX7_greatestPart_q0, decode cX7_greatestPart q.1 = .ok q.2 := dec_wk _ 0 (by decide +kernel)
def TX7_greatestPart_q1 : List (Nat × Instr × Nat) := [(18, .iinc 3 1, 3), (21, .goto (-19), 3), (24, .iconst 0, 1), (25, .istore_n 3, 1), (26, .iconst 0, 1), (27, .istore 4, 2), (29, .iload 4, 2), (31, .aload_n 0, 1), (32, .getfield 81, 3), (35, .if_icmp .ge 63, 3), (38, .aload_n 0, 1), (39, .aload_n 1, 1)]
theorem DX7_greatestPart_q1 : ∀ q ∈ TX7_greatestPart_q1, decode cX7_greatestPart q.1 = .ok q.2 := dec_wk _ 18 (by decide +kernel)
def TX7_greatestPart_q2 : List (Nat × Instr × Nat) := [(40, .aload_n 0, 1), (41, .getfield 11, 3), (44, .iload 4, 2), (46, .iaload, 1), (47, .iload_n 2, 1), (48, .iconst 2, 1), (49, .idiv, 1), (50, .iload_n 2, 1), (51, .iconst 2, 1), (52, .irem, 1), (53, .iconst 1, 1), (54, .if_icmp .ne 7, 3)]
theorem DX7_greatestPart_q2 : ∀ q ∈ TX7_greatestPart_q2, decode cX7_greatestPart q.1 = .ok q.2 := dec_wk _ 40 (by decide +kernel)
def TX7_greatestPart_q3 : List (Nat × Instr × Nat) := [(57, .iconst 1, 1), (58, .goto 4, 3), (61, .iconst 0, 1), (62, .bipush 31, 2), (64, .invokevirtual 69, 3), (67, .istore 5, 2), (69, .aload_n 0, 1), (70, .getfield 15, 3), (73, .iload 5, 2), (75, .dup2, 1), (76, .iaload, 1), (77, .iconst 1, 1)]
theorem DX7_greatestPart_q3 : ∀ q ∈ TX7_greatestPart_q3, decode cX7_greatestPart q.1 = .ok q.2 := dec_wk _ 57 (by decide +kernel)
def TX7_greatestPart_q4 : List (Nat × Instr × Nat) := [(78, .iadd, 1), (79, .iastore, 1), (80, .iload_n 3, 1), (81, .aload_n 0, 1), (82, .getfield 15, 3), (85, .iload 5, 2), (87, .iaload, 1), (88, .invokestatic 92, 3), (91, .istore_n 3, 1), (92, .iinc 4 1, 3), (95, .goto (-66), 3), (98, .iload_n 3, 1)]
theorem DX7_greatestPart_q4 : ∀ q ∈ TX7_greatestPart_q4, decode cX7_greatestPart q.1 = .ok q.2 := dec_wk _ 78 (by decide +kernel)
def TX7_greatestPart_q5 : List (Nat × Instr × Nat) := [(99, .ireturn, 1)]
theorem DX7_greatestPart_q5 : ∀ q ∈ TX7_greatestPart_q5, decode cX7_greatestPart q.1 = .ok q.2 := dec_wk _ 99 (by decide +kernel)
def TX8_init_q0 : List (Nat × Instr × Nat) := [(0, .aload_n 0, 1), (1, .invokespecial 3, 3), (4, .aload_n 0, 1), (5, .bipush 8, 2), (7, .newarray .int, 2), (9, .putfield 9, 3), (12, .aload_n 0, 1), (13, .bipush 8, 2), (15, .newarray .int, 2), (17, .putfield 15, 3), (20, .aload_n 0, 1), (21, .bipush 8, 2)]
theorem DX8_init_q0 : ∀ q ∈ TX8_init_q0, decode cX8_init q.1 = .ok q.2 := dec_wk _ 0 (by decide +kernel)
def TX8_init_q1 : List (Nat × Instr × Nat) := [(23, .newarray .int, 2), (25, .putfield 18, 3), (28, .aload_n 0, 1), (29, .bipush 8, 2), (31, .newarray .int, 2), (33, .putfield 21, 3), (36, .aload_n 0, 1), (37, .new 24, 3), (40, .dup, 1), (41, .invokespecial 26, 3), (44, .putfield 27, 3), (47, .aload_n 0, 1)]
theorem DX8_init_q1 : ∀ q ∈ TX8_init_q1, decode cX8_init q.1 = .ok q.2 := dec_wk _ 23 (by decide +kernel)
def TX8_init_q2 : List (Nat × Instr × Nat) := [(48, .bipush 16, 2), (50, .putfield 31, 3), (53, .aload_n 0, 1), (54, .bipush 8, 2), (56, .putfield 35, 3), (59, .aload_n 0, 1), (60, .iconst 1, 1), (61, .putfield 38, 3), (64, .return_, 1)]
theorem DX8_init_q2 : ∀ q ∈ TX8_init_q2, decode cX8_init q.1 = .ok q.2 := dec_wk _ 48 (by decide +kernel)
def TX8_copyFrom_q0 : List (Nat × Instr × Nat) := [(0, .aload_n 1, 1), (1, .getfield 15, 3), (4, .iconst 0, 1), (5, .aload_n 0, 1), (6, .getfield 15, 3), (9, .iconst 0, 1), (10, .bipush 8, 2), (12, .invokestatic 41, 3), (15, .aload_n 1, 1), (16, .getfield 18, 3), (19, .iconst 0, 1), (20, .aload_n 0, 1)]
theorem DX8_copyFrom_q0 : ∀ q ∈ TX8_copyFrom_q0, decode cX8_copyFrom q.1 = .ok q.2 := dec_wk _ 0 (by decide +kernel)
def TX8_copyFrom_q1 : List (Nat × Instr × Nat) := [(21, .getfield 18, 3), (24, .iconst 0, 1), (25, .bipush 8, 2), (27, .invokestatic 41, 3), (30, .aload_n 1, 1), (31, .getfield 21, 3), (34, .iconst 0, 1), (35, .aload_n 0, 1), (36, .getfield 21, 3), (39, .iconst 0, 1), (40, .bipush 8, 2), (42, .invokestatic 41, 3)]
theorem DX8_copyFrom_q1 : ∀ q ∈ TX8_copyFrom_q1, decode cX8_copyFrom q.1 = .ok q.2 := dec_wk _ 21 (by decide +kernel)
def TX8_copyFrom_q2 : List (Nat × Instr × Nat) := [(45, .aload_n 0, 1), (46, .getfield 27, 3), (49, .aload_n 1, 1), (50, .getfield 27, 3), (53, .invokevirtual 47, 3), (56, .aload_n 0, 1), (57, .aload_n 1, 1), (58, .getfield 51, 3), (61, .putfield 51, 3), (64, .aload_n 0, 1), (65, .aload_n 1, 1), (66, .getfield 54, 3)]
theorem DX8_copyFrom_q2 : ∀ q ∈ TX8_copyFrom_q2, decode cX8_copyFrom q.1 = .ok q.2 := dec_wk _ 45 (by decide +kernel)
def TX8_copyFrom_q3 : List (Nat × Instr × Nat) := [(69, .putfield 54, 3), (72, .aload_n 0, 1), (73, .aload_n 1, 1), (74, .getfield 57, 3), (77, .putfield 57, 3), (80, .aload_n 0, 1), (81, .aload_n 1, 1), (82, .getfield 60, 3), (85, .putfield 60, 3), (88, .aload_n 0, 1), (89, .aload_n 1, 1), (90, .getfield 63, 3)]
theorem DX8_copyFrom_q3 : ∀ q ∈ TX8_copyFrom_q3, decode cX8_copyFrom q.1 = .ok q.2 := dec_wk _ 69 (by decide +kernel)
def TX8_copyFrom_q4 : List (Nat × Instr × Nat) := [(93, .putfield 63, 3), (96, .aload_n 0, 1), (97, .aload_n 1, 1), (98, .getfield 31, 3), (101, .putfield 31, 3), (104, .aload_n 0, 1), (105, .aload_n 1, 1), (106, .getfield 35, 3), (109, .putfield 35, 3), (112, .aload_n 0, 1), (113, .aload_n 1, 1), (114, .getfield 66, 3)]
theorem DX8_copyFrom_q4 : ∀ q ∈ TX8_copyFrom_q4, decode cX8_copyFrom q.1 = .ok q.2 := dec_wk _ 93 (by decide +kernel)
def TX8_copyFrom_q5 : List (Nat × Instr × Nat) := [(117, .putfield 66, 3), (120, .aload_n 0, 1), (121, .aload_n 1, 1), (122, .getfield 69, 3)]
theorem DX8_copyFrom_q5 : ∀ q ∈ TX8_copyFrom_q5, decode cX8_copyFrom q.1 = .ok q.2 := dec_wk _ 117 (by decide +kernel)
def TX8_copyFrom_1_q0 : List (Nat × Instr × Nat) := [(125, .putfield 69, 3), (128, .aload_n 0, 1), (129, .aload_n 1, 1), (130, .getfield 38, 3), (133, .putfield 38, 3), (136, .aload_n 0, 1), (137, .aload_n 1, 1), (138, .getfield 72, 3), (141, .putfield 72, 3), (144, .aload_n 0, 1), (145, .aload_n 1, 1), (146, .invokevirtual 75, 3)]
theorem DX8_copyFrom_1_q0 : ∀ q ∈ TX8_copyFrom_1_q0, decode cX8_copyFrom q.1 = .ok q.2 := dec_wk _ 125 (by decide +kernel)
def TX8_copyFrom_1_q1 : List (Nat × Instr × Nat) := [(149, .return_, 1)]
theorem DX8_copyFrom_1_q1 : ∀ q ∈ TX8_copyFrom_1_q1, decode cX8_copyFrom q.1 = .ok q.2 := dec_wk _ 149 (by decide +kernel)
def TX8_hangAs_q0 : List (Nat × Instr × Nat) := [(0, .aload_n 1, 1), (1, .getfield 9, 3), (4, .iconst 0, 1), (5, .aload_n 0, 1), (6, .getfield 9, 3), (9, .iconst 0, 1), (10, .bipush 8, 2), (12, .invokestatic 41, 3), (15, .aload_n 0, 1), (16, .aload_n 1, 1), (17, .getfield 79, 3), (20, .putfield 79, 3)]
theorem DX8_hangAs_q0 : ∀ q ∈ TX8_hangAs_q0, decode cX8_hangAs q.1 = .ok q.2 := dec_wk _ 0 (by decide +kernel)
def TX8_hangAs_q1 : List (Nat × Instr × Nat) := [(23, .aload_n 0, 1), (24, .aload_n 1, 1), (25, .getfield 82, 3), (28, .putfield 82, 3), (31, .return_, 1)]
theorem DX8_hangAs_q1 : ∀ q ∈ TX8_hangAs_q1, decode cX8_hangAs q.1 = .ok q.2 := dec_wk _ 23 (by decide +kernel)
def TX8_nearestNew_q0 : List (Nat × Instr × Nat) := [(0, .aload_n 0, 1), (1, .getfield 51, 3), (4, .ifCond .ne 7, 3), (7, .iconst 0, 1), (8, .goto 16, 3), (11, .aload_n 0, 1), (12, .getfield 9, 3), (15, .aload_n 0, 1), (16, .getfield 51, 3), (19, .iconst 1, 1), (20, .isub, 1), (21, .iaload, 1)]
theorem DX8_nearestNew_q0 : ∀ q ∈ TX8_nearestNew_q0, decode cX8_nearestNew q.1 = .ok q.2 := dec_wk _ 0 (by decide +kernel)
def TX8_nearestNew_q1 : List (Nat × Instr × Nat) := [(22, .iconst 1, 1), (23, .iadd, 1), (24, .ireturn, 1)]
theorem DX8_nearestNew_q1 : ∀ q ∈ TX8_nearestNew_q1, decode cX8_nearestNew q.1 = .ok q.2 := dec_wk _ 22 (by decide +kernel)
def TX8_farthestNew_q0 : List (Nat × Instr × Nat) := [(0, .aload_n 0, 1), (1, .getfield 51, 3), (4, .ifCond .ne 8, 3), (7, .bipush 31, 2), (9, .goto 31, 3), (12, .bipush 31, 2), (14, .aload_n 0, 1), (15, .getfield 9, 3), (18, .aload_n 0, 1), (19, .getfield 51, 3), (22, .iconst 1, 1), (23, .isub, 1)]
theorem DX8_farthestNew_q0 : ∀ q ∈ TX8_farthestNew_q0, decode cX8_farthestNew q.1 = .ok q.2 := dec_wk _ 0 (by decide +kernel)
def TX8_farthestNew_q1 : List (Nat × Instr × Nat) := [(24, .iaload, 1), (25, .aload_n 0, 1), (26, .getfield 15, 3), (29, .aload_n 0, 1), (30, .getfield 51, 3), (33, .iconst 1, 1), (34, .isub, 1), (35, .iaload, 1), (36, .iadd, 1), (37, .invokestatic 85, 3), (40, .ireturn, 1)]
theorem DX8_farthestNew_q1 : ∀ q ∈ TX8_farthestNew_q1, decode cX8_farthestNew q.1 = .ok q.2 := dec_wk _ 24 (by decide +kernel)
def TX8_add_q0 : List (Nat × Instr × Nat) := [(0, .aload_n 0, 1), (1, .getfield 51, 3), (4, .bipush 8, 2), (6, .if_icmp .lt 4, 3), (9, .return_, 1), (10, .aload_n 0, 1), (11, .getfield 9, 3), (14, .aload_n 0, 1), (15, .getfield 51, 3), (18, .iload_n 1, 1), (19, .iastore, 1), (20, .aload_n 0, 1)]
theorem DX8_add_q0 : ∀ q ∈ TX8_add_q0, decode cX8_add q.1 = .ok q.2 := dec_wk _ 0 (by decide +kernel)
def TX8_add_q1 : List (Nat × Instr × Nat) := [(21, .getfield 15, 3), (24, .aload_n 0, 1), (25, .getfield 51, 3), (28, .iload_n 2, 1), (29, .iastore, 1), (30, .aload_n 0, 1), (31, .getfield 18, 3), (34, .aload_n 0, 1), (35, .getfield 51, 3), (38, .iconst 0, 1), (39, .iastore, 1), (40, .aload_n 0, 1)]
theorem DX8_add_q1 : ∀ q ∈ TX8_add_q1, decode cX8_add q.1 = .ok q.2 := dec_wk _ 21 (by decide +kernel)
def TX8_add_q2 : List (Nat × Instr × Nat) := [(41, .getfield 21, 3), (44, .aload_n 0, 1), (45, .getfield 51, 3), (48, .iconst 0, 1), (49, .iastore, 1), (50, .aload_n 0, 1), (51, .aload_n 0, 1), (52, .getfield 54, 3), (55, .aload_n 0, 1), (56, .getfield 51, 3), (59, .iconst 0, 1), (60, .invokestatic 91, 3)]
theorem DX8_add_q2 : ∀ q ∈ TX8_add_q2, decode cX8_add q.1 = .ok q.2 := dec_wk _ 41 (by decide +kernel)
def TX8_add_q3 : List (Nat × Instr × Nat) := [(63, .putfield 54, 3), (66, .aload_n 0, 1), (67, .aload_n 0, 1), (68, .getfield 57, 3), (71, .aload_n 0, 1), (72, .getfield 51, 3), (75, .iconst 0, 1), (76, .invokestatic 91, 3), (79, .putfield 57, 3), (82, .aload_n 0, 1), (83, .aload_n 0, 1), (84, .getfield 60, 3)]
theorem DX8_add_q3 : ∀ q ∈ TX8_add_q3, decode cX8_add q.1 = .ok q.2 := dec_wk _ 63 (by decide +kernel)
def TX8_add_q4 : List (Nat × Instr × Nat) := [(87, .aload_n 0, 1), (88, .getfield 51, 3), (91, .iconst 1, 1), (92, .invokestatic 91, 3), (95, .putfield 60, 3), (98, .aload_n 0, 1), (99, .aload_n 0, 1), (100, .getfield 82, 3), (103, .aload_n 0, 1), (104, .getfield 51, 3), (107, .iconst 0, 1), (108, .invokestatic 91, 3)]
theorem DX8_add_q4 : ∀ q ∈ TX8_add_q4, decode cX8_add q.1 = .ok q.2 := dec_wk _ 87 (by decide +kernel)
def TX8_add_q5 : List (Nat × Instr × Nat) := [(111, .putfield 82, 3), (114, .aload_n 0, 1), (115, .dup, 1), (116, .getfield 51, 3)]
theorem DX8_add_q5 : ∀ q ∈ TX8_add_q5, decode cX8_add q.1 = .ok q.2 := dec_wk _ 111 (by decide +kernel)
def TX8_add_1_q0 : List (Nat × Instr × Nat) := [(119, .iconst 1, 1), (120, .iadd, 1), (121, .putfield 51, 3), (124, .return_, 1)]
theorem DX8_add_1_q0 : ∀ q ∈ TX8_add_1_q0, decode cX8_add q.1 = .ok q.2 := dec_wk _ 119 (by decide +kernel)
def TX8_gap_q0 : List (Nat × Instr × Nat) := [(0, .iload_n 1, 1), (1, .ifCond .lt 13, 3), (4, .iload_n 1, 1), (5, .aload_n 0, 1), (6, .getfield 51, 3), (9, .iconst 1, 1), (10, .isub, 1), (11, .if_icmp .lt 7, 3), (14, .iload_n 2, 1), (15, .goto 18, 3), (18, .aload_n 0, 1), (19, .getfield 9, 3)]
theorem DX8_gap_q0 : ∀ q ∈ TX8_gap_q0, decode cX8_gap q.1 = .ok q.2 := dec_wk _ 0 (by decide +kernel)
def TX8_gap_q1 : List (Nat × Instr × Nat) := [(22, .iload_n 1, 1), (23, .iconst 1, 1), (24, .iadd, 1), (25, .iaload, 1), (26, .aload_n 0, 1), (27, .getfield 9, 3), (30, .iload_n 1, 1), (31, .iaload, 1), (32, .isub, 1), (33, .ireturn, 1)]
theorem DX8_gap_q1 : ∀ q ∈ TX8_gap_q1, decode cX8_gap q.1 = .ok q.2 := dec_wk _ 22 (by decide +kernel)
def TX8_isLit_q0 : List (Nat × Instr × Nat) := [(0, .aload_n 0, 1), (1, .getfield 9, 3), (4, .iload_n 1, 1), (5, .iaload, 1), (6, .iconst 4, 1), (7, .iload_n 2, 1), (8, .imul, 1), (9, .if_icmp .lt 24, 3), (12, .aload_n 0, 1), (13, .getfield 9, 3), (16, .iload_n 1, 1), (17, .iaload, 1)]
theorem DX8_isLit_q0 : ∀ q ∈ TX8_isLit_q0, decode cX8_isLit q.1 = .ok q.2 := dec_wk _ 0 (by decide +kernel)
def TX8_isLit_q1 : List (Nat × Instr × Nat) := [(18, .iconst 4, 1), (19, .iload_n 2, 1), (20, .imul, 1), (21, .aload_n 0, 1), (22, .getfield 35, 3), (25, .iadd, 1), (26, .if_icmp .gt 7, 3), (29, .iconst 1, 1), (30, .goto 4, 3), (33, .iconst 0, 1), (34, .ireturn, 1)]
theorem DX8_isLit_q1 : ∀ q ∈ TX8_isLit_q1, decode cX8_isLit q.1 = .ok q.2 := dec_wk _ 18 (by decide +kernel)
def TX8_unhooked_q0 : List (Nat × Instr × Nat) := [(0, .iconst 1, 1), (1, .aload_n 0, 1), (2, .getfield 51, 3), (5, .ishl, 1), (6, .iconst 1, 1), (7, .isub, 1), (8, .aload_n 0, 1), (9, .getfield 60, 3), (12, .iconst (-1), 1), (13, .ixor, 1), (14, .iand, 1), (15, .ireturn, 1)]
theorem DX8_unhooked_q0 : ∀ q ∈ TX8_unhooked_q0, decode cX8_unhooked q.1 = .ok q.2 := dec_wk _ 0 (by decide +kernel)
def TX8_allFades_q0 : List (Nat × Instr × Nat) := [(0, .iconst 0, 1), (1, .istore_n 1, 1), (2, .iconst 0, 1), (3, .istore_n 2, 1), (4, .iload_n 2, 1), (5, .aload_n 0, 1), (6, .getfield 51, 3), (9, .if_icmp .ge 18, 3), (12, .iload_n 1, 1), (13, .aload_n 0, 1), (14, .getfield 18, 3), (17, .iload_n 2, 1)]
theorem DX8_allFades_q0 : ∀ q ∈ TX8_allFades_q0, decode cX8_allFades q.1 = .ok q.2 := dec_wk _ 0 (by decide +kernel)
def TX8_allFades_q1 : List (Nat × Instr × Nat) := [(18, .iaload, 1), (19, .iadd, 1), (20, .istore_n 1, 1), (21, .iinc 2 1, 3), (24, .goto (-20), 3), (27, .iload_n 1, 1), (28, .ireturn, 1)]
theorem DX8_allFades_q1 : ∀ q ∈ TX8_allFades_q1, decode cX8_allFades q.1 = .ok q.2 := dec_wk _ 18 (by decide +kernel)
def TX8_shadow_q0 : List (Nat × Instr × Nat) := [(0, .iconst 0, 1), (1, .istore_n 1, 1), (2, .iconst 0, 1), (3, .istore_n 2, 1), (4, .iload_n 2, 1), (5, .iconst 1, 1), (6, .iadd, 1), (7, .aload_n 0, 1), (8, .getfield 51, 3), (11, .if_icmp .ge 60, 3), (14, .aload_n 0, 1), (15, .getfield 60, 3)]
theorem DX8_shadow_q0 : ∀ q ∈ TX8_shadow_q0, decode cX8_shadow q.1 = .ok q.2 := dec_wk _ 0 (by decide +kernel)
def TX8_shadow_q1 : List (Nat × Instr × Nat) := [(18, .iload_n 2, 1), (19, .invokestatic 95, 3), (22, .iconst 1, 1), (23, .if_icmp .ne 42, 3), (26, .aload_n 0, 1), (27, .getfield 60, 3), (30, .iload_n 2, 1), (31, .iconst 1, 1), (32, .iadd, 1), (33, .invokestatic 95, 3), (36, .iconst 1, 1), (37, .if_icmp .ne 28, 3)]
theorem DX8_shadow_q1 : ∀ q ∈ TX8_shadow_q1, decode cX8_shadow q.1 = .ok q.2 := dec_wk _ 18 (by decide +kernel)
def TX8_shadow_q2 : List (Nat × Instr × Nat) := [(40, .iload_n 1, 1), (41, .iconst (-1), 1), (42, .aload_n 0, 1), (43, .getfield 9, 3), (46, .iload_n 2, 1), (47, .iaload, 1), (48, .ishl, 1), (49, .iconst (-1), 1), (50, .bipush 31, 2), (52, .aload_n 0, 1), (53, .getfield 9, 3), (56, .iload_n 2, 1)]
theorem DX8_shadow_q2 : ∀ q ∈ TX8_shadow_q2, decode cX8_shadow q.1 = .ok q.2 := dec_wk _ 40 (by decide +kernel)
def TX8_shadow_q3 : List (Nat × Instr × Nat) := [(57, .iconst 1, 1), (58, .iadd, 1), (59, .iaload, 1), (60, .isub, 1), (61, .iushr, 1), (62, .iand, 1), (63, .ior, 1), (64, .istore_n 1, 1), (65, .iinc 2 1, 3), (68, .goto (-64), 3), (71, .iload_n 1, 1), (72, .ireturn, 1)]
theorem DX8_shadow_q3 : ∀ q ∈ TX8_shadow_q3, decode cX8_shadow q.1 = .ok q.2 := dec_wk _ 57 (by decide +kernel)
def TX8_shadedChairs_q0 : List (Nat × Instr × Nat) := [(0, .aload_n 0, 1), (1, .getfield 63, 3), (4, .aload_n 0, 1), (5, .invokevirtual 98, 3), (8, .iand, 1), (9, .invokestatic 102, 3), (12, .ireturn, 1)]
theorem DX8_shadedChairs_q0 : ∀ q ∈ TX8_shadedChairs_q0, decode cX8_shadedChairs q.1 = .ok q.2 := dec_wk _ 0 (by decide +kernel)
def TX8_goers_q0 : List (Nat × Instr × Nat) := [(0, .iload_n 1, 1), (1, .istore_n 3, 1), (2, .iload_n 1, 1), (3, .istore 4, 2), (5, .iload 4, 2), (7, .iconst 1, 1), (8, .iadd, 1), (9, .aload_n 0, 1), (10, .getfield 51, 3), (13, .if_icmp .ge 19, 3), (16, .aload_n 0, 1), (17, .iload 4, 2)]
theorem DX8_goers_q0 : ∀ q ∈ TX8_goers_q0, decode cX8_goers q.1 = .ok q.2 := dec_wk _ 0 (by decide +kernel)
def TX8_goers_q1 : List (Nat × Instr × Nat) := [(19, .iload_n 2, 1), (20, .invokevirtual 108, 3), (23, .ifCond .eq 9, 3), (26, .iinc 4 1, 3), (29, .goto (-24), 3), (32, .iload_n 3, 1), (33, .ifCond .le 28, 3), (36, .aload_n 0, 1), (37, .iload_n 3, 1), (38, .iconst 1, 1), (39, .isub, 1), (40, .iload_n 2, 1)]
theorem DX8_goers_q1 : ∀ q ∈ TX8_goers_q1, decode cX8_goers q.1 = .ok q.2 := dec_wk _ 19 (by decide +kernel)
def TX8_goers_q2 : List (Nat × Instr × Nat) := [(41, .ifCond .ne 7, 3), (44, .iconst 1, 1), (45, .goto 4, 3), (48, .iconst 0, 1), (49, .invokevirtual 108, 3), (52, .ifCond .eq 9, 3), (55, .iinc 3 (-1), 3), (58, .goto (-26), 3), (61, .iload_n 3, 1), (62, .istore 5, 2), (64, .iload 5, 2), (66, .iload 4, 2)]
theorem DX8_goers_q2 : ∀ q ∈ TX8_goers_q2, decode cX8_goers q.1 = .ok q.2 := dec_wk _ 41 (by decide +kernel)
def TX8_goers_q3 : List (Nat × Instr × Nat) := [(68, .if_icmp .gt 21, 3), (71, .aload_n 0, 1), (72, .iload 5, 2), (74, .iload_n 2, 1), (75, .invokevirtual 112, 3), (78, .ifCond .eq 5, 3), (81, .iconst 0, 1), (82, .ireturn, 1), (83, .iinc 5 1, 3), (86, .goto (-22), 3), (89, .iconst 1, 1), (90, .iload 4, 2)]
theorem DX8_goers_q3 : ∀ q ∈ TX8_goers_q3, decode cX8_goers q.1 = .ok q.2 := dec_wk _ 68 (by decide +kernel)
def TX8_goers_q4 : List (Nat × Instr × Nat) := [(92, .iconst 1, 1), (93, .iadd, 1), (94, .ishl, 1), (95, .iconst 1, 1), (96, .iload_n 3, 1), (97, .ishl, 1), (98, .isub, 1), (99, .ireturn, 1)]
theorem DX8_goers_q4 : ∀ q ∈ TX8_goers_q4, decode cX8_goers q.1 = .ok q.2 := dec_wk _ 92 (by decide +kernel)
def TX8_goTogether_q0 : List (Nat × Instr × Nat) := [(0, .aload_n 0, 1), (1, .getfield 9, 3), (4, .iload_n 1, 1), (5, .iconst 1, 1), (6, .iadd, 1), (7, .iaload, 1), (8, .aload_n 0, 1), (9, .getfield 9, 3), (12, .iload_n 1, 1), (13, .iaload, 1), (14, .isub, 1), (15, .istore_n 3, 1)]
theorem DX8_goTogether_q0 : ∀ q ∈ TX8_goTogether_q0, decode cX8_goTogether q.1 = .ok q.2 := dec_wk _ 0 (by decide +kernel)
def TX8_goTogether_q1 : List (Nat × Instr × Nat) := [(16, .aload_n 0, 1), (17, .getfield 82, 3), (20, .iload_n 1, 1), (21, .iushr, 1), (22, .iconst 1, 1), (23, .iand, 1), (24, .iconst 1, 1), (25, .if_icmp .eq 27, 3), (28, .iload_n 2, 1), (29, .ifCond .eq 11, 3), (32, .iload_n 3, 1), (33, .iconst 1, 1)]
theorem DX8_goTogether_q1 : ∀ q ∈ TX8_goTogether_q1, decode cX8_goTogether q.1 = .ok q.2 := dec_wk _ 16 (by decide +kernel)
def TX8_goTogether_q2 : List (Nat × Instr × Nat) := [(34, .if_icmp .ne 22, 3), (37, .goto 15, 3), (40, .iload_n 3, 1), (41, .iconst 1, 1), (42, .iadd, 1), (43, .aload_n 0, 1), (44, .getfield 15, 3), (47, .iload_n 1, 1), (48, .iaload, 1), (49, .if_icmp .le 7, 3), (52, .iconst 1, 1), (53, .goto 4, 3)]
theorem DX8_goTogether_q2 : ∀ q ∈ TX8_goTogether_q2, decode cX8_goTogether q.1 = .ok q.2 := dec_wk _ 34 (by decide +kernel)
def TX8_goTogether_q3 : List (Nat × Instr × Nat) := [(56, .iconst 0, 1), (57, .ireturn, 1)]
theorem DX8_goTogether_q3 : ∀ q ∈ TX8_goTogether_q3, decode cX8_goTogether q.1 = .ok q.2 := dec_wk _ 56 (by decide +kernel)
def TX8_isStopped_q0 : List (Nat × Instr × Nat) := [(0, .aload_n 0, 1), (1, .getfield 9, 3), (4, .iload_n 1, 1), (5, .iaload, 1), (6, .iload_n 2, 1), (7, .ifCond .eq 8, 3), (10, .bipush 31, 2), (12, .goto 4, 3), (15, .iconst 0, 1), (16, .if_icmp .ne 5, 3), (19, .iconst 1, 1), (20, .ireturn, 1)]
theorem DX8_isStopped_q0 : ∀ q ∈ TX8_isStopped_q0, decode cX8_isStopped q.1 = .ok q.2 := dec_wk _ 0 (by decide +kernel)
def TX8_isStopped_q1 : List (Nat × Instr × Nat) := [(21, .aload_n 0, 1), (22, .getfield 54, 3), (25, .iload_n 1, 1), (26, .iushr, 1), (27, .iconst 1, 1), (28, .iand, 1), (29, .iconst 1, 1), (30, .if_icmp .ne 33, 3), (33, .aload_n 0, 1), (34, .getfield 9, 3), (37, .iload_n 1, 1), (38, .iaload, 1)]
theorem DX8_isStopped_q1 : ∀ q ∈ TX8_isStopped_q1, decode cX8_isStopped q.1 = .ok q.2 := dec_wk _ 21 (by decide +kernel)
def TX8_isStopped_q2 : List (Nat × Instr × Nat) := [(39, .iload_n 2, 1), (40, .ifCond .eq 12, 3), (43, .aload_n 0, 1), (44, .getfield 31, 3), (47, .iconst 1, 1), (48, .isub, 1), (49, .goto 7, 3), (52, .aload_n 0, 1), (53, .getfield 31, 3), (56, .if_icmp .ne 7, 3), (59, .iconst 1, 1), (60, .goto 4, 3)]
theorem DX8_isStopped_q2 : ∀ q ∈ TX8_isStopped_q2, decode cX8_isStopped q.1 = .ok q.2 := dec_wk _ 39 (by decide +kernel)
def TX8_isStopped_q3 : List (Nat × Instr × Nat) := [(63, .iconst 0, 1), (64, .ireturn, 1)]
theorem DX8_isStopped_q3 : ∀ q ∈ TX8_isStopped_q3, decode cX8_isStopped q.1 = .ok q.2 := dec_wk _ 63 (by decide +kernel)
def TX8_move_q0 : List (Nat × Instr × Nat) := [(0, .iconst 0, 1), (1, .istore 4, 2), (3, .iload 4, 2), (5, .iload_n 3, 1), (6, .if_icmp .ge 100, 3), (9, .aload_n 0, 1), (10, .iload_n 1, 1), (11, .iload_n 2, 1), (12, .invokevirtual 115, 3), (15, .istore 5, 2), (17, .iload 5, 2), (19, .ifCond .ne 6, 3)]
theorem DX8_move_q0 : ∀ q ∈ TX8_move_q0, decode cX8_move q.1 = .ok q.2 := dec_wk _ 0 (by decide +kernel)
def TX8_move_q1 : List (Nat × Instr × Nat) := [(22, .iload 4, 2), (24, .ireturn, 1), (25, .iconst 0, 1), (26, .istore 6, 2), (28, .iload 6, 2), (30, .aload_n 0, 1), (31, .getfield 51, 3), (34, .if_icmp .ge 39, 3), (37, .iload 5, 2), (39, .iload 6, 2), (41, .invokestatic 95, 3), (44, .iconst 1, 1)]
theorem DX8_move_q1 : ∀ q ∈ TX8_move_q1, decode cX8_move q.1 = .ok q.2 := dec_wk _ 22 (by decide +kernel)
def TX8_move_q2 : List (Nat × Instr × Nat) := [(45, .if_icmp .ne 22, 3), (48, .aload_n 0, 1), (49, .getfield 9, 3), (52, .iload 6, 2), (54, .dup2, 1), (55, .iaload, 1), (56, .iload_n 2, 1), (57, .ifCond .eq 7, 3), (60, .iconst 1, 1), (61, .goto 4, 3), (64, .iconst (-1), 1), (65, .iadd, 1)]
theorem DX8_move_q2 : ∀ q ∈ TX8_move_q2, decode cX8_move q.1 = .ok q.2 := dec_wk _ 45 (by decide +kernel)
def TX8_move_q3 : List (Nat × Instr × Nat) := [(66, .iastore, 1), (67, .iinc 6 1, 3), (70, .goto (-42), 3), (73, .aload_n 0, 1), (74, .sipush 9999, 3), (77, .aload_n 0, 1), (78, .getfield 79, 3), (81, .iload 5, 2), (83, .aload_n 0, 1), (84, .getfield 57, 3), (87, .iconst (-1), 1), (88, .ixor, 1)]
theorem DX8_move_q3 : ∀ q ∈ TX8_move_q3, decode cX8_move q.1 = .ok q.2 := dec_wk _ 66 (by decide +kernel)
def TX8_move_q4 : List (Nat × Instr × Nat) := [(89, .iand, 1), (90, .invokestatic 102, 3), (93, .iadd, 1), (94, .invokestatic 85, 3), (97, .putfield 79, 3), (100, .iinc 4 1, 3), (103, .goto (-100), 3), (106, .iload_n 3, 1), (107, .ireturn, 1)]
theorem DX8_move_q4 : ∀ q ∈ TX8_move_q4, decode cX8_move q.1 = .ok q.2 := dec_wk _ 89 (by decide +kernel)
def TX9_init_q0 : List (Nat × Instr × Nat) := [(0, .aload_n 0, 1), (1, .aload_n 1, 1), (2, .bipush 14, 2), (4, .invokespecial 5, 3), (7, .aload_n 0, 1), (8, .aload_n 2, 1), (9, .putfield 11, 3), (12, .return_, 1)]
theorem DX9_init_q0 : ∀ q ∈ TX9_init_q0, decode cX9_init q.1 = .ok q.2 := dec_wk _ 0 (by decide +kernel)
def TX9_readLine_q0 : List (Nat × Instr × Nat) := [(0, .aload_n 0, 1), (1, .getfield 15, 3), (4, .invokevirtual 19, 3), (7, .istore_n 1, 1), (8, .iload_n 1, 1), (9, .invokestatic 25, 3), (12, .ifCond .eq 19, 3), (15, .iload_n 1, 1), (16, .ifCond .ne 17, 3), (19, .aload_n 0, 1), (20, .getfield 11, 3), (23, .getfield 29, 3)]
theorem DX9_readLine_q0 : ∀ q ∈ TX9_readLine_q0, decode cX9_readLine q.1 = .ok q.2 := dec_wk _ 0 (by decide +kernel)
def TX9_readLine_q1 : List (Nat × Instr × Nat) := [(26, .bipush 8, 2), (28, .if_icmp .lt 5, 3), (31, .iconst 0, 1), (32, .ireturn, 1), (33, .aload_n 0, 1), (34, .getfield 15, 3), (37, .invokevirtual 35, 3), (40, .iload_n 1, 1), (41, .ifCond .ne 8, 3), (44, .aload_n 0, 1), (45, .invokevirtual 39, 3), (48, .ireturn, 1)]
theorem DX9_readLine_q1 : ∀ q ∈ TX9_readLine_q1, decode cX9_readLine q.1 = .ok q.2 := dec_wk _ 26 (by decide +kernel)
def TX9_readLine_q2 : List (Nat × Instr × Nat) := [(49, .aload_n 0, 1), (50, .iload_n 1, 1), (51, .invokevirtual 43, 3), (54, .istore_n 2, 1), (55, .iload_n 2, 1), (56, .iconst (-1), 1), (57, .if_icmp .ne 5, 3), (60, .iconst 0, 1), (61, .ireturn, 1), (62, .aload_n 0, 1), (63, .iload_n 1, 1), (64, .iload_n 2, 1)]
theorem DX9_readLine_q2 : ∀ q ∈ TX9_readLine_q2, decode cX9_readLine q.1 = .ok q.2 := dec_wk _ 49 (by decide +kernel)
def TX9_readLine_q3 : List (Nat × Instr × Nat) := [(65, .invokevirtual 47, 3), (68, .iconst 1, 1), (69, .ireturn, 1)]
theorem DX9_readLine_q3 : ∀ q ∈ TX9_readLine_q3, decode cX9_readLine q.1 = .ok q.2 := dec_wk _ 65 (by decide +kernel)
def TX9_beginsLine_q0 : List (Nat × Instr × Nat) := [(0, .iload_n 0, 1), (1, .ifCond .eq 38, 3), (4, .iload_n 0, 1), (5, .bipush 19, 2), (7, .if_icmp .eq 32, 3), (10, .iload_n 0, 1), (11, .bipush 20, 2), (13, .if_icmp .eq 26, 3), (16, .iload_n 0, 1), (17, .bipush 21, 2), (19, .if_icmp .eq 20, 3), (22, .iload_n 0, 1)]
theorem DX9_beginsLine_q0 : ∀ q ∈ TX9_beginsLine_q0, decode cX9_beginsLine q.1 = .ok q.2 := dec_wk _ 0 (by decide +kernel)
def TX9_beginsLine_q1 : List (Nat × Instr × Nat) := [(23, .bipush 22, 2), (25, .if_icmp .eq 14, 3), (28, .iload_n 0, 1), (29, .iconst 5, 1), (30, .if_icmp .eq 9, 3), (33, .iload_n 0, 1), (34, .bipush 6, 2), (36, .if_icmp .ne 7, 3), (39, .iconst 1, 1), (40, .goto 4, 3), (43, .iconst 0, 1), (44, .ireturn, 1)]
theorem DX9_beginsLine_q1 : ∀ q ∈ TX9_beginsLine_q1, decode cX9_beginsLine q.1 = .ok q.2 := dec_wk _ 23 (by decide +kernel)
def TX9_readNumber_q0 : List (Nat × Instr × Nat) := [(0, .iload_n 1, 1)]
theorem DX9_readNumber_q0 : ∀ q ∈ TX9_readNumber_q0, decode cX9_readNumber q.1 = .ok q.2 := dec_wk _ 0 (by decide +kernel)
def TX9_readNumber_q1 : List (Nat × Instr × Nat) := [(1, .lookupswitch 95 #[(5, 72), (6, 83), (19, 43), (21, 61)], 43)]
theorem DX9_readNumber_q1 : ∀ q ∈ TX9_readNumber_q1, decode cX9_readNumber q.1 = .ok q.2 := by decide +kernel
def TX9_readNumber_q2 : List (Nat × Instr × Nat) := [(44, .aload_n 0, 1), (45, .getfield 15, 3), (48, .iconst 0, 1), (49, .aload_n 0, 1), (50, .getfield 11, 3), (53, .getfield 29, 3), (56, .iconst 2, 1), (57, .isub, 1), (58, .invokevirtual 51, 3), (61, .ireturn, 1), (62, .aload_n 0, 1), (63, .getfield 15, 3)]
theorem DX9_readNumber_q2 : ∀ q ∈ TX9_readNumber_q2, decode cX9_readNumber q.1 = .ok q.2 := dec_wk _ 44 (by decide +kernel)
def TX9_readNumber_q3 : List (Nat × Instr × Nat) := [(66, .iconst 1, 1), (67, .bipush 31, 2), (69, .invokevirtual 51, 3), (72, .ireturn, 1), (73, .aload_n 0, 1), (74, .getfield 15, 3), (77, .iconst 0, 1), (78, .bipush 7, 2), (80, .invokevirtual 51, 3), (83, .ireturn, 1), (84, .aload_n 0, 1), (85, .getfield 15, 3)]
theorem DX9_readNumber_q3 : ∀ q ∈ TX9_readNumber_q3, decode cX9_readNumber q.1 = .ok q.2 := dec_wk _ 66 (by decide +kernel)
def TX9_readNumber_q4 : List (Nat × Instr × Nat) := [(88, .iconst 0, 1), (89, .sipush 999, 3), (92, .invokevirtual 51, 3), (95, .ireturn, 1), (96, .aload_n 0, 1), (97, .getfield 15, 3), (100, .iconst 0, 1), (101, .bipush 31, 2), (103, .invokevirtual 51, 3), (106, .ireturn, 1)]
theorem DX9_readNumber_q4 : ∀ q ∈ TX9_readNumber_q4, decode cX9_readNumber q.1 = .ok q.2 := dec_wk _ 88 (by decide +kernel)
def TX9_keepNumber_q0 : List (Nat × Instr × Nat) := [(0, .iload_n 1, 1)]
theorem DX9_keepNumber_q0 : ∀ q ∈ TX9_keepNumber_q0, decode cX9_keepNumber q.1 = .ok q.2 := dec_wk _ 0 (by decide +kernel)
def TX9_keepNumber_q1 : List (Nat × Instr × Nat) := [(1, .lookupswitch 128 #[(5, 117), (19, 51), (20, 73), (21, 95), (22, 106)], 51)]
theorem DX9_keepNumber_q1 : ∀ q ∈ TX9_keepNumber_q1, decode cX9_keepNumber q.1 = .ok q.2 := by decide +kernel
def TX9_keepNumber_q2 : List (Nat × Instr × Nat) := [(52, .aload_n 0, 1), (53, .getfield 11, 3), (56, .aload_n 0, 1), (57, .getfield 11, 3), (60, .getfield 55, 3), (63, .iload_n 2, 1), (64, .iconst 1, 1), (65, .invokestatic 58, 3), (68, .putfield 55, 3), (71, .goto 66, 3), (74, .aload_n 0, 1), (75, .getfield 11, 3)]
theorem DX9_keepNumber_q2 : ∀ q ∈ TX9_keepNumber_q2, decode cX9_keepNumber q.1 = .ok q.2 := dec_wk _ 52 (by decide +kernel)
def TX9_keepNumber_q3 : List (Nat × Instr × Nat) := [(78, .aload_n 0, 1), (79, .getfield 11, 3), (82, .getfield 62, 3), (85, .iload_n 2, 1), (86, .iconst 1, 1), (87, .invokestatic 58, 3), (90, .putfield 62, 3), (93, .goto 44, 3), (96, .aload_n 0, 1), (97, .getfield 11, 3), (100, .iload_n 2, 1), (101, .putfield 65, 3)]
theorem DX9_keepNumber_q3 : ∀ q ∈ TX9_keepNumber_q3, decode cX9_keepNumber q.1 = .ok q.2 := dec_wk _ 78 (by decide +kernel)
def TX9_keepNumber_q4 : List (Nat × Instr × Nat) := [(104, .goto 33, 3), (107, .aload_n 0, 1), (108, .getfield 11, 3), (111, .iload_n 2, 1), (112, .putfield 68, 3), (115, .goto 22, 3), (118, .aload_n 0, 1), (119, .getfield 11, 3), (122, .iload_n 2, 1), (123, .putfield 71, 3), (126, .goto 11, 3), (129, .aload_n 0, 1)]
theorem DX9_keepNumber_q4 : ∀ q ∈ TX9_keepNumber_q4, decode cX9_keepNumber q.1 = .ok q.2 := dec_wk _ 104 (by decide +kernel)
def TX9_keepNumber_q5 : List (Nat × Instr × Nat) := [(130, .getfield 11, 3), (133, .iload_n 2, 1), (134, .putfield 74, 3), (137, .return_, 1)]
theorem DX9_keepNumber_q5 : ∀ q ∈ TX9_keepNumber_q5, decode cX9_keepNumber q.1 = .ok q.2 := dec_wk _ 130 (by decide +kernel)
def TX9_readRing_q0 : List (Nat × Instr × Nat) := [(0, .aload_n 0, 1), (1, .getfield 15, 3), (4, .bipush 17, 2), (6, .invokevirtual 77, 3), (9, .ifCond .ne 5, 3), (12, .iconst 0, 1), (13, .ireturn, 1), (14, .aload_n 0, 1), (15, .getfield 15, 3), (18, .aload_n 0, 1), (19, .getfield 11, 3), (22, .invokevirtual 80, 3)]
theorem DX9_readRing_q0 : ∀ q ∈ TX9_readRing_q0, decode cX9_readRing q.1 = .ok q.2 := dec_wk _ 0 (by decide +kernel)
def TX9_readRing_q1 : List (Nat × Instr × Nat) := [(25, .aload_n 0, 1), (26, .getfield 11, 3), (29, .invokevirtual 83, 3), (32, .invokevirtual 51, 3), (35, .istore_n 1, 1), (36, .iload_n 1, 1), (37, .iconst (-1), 1), (38, .if_icmp .eq 15, 3), (41, .aload_n 0, 1), (42, .getfield 15, 3), (45, .bipush 18, 2), (47, .invokevirtual 77, 3)]
theorem DX9_readRing_q1 : ∀ q ∈ TX9_readRing_q1, decode cX9_readRing q.1 = .ok q.2 := dec_wk _ 25 (by decide +kernel)
def TX9_readRing_q2 : List (Nat × Instr × Nat) := [(50, .ifCond .ne 5, 3), (53, .iconst 0, 1), (54, .ireturn, 1), (55, .aload_n 0, 1), (56, .getfield 15, 3), (59, .iconst 1, 1), (60, .bipush 9, 2), (62, .invokevirtual 51, 3), (65, .istore_n 2, 1), (66, .iload_n 2, 1), (67, .iconst (-1), 1), (68, .if_icmp .ne 5, 3)]
theorem DX9_readRing_q2 : ∀ q ∈ TX9_readRing_q2, decode cX9_readRing q.1 = .ok q.2 := dec_wk _ 50 (by decide +kernel)
def TX9_readRing_q3 : List (Nat × Instr × Nat) := [(71, .iconst 0, 1), (72, .ireturn, 1), (73, .aload_n 0, 1), (74, .getfield 11, 3), (77, .getfield 29, 3), (80, .istore_n 3, 1), (81, .aload_n 0, 1), (82, .getfield 11, 3), (85, .iload_n 1, 1), (86, .iload_n 2, 1), (87, .invokevirtual 86, 3), (90, .aload_n 0, 1)]
theorem DX9_readRing_q3 : ∀ q ∈ TX9_readRing_q3, decode cX9_readRing q.1 = .ok q.2 := dec_wk _ 71 (by decide +kernel)
def TX9_readRing_q4 : List (Nat × Instr × Nat) := [(91, .getfield 11, 3), (94, .aload_n 0, 1), (95, .getfield 11, 3), (98, .getfield 89, 3), (101, .iload_n 3, 1), (102, .aload_n 0, 1), (103, .getfield 15, 3), (106, .bipush 8, 2), (108, .invokevirtual 77, 3), (111, .invokestatic 58, 3), (114, .putfield 89, 3), (117, .aload_n 0, 1)]
theorem DX9_readRing_q4 : ∀ q ∈ TX9_readRing_q4, decode cX9_readRing q.1 = .ok q.2 := dec_wk _ 91 (by decide +kernel)
def TX9_readRing_q5 : List (Nat × Instr × Nat) := [(118, .getfield 11, 3), (121, .aload_n 0, 1), (122, .getfield 11, 3), (125, .getfield 92, 3)]
theorem DX9_readRing_q5 : ∀ q ∈ TX9_readRing_q5, decode cX9_readRing q.1 = .ok q.2 := dec_wk _ 118 (by decide +kernel)
def TX9_readRing_1_q0 : List (Nat × Instr × Nat) := [(128, .iload_n 3, 1), (129, .aload_n 0, 1), (130, .getfield 15, 3), (133, .bipush 7, 2), (135, .invokevirtual 77, 3), (138, .invokestatic 58, 3), (141, .putfield 92, 3), (144, .aload_n 0, 1), (145, .iconst 3, 1), (146, .aload_n 0, 1), (147, .getfield 11, 3), (150, .getfield 95, 3)]
theorem DX9_readRing_1_q0 : ∀ q ∈ TX9_readRing_1_q0, decode cX9_readRing q.1 = .ok q.2 := dec_wk _ 128 (by decide +kernel)
def TX9_readRing_1_q1 : List (Nat × Instr × Nat) := [(153, .iload_n 3, 1), (154, .bipush 99, 2), (156, .invokevirtual 99, 3), (159, .ifCond .eq 25, 3), (162, .aload_n 0, 1), (163, .iconst 4, 1), (164, .aload_n 0, 1), (165, .getfield 11, 3), (168, .getfield 103, 3), (171, .iload_n 3, 1), (172, .bipush 9, 2), (174, .invokevirtual 99, 3)]
theorem DX9_readRing_1_q1 : ∀ q ∈ TX9_readRing_1_q1, decode cX9_readRing q.1 = .ok q.2 := dec_wk _ 153 (by decide +kernel)
def TX9_readRing_1_q2 : List (Nat × Instr × Nat) := [(177, .ifCond .eq 7, 3), (180, .iconst 1, 1), (181, .goto 4, 3), (184, .iconst 0, 1), (185, .ireturn, 1)]
theorem DX9_readRing_1_q2 : ∀ q ∈ TX9_readRing_1_q2, decode cX9_readRing q.1 = .ok q.2 := dec_wk _ 177 (by decide +kernel)
def TX9_readMore_q0 : List (Nat × Instr × Nat) := [(0, .iload_n 3, 1), (1, .aload_n 2, 1), (2, .arraylength, 1), (3, .if_icmp .ge 14, 3), (6, .aload_n 0, 1), (7, .getfield 15, 3), (10, .iload_n 1, 1), (11, .invokevirtual 77, 3), (14, .ifCond .ne 5, 3), (17, .iconst 1, 1), (18, .ireturn, 1), (19, .aload_n 0, 1)]
theorem DX9_readMore_q0 : ∀ q ∈ TX9_readMore_q0, decode cX9_readMore q.1 = .ok q.2 := dec_wk _ 0 (by decide +kernel)
def TX9_readMore_q1 : List (Nat × Instr × Nat) := [(20, .getfield 15, 3), (23, .iconst 0, 1), (24, .iload 4, 2), (26, .invokevirtual 51, 3), (29, .istore 5, 2), (31, .aload_n 2, 1), (32, .iload_n 3, 1), (33, .iload 5, 2), (35, .iastore, 1), (36, .iload 5, 2), (38, .iconst (-1), 1), (39, .if_icmp .eq 7, 3)]
theorem DX9_readMore_q1 : ∀ q ∈ TX9_readMore_q1, decode cX9_readMore q.1 = .ok q.2 := dec_wk _ 20 (by decide +kernel)
def TX9_readMore_q2 : List (Nat × Instr × Nat) := [(42, .iconst 1, 1), (43, .goto 4, 3), (46, .iconst 0, 1), (47, .ireturn, 1)]
theorem DX9_readMore_q2 : ∀ q ∈ TX9_readMore_q2, decode cX9_readMore q.1 = .ok q.2 := dec_wk _ 42 (by decide +kernel)
def TX10_init_q0 : List (Nat × Instr × Nat) := [(0, .aload_n 0, 1), (1, .invokespecial 3, 3), (4, .aload_n 0, 1), (5, .sipush 400, 3), (8, .newarray .byte, 2), (10, .putfield 9, 3), (13, .aload_n 0, 1), (14, .sipush 400, 3), (17, .newarray .int, 2), (19, .putfield 15, 3), (22, .aload_n 0, 1), (23, .sipush 400, 3)]
theorem DX10_init_q0 : ∀ q ∈ TX10_init_q0, decode cX10_init q.1 = .ok q.2 := dec_wk _ 0 (by decide +kernel)
def TX10_init_q1 : List (Nat × Instr × Nat) := [(26, .newarray .int, 2), (28, .putfield 19, 3), (31, .aload_n 0, 1), (32, .sipush 400, 3), (35, .newarray .int, 2), (37, .putfield 22, 3), (40, .return_, 1)]
theorem DX10_init_q1 : ∀ q ∈ TX10_init_q1, decode cX10_init q.1 = .ok q.2 := dec_wk _ 26 (by decide +kernel)
def TX10_hasRoom_q0 : List (Nat × Instr × Nat) := [(0, .aload_n 0, 1), (1, .getfield 25, 3), (4, .bipush 20, 2), (6, .iadd, 1), (7, .sipush 400, 3), (10, .if_icmp .gt 7, 3), (13, .iconst 1, 1), (14, .goto 4, 3), (17, .iconst 0, 1), (18, .ireturn, 1)]
theorem DX10_hasRoom_q0 : ∀ q ∈ TX10_hasRoom_q0, decode cX10_hasRoom q.1 = .ok q.2 := dec_wk _ 0 (by decide +kernel)
def TX10_put_q0 : List (Nat × Instr × Nat) := [(0, .bipush 24, 2), (2, .istore_n 2, 1), (3, .iload_n 2, 1), (4, .ifCond .lt 42, 3), (7, .aload_n 0, 1), (8, .getfield 25, 3), (11, .sipush 400, 3), (14, .if_icmp .ge 32, 3), (17, .aload_n 0, 1), (18, .getfield 9, 3), (21, .aload_n 0, 1), (22, .getfield 25, 3)]
theorem DX10_put_q0 : ∀ q ∈ TX10_put_q0, decode cX10_put q.1 = .ok q.2 := dec_wk _ 0 (by decide +kernel)
def TX10_put_q1 : List (Nat × Instr × Nat) := [(25, .iload_n 1, 1), (26, .iload_n 2, 1), (27, .iushr, 1), (28, .i2b, 1), (29, .bastore, 1), (30, .aload_n 0, 1), (31, .dup, 1), (32, .getfield 25, 3), (35, .iconst 1, 1), (36, .iadd, 1), (37, .putfield 25, 3), (40, .iinc 2 (-8), 3)]
theorem DX10_put_q1 : ∀ q ∈ TX10_put_q1, decode cX10_put q.1 = .ok q.2 := dec_wk _ 25 (by decide +kernel)
def TX10_put_q2 : List (Nat × Instr × Nat) := [(43, .goto (-40), 3), (46, .return_, 1)]
theorem DX10_put_q2 : ∀ q ∈ TX10_put_q2, decode cX10_put q.1 = .ok q.2 := dec_wk _ 43 (by decide +kernel)
def TX10_at_q0 : List (Nat × Instr × Nat) := [(0, .iload_n 1, 1), (1, .ifCond .lt 18, 3), (4, .iload_n 1, 1), (5, .aload_n 0, 1), (6, .getfield 25, 3), (9, .if_icmp .ge 10, 3), (12, .iload_n 1, 1), (13, .sipush 400, 3), (16, .if_icmp .lt 7, 3), (19, .iconst (-1), 1), (20, .goto 13, 3), (23, .aload_n 0, 1)]
theorem DX10_at_q0 : ∀ q ∈ TX10_at_q0, decode cX10_at q.1 = .ok q.2 := dec_wk _ 0 (by decide +kernel)
def TX10_at_q1 : List (Nat × Instr × Nat) := [(24, .getfield 9, 3), (27, .iload_n 1, 1), (28, .baload, 1), (29, .sipush 255, 3), (32, .iand, 1), (33, .ireturn, 1)]
theorem DX10_at_q1 : ∀ q ∈ TX10_at_q1, decode cX10_at q.1 = .ok q.2 := dec_wk _ 24 (by decide +kernel)
end
