section
def TX12_sumOf_q0 : List (Nat × Instr × Nat) := [(0, .iconst 0, 1), (1, .istore_n 3, 1), (2, .iconst 0, 1), (3, .istore 4, 2), (5, .iload 4, 2), (7, .aload_n 0, 1), (8, .getfield 13, 3), (11, .sipush 435, 3), (14, .iaload, 1), (15, .if_icmp .ge 54, 3), (18, .aload_n 0, 1), (19, .getfield 13, 3)]
theorem DX12_sumOf_q0 : ∀ q ∈ TX12_sumOf_q0, decode cX12_sumOf q.1 = .ok q.2 := dec_wk _ 0 (by decide +kernel)
def TX12_sumOf_q1 : List (Nat × Instr × Nat) := [(22, .sipush 436, 3), (25, .iconst 4, 1), (26, .iload 4, 2), (28, .imul, 1), (29, .iadd, 1), (30, .iaload, 1), (31, .iload_n 1, 1), (32, .if_icmp .ne 31, 3), (35, .aload_n 0, 1), (36, .iload 4, 2), (38, .iload_n 2, 1), (39, .invokevirtual 264, 3)]
theorem DX12_sumOf_q1 : ∀ q ∈ TX12_sumOf_q1, decode cX12_sumOf q.1 = .ok q.2 := dec_wk _ 22 (by decide +kernel)
def TX12_sumOf_q2 : List (Nat × Instr × Nat) := [(42, .ifCond .eq 21, 3), (45, .iload_n 3, 1), (46, .aload_n 0, 1), (47, .getfield 13, 3), (50, .sipush 436, 3), (53, .iconst 4, 1), (54, .iload 4, 2), (56, .imul, 1), (57, .iadd, 1), (58, .iconst 1, 1), (59, .iadd, 1), (60, .iaload, 1)]
theorem DX12_sumOf_q2 : ∀ q ∈ TX12_sumOf_q2, decode cX12_sumOf q.1 = .ok q.2 := dec_wk _ 42 (by decide +kernel)
def TX12_sumOf_q3 : List (Nat × Instr × Nat) := [(61, .iadd, 1), (62, .istore_n 3, 1), (63, .iinc 4 1, 3), (66, .goto (-61), 3), (69, .iload_n 3, 1), (70, .ireturn, 1)]
theorem DX12_sumOf_q3 : ∀ q ∈ TX12_sumOf_q3, decode cX12_sumOf q.1 = .ok q.2 := dec_wk _ 61 (by decide +kernel)
def TX12_byLaw_q0 : List (Nat × Instr × Nat) := [(0, .aload_n 0, 1), (1, .getfield 13, 3), (4, .iconst 2, 1), (5, .iaload, 1), (6, .iconst 1, 1), (7, .if_icmp .ne 10, 3), (10, .aload_n 0, 1), (11, .iload_n 1, 1), (12, .iload_n 2, 1), (13, .invokevirtual 267, 3), (16, .ireturn, 1), (17, .iload_n 1, 1)]
theorem DX12_byLaw_q0 : ∀ q ∈ TX12_byLaw_q0, decode cX12_byLaw q.1 = .ok q.2 := dec_wk _ 0 (by decide +kernel)
def TX12_byLaw_q1 : List (Nat × Instr × Nat) := [(18, .ifCond .ne 25, 3), (21, .aload_n 0, 1), (22, .iload_n 2, 1), (23, .aload_n 0, 1), (24, .getfield 13, 3), (27, .iconst 3, 1), (28, .iaload, 1), (29, .invokevirtual 257, 3), (32, .ifCond .eq 7, 3), (35, .iconst 1, 1), (36, .goto 18, 3), (39, .iconst 0, 1)]
theorem DX12_byLaw_q1 : ∀ q ∈ TX12_byLaw_q1, decode cX12_byLaw q.1 = .ok q.2 := dec_wk _ 18 (by decide +kernel)
def TX12_byLaw_q2 : List (Nat × Instr × Nat) := [(40, .goto 14, 3), (43, .iload_n 1, 1), (44, .iconst 1, 1), (45, .if_icmp .ne 8, 3), (48, .bipush 10, 2), (50, .goto 4, 3), (53, .iconst 0, 1), (54, .ireturn, 1)]
theorem DX12_byLaw_q2 : ∀ q ∈ TX12_byLaw_q2, decode cX12_byLaw q.1 = .ok q.2 := dec_wk _ 40 (by decide +kernel)
def TX12_fadesOfAll_q0 : List (Nat × Instr × Nat) := [(0, .iconst 0, 1), (1, .istore_n 1, 1), (2, .iconst 0, 1), (3, .istore_n 2, 1), (4, .iload_n 2, 1), (5, .aload_n 0, 1), (6, .invokevirtual 59, 3), (9, .if_icmp .ge 18, 3), (12, .iload_n 1, 1), (13, .aload_n 0, 1), (14, .iload_n 2, 1), (15, .iconst 4, 1)]
theorem DX12_fadesOfAll_q0 : ∀ q ∈ TX12_fadesOfAll_q0, decode cX12_fadesOfAll q.1 = .ok q.2 := dec_wk _ 0 (by decide +kernel)
def TX12_fadesOfAll_q1 : List (Nat × Instr × Nat) := [(16, .invokevirtual 67, 3), (19, .iadd, 1), (20, .istore_n 1, 1), (21, .iinc 2 1, 3), (24, .goto (-20), 3), (27, .iload_n 1, 1), (28, .ireturn, 1)]
theorem DX12_fadesOfAll_q1 : ∀ q ∈ TX12_fadesOfAll_q1, decode cX12_fadesOfAll q.1 = .ok q.2 := dec_wk _ 16 (by decide +kernel)
def TX12_shareOf_q0 : List (Nat × Instr × Nat) := [(0, .aload_n 0, 1), (1, .invokevirtual 270, 3), (4, .istore_n 2, 1), (5, .iload_n 2, 1), (6, .ifCond .ne 7, 3), (9, .iconst 0, 1), (10, .goto 14, 3), (13, .bipush 100, 2), (15, .aload_n 0, 1), (16, .iload_n 1, 1), (17, .iconst 4, 1), (18, .invokevirtual 67, 3)]
theorem DX12_shareOf_q0 : ∀ q ∈ TX12_shareOf_q0, decode cX12_shareOf q.1 = .ok q.2 := dec_wk _ 0 (by decide +kernel)
def TX12_shareOf_q1 : List (Nat × Instr × Nat) := [(21, .imul, 1), (22, .iload_n 2, 1), (23, .idiv, 1), (24, .ireturn, 1)]
theorem DX12_shareOf_q1 : ∀ q ∈ TX12_shareOf_q1, decode cX12_shareOf q.1 = .ok q.2 := dec_wk _ 21 (by decide +kernel)
def TX12_hangsOn_q0 : List (Nat × Instr × Nat) := [(0, .aload_n 0, 1), (1, .iload_n 1, 1), (2, .bipush 6, 2), (4, .invokevirtual 73, 3), (7, .ifCond .eq 5, 3), (10, .iload_n 1, 1), (11, .ireturn, 1), (12, .iconst (-1), 1), (13, .istore_n 2, 1), (14, .ldc_w 273, 3), (17, .istore_n 3, 1), (18, .iconst 0, 1)]
theorem DX12_hangsOn_q0 : ∀ q ∈ TX12_hangsOn_q0, decode cX12_hangsOn q.1 = .ok q.2 := dec_wk _ 0 (by decide +kernel)
def TX12_hangsOn_q1 : List (Nat × Instr × Nat) := [(19, .istore 4, 2), (21, .iload 4, 2), (23, .aload_n 0, 1), (24, .invokevirtual 59, 3), (27, .if_icmp .ge 65, 3), (30, .aload_n 0, 1), (31, .iload 4, 2), (33, .bipush 6, 2), (35, .invokevirtual 73, 3), (38, .ifCond .eq 23, 3), (41, .aload_n 0, 1), (42, .iload 4, 2)]
theorem DX12_hangsOn_q1 : ∀ q ∈ TX12_hangsOn_q1, decode cX12_hangsOn q.1 = .ok q.2 := dec_wk _ 19 (by decide +kernel)
def TX12_hangsOn_q2 : List (Nat × Instr × Nat) := [(44, .iconst 0, 1), (45, .invokevirtual 67, 3), (48, .aload_n 0, 1), (49, .iload_n 1, 1), (50, .iconst 0, 1), (51, .invokevirtual 67, 3), (54, .isub, 1), (55, .invokestatic 274, 3), (58, .goto 6, 3), (61, .ldc_w 273, 3), (64, .istore 5, 2), (66, .iload 5, 2)]
theorem DX12_hangsOn_q2 : ∀ q ∈ TX12_hangsOn_q2, decode cX12_hangsOn q.1 = .ok q.2 := dec_wk _ 44 (by decide +kernel)
def TX12_hangsOn_q3 : List (Nat × Instr × Nat) := [(68, .iload_n 3, 1), (69, .if_icmp .ge 8, 3), (72, .iload 4, 2), (74, .goto 4, 3), (77, .iload_n 2, 1), (78, .istore_n 2, 1), (79, .iload_n 3, 1), (80, .iload 5, 2), (82, .invokestatic 119, 3), (85, .istore_n 3, 1), (86, .iinc 4 1, 3), (89, .goto (-68), 3)]
theorem DX12_hangsOn_q3 : ∀ q ∈ TX12_hangsOn_q3, decode cX12_hangsOn q.1 = .ok q.2 := dec_wk _ 68 (by decide +kernel)
def TX12_hangsOn_q4 : List (Nat × Instr × Nat) := [(92, .iload_n 2, 1), (93, .ireturn, 1)]
theorem DX12_hangsOn_q4 : ∀ q ∈ TX12_hangsOn_q4, decode cX12_hangsOn q.1 = .ok q.2 := dec_wk _ 92 (by decide +kernel)
def TX12_ring_q0 : List (Nat × Instr × Nat) := [(0, .aload_n 0, 1), (1, .iconst 0, 1), (2, .putfield 3, 3), (5, .aload_n 0, 1), (6, .aload_n 0, 1), (7, .iload_n 1, 1), (8, .invokevirtual 277, 3), (11, .iconst 1, 1), (12, .invokevirtual 250, 3), (15, .ifCond .ne 26, 3), (18, .aload_n 0, 1), (19, .iload_n 2, 1)]
theorem DX12_ring_q0 : ∀ q ∈ TX12_ring_q0, decode cX12_ring q.1 = .ok q.2 := dec_wk _ 0 (by decide +kernel)
def TX12_ring_q1 : List (Nat × Instr × Nat) := [(20, .iconst 0, 1), (21, .bipush 13, 2), (23, .invokestatic 77, 3), (26, .ifCond .ne 7, 3), (29, .iconst 1, 1), (30, .goto 4, 3), (33, .iconst 0, 1), (34, .iconst 2, 1), (35, .invokevirtual 250, 3), (38, .ifCond .eq 5, 3), (41, .iconst 0, 1), (42, .ireturn, 1)]
theorem DX12_ring_q1 : ∀ q ∈ TX12_ring_q1, decode cX12_ring q.1 = .ok q.2 := dec_wk _ 20 (by decide +kernel)
def TX12_ring_q2 : List (Nat × Instr × Nat) := [(43, .iload_n 2, 1)]
theorem DX12_ring_q2 : ∀ q ∈ TX12_ring_q2, decode cX12_ring q.1 = .ok q.2 := dec_wk _ 43 (by decide +kernel)
def TX12_ring_q3 : List (Nat × Instr × Nat) := [(44, .tableswitch 91 8 13 #[40, 58, 65, 72, 79, 85], 40)]
theorem DX12_ring_q3 : ∀ q ∈ TX12_ring_q3, decode cX12_ring q.1 = .ok q.2 := by decide +kernel
def TX12_ring_q4 : List (Nat × Instr × Nat) := [(84, .iload_n 1, 1), (85, .aload_n 0, 1), (86, .invokevirtual 70, 3), (89, .if_icmp .ne 7, 3), (92, .iconst (-1), 1), (93, .goto 8, 3), (96, .aload_n 0, 1), (97, .iload_n 1, 1), (98, .invokevirtual 253, 3), (101, .ireturn, 1), (102, .aload_n 0, 1), (103, .iconst 0, 1)]
theorem DX12_ring_q4 : ∀ q ∈ TX12_ring_q4, decode cX12_ring q.1 = .ok q.2 := dec_wk _ 84 (by decide +kernel)
def TX12_ring_q5 : List (Nat × Instr × Nat) := [(104, .iload_n 1, 1), (105, .invokevirtual 280, 3), (108, .ireturn, 1), (109, .aload_n 0, 1), (110, .iconst 1, 1), (111, .iload_n 1, 1), (112, .invokevirtual 280, 3), (115, .ireturn, 1), (116, .aload_n 0, 1), (117, .iconst 2, 1), (118, .iload_n 1, 1), (119, .invokevirtual 280, 3)]
theorem DX12_ring_q5 : ∀ q ∈ TX12_ring_q5, decode cX12_ring q.1 = .ok q.2 := dec_wk _ 104 (by decide +kernel)
def TX12_ring_q6 : List (Nat × Instr × Nat) := [(122, .ireturn, 1), (123, .aload_n 0, 1), (124, .iload_n 1, 1), (125, .invokevirtual 283, 3), (128, .ireturn, 1), (129, .aload_n 0, 1), (130, .iload_n 1, 1), (131, .invokevirtual 286, 3), (134, .ireturn, 1), (135, .aload_n 0, 1), (136, .iload_n 1, 1), (137, .iload_n 2, 1)]
theorem DX12_ring_q6 : ∀ q ∈ TX12_ring_q6, decode cX12_ring q.1 = .ok q.2 := dec_wk _ 122 (by decide +kernel)
def TX12_ring_q7 : List (Nat × Instr × Nat) := [(138, .invokevirtual 67, 3), (141, .ireturn, 1)]
theorem DX12_ring_q7 : ∀ q ∈ TX12_ring_q7, decode cX12_ring q.1 = .ok q.2 := dec_wk _ 138 (by decide +kernel)
def TX12_takesAlong_q0 : List (Nat × Instr × Nat) := [(0, .iload_n 1, 1), (1, .iload_n 2, 1), (2, .invokestatic 119, 3), (5, .istore 4, 2), (7, .aload_n 0, 1), (8, .iload 4, 2), (10, .bipush 7, 2), (12, .invokevirtual 73, 3), (15, .ifCond .eq 5, 3), (18, .iconst 1, 1), (19, .ireturn, 1), (20, .iload_n 2, 1)]
theorem DX12_takesAlong_q0 : ∀ q ∈ TX12_takesAlong_q0, decode cX12_takesAlong q.1 = .ok q.2 := dec_wk _ 0 (by decide +kernel)
def TX12_takesAlong_q1 : List (Nat × Instr × Nat) := [(21, .iload_n 1, 1), (22, .if_icmp .le 7, 3), (25, .iconst 1, 1), (26, .goto 4, 3), (29, .iconst 0, 1), (30, .iload_n 3, 1), (31, .if_icmp .ne 21, 3), (34, .aload_n 0, 1), (35, .iload 4, 2), (37, .invokevirtual 253, 3), (40, .iconst 1, 1), (41, .if_icmp .ne 7, 3)]
theorem DX12_takesAlong_q1 : ∀ q ∈ TX12_takesAlong_q1, decode cX12_takesAlong q.1 = .ok q.2 := dec_wk _ 21 (by decide +kernel)
def TX12_takesAlong_q2 : List (Nat × Instr × Nat) := [(44, .iconst 1, 1), (45, .goto 28, 3), (48, .iconst 0, 1), (49, .goto 24, 3), (52, .aload_n 0, 1), (53, .iload 4, 2), (55, .invokevirtual 253, 3), (58, .aload_n 0, 1), (59, .iload 4, 2), (61, .iconst 1, 1), (62, .invokevirtual 67, 3), (65, .if_icmp .lt 7, 3)]
theorem DX12_takesAlong_q2 : ∀ q ∈ TX12_takesAlong_q2, decode cX12_takesAlong q.1 = .ok q.2 := dec_wk _ 44 (by decide +kernel)
def TX12_takesAlong_q3 : List (Nat × Instr × Nat) := [(68, .iconst 1, 1), (69, .goto 4, 3), (72, .iconst 0, 1), (73, .ireturn, 1)]
theorem DX12_takesAlong_q3 : ∀ q ∈ TX12_takesAlong_q3, decode cX12_takesAlong q.1 = .ok q.2 := dec_wk _ 68 (by decide +kernel)
def TX12_allWith_q0 : List (Nat × Instr × Nat) := [(0, .iconst 1, 1), (1, .iload_n 1, 1), (2, .ishl, 1), (3, .istore_n 3, 1), (4, .iconst 0, 1), (5, .istore 4, 2), (7, .iload 4, 2), (9, .bipush 8, 2), (11, .if_icmp .ge 107, 3), (14, .iconst 0, 1), (15, .istore 5, 2), (17, .iload 5, 2)]
theorem DX12_allWith_q0 : ∀ q ∈ TX12_allWith_q0, decode cX12_allWith q.1 = .ok q.2 := dec_wk _ 0 (by decide +kernel)
def TX12_allWith_q1 : List (Nat × Instr × Nat) := [(19, .aload_n 0, 1), (20, .invokevirtual 59, 3), (23, .if_icmp .ge 89, 3), (26, .iload_n 3, 1), (27, .iload 5, 2), (29, .invokestatic 289, 3), (32, .ifCond .ne 6, 3), (35, .goto 71, 3), (38, .iload_n 3, 1), (39, .iload 5, 2), (41, .aload_n 0, 1), (42, .invokevirtual 70, 3)]
theorem DX12_allWith_q1 : ∀ q ∈ TX12_allWith_q1, decode cX12_allWith q.1 = .ok q.2 := dec_wk _ 19 (by decide +kernel)
def TX12_allWith_q2 : List (Nat × Instr × Nat) := [(45, .if_icmp .ge 26, 3), (48, .aload_n 0, 1), (49, .iload 5, 2), (51, .iload 5, 2), (53, .iconst 1, 1), (54, .iadd, 1), (55, .iload_n 2, 1), (56, .invokevirtual 292, 3), (59, .ifCond .eq 12, 3), (62, .iconst 1, 1), (63, .iload 5, 2), (65, .iconst 1, 1)]
theorem DX12_allWith_q2 : ∀ q ∈ TX12_allWith_q2, decode cX12_allWith q.1 = .ok q.2 := dec_wk _ 45 (by decide +kernel)
def TX12_allWith_q3 : List (Nat × Instr × Nat) := [(66, .iadd, 1), (67, .ishl, 1), (68, .goto 4, 3), (71, .iconst 0, 1), (72, .ior, 1), (73, .istore_n 3, 1), (74, .iload_n 3, 1), (75, .iload 5, 2), (77, .ifCond .le 26, 3), (80, .aload_n 0, 1), (81, .iload 5, 2), (83, .iload 5, 2)]
theorem DX12_allWith_q3 : ∀ q ∈ TX12_allWith_q3, decode cX12_allWith q.1 = .ok q.2 := dec_wk _ 66 (by decide +kernel)
def TX12_allWith_q4 : List (Nat × Instr × Nat) := [(85, .iconst 1, 1), (86, .isub, 1), (87, .iload_n 2, 1), (88, .invokevirtual 292, 3), (91, .ifCond .eq 12, 3), (94, .iconst 1, 1), (95, .iload 5, 2), (97, .iconst 1, 1), (98, .isub, 1), (99, .ishl, 1), (100, .goto 4, 3), (103, .iconst 0, 1)]
theorem DX12_allWith_q4 : ∀ q ∈ TX12_allWith_q4, decode cX12_allWith q.1 = .ok q.2 := dec_wk _ 85 (by decide +kernel)
def TX12_allWith_q5 : List (Nat × Instr × Nat) := [(104, .ior, 1), (105, .istore_n 3, 1), (106, .iinc 5 1, 3), (109, .goto (-92), 3)]
theorem DX12_allWith_q5 : ∀ q ∈ TX12_allWith_q5, decode cX12_allWith q.1 = .ok q.2 := dec_wk _ 104 (by decide +kernel)
def TX12_allWith_1_q0 : List (Nat × Instr × Nat) := [(112, .iinc 4 1, 3), (115, .goto (-108), 3), (118, .iload_n 3, 1), (119, .ireturn, 1)]
theorem DX12_allWith_1_q0 : ∀ q ∈ TX12_allWith_1_q0, decode cX12_allWith q.1 = .ok q.2 := dec_wk _ 112 (by decide +kernel)
def TX12_mayGo_q0 : List (Nat × Instr × Nat) := [(0, .aload_n 0, 1), (1, .iload_n 1, 1), (2, .iconst 0, 1), (3, .invokevirtual 67, 3), (6, .istore_n 3, 1), (7, .iload_n 2, 1), (8, .ifCond .eq 9, 3), (11, .iload_n 3, 1), (12, .iconst 1, 1), (13, .iadd, 1), (14, .goto 6, 3), (17, .iload_n 3, 1)]
theorem DX12_mayGo_q0 : ∀ q ∈ TX12_mayGo_q0, decode cX12_mayGo q.1 = .ok q.2 := dec_wk _ 0 (by decide +kernel)
def TX12_mayGo_q1 : List (Nat × Instr × Nat) := [(18, .iconst 1, 1), (19, .isub, 1), (20, .invokestatic 296, 3), (23, .ifCond .eq 5, 3), (26, .iconst 0, 1), (27, .ireturn, 1), (28, .aload_n 0, 1), (29, .iload_n 1, 1), (30, .iconst 2, 1), (31, .invokevirtual 73, 3), (34, .ifCond .eq 23, 3), (37, .iload_n 2, 1)]
theorem DX12_mayGo_q1 : ∀ q ∈ TX12_mayGo_q1, decode cX12_mayGo q.1 = .ok q.2 := dec_wk _ 18 (by decide +kernel)
def TX12_mayGo_q2 : List (Nat × Instr × Nat) := [(38, .ifCond .eq 9, 3), (41, .iload_n 3, 1), (42, .iconst 1, 1), (43, .iadd, 1), (44, .goto 4, 3), (47, .iload_n 3, 1), (48, .aload_n 0, 1), (49, .getfield 13, 3), (52, .iconst 5, 1), (53, .iaload, 1), (54, .if_icmp .eq 7, 3), (57, .iconst 1, 1)]
theorem DX12_mayGo_q2 : ∀ q ∈ TX12_mayGo_q2, decode cX12_mayGo q.1 = .ok q.2 := dec_wk _ 38 (by decide +kernel)
def TX12_mayGo_q3 : List (Nat × Instr × Nat) := [(58, .goto 4, 3), (61, .iconst 0, 1), (62, .ireturn, 1)]
theorem DX12_mayGo_q3 : ∀ q ∈ TX12_mayGo_q3, decode cX12_mayGo q.1 = .ok q.2 := dec_wk _ 58 (by decide +kernel)
def TX12_goingBy_q0 : List (Nat × Instr × Nat) := [(0, .aload_n 0, 1), (1, .iload_n 1, 1), (2, .iload_n 2, 1), (3, .invokevirtual 299, 3), (6, .istore_n 3, 1), (7, .iconst 1, 1), (8, .istore 4, 2), (10, .iconst 0, 1), (11, .istore 5, 2), (13, .iload 5, 2), (15, .aload_n 0, 1), (16, .invokevirtual 59, 3)]
theorem DX12_goingBy_q0 : ∀ q ∈ TX12_goingBy_q0, decode cX12_goingBy q.1 = .ok q.2 := dec_wk _ 0 (by decide +kernel)
def TX12_goingBy_q1 : List (Nat × Instr × Nat) := [(19, .if_icmp .ge 40, 3), (22, .iload 4, 2), (24, .ifCond .eq 26, 3), (27, .iload_n 3, 1), (28, .iload 5, 2), (30, .invokestatic 289, 3), (33, .ifCond .eq 13, 3), (36, .aload_n 0, 1), (37, .iload 5, 2), (39, .iload_n 2, 1), (40, .invokevirtual 303, 3), (43, .ifCond .eq 7, 3)]
theorem DX12_goingBy_q1 : ∀ q ∈ TX12_goingBy_q1, decode cX12_goingBy q.1 = .ok q.2 := dec_wk _ 19 (by decide +kernel)
def TX12_goingBy_q2 : List (Nat × Instr × Nat) := [(46, .iconst 1, 1), (47, .goto 4, 3), (50, .iconst 0, 1), (51, .istore 4, 2), (53, .iinc 5 1, 3), (56, .goto (-43), 3), (59, .iload 4, 2), (61, .ifCond .eq 7, 3), (64, .iload_n 3, 1), (65, .goto 4, 3), (68, .iconst 0, 1), (69, .ireturn, 1)]
theorem DX12_goingBy_q2 : ∀ q ∈ TX12_goingBy_q2, decode cX12_goingBy q.1 = .ok q.2 := dec_wk _ 46 (by decide +kernel)
def TX12_goesOne_q0 : List (Nat × Instr × Nat) := [(0, .aload_n 0, 1), (1, .iload_n 1, 1), (2, .iload_n 2, 1), (3, .invokevirtual 307, 3), (6, .istore_n 3, 1), (7, .iconst 0, 1), (8, .istore 4, 2), (10, .iload 4, 2), (12, .aload_n 0, 1), (13, .invokevirtual 59, 3), (16, .if_icmp .ge 68, 3), (19, .iload_n 3, 1)]
theorem DX12_goesOne_q0 : ∀ q ∈ TX12_goesOne_q0, decode cX12_goesOne q.1 = .ok q.2 := dec_wk _ 0 (by decide +kernel)
def TX12_goesOne_q1 : List (Nat × Instr × Nat) := [(20, .iload 4, 2), (22, .invokestatic 289, 3), (25, .ifCond .ne 6, 3), (28, .goto 50, 3), (31, .aload_n 0, 1), (32, .getfield 13, 3), (35, .iload 4, 2), (37, .iconst 0, 1), (38, .invokestatic 63, 3), (41, .dup2, 1), (42, .iaload, 1), (43, .iload_n 2, 1)]
theorem DX12_goesOne_q1 : ∀ q ∈ TX12_goesOne_q1, decode cX12_goesOne q.1 = .ok q.2 := dec_wk _ 20 (by decide +kernel)
def TX12_goesOne_q2 : List (Nat × Instr × Nat) := [(44, .ifCond .eq 7, 3), (47, .iconst 1, 1), (48, .goto 4, 3), (51, .iconst (-1), 1), (52, .iadd, 1), (53, .iastore, 1), (54, .aload_n 0, 1), (55, .dup, 1), (56, .getfield 310, 3), (59, .aload_n 0, 1), (60, .iload 4, 2), (62, .iconst 3, 1)]
theorem DX12_goesOne_q2 : ∀ q ∈ TX12_goesOne_q2, decode cX12_goesOne q.1 = .ok q.2 := dec_wk _ 44 (by decide +kernel)
def TX12_goesOne_q3 : List (Nat × Instr × Nat) := [(63, .invokevirtual 73, 3), (66, .ifCond .eq 7, 3), (69, .iconst 0, 1), (70, .goto 4, 3), (73, .iconst 1, 1), (74, .iadd, 1), (75, .putfield 310, 3), (78, .iinc 4 1, 3), (81, .goto (-71), 3), (84, .iload_n 3, 1), (85, .ifCond .eq 7, 3), (88, .iconst 1, 1)]
theorem DX12_goesOne_q3 : ∀ q ∈ TX12_goesOne_q3, decode cX12_goesOne q.1 = .ok q.2 := dec_wk _ 63 (by decide +kernel)
def TX12_goesOne_q4 : List (Nat × Instr × Nat) := [(89, .goto 4, 3), (92, .iconst 0, 1), (93, .ireturn, 1)]
theorem DX12_goesOne_q4 : ∀ q ∈ TX12_goesOne_q4, decode cX12_goesOne q.1 = .ok q.2 := dec_wk _ 89 (by decide +kernel)
def TX12_pulls_q0 : List (Nat × Instr × Nat) := [(0, .aload_n 0, 1), (1, .iconst 0, 1), (2, .putfield 310, 3), (5, .iconst 0, 1), (6, .istore 4, 2), (8, .iload 4, 2), (10, .iload_n 3, 1), (11, .if_icmp .ge 18, 3), (14, .aload_n 0, 1), (15, .iload_n 1, 1), (16, .iload_n 2, 1), (17, .invokevirtual 313, 3)]
theorem DX12_pulls_q0 : ∀ q ∈ TX12_pulls_q0, decode cX12_pulls q.1 = .ok q.2 := dec_wk _ 0 (by decide +kernel)
def TX12_pulls_q1 : List (Nat × Instr × Nat) := [(20, .ifCond .eq 9, 3), (23, .iinc 4 1, 3), (26, .goto (-18), 3), (29, .aload_n 0, 1), (30, .getfield 13, 3), (33, .bipush 8, 2), (35, .sipush 9999, 3), (38, .aload_n 0, 1), (39, .getfield 13, 3), (42, .bipush 8, 2), (44, .iaload, 1), (45, .aload_n 0, 1)]
theorem DX12_pulls_q1 : ∀ q ∈ TX12_pulls_q1, decode cX12_pulls q.1 = .ok q.2 := dec_wk _ 20 (by decide +kernel)
def TX12_pulls_q2 : List (Nat × Instr × Nat) := [(46, .getfield 310, 3), (49, .iadd, 1), (50, .invokestatic 119, 3), (53, .iastore, 1), (54, .iload 4, 2), (56, .ireturn, 1)]
theorem DX12_pulls_q2 : ∀ q ∈ TX12_pulls_q2, decode cX12_pulls q.1 = .ok q.2 := dec_wk _ 46 (by decide +kernel)
def TX12_tells_q0 : List (Nat × Instr × Nat) := [(0, .sipush 359, 3), (3, .istore 4, 2), (5, .iload 4, 2), (7, .bipush 6, 2), (9, .if_icmp .lt 32, 3), (12, .aload_n 0, 1), (13, .getfield 13, 3), (16, .bipush 75, 2), (18, .iload 4, 2), (20, .iadd, 1), (21, .aload_n 0, 1), (22, .getfield 13, 3)]
theorem DX12_tells_q0 : ∀ q ∈ TX12_tells_q0, decode cX12_tells q.1 = .ok q.2 := dec_wk _ 0 (by decide +kernel)
def TX12_tells_q1 : List (Nat × Instr × Nat) := [(25, .bipush 75, 2), (27, .iload 4, 2), (29, .iadd, 1), (30, .bipush 6, 2), (32, .isub, 1), (33, .iaload, 1), (34, .iastore, 1), (35, .iinc 4 (-1), 3), (38, .goto (-33), 3), (41, .aload_n 0, 1), (42, .getfield 13, 3), (45, .bipush 75, 2)]
theorem DX12_tells_q1 : ∀ q ∈ TX12_tells_q1, decode cX12_tells q.1 = .ok q.2 := dec_wk _ 25 (by decide +kernel)
def TX12_tells_q2 : List (Nat × Instr × Nat) := [(47, .aload_n 0, 1), (48, .getfield 13, 3), (51, .iconst 4, 1), (52, .iaload, 1), (53, .iastore, 1), (54, .aload_n 0, 1), (55, .getfield 13, 3), (58, .bipush 76, 2), (60, .aload_n 0, 1), (61, .getfield 13, 3), (64, .iconst 3, 1), (65, .iaload, 1)]
theorem DX12_tells_q2 : ∀ q ∈ TX12_tells_q2, decode cX12_tells q.1 = .ok q.2 := dec_wk _ 47 (by decide +kernel)
def TX12_tells_q3 : List (Nat × Instr × Nat) := [(66, .iastore, 1), (67, .aload_n 0, 1), (68, .getfield 13, 3), (71, .bipush 77, 2), (73, .iload_n 1, 1), (74, .iastore, 1), (75, .aload_n 0, 1), (76, .getfield 13, 3), (79, .bipush 78, 2), (81, .iload_n 2, 1), (82, .iastore, 1), (83, .aload_n 0, 1)]
theorem DX12_tells_q3 : ∀ q ∈ TX12_tells_q3, decode cX12_tells q.1 = .ok q.2 := dec_wk _ 66 (by decide +kernel)
def TX12_tells_q4 : List (Nat × Instr × Nat) := [(84, .getfield 13, 3), (87, .bipush 79, 2), (89, .iload_n 3, 1), (90, .iastore, 1), (91, .aload_n 0, 1), (92, .getfield 13, 3), (95, .bipush 80, 2), (97, .aload_n 0, 1), (98, .iload_n 1, 1), (99, .iconst 0, 1), (100, .invokevirtual 67, 3), (103, .iastore, 1)]
theorem DX12_tells_q4 : ∀ q ∈ TX12_tells_q4, decode cX12_tells q.1 = .ok q.2 := dec_wk _ 84 (by decide +kernel)
def TX12_tells_q5 : List (Nat × Instr × Nat) := [(104, .aload_n 0, 1), (105, .getfield 13, 3), (108, .bipush 9, 2), (110, .bipush 60, 2)]
theorem DX12_tells_q5 : ∀ q ∈ TX12_tells_q5, decode cX12_tells q.1 = .ok q.2 := dec_wk _ 104 (by decide +kernel)
def TX12_tells_1_q0 : List (Nat × Instr × Nat) := [(112, .aload_n 0, 1), (113, .getfield 13, 3), (116, .bipush 9, 2), (118, .iaload, 1), (119, .iconst 1, 1), (120, .iadd, 1), (121, .invokestatic 119, 3), (124, .iastore, 1), (125, .return_, 1)]
theorem DX12_tells_1_q0 : ∀ q ∈ TX12_tells_1_q0, decode cX12_tells q.1 = .ok q.2 := dec_wk _ 112 (by decide +kernel)
def TX12_pull_q0 : List (Nat × Instr × Nat) := [(0, .aload_n 0, 1), (1, .iconst 0, 1), (2, .putfield 3, 3), (5, .aload_n 0, 1), (6, .aload_n 0, 1), (7, .iload_n 1, 1), (8, .invokevirtual 277, 3), (11, .iconst 1, 1), (12, .invokevirtual 250, 3), (15, .ifCond .ne 15, 3), (18, .aload_n 0, 1), (19, .iload_n 3, 1)]
theorem DX12_pull_q0 : ∀ q ∈ TX12_pull_q0, decode cX12_pull q.1 = .ok q.2 := dec_wk _ 0 (by decide +kernel)
def TX12_pull_q1 : List (Nat × Instr × Nat) := [(20, .invokestatic 316, 3), (23, .iconst 2, 1), (24, .invokevirtual 250, 3), (27, .ifCond .eq 5, 3), (30, .iconst 0, 1), (31, .ireturn, 1), (32, .aload_n 0, 1), (33, .invokevirtual 319, 3), (36, .aload_n 0, 1), (37, .iload_n 1, 1), (38, .iload_n 2, 1), (39, .iload_n 3, 1)]
theorem DX12_pull_q1 : ∀ q ∈ TX12_pull_q1, decode cX12_pull q.1 = .ok q.2 := dec_wk _ 20 (by decide +kernel)
def TX12_pull_q2 : List (Nat × Instr × Nat) := [(40, .invokevirtual 322, 3), (43, .istore 4, 2), (45, .aload_n 0, 1), (46, .iload_n 1, 1), (47, .iconst 0, 1), (48, .iload 4, 2), (50, .invokevirtual 326, 3), (53, .iload 4, 2), (55, .ireturn, 1)]
theorem DX12_pull_q2 : ∀ q ∈ TX12_pull_q2, decode cX12_pull q.1 = .ok q.2 := dec_wk _ 40 (by decide +kernel)
def TX12_free_q0 : List (Nat × Instr × Nat) := [(0, .aload_n 0, 1), (1, .iconst 0, 1), (2, .putfield 3, 3), (5, .aload_n 0, 1), (6, .aload_n 0, 1), (7, .iload_n 1, 1), (8, .invokevirtual 277, 3), (11, .iconst 1, 1), (12, .invokevirtual 250, 3), (15, .ifCond .ne 26, 3), (18, .aload_n 0, 1), (19, .aload_n 0, 1)]
theorem DX12_free_q0 : ∀ q ∈ TX12_free_q0, decode cX12_free q.1 = .ok q.2 := dec_wk _ 0 (by decide +kernel)
def TX12_free_q1 : List (Nat × Instr × Nat) := [(20, .iload_n 1, 1), (21, .bipush 7, 2), (23, .invokevirtual 73, 3), (26, .ifCond .ne 7, 3), (29, .iconst 1, 1), (30, .goto 4, 3), (33, .iconst 0, 1), (34, .iconst 2, 1), (35, .invokevirtual 250, 3), (38, .ifCond .eq 5, 3), (41, .iconst 0, 1), (42, .ireturn, 1)]
theorem DX12_free_q1 : ∀ q ∈ TX12_free_q1, decode cX12_free q.1 = .ok q.2 := dec_wk _ 20 (by decide +kernel)
def TX12_free_q2 : List (Nat × Instr × Nat) := [(43, .aload_n 0, 1), (44, .invokevirtual 319, 3), (47, .aload_n 0, 1), (48, .getfield 13, 3), (51, .iload_n 1, 1), (52, .bipush 7, 2), (54, .invokestatic 63, 3), (57, .iconst 0, 1), (58, .iastore, 1), (59, .aload_n 0, 1), (60, .iload_n 1, 1), (61, .invokevirtual 253, 3)]
theorem DX12_free_q2 : ∀ q ∈ TX12_free_q2, decode cX12_free q.1 = .ok q.2 := dec_wk _ 43 (by decide +kernel)
def TX12_free_q3 : List (Nat × Instr × Nat) := [(64, .ireturn, 1)]
theorem DX12_free_q3 : ∀ q ∈ TX12_free_q3, decode cX12_free q.1 = .ok q.2 := dec_wk _ 64 (by decide +kernel)
def TX12_snag_q0 : List (Nat × Instr × Nat) := [(0, .aload_n 0, 1), (1, .iconst 0, 1), (2, .putfield 3, 3), (5, .aload_n 0, 1), (6, .aload_n 0, 1), (7, .iload_n 1, 1), (8, .invokevirtual 277, 3), (11, .iconst 1, 1), (12, .invokevirtual 250, 3), (15, .ifCond .ne 34, 3), (18, .aload_n 0, 1), (19, .iload_n 1, 1)]
theorem DX12_snag_q0 : ∀ q ∈ TX12_snag_q0, decode cX12_snag q.1 = .ok q.2 := dec_wk _ 0 (by decide +kernel)
def TX12_snag_q1 : List (Nat × Instr × Nat) := [(20, .aload_n 0, 1), (21, .invokevirtual 70, 3), (24, .if_icmp .eq 13, 3), (27, .aload_n 0, 1), (28, .iload_n 1, 1), (29, .bipush 7, 2), (31, .invokevirtual 73, 3), (34, .ifCond .eq 7, 3), (37, .iconst 1, 1), (38, .goto 4, 3), (41, .iconst 0, 1), (42, .iconst 2, 1)]
theorem DX12_snag_q1 : ∀ q ∈ TX12_snag_q1, decode cX12_snag q.1 = .ok q.2 := dec_wk _ 20 (by decide +kernel)
def TX12_snag_q2 : List (Nat × Instr × Nat) := [(43, .invokevirtual 250, 3), (46, .ifCond .eq 5, 3), (49, .iconst 0, 1), (50, .ireturn, 1), (51, .aload_n 0, 1), (52, .invokevirtual 319, 3), (55, .aload_n 0, 1), (56, .getfield 13, 3), (59, .iload_n 1, 1), (60, .bipush 7, 2), (62, .invokestatic 63, 3), (65, .iconst 1, 1)]
theorem DX12_snag_q2 : ∀ q ∈ TX12_snag_q2, decode cX12_snag q.1 = .ok q.2 := dec_wk _ 43 (by decide +kernel)
def TX12_snag_q3 : List (Nat × Instr × Nat) := [(66, .iastore, 1), (67, .aload_n 0, 1), (68, .iload_n 1, 1), (69, .invokevirtual 253, 3), (72, .ireturn, 1)]
theorem DX12_snag_q3 : ∀ q ∈ TX12_snag_q3, decode cX12_snag q.1 = .ok q.2 := dec_wk _ 66 (by decide +kernel)
def TX12_hook_q0 : List (Nat × Instr × Nat) := [(0, .aload_n 0, 1), (1, .iconst 0, 1), (2, .putfield 3, 3), (5, .aload_n 0, 1), (6, .aload_n 0, 1), (7, .iload_n 1, 1), (8, .invokevirtual 277, 3), (11, .iconst 1, 1), (12, .invokevirtual 250, 3), (15, .ifCond .eq 5, 3), (18, .iconst 0, 1), (19, .ireturn, 1)]
theorem DX12_hook_q0 : ∀ q ∈ TX12_hook_q0, decode cX12_hook q.1 = .ok q.2 := dec_wk _ 0 (by decide +kernel)
def TX12_hook_q1 : List (Nat × Instr × Nat) := [(20, .aload_n 0, 1), (21, .invokevirtual 319, 3), (24, .aload_n 0, 1), (25, .iload_n 1, 1), (26, .bipush 6, 2), (28, .invokevirtual 73, 3), (31, .istore_n 3, 1), (32, .aload_n 0, 1), (33, .getfield 13, 3), (36, .iload_n 1, 1), (37, .bipush 6, 2), (39, .invokestatic 63, 3)]
theorem DX12_hook_q1 : ∀ q ∈ TX12_hook_q1, decode cX12_hook q.1 = .ok q.2 := dec_wk _ 20 (by decide +kernel)
def TX12_hook_q2 : List (Nat × Instr × Nat) := [(42, .iload_n 2, 1), (43, .ifCond .eq 7, 3), (46, .iconst 1, 1), (47, .goto 4, 3), (50, .iconst 0, 1), (51, .iastore, 1), (52, .iload_n 3, 1), (53, .iload_n 2, 1), (54, .if_icmp .eq 7, 3), (57, .iconst 1, 1), (58, .goto 4, 3), (61, .iconst 0, 1)]
theorem DX12_hook_q2 : ∀ q ∈ TX12_hook_q2, decode cX12_hook q.1 = .ok q.2 := dec_wk _ 42 (by decide +kernel)
def TX12_hook_q3 : List (Nat × Instr × Nat) := [(62, .ireturn, 1)]
theorem DX12_hook_q3 : ∀ q ∈ TX12_hook_q3, decode cX12_hook q.1 = .ok q.2 := dec_wk _ 62 (by decide +kernel)
def TX12_sew_q0 : List (Nat × Instr × Nat) := [(0, .aload_n 0, 1), (1, .iconst 0, 1), (2, .putfield 3, 3), (5, .aload_n 0, 1), (6, .iload_n 1, 1), (7, .invokestatic 296, 3), (10, .iconst 1, 1), (11, .invokevirtual 250, 3), (14, .ifCond .ne 63, 3), (17, .aload_n 0, 1), (18, .iload_n 2, 1), (19, .iconst 1, 1)]
theorem DX12_sew_q0 : ∀ q ∈ TX12_sew_q0, decode cX12_sew q.1 = .ok q.2 := dec_wk _ 0 (by decide +kernel)
def TX12_sew_q1 : List (Nat × Instr × Nat) := [(20, .bipush 9, 2), (22, .invokestatic 77, 3), (25, .ifCond .ne 7, 3), (28, .iconst 1, 1), (29, .goto 4, 3), (32, .iconst 0, 1), (33, .iconst 2, 1), (34, .invokevirtual 250, 3), (37, .ifCond .ne 40, 3), (40, .aload_n 0, 1), (41, .aload_n 0, 1), (42, .invokevirtual 59, 3)]
theorem DX12_sew_q1 : ∀ q ∈ TX12_sew_q1, decode cX12_sew q.1 = .ok q.2 := dec_wk _ 20 (by decide +kernel)
def TX12_sew_q2 : List (Nat × Instr × Nat) := [(45, .bipush 8, 2), (47, .if_icmp .eq 18, 3), (50, .iload_n 1, 1), (51, .aload_n 0, 1), (52, .invokevirtual 125, 3), (55, .aload_n 0, 1), (56, .invokevirtual 128, 3), (59, .invokestatic 77, 3), (62, .ifCond .ne 7, 3), (65, .iconst 1, 1), (66, .goto 4, 3), (69, .iconst 0, 1)]
theorem DX12_sew_q2 : ∀ q ∈ TX12_sew_q2, decode cX12_sew q.1 = .ok q.2 := dec_wk _ 45 (by decide +kernel)
def TX12_sew_q3 : List (Nat × Instr × Nat) := [(70, .iconst 3, 1), (71, .invokevirtual 250, 3), (74, .ifCond .eq 5, 3), (77, .iconst 0, 1), (78, .ireturn, 1), (79, .aload_n 0, 1), (80, .invokevirtual 319, 3), (83, .aload_n 0, 1), (84, .iload_n 1, 1), (85, .iload_n 2, 1), (86, .invokevirtual 148, 3), (89, .aload_n 0, 1)]
theorem DX12_sew_q3 : ∀ q ∈ TX12_sew_q3, decode cX12_sew q.1 = .ok q.2 := dec_wk _ 70 (by decide +kernel)
def TX12_sew_q4 : List (Nat × Instr × Nat) := [(90, .invokevirtual 70, 3), (93, .ireturn, 1)]
theorem DX12_sew_q4 : ∀ q ∈ TX12_sew_q4, decode cX12_sew q.1 = .ok q.2 := dec_wk _ 90 (by decide +kernel)
def TX12_let_q0 : List (Nat × Instr × Nat) := [(0, .aload_n 0, 1), (1, .iconst 0, 1), (2, .putfield 3, 3), (5, .aload_n 0, 1), (6, .aload_n 0, 1), (7, .iload_n 1, 1), (8, .invokevirtual 277, 3), (11, .iconst 1, 1), (12, .invokevirtual 250, 3), (15, .ifCond .ne 26, 3), (18, .aload_n 0, 1), (19, .iload_n 2, 1)]
theorem DX12_let_q0 : ∀ q ∈ TX12_let_q0, decode cX12_let q.1 = .ok q.2 := dec_wk _ 0 (by decide +kernel)
def TX12_let_q1 : List (Nat × Instr × Nat) := [(20, .iconst 0, 1), (21, .bipush 9, 2), (23, .invokestatic 77, 3), (26, .ifCond .ne 7, 3), (29, .iconst 1, 1), (30, .goto 4, 3), (33, .iconst 0, 1), (34, .iconst 2, 1), (35, .invokevirtual 250, 3), (38, .ifCond .eq 5, 3), (41, .iconst 0, 1), (42, .ireturn, 1)]
theorem DX12_let_q1 : ∀ q ∈ TX12_let_q1, decode cX12_let q.1 = .ok q.2 := dec_wk _ 20 (by decide +kernel)
def TX12_let_q2 : List (Nat × Instr × Nat) := [(43, .aload_n 0, 1), (44, .invokevirtual 319, 3), (47, .aload_n 0, 1), (48, .iload_n 1, 1), (49, .iconst 5, 1), (50, .invokevirtual 67, 3), (53, .istore_n 3, 1), (54, .aload_n 0, 1), (55, .getfield 13, 3), (58, .iload_n 1, 1), (59, .iconst 5, 1), (60, .invokestatic 63, 3)]
theorem DX12_let_q2 : ∀ q ∈ TX12_let_q2, decode cX12_let q.1 = .ok q.2 := dec_wk _ 43 (by decide +kernel)
def TX12_let_q3 : List (Nat × Instr × Nat) := [(63, .iload_n 2, 1), (64, .iastore, 1), (65, .iload_n 3, 1), (66, .ireturn, 1)]
theorem DX12_let_q3 : ∀ q ∈ TX12_let_q3, decode cX12_let q.1 = .ok q.2 := dec_wk _ 63 (by decide +kernel)
def TX12_chair_q0 : List (Nat × Instr × Nat) := [(0, .aload_n 0, 1), (1, .iconst 0, 1), (2, .putfield 3, 3), (5, .aload_n 0, 1), (6, .iload_n 1, 1), (7, .invokestatic 296, 3), (10, .iconst 1, 1), (11, .invokevirtual 250, 3), (14, .ifCond .eq 5, 3), (17, .iconst 0, 1), (18, .ireturn, 1), (19, .aload_n 0, 1)]
theorem DX12_chair_q0 : ∀ q ∈ TX12_chair_q0, decode cX12_chair q.1 = .ok q.2 := dec_wk _ 0 (by decide +kernel)
def TX12_chair_q1 : List (Nat × Instr × Nat) := [(20, .invokevirtual 319, 3), (23, .aload_n 0, 1), (24, .getfield 13, 3), (27, .bipush 7, 2), (29, .iaload, 1), (30, .iload_n 1, 1), (31, .invokestatic 289, 3), (34, .istore_n 3, 1), (35, .aload_n 0, 1), (36, .getfield 13, 3), (39, .bipush 7, 2), (41, .iaload, 1)]
theorem DX12_chair_q1 : ∀ q ∈ TX12_chair_q1, decode cX12_chair q.1 = .ok q.2 := dec_wk _ 20 (by decide +kernel)
def TX12_chair_q2 : List (Nat × Instr × Nat) := [(42, .iconst 1, 1), (43, .iload_n 1, 1), (44, .ishl, 1), (45, .iconst (-1), 1), (46, .ixor, 1), (47, .iand, 1), (48, .istore 4, 2), (50, .aload_n 0, 1), (51, .getfield 13, 3), (54, .bipush 7, 2), (56, .iload_n 2, 1), (57, .ifCond .eq 12, 3)]
theorem DX12_chair_q2 : ∀ q ∈ TX12_chair_q2, decode cX12_chair q.1 = .ok q.2 := dec_wk _ 42 (by decide +kernel)
def TX12_chair_q3 : List (Nat × Instr × Nat) := [(60, .iload 4, 2), (62, .iconst 1, 1), (63, .iload_n 1, 1), (64, .ishl, 1), (65, .ior, 1), (66, .goto 5, 3), (69, .iload 4, 2), (71, .iastore, 1), (72, .iload_n 3, 1), (73, .iload_n 2, 1), (74, .if_icmp .eq 7, 3), (77, .iconst 1, 1)]
theorem DX12_chair_q3 : ∀ q ∈ TX12_chair_q3, decode cX12_chair q.1 = .ok q.2 := dec_wk _ 60 (by decide +kernel)
def TX12_chair_q4 : List (Nat × Instr × Nat) := [(78, .goto 4, 3), (81, .iconst 0, 1), (82, .ireturn, 1)]
theorem DX12_chair_q4 : ∀ q ∈ TX12_chair_q4, decode cX12_chair q.1 = .ok q.2 := dec_wk _ 78 (by decide +kernel)
def TX12_catches_q0 : List (Nat × Instr × Nat) := [(0, .iconst 0, 1), (1, .istore_n 1, 1), (2, .iconst 0, 1), (3, .istore_n 2, 1), (4, .iload_n 2, 1), (5, .aload_n 0, 1), (6, .invokevirtual 70, 3), (9, .if_icmp .ge 68, 3), (12, .aload_n 0, 1), (13, .iload_n 2, 1), (14, .invokevirtual 253, 3), (17, .iconst 1, 1)]
theorem DX12_catches_q0 : ∀ q ∈ TX12_catches_q0, decode cX12_catches q.1 = .ok q.2 := dec_wk _ 0 (by decide +kernel)
def TX12_catches_q1 : List (Nat × Instr × Nat) := [(18, .if_icmp .ne 53, 3), (21, .aload_n 0, 1), (22, .iload_n 2, 1), (23, .bipush 7, 2), (25, .invokevirtual 73, 3), (28, .ifCond .ne 43, 3), (31, .aload_n 0, 1), (32, .bipush 100, 2), (34, .invokevirtual 330, 3), (37, .aload_n 0, 1), (38, .iconst 1, 1), (39, .iload_n 2, 1)]
theorem DX12_catches_q1 : ∀ q ∈ TX12_catches_q1, decode cX12_catches q.1 = .ok q.2 := dec_wk _ 18 (by decide +kernel)
def TX12_catches_q2 : List (Nat × Instr × Nat) := [(40, .invokevirtual 280, 3), (43, .if_icmp .lt 6, 3), (46, .goto 25, 3), (49, .aload_n 0, 1), (50, .getfield 13, 3), (53, .iload_n 2, 1), (54, .bipush 7, 2), (56, .invokestatic 63, 3), (59, .iconst 1, 1), (60, .iastore, 1), (61, .aload_n 0, 1), (62, .iload_n 2, 1)]
theorem DX12_catches_q2 : ∀ q ∈ TX12_catches_q2, decode cX12_catches q.1 = .ok q.2 := dec_wk _ 40 (by decide +kernel)
def TX12_catches_q3 : List (Nat × Instr × Nat) := [(63, .iconst 1, 1), (64, .iconst 0, 1), (65, .invokevirtual 326, 3), (68, .iinc 1 1, 3), (71, .iinc 2 1, 3), (74, .goto (-70), 3), (77, .iload_n 1, 1), (78, .ireturn, 1)]
theorem DX12_catches_q3 : ∀ q ∈ TX12_catches_q3, decode cX12_catches q.1 = .ok q.2 := dec_wk _ 63 (by decide +kernel)
def TX12_falls_q0 : List (Nat × Instr × Nat) := [(0, .iconst 0, 1), (1, .istore_n 1, 1), (2, .iconst 0, 1), (3, .istore_n 2, 1), (4, .iload_n 2, 1), (5, .aload_n 0, 1), (6, .invokevirtual 59, 3), (9, .if_icmp .ge 59, 3), (12, .aload_n 0, 1), (13, .iload_n 2, 1), (14, .bipush 6, 2), (16, .invokevirtual 73, 3)]
theorem DX12_falls_q0 : ∀ q ∈ TX12_falls_q0, decode cX12_falls q.1 = .ok q.2 := dec_wk _ 0 (by decide +kernel)
def TX12_falls_q1 : List (Nat × Instr × Nat) := [(19, .ifCond .eq 43, 3), (22, .aload_n 0, 1), (23, .bipush 100, 2), (25, .invokevirtual 330, 3), (28, .aload_n 0, 1), (29, .iconst 2, 1), (30, .iload_n 2, 1), (31, .invokevirtual 280, 3), (34, .if_icmp .lt 6, 3), (37, .goto 25, 3), (40, .aload_n 0, 1), (41, .getfield 13, 3)]
theorem DX12_falls_q1 : ∀ q ∈ TX12_falls_q1, decode cX12_falls q.1 = .ok q.2 := dec_wk _ 19 (by decide +kernel)
def TX12_falls_q2 : List (Nat × Instr × Nat) := [(44, .iload_n 2, 1), (45, .bipush 6, 2), (47, .invokestatic 63, 3), (50, .iconst 0, 1), (51, .iastore, 1), (52, .aload_n 0, 1), (53, .iload_n 2, 1), (54, .iconst 2, 1), (55, .iconst 0, 1), (56, .invokevirtual 326, 3), (59, .iinc 1 1, 3), (62, .iinc 2 1, 3)]
theorem DX12_falls_q2 : ∀ q ∈ TX12_falls_q2, decode cX12_falls q.1 = .ok q.2 := dec_wk _ 44 (by decide +kernel)
def TX12_falls_q3 : List (Nat × Instr × Nat) := [(65, .goto (-61), 3), (68, .iload_n 1, 1), (69, .ireturn, 1)]
theorem DX12_falls_q3 : ∀ q ∈ TX12_falls_q3, decode cX12_falls q.1 = .ok q.2 := dec_wk _ 65 (by decide +kernel)
def TX12_oneHour_q0 : List (Nat × Instr × Nat) := [(0, .iconst 0, 1), (1, .istore_n 2, 1), (2, .iload_n 2, 1), (3, .aload_n 0, 1), (4, .invokevirtual 59, 3), (7, .if_icmp .ge 37, 3), (10, .aload_n 0, 1), (11, .getfield 13, 3), (14, .iload_n 2, 1), (15, .iconst 4, 1), (16, .invokestatic 63, 3), (19, .bipush 99, 2)]
theorem DX12_oneHour_q0 : ∀ q ∈ TX12_oneHour_q0, decode cX12_oneHour q.1 = .ok q.2 := dec_wk _ 0 (by decide +kernel)
def TX12_oneHour_q1 : List (Nat × Instr × Nat) := [(21, .aload_n 0, 1), (22, .iload_n 2, 1), (23, .iconst 4, 1), (24, .invokevirtual 67, 3), (27, .aload_n 0, 1), (28, .iconst 0, 1), (29, .iload_n 2, 1), (30, .invokevirtual 280, 3), (33, .iadd, 1), (34, .invokestatic 119, 3), (37, .iastore, 1), (38, .iinc 2 1, 3)]
theorem DX12_oneHour_q1 : ∀ q ∈ TX12_oneHour_q1, decode cX12_oneHour q.1 = .ok q.2 := dec_wk _ 21 (by decide +kernel)
def TX12_oneHour_q2 : List (Nat × Instr × Nat) := [(41, .goto (-39), 3), (44, .iload_n 1, 1), (45, .ifCond .eq 7, 3), (48, .iconst 0, 1), (49, .goto 12, 3), (52, .aload_n 0, 1), (53, .invokevirtual 333, 3), (56, .aload_n 0, 1), (57, .invokevirtual 336, 3), (60, .iadd, 1), (61, .istore_n 2, 1), (62, .aload_n 0, 1)]
theorem DX12_oneHour_q2 : ∀ q ∈ TX12_oneHour_q2, decode cX12_oneHour q.1 = .ok q.2 := dec_wk _ 41 (by decide +kernel)
def TX12_oneHour_q3 : List (Nat × Instr × Nat) := [(63, .getfield 13, 3), (66, .iconst 3, 1), (67, .dup2, 1), (68, .iaload, 1), (69, .iconst 1, 1), (70, .iadd, 1), (71, .iastore, 1), (72, .aload_n 0, 1), (73, .getfield 13, 3), (76, .iconst 3, 1), (77, .iaload, 1), (78, .bipush 8, 2)]
theorem DX12_oneHour_q3 : ∀ q ∈ TX12_oneHour_q3, decode cX12_oneHour q.1 = .ok q.2 := dec_wk _ 63 (by decide +kernel)
def TX12_oneHour_q4 : List (Nat × Instr × Nat) := [(80, .if_icmp .ne 30, 3), (83, .aload_n 0, 1), (84, .getfield 13, 3), (87, .iconst 3, 1), (88, .iconst 0, 1), (89, .iastore, 1), (90, .aload_n 0, 1), (91, .getfield 13, 3), (94, .iconst 4, 1), (95, .sipush 9999, 3), (98, .aload_n 0, 1), (99, .getfield 13, 3)]
theorem DX12_oneHour_q4 : ∀ q ∈ TX12_oneHour_q4, decode cX12_oneHour q.1 = .ok q.2 := dec_wk _ 80 (by decide +kernel)
def TX12_oneHour_q5 : List (Nat × Instr × Nat) := [(102, .iconst 4, 1), (103, .iaload, 1), (104, .iconst 1, 1), (105, .iadd, 1)]
theorem DX12_oneHour_q5 : ∀ q ∈ TX12_oneHour_q5, decode cX12_oneHour q.1 = .ok q.2 := dec_wk _ 102 (by decide +kernel)
def TX12_oneHour_1_q0 : List (Nat × Instr × Nat) := [(106, .invokestatic 119, 3), (109, .iastore, 1), (110, .iload_n 2, 1), (111, .ireturn, 1)]
theorem DX12_oneHour_1_q0 : ∀ q ∈ TX12_oneHour_1_q0, decode cX12_oneHour q.1 = .ok q.2 := dec_wk _ 106 (by decide +kernel)
def TX12_goesOn_q0 : List (Nat × Instr × Nat) := [(0, .iconst 0, 1), (1, .istore_n 3, 1), (2, .iconst 0, 1), (3, .istore 4, 2), (5, .iload 4, 2), (7, .iload_n 1, 1), (8, .if_icmp .ge 17, 3), (11, .iload_n 3, 1), (12, .aload_n 0, 1), (13, .iload_n 2, 1), (14, .invokevirtual 339, 3), (17, .iadd, 1)]
theorem DX12_goesOn_q0 : ∀ q ∈ TX12_goesOn_q0, decode cX12_goesOn q.1 = .ok q.2 := dec_wk _ 0 (by decide +kernel)
def TX12_goesOn_q1 : List (Nat × Instr × Nat) := [(18, .istore_n 3, 1), (19, .iinc 4 1, 3), (22, .goto (-17), 3), (25, .iload_n 3, 1), (26, .ireturn, 1)]
theorem DX12_goesOn_q1 : ∀ q ∈ TX12_goesOn_q1, decode cX12_goesOn q.1 = .ok q.2 := dec_wk _ 18 (by decide +kernel)
def TX12_keepsAll_q0 : List (Nat × Instr × Nat) := [(0, .iconst 0, 1), (1, .istore_n 1, 1), (2, .iload_n 1, 1), (3, .sipush 435, 3), (6, .if_icmp .ge 21, 3), (9, .aload_n 0, 1), (10, .getfield 23, 3), (13, .iload_n 1, 1), (14, .aload_n 0, 1), (15, .getfield 13, 3), (18, .iload_n 1, 1), (19, .iaload, 1)]
theorem DX12_keepsAll_q0 : ∀ q ∈ TX12_keepsAll_q0, decode cX12_keepsAll q.1 = .ok q.2 := dec_wk _ 0 (by decide +kernel)
def TX12_keepsAll_q1 : List (Nat × Instr × Nat) := [(20, .iastore, 1), (21, .iinc 1 1, 3), (24, .goto (-22), 3), (27, .return_, 1)]
theorem DX12_keepsAll_q1 : ∀ q ∈ TX12_keepsAll_q1, decode cX12_keepsAll q.1 = .ok q.2 := dec_wk _ 20 (by decide +kernel)
def TX12_bringsBack_q0 : List (Nat × Instr × Nat) := [(0, .iconst 0, 1), (1, .istore_n 1, 1), (2, .iload_n 1, 1), (3, .sipush 435, 3), (6, .if_icmp .ge 21, 3), (9, .aload_n 0, 1), (10, .getfield 13, 3), (13, .iload_n 1, 1), (14, .aload_n 0, 1), (15, .getfield 23, 3), (18, .iload_n 1, 1), (19, .iaload, 1)]
theorem DX12_bringsBack_q0 : ∀ q ∈ TX12_bringsBack_q0, decode cX12_bringsBack q.1 = .ok q.2 := dec_wk _ 0 (by decide +kernel)
def TX12_bringsBack_q1 : List (Nat × Instr × Nat) := [(20, .iastore, 1), (21, .iinc 1 1, 3), (24, .goto (-22), 3), (27, .return_, 1)]
theorem DX12_bringsBack_q1 : ∀ q ∈ TX12_bringsBack_q1, decode cX12_bringsBack q.1 = .ok q.2 := dec_wk _ 20 (by decide +kernel)
def TX12_hours_q0 : List (Nat × Instr × Nat) := [(0, .aload_n 0, 1), (1, .iconst 0, 1), (2, .putfield 3, 3), (5, .aload_n 0, 1), (6, .iload_n 1, 1), (7, .iconst 1, 1), (8, .bipush 80, 2), (10, .invokestatic 77, 3), (13, .ifCond .ne 7, 3), (16, .iconst 1, 1), (17, .goto 4, 3), (20, .iconst 0, 1)]
theorem DX12_hours_q0 : ∀ q ∈ TX12_hours_q0, decode cX12_hours q.1 = .ok q.2 := dec_wk _ 0 (by decide +kernel)
def TX12_hours_q1 : List (Nat × Instr × Nat) := [(21, .iconst 1, 1), (22, .invokevirtual 250, 3), (25, .ifCond .eq 5, 3), (28, .iconst 0, 1), (29, .ireturn, 1), (30, .aload_n 0, 1), (31, .invokevirtual 319, 3), (34, .aload_n 0, 1), (35, .iload_n 1, 1), (36, .iconst 0, 1), (37, .invokevirtual 342, 3), (40, .ireturn, 1)]
theorem DX12_hours_q1 : ∀ q ∈ TX12_hours_q1, decode cX12_hours q.1 = .ok q.2 := dec_wk _ 21 (by decide +kernel)
def TX12_noAhead_q0 : List (Nat × Instr × Nat) := [(0, .iload_n 0, 1), (1, .iconst 0, 1), (2, .bipush 80, 2), (4, .invokestatic 77, 3), (7, .ifCond .ne 7, 3), (10, .iconst 1, 1), (11, .goto 4, 3), (14, .iconst 0, 1), (15, .ireturn, 1)]
theorem DX12_noAhead_q0 : ∀ q ∈ TX12_noAhead_q0, decode cX12_noAhead q.1 = .ok q.2 := dec_wk _ 0 (by decide +kernel)
def TX12_ahead_q0 : List (Nat × Instr × Nat) := [(0, .aload_n 0, 1), (1, .iconst 0, 1), (2, .putfield 3, 3), (5, .aload_n 0, 1), (6, .aload_n 0, 1), (7, .iload_n 1, 1), (8, .invokevirtual 277, 3), (11, .iconst 1, 1), (12, .invokevirtual 250, 3), (15, .ifCond .ne 15, 3), (18, .aload_n 0, 1), (19, .iload_n 2, 1)]
theorem DX12_ahead_q0 : ∀ q ∈ TX12_ahead_q0, decode cX12_ahead q.1 = .ok q.2 := dec_wk _ 0 (by decide +kernel)
def TX12_ahead_q1 : List (Nat × Instr × Nat) := [(20, .invokestatic 345, 3), (23, .iconst 2, 1), (24, .invokevirtual 250, 3), (27, .ifCond .eq 5, 3), (30, .iconst 0, 1), (31, .ireturn, 1), (32, .aload_n 0, 1), (33, .invokevirtual 348, 3), (36, .aload_n 0, 1), (37, .iload_n 2, 1), (38, .iconst 1, 1), (39, .invokevirtual 342, 3)]
theorem DX12_ahead_q1 : ∀ q ∈ TX12_ahead_q1, decode cX12_ahead q.1 = .ok q.2 := dec_wk _ 20 (by decide +kernel)
def TX12_ahead_q2 : List (Nat × Instr × Nat) := [(42, .pop, 1), (43, .aload_n 0, 1), (44, .iload_n 1, 1), (45, .iconst 4, 1), (46, .invokevirtual 67, 3), (49, .istore_n 3, 1), (50, .aload_n 0, 1), (51, .invokevirtual 351, 3), (54, .iload_n 3, 1), (55, .ireturn, 1)]
theorem DX12_ahead_q2 : ∀ q ∈ TX12_ahead_q2, decode cX12_ahead q.1 = .ok q.2 := dec_wk _ 42 (by decide +kernel)
def TX12_faded_q0 : List (Nat × Instr × Nat) := [(0, .aload_n 0, 1), (1, .iconst 0, 1), (2, .putfield 3, 3), (5, .aload_n 0, 1), (6, .iload_n 1, 1), (7, .invokestatic 345, 3), (10, .iconst 1, 1), (11, .invokevirtual 250, 3), (14, .ifCond .eq 5, 3), (17, .iconst 0, 1), (18, .ireturn, 1), (19, .aload_n 0, 1)]
theorem DX12_faded_q0 : ∀ q ∈ TX12_faded_q0, decode cX12_faded q.1 = .ok q.2 := dec_wk _ 0 (by decide +kernel)
def TX12_faded_q1 : List (Nat × Instr × Nat) := [(20, .invokevirtual 348, 3), (23, .aload_n 0, 1), (24, .iload_n 1, 1), (25, .iconst 1, 1), (26, .invokevirtual 342, 3), (29, .pop, 1), (30, .aload_n 0, 1), (31, .invokevirtual 270, 3), (34, .istore_n 2, 1), (35, .aload_n 0, 1), (36, .invokevirtual 351, 3), (39, .iload_n 2, 1)]
theorem DX12_faded_q1 : ∀ q ∈ TX12_faded_q1, decode cX12_faded q.1 = .ok q.2 := dec_wk _ 20 (by decide +kernel)
def TX12_faded_q2 : List (Nat × Instr × Nat) := [(40, .ireturn, 1)]
theorem DX12_faded_q2 : ∀ q ∈ TX12_faded_q2, decode cX12_faded q.1 = .ok q.2 := dec_wk _ 40 (by decide +kernel)
def TX12_somePale_q0 : List (Nat × Instr × Nat) := [(0, .iconst 0, 1), (1, .istore_n 1, 1), (2, .iconst 0, 1), (3, .istore_n 2, 1), (4, .iload_n 2, 1), (5, .aload_n 0, 1), (6, .invokevirtual 59, 3), (9, .if_icmp .ge 30, 3), (12, .iload_n 1, 1), (13, .ifCond .ne 14, 3), (16, .aload_n 0, 1), (17, .iload_n 2, 1)]
theorem DX12_somePale_q0 : ∀ q ∈ TX12_somePale_q0, decode cX12_somePale q.1 = .ok q.2 := dec_wk _ 0 (by decide +kernel)
def TX12_somePale_q1 : List (Nat × Instr × Nat) := [(18, .iconst 4, 1), (19, .invokevirtual 67, 3), (22, .bipush 99, 2), (24, .if_icmp .ne 7, 3), (27, .iconst 1, 1), (28, .goto 4, 3), (31, .iconst 0, 1), (32, .istore_n 1, 1), (33, .iinc 2 1, 3), (36, .goto (-32), 3), (39, .iload_n 1, 1), (40, .ireturn, 1)]
theorem DX12_somePale_q1 : ∀ q ∈ TX12_somePale_q1, decode cX12_somePale q.1 = .ok q.2 := dec_wk _ 18 (by decide +kernel)
def TX12_pale_q0 : List (Nat × Instr × Nat) := [(0, .aload_n 0, 1), (1, .iconst 0, 1), (2, .putfield 3, 3), (5, .iconst (-1), 1), (6, .istore_n 1, 1), (7, .aload_n 0, 1), (8, .invokevirtual 348, 3), (11, .iconst 0, 1), (12, .istore_n 2, 1), (13, .iload_n 2, 1), (14, .bipush 80, 2), (16, .if_icmp .gt 33, 3)]
theorem DX12_pale_q0 : ∀ q ∈ TX12_pale_q0, decode cX12_pale q.1 = .ok q.2 := dec_wk _ 0 (by decide +kernel)
def TX12_pale_q1 : List (Nat × Instr × Nat) := [(19, .iload_n 1, 1), (20, .iconst (-1), 1), (21, .if_icmp .ne 28, 3), (24, .aload_n 0, 1), (25, .invokevirtual 354, 3), (28, .ifCond .eq 7, 3), (31, .iload_n 2, 1), (32, .goto 4, 3), (35, .iconst (-1), 1), (36, .istore_n 1, 1), (37, .aload_n 0, 1), (38, .iconst 1, 1)]
theorem DX12_pale_q1 : ∀ q ∈ TX12_pale_q1, decode cX12_pale q.1 = .ok q.2 := dec_wk _ 19 (by decide +kernel)
def TX12_pale_q2 : List (Nat × Instr × Nat) := [(39, .invokevirtual 339, 3), (42, .pop, 1), (43, .iinc 2 1, 3), (46, .goto (-33), 3), (49, .aload_n 0, 1), (50, .invokevirtual 351, 3), (53, .iload_n 1, 1), (54, .ireturn, 1)]
theorem DX12_pale_q2 : ∀ q ∈ TX12_pale_q2, decode cX12_pale q.1 = .ok q.2 := dec_wk _ 39 (by decide +kernel)
def TX12_shadeNow_q0 : List (Nat × Instr × Nat) := [(0, .iconst 0, 1), (1, .istore_n 1, 1), (2, .iconst 0, 1), (3, .istore_n 2, 1), (4, .iload_n 2, 1), (5, .aload_n 0, 1), (6, .invokevirtual 70, 3), (9, .if_icmp .ge 65, 3), (12, .aload_n 0, 1), (13, .iload_n 2, 1), (14, .bipush 6, 2), (16, .invokevirtual 73, 3)]
theorem DX12_shadeNow_q0 : ∀ q ∈ TX12_shadeNow_q0, decode cX12_shadeNow q.1 = .ok q.2 := dec_wk _ 0 (by decide +kernel)
def TX12_shadeNow_q1 : List (Nat × Instr × Nat) := [(19, .ifCond .eq 49, 3), (22, .aload_n 0, 1), (23, .iload_n 2, 1), (24, .iconst 1, 1), (25, .iadd, 1), (26, .bipush 6, 2), (28, .invokevirtual 73, 3), (31, .ifCond .ne 6, 3), (34, .goto 34, 3), (37, .aload_n 0, 1), (38, .iload_n 2, 1), (39, .iconst 0, 1)]
theorem DX12_shadeNow_q1 : ∀ q ∈ TX12_shadeNow_q1, decode cX12_shadeNow q.1 = .ok q.2 := dec_wk _ 19 (by decide +kernel)
def TX12_shadeNow_q2 : List (Nat × Instr × Nat) := [(40, .invokevirtual 67, 3), (43, .istore_n 3, 1), (44, .iload_n 3, 1), (45, .aload_n 0, 1), (46, .iload_n 2, 1), (47, .iconst 1, 1), (48, .iadd, 1), (49, .iconst 0, 1), (50, .invokevirtual 67, 3), (53, .if_icmp .gt 15, 3), (56, .iload_n 1, 1), (57, .iconst 1, 1)]
theorem DX12_shadeNow_q2 : ∀ q ∈ TX12_shadeNow_q2, decode cX12_shadeNow q.1 = .ok q.2 := dec_wk _ 40 (by decide +kernel)
def TX12_shadeNow_q3 : List (Nat × Instr × Nat) := [(58, .iload_n 3, 1), (59, .ishl, 1), (60, .ior, 1), (61, .istore_n 1, 1), (62, .iinc 3 1, 3), (65, .goto (-21), 3), (68, .iinc 2 1, 3), (71, .goto (-67), 3), (74, .iload_n 1, 1), (75, .ireturn, 1)]
theorem DX12_shadeNow_q3 : ∀ q ∈ TX12_shadeNow_q3, decode cX12_shadeNow q.1 = .ok q.2 := dec_wk _ 58 (by decide +kernel)
def TX12_darkNow_q0 : List (Nat × Instr × Nat) := [(0, .aload_n 0, 1), (1, .getfield 13, 3), (4, .bipush 7, 2), (6, .iaload, 1), (7, .aload_n 0, 1), (8, .invokevirtual 357, 3), (11, .iand, 1), (12, .invokestatic 360, 3), (15, .ireturn, 1)]
theorem DX12_darkNow_q0 : ∀ q ∈ TX12_darkNow_q0, decode cX12_darkNow q.1 = .ok q.2 := dec_wk _ 0 (by decide +kernel)
def TX12_shade_q0 : List (Nat × Instr × Nat) := [(0, .aload_n 0, 1), (1, .iconst 0, 1), (2, .putfield 3, 3), (5, .aload_n 0, 1), (6, .invokevirtual 357, 3), (9, .ireturn, 1)]
theorem DX12_shade_q0 : ∀ q ∈ TX12_shade_q0, decode cX12_shade q.1 = .ok q.2 := dec_wk _ 0 (by decide +kernel)
def TX12_dark_q0 : List (Nat × Instr × Nat) := [(0, .aload_n 0, 1), (1, .iconst 0, 1), (2, .putfield 3, 3), (5, .aload_n 0, 1), (6, .invokevirtual 365, 3), (9, .ireturn, 1)]
theorem DX12_dark_q0 : ∀ q ∈ TX12_dark_q0, decode cX12_dark q.1 = .ok q.2 := dec_wk _ 0 (by decide +kernel)
def TX12_bare_q0 : List (Nat × Instr × Nat) := [(0, .aload_n 0, 1), (1, .iconst 0, 1), (2, .putfield 3, 3), (5, .aload_n 0, 1), (6, .getfield 13, 3), (9, .bipush 7, 2), (11, .iaload, 1), (12, .aload_n 0, 1), (13, .invokevirtual 357, 3), (16, .iconst (-1), 1), (17, .ixor, 1), (18, .iand, 1)]
theorem DX12_bare_q0 : ∀ q ∈ TX12_bare_q0, decode cX12_bare q.1 = .ok q.2 := dec_wk _ 0 (by decide +kernel)
def TX12_bare_q1 : List (Nat × Instr × Nat) := [(19, .ireturn, 1)]
theorem DX12_bare_q1 : ∀ q ∈ TX12_bare_q1, decode cX12_bare q.1 = .ok q.2 := dec_wk _ 19 (by decide +kernel)
def TX12_goes_q0 : List (Nat × Instr × Nat) := [(0, .aload_n 0, 1), (1, .iconst 0, 1), (2, .putfield 3, 3), (5, .aload_n 0, 1), (6, .aload_n 0, 1), (7, .iload_n 1, 1), (8, .invokevirtual 277, 3), (11, .iconst 1, 1), (12, .invokevirtual 250, 3), (15, .ifCond .eq 5, 3), (18, .iconst 0, 1), (19, .ireturn, 1)]
theorem DX12_goes_q0 : ∀ q ∈ TX12_goes_q0, decode cX12_goes q.1 = .ok q.2 := dec_wk _ 0 (by decide +kernel)
def TX12_goes_q1 : List (Nat × Instr × Nat) := [(20, .aload_n 0, 1), (21, .invokevirtual 348, 3), (24, .aload_n 0, 1), (25, .iload_n 1, 1), (26, .iload_n 2, 1), (27, .bipush 31, 2), (29, .invokevirtual 322, 3), (32, .istore_n 3, 1), (33, .aload_n 0, 1), (34, .invokevirtual 351, 3), (37, .iload_n 3, 1), (38, .ireturn, 1)]
theorem DX12_goes_q1 : ∀ q ∈ TX12_goes_q1, decode cX12_goes q.1 = .ok q.2 := dec_wk _ 20 (by decide +kernel)
def TX12_with_q0 : List (Nat × Instr × Nat) := [(0, .aload_n 0, 1), (1, .iconst 0, 1), (2, .putfield 3, 3), (5, .aload_n 0, 1), (6, .aload_n 0, 1), (7, .iload_n 1, 1), (8, .invokevirtual 277, 3), (11, .iconst 1, 1), (12, .invokevirtual 250, 3), (15, .ifCond .eq 7, 3), (18, .iconst 0, 1), (19, .goto 9, 3)]
theorem DX12_with_q0 : ∀ q ∈ TX12_with_q0, decode cX12_with q.1 = .ok q.2 := dec_wk _ 0 (by decide +kernel)
def TX12_with_q1 : List (Nat × Instr × Nat) := [(22, .aload_n 0, 1), (23, .iload_n 1, 1), (24, .iload_n 2, 1), (25, .invokevirtual 307, 3), (28, .ireturn, 1)]
theorem DX12_with_q1 : ∀ q ∈ TX12_with_q1, decode cX12_with q.1 = .ok q.2 := dec_wk _ 22 (by decide +kernel)
def TX12_would_q0 : List (Nat × Instr × Nat) := [(0, .aload_n 0, 1), (1, .iconst 0, 1), (2, .putfield 3, 3), (5, .aload_n 0, 1), (6, .aload_n 0, 1), (7, .iload_n 1, 1), (8, .invokevirtual 277, 3), (11, .iconst 1, 1), (12, .invokevirtual 250, 3), (15, .ifCond .ne 15, 3), (18, .aload_n 0, 1), (19, .iload_n 3, 1)]
theorem DX12_would_q0 : ∀ q ∈ TX12_would_q0, decode cX12_would q.1 = .ok q.2 := dec_wk _ 0 (by decide +kernel)
def TX12_would_q1 : List (Nat × Instr × Nat) := [(20, .invokestatic 316, 3), (23, .iconst 2, 1), (24, .invokevirtual 250, 3), (27, .ifCond .eq 5, 3), (30, .iconst 0, 1), (31, .ireturn, 1), (32, .aload_n 0, 1), (33, .invokevirtual 348, 3), (36, .aload_n 0, 1), (37, .iload_n 1, 1), (38, .iload_n 2, 1), (39, .iload_n 3, 1)]
theorem DX12_would_q1 : ∀ q ∈ TX12_would_q1, decode cX12_would q.1 = .ok q.2 := dec_wk _ 20 (by decide +kernel)
def TX12_would_q2 : List (Nat × Instr × Nat) := [(40, .invokevirtual 322, 3), (43, .pop, 1), (44, .iload 4, 2), (46, .ifCond .eq 10, 3), (49, .aload_n 0, 1), (50, .getfield 310, 3), (53, .goto 7, 3), (56, .aload_n 0, 1), (57, .invokevirtual 365, 3), (60, .istore 5, 2), (62, .aload_n 0, 1), (63, .invokevirtual 351, 3)]
theorem DX12_would_q2 : ∀ q ∈ TX12_would_q2, decode cX12_would q.1 = .ok q.2 := dec_wk _ 40 (by decide +kernel)
def TX12_would_q3 : List (Nat × Instr × Nat) := [(66, .iload 5, 2), (68, .ireturn, 1)]
theorem DX12_would_q3 : ∀ q ∈ TX12_would_q3, decode cX12_would q.1 = .ok q.2 := dec_wk _ 66 (by decide +kernel)
def TX12_best_q0 : List (Nat × Instr × Nat) := [(0, .aload_n 0, 1), (1, .iconst 0, 1), (2, .putfield 3, 3), (5, .iconst (-1), 1), (6, .istore_n 1, 1), (7, .aload_n 0, 1), (8, .invokevirtual 365, 3), (11, .istore_n 2, 1), (12, .iconst 0, 1), (13, .istore_n 3, 1), (14, .iload_n 3, 1), (15, .iconst 2, 1)]
theorem DX12_best_q0 : ∀ q ∈ TX12_best_q0, decode cX12_best q.1 = .ok q.2 := dec_wk _ 0 (by decide +kernel)
def TX12_best_q1 : List (Nat × Instr × Nat) := [(16, .aload_n 0, 1), (17, .invokevirtual 59, 3), (20, .imul, 1), (21, .if_icmp .ge 102, 3), (24, .iconst 1, 1), (25, .istore 4, 2), (27, .aload_n 0, 1), (28, .invokevirtual 348, 3), (31, .iconst 1, 1), (32, .istore 5, 2), (34, .iload 5, 2), (36, .bipush 31, 2)]
theorem DX12_best_q1 : ∀ q ∈ TX12_best_q1, decode cX12_best q.1 = .ok q.2 := dec_wk _ 16 (by decide +kernel)
def TX12_best_q2 : List (Nat × Instr × Nat) := [(38, .if_icmp .gt 75, 3), (41, .iload 4, 2), (43, .ifCond .eq 70, 3), (46, .aload_n 0, 1), (47, .iload_n 3, 1), (48, .iconst 2, 1), (49, .idiv, 1), (50, .iload_n 3, 1), (51, .iconst 2, 1), (52, .irem, 1), (53, .iconst 1, 1), (54, .if_icmp .ne 7, 3)]
theorem DX12_best_q2 : ∀ q ∈ TX12_best_q2, decode cX12_best q.1 = .ok q.2 := dec_wk _ 38 (by decide +kernel)
def TX12_best_q3 : List (Nat × Instr × Nat) := [(57, .iconst 1, 1), (58, .goto 4, 3), (61, .iconst 0, 1), (62, .invokevirtual 313, 3), (65, .istore 4, 2), (67, .iload 4, 2), (69, .ifCond .eq 10, 3), (72, .aload_n 0, 1), (73, .invokevirtual 365, 3), (76, .goto 4, 3), (79, .iconst 0, 1), (80, .istore 6, 2)]
theorem DX12_best_q3 : ∀ q ∈ TX12_best_q3, decode cX12_best q.1 = .ok q.2 := dec_wk _ 57 (by decide +kernel)
def TX12_best_q4 : List (Nat × Instr × Nat) := [(82, .iload 6, 2), (84, .iload_n 2, 1), (85, .if_icmp .le 13, 3), (88, .bipush 32, 2), (90, .iload_n 3, 1), (91, .imul, 1), (92, .iload 5, 2), (94, .iadd, 1), (95, .goto 4, 3), (98, .iload_n 1, 1), (99, .istore_n 1, 1), (100, .iload_n 2, 1)]
theorem DX12_best_q4 : ∀ q ∈ TX12_best_q4, decode cX12_best q.1 = .ok q.2 := dec_wk _ 82 (by decide +kernel)
def TX12_best_q5 : List (Nat × Instr × Nat) := [(101, .iload 6, 2), (103, .invokestatic 368, 3), (106, .istore_n 2, 1), (107, .iinc 5 1, 3)]
theorem DX12_best_q5 : ∀ q ∈ TX12_best_q5, decode cX12_best q.1 = .ok q.2 := dec_wk _ 101 (by decide +kernel)
def TX12_best_1_q0 : List (Nat × Instr × Nat) := [(110, .goto (-76), 3), (113, .aload_n 0, 1), (114, .invokevirtual 351, 3), (117, .iinc 3 1, 3), (120, .goto (-106), 3), (123, .iload_n 1, 1), (124, .ireturn, 1)]
theorem DX12_best_1_q0 : ∀ q ∈ TX12_best_1_q0, decode cX12_best q.1 = .ok q.2 := dec_wk _ 110 (by decide +kernel)
def TX12_shadesAll_q0 : List (Nat × Instr × Nat) := [(0, .iload_n 1, 1), (1, .aload_n 0, 1), (2, .invokevirtual 357, 3), (5, .iconst (-1), 1), (6, .ixor, 1), (7, .iand, 1), (8, .ifCond .ne 7, 3), (11, .iconst 1, 1), (12, .goto 4, 3), (15, .iconst 0, 1), (16, .ireturn, 1)]
theorem DX12_shadesAll_q0 : ∀ q ∈ TX12_shadesAll_q0, decode cX12_shadesAll q.1 = .ok q.2 := dec_wk _ 0 (by decide +kernel)
def TX12_stepsTo_q0 : List (Nat × Instr × Nat) := [(0, .ldc_w 273, 3), (3, .istore 4, 2), (5, .iconst 1, 1), (6, .istore 5, 2), (8, .aload_n 0, 1), (9, .invokevirtual 348, 3), (12, .iconst 1, 1), (13, .istore 6, 2), (15, .iload 6, 2), (17, .bipush 31, 2), (19, .if_icmp .gt 53, 3), (22, .iload 5, 2)]
theorem DX12_stepsTo_q0 : ∀ q ∈ TX12_stepsTo_q0, decode cX12_stepsTo q.1 = .ok q.2 := dec_wk _ 0 (by decide +kernel)
def TX12_stepsTo_q1 : List (Nat × Instr × Nat) := [(24, .ifCond .eq 48, 3), (27, .iload 4, 2), (29, .ldc_w 273, 3), (32, .if_icmp .ne 40, 3), (35, .aload_n 0, 1), (36, .iload_n 2, 1), (37, .iload_n 3, 1), (38, .invokevirtual 313, 3), (41, .istore 5, 2), (43, .iload 5, 2), (45, .ifCond .eq 16, 3), (48, .aload_n 0, 1)]
theorem DX12_stepsTo_q1 : ∀ q ∈ TX12_stepsTo_q1, decode cX12_stepsTo q.1 = .ok q.2 := dec_wk _ 24 (by decide +kernel)
def TX12_stepsTo_q2 : List (Nat × Instr × Nat) := [(49, .iload_n 1, 1), (50, .invokevirtual 371, 3), (53, .ifCond .eq 8, 3), (56, .iload 6, 2), (58, .goto 6, 3), (61, .ldc_w 273, 3), (64, .istore 4, 2), (66, .iinc 6 1, 3), (69, .goto (-54), 3), (72, .aload_n 0, 1), (73, .invokevirtual 351, 3), (76, .iload 4, 2)]
theorem DX12_stepsTo_q2 : ∀ q ∈ TX12_stepsTo_q2, decode cX12_stepsTo q.1 = .ok q.2 := dec_wk _ 49 (by decide +kernel)
def TX12_stepsTo_q3 : List (Nat × Instr × Nat) := [(78, .ireturn, 1)]
theorem DX12_stepsTo_q3 : ∀ q ∈ TX12_stepsTo_q3, decode cX12_stepsTo q.1 = .ok q.2 := dec_wk _ 78 (by decide +kernel)
def TX12_fewestTo_q0 : List (Nat × Instr × Nat) := [(0, .iconst (-1), 1), (1, .istore_n 3, 1), (2, .ldc_w 273, 3), (5, .istore 4, 2), (7, .iconst 0, 1), (8, .istore 5, 2), (10, .iload 5, 2), (12, .iconst 2, 1), (13, .aload_n 0, 1), (14, .invokevirtual 59, 3), (17, .imul, 1), (18, .if_icmp .ge 56, 3)]
theorem DX12_fewestTo_q0 : ∀ q ∈ TX12_fewestTo_q0, decode cX12_fewestTo q.1 = .ok q.2 := dec_wk _ 0 (by decide +kernel)
def TX12_fewestTo_q1 : List (Nat × Instr × Nat) := [(21, .aload_n 0, 1), (22, .iload_n 1, 1), (23, .iload 5, 2), (25, .iconst 2, 1), (26, .idiv, 1), (27, .iload 5, 2), (29, .iconst 2, 1), (30, .irem, 1), (31, .iconst 1, 1), (32, .if_icmp .ne 7, 3), (35, .iconst 1, 1), (36, .goto 4, 3)]
theorem DX12_fewestTo_q1 : ∀ q ∈ TX12_fewestTo_q1, decode cX12_fewestTo q.1 = .ok q.2 := dec_wk _ 21 (by decide +kernel)
def TX12_fewestTo_q2 : List (Nat × Instr × Nat) := [(39, .iconst 0, 1), (40, .invokevirtual 374, 3), (43, .istore 6, 2), (45, .iload 6, 2), (47, .iload 4, 2), (49, .if_icmp .ge 8, 3), (52, .iload 5, 2), (54, .goto 4, 3), (57, .iload_n 3, 1), (58, .istore_n 3, 1), (59, .iload 4, 2), (61, .iload 6, 2)]
theorem DX12_fewestTo_q2 : ∀ q ∈ TX12_fewestTo_q2, decode cX12_fewestTo q.1 = .ok q.2 := dec_wk _ 39 (by decide +kernel)
def TX12_fewestTo_q3 : List (Nat × Instr × Nat) := [(63, .invokestatic 119, 3), (66, .istore 4, 2), (68, .iinc 5 1, 3), (71, .goto (-61), 3), (74, .iload_n 2, 1), (75, .ifCond .ne 8, 3), (78, .iload_n 3, 1), (79, .iconst (-1), 1), (80, .if_icmp .ne 7, 3), (83, .iload_n 3, 1), (84, .goto 5, 3), (87, .iload 4, 2)]
theorem DX12_fewestTo_q3 : ∀ q ∈ TX12_fewestTo_q3, decode cX12_fewestTo q.1 = .ok q.2 := dec_wk _ 63 (by decide +kernel)
def TX12_fewestTo_q4 : List (Nat × Instr × Nat) := [(89, .ireturn, 1)]
theorem DX12_fewestTo_q4 : ∀ q ∈ TX12_fewestTo_q4, decode cX12_fewestTo q.1 = .ok q.2 := dec_wk _ 89 (by decide +kernel)
def TX12_fewest_q0 : List (Nat × Instr × Nat) := [(0, .aload_n 0, 1), (1, .iconst 0, 1), (2, .putfield 3, 3), (5, .aload_n 0, 1), (6, .iload_n 1, 1), (7, .invokevirtual 371, 3), (10, .ifCond .eq 7, 3), (13, .iconst 0, 1), (14, .goto 9, 3), (17, .aload_n 0, 1), (18, .iload_n 1, 1), (19, .iconst 0, 1)]
theorem DX12_fewest_q0 : ∀ q ∈ TX12_fewest_q0, decode cX12_fewest q.1 = .ok q.2 := dec_wk _ 0 (by decide +kernel)
def TX12_fewest_q1 : List (Nat × Instr × Nat) := [(20, .invokevirtual 378, 3), (23, .ireturn, 1)]
theorem DX12_fewest_q1 : ∀ q ∈ TX12_fewest_q1, decode cX12_fewest q.1 = .ok q.2 := dec_wk _ 20 (by decide +kernel)
def TX12_first_q0 : List (Nat × Instr × Nat) := [(0, .aload_n 0, 1), (1, .iconst 0, 1), (2, .putfield 3, 3), (5, .aload_n 0, 1), (6, .iload_n 1, 1), (7, .invokevirtual 371, 3), (10, .ifCond .eq 7, 3), (13, .iconst (-1), 1), (14, .goto 9, 3), (17, .aload_n 0, 1), (18, .iload_n 1, 1), (19, .iconst 1, 1)]
theorem DX12_first_q0 : ∀ q ∈ TX12_first_q0, decode cX12_first q.1 = .ok q.2 := dec_wk _ 0 (by decide +kernel)
def TX12_first_q1 : List (Nat × Instr × Nat) := [(20, .invokevirtual 378, 3), (23, .ireturn, 1)]
theorem DX12_first_q1 : ∀ q ∈ TX12_first_q1, decode cX12_first q.1 = .ok q.2 := dec_wk _ 20 (by decide +kernel)
def TX12_isTold_q0 : List (Nat × Instr × Nat) := [(0, .aload_n 0, 1), (1, .getfield 88, 3), (4, .iconst 4, 1), (5, .irem, 1), (6, .ifCond .ne 16, 3), (9, .aload_n 0, 1), (10, .getfield 88, 3), (13, .bipush 40, 2), (15, .if_icmp .gt 7, 3), (18, .iconst 1, 1), (19, .goto 4, 3), (22, .iconst 0, 1)]
theorem DX12_isTold_q0 : ∀ q ∈ TX12_isTold_q0, decode cX12_isTold q.1 = .ok q.2 := dec_wk _ 0 (by decide +kernel)
def TX12_isTold_q1 : List (Nat × Instr × Nat) := [(23, .istore_n 1, 1), (24, .iconst 0, 1), (25, .istore_n 2, 1), (26, .iload_n 2, 1), (27, .aload_n 0, 1), (28, .getfield 88, 3), (31, .if_icmp .ge 79, 3), (34, .iload_n 1, 1), (35, .ifCond .eq 75, 3), (38, .aload_n 0, 1), (39, .aload_n 0, 1), (40, .getfield 29, 3)]
theorem DX12_isTold_q1 : ∀ q ∈ TX12_isTold_q1, decode cX12_isTold q.1 = .ok q.2 := dec_wk _ 23 (by decide +kernel)
def TX12_isTold_q2 : List (Nat × Instr × Nat) := [(43, .iload_n 2, 1), (44, .baload, 1), (45, .invokevirtual 277, 3), (48, .ifCond .ne 54, 3), (51, .aload_n 0, 1), (52, .getfield 29, 3), (55, .iload_n 2, 1), (56, .iconst 1, 1), (57, .iadd, 1), (58, .baload, 1), (59, .iconst 0, 1), (60, .iconst 1, 1)]
theorem DX12_isTold_q2 : ∀ q ∈ TX12_isTold_q2, decode cX12_isTold q.1 = .ok q.2 := dec_wk _ 43 (by decide +kernel)
def TX12_isTold_q3 : List (Nat × Instr × Nat) := [(61, .invokestatic 77, 3), (64, .ifCond .eq 38, 3), (67, .aload_n 0, 1), (68, .getfield 29, 3), (71, .iload_n 2, 1), (72, .iconst 2, 1), (73, .iadd, 1), (74, .baload, 1), (75, .invokestatic 316, 3), (78, .ifCond .ne 24, 3), (81, .aload_n 0, 1), (82, .getfield 29, 3)]
theorem DX12_isTold_q3 : ∀ q ∈ TX12_isTold_q3, decode cX12_isTold q.1 = .ok q.2 := dec_wk _ 61 (by decide +kernel)
def TX12_isTold_q4 : List (Nat × Instr × Nat) := [(85, .iload_n 2, 1), (86, .iconst 3, 1), (87, .iadd, 1), (88, .baload, 1), (89, .iconst 0, 1), (90, .bipush 31, 2), (92, .invokestatic 77, 3), (95, .ifCond .eq 7, 3), (98, .iconst 1, 1), (99, .goto 4, 3), (102, .iconst 0, 1), (103, .istore_n 1, 1)]
theorem DX12_isTold_q4 : ∀ q ∈ TX12_isTold_q4, decode cX12_isTold q.1 = .ok q.2 := dec_wk _ 85 (by decide +kernel)
def TX12_isTold_q5 : List (Nat × Instr × Nat) := [(104, .iinc 2 4, 3), (107, .goto (-81), 3), (110, .iload_n 1, 1), (111, .ireturn, 1)]
theorem DX12_isTold_q5 : ∀ q ∈ TX12_isTold_q5, decode cX12_isTold q.1 = .ok q.2 := dec_wk _ 104 (by decide +kernel)
def TX12_thatCanCatch_q0 : List (Nat × Instr × Nat) := [(0, .aload_n 0, 1), (1, .invokevirtual 59, 3), (4, .iconst 2, 1), (5, .if_icmp .ge 7, 3), (8, .iconst 0, 1), (9, .goto 11, 3), (12, .iconst 1, 1), (13, .aload_n 0, 1), (14, .invokevirtual 70, 3), (17, .ishl, 1), (18, .iconst 1, 1), (19, .isub, 1)]
theorem DX12_thatCanCatch_q0 : ∀ q ∈ TX12_thatCanCatch_q0, decode cX12_thatCanCatch q.1 = .ok q.2 := dec_wk _ 0 (by decide +kernel)
def TX12_thatCanCatch_q1 : List (Nat × Instr × Nat) := [(20, .ireturn, 1)]
theorem DX12_thatCanCatch_q1 : ∀ q ∈ TX12_thatCanCatch_q1, decode cX12_thatCanCatch q.1 = .ok q.2 := dec_wk _ 20 (by decide +kernel)
def TX12_areCaught_q0 : List (Nat × Instr × Nat) := [(0, .iconst 0, 1), (1, .istore_n 2, 1), (2, .iload_n 2, 1), (3, .aload_n 0, 1), (4, .invokevirtual 59, 3), (7, .if_icmp .ge 33, 3), (10, .aload_n 0, 1), (11, .getfield 13, 3), (14, .iload_n 2, 1), (15, .bipush 7, 2), (17, .invokestatic 63, 3), (20, .iload_n 1, 1)]
theorem DX12_areCaught_q0 : ∀ q ∈ TX12_areCaught_q0, decode cX12_areCaught q.1 = .ok q.2 := dec_wk _ 0 (by decide +kernel)
def TX12_areCaught_q1 : List (Nat × Instr × Nat) := [(21, .iload_n 2, 1), (22, .invokestatic 289, 3), (25, .ifCond .eq 7, 3), (28, .iconst 1, 1), (29, .goto 4, 3), (32, .iconst 0, 1), (33, .iastore, 1), (34, .iinc 2 1, 3), (37, .goto (-35), 3), (40, .return_, 1)]
theorem DX12_areCaught_q1 : ∀ q ∈ TX12_areCaught_q1, decode cX12_areCaught q.1 = .ok q.2 := dec_wk _ 21 (by decide +kernel)
def TX12_wentWith_q0 : List (Nat × Instr × Nat) := [(0, .aload_n 0, 1), (1, .invokevirtual 348, 3), (4, .aload_n 0, 1), (5, .iload_n 1, 1), (6, .invokevirtual 381, 3), (9, .aload_n 0, 1), (10, .iload_n 2, 1), (11, .iload_n 3, 1), (12, .iload 4, 2), (14, .invokevirtual 322, 3), (17, .istore 5, 2), (19, .aload_n 0, 1)]
theorem DX12_wentWith_q0 : ∀ q ∈ TX12_wentWith_q0, decode cX12_wentWith q.1 = .ok q.2 := dec_wk _ 0 (by decide +kernel)
def TX12_wentWith_q1 : List (Nat × Instr × Nat) := [(20, .invokevirtual 351, 3), (23, .iload 5, 2), (25, .ireturn, 1)]
theorem DX12_wentWith_q1 : ∀ q ∈ TX12_wentWith_q1, decode cX12_wentWith q.1 = .ok q.2 := dec_wk _ 20 (by decide +kernel)
def TX12_fits_q0 : List (Nat × Instr × Nat) := [(0, .iconst 1, 1), (1, .istore_n 2, 1), (2, .iconst 0, 1), (3, .istore_n 3, 1), (4, .iload_n 3, 1), (5, .aload_n 0, 1), (6, .getfield 88, 3), (9, .if_icmp .ge 66, 3), (12, .iload_n 2, 1), (13, .ifCond .eq 62, 3), (16, .aload_n 0, 1), (17, .iload_n 1, 1)]
theorem DX12_fits_q0 : ∀ q ∈ TX12_fits_q0, decode cX12_fits q.1 = .ok q.2 := dec_wk _ 0 (by decide +kernel)
def TX12_fits_q1 : List (Nat × Instr × Nat) := [(18, .aload_n 0, 1), (19, .getfield 29, 3), (22, .iload_n 3, 1), (23, .baload, 1), (24, .aload_n 0, 1), (25, .getfield 29, 3), (28, .iload_n 3, 1), (29, .iconst 1, 1), (30, .iadd, 1), (31, .baload, 1), (32, .iconst 1, 1), (33, .if_icmp .ne 7, 3)]
theorem DX12_fits_q1 : ∀ q ∈ TX12_fits_q1, decode cX12_fits q.1 = .ok q.2 := dec_wk _ 18 (by decide +kernel)
def TX12_fits_q2 : List (Nat × Instr × Nat) := [(36, .iconst 1, 1), (37, .goto 4, 3), (40, .iconst 0, 1), (41, .aload_n 0, 1), (42, .getfield 29, 3), (45, .iload_n 3, 1), (46, .iconst 2, 1), (47, .iadd, 1), (48, .baload, 1), (49, .invokevirtual 385, 3), (52, .aload_n 0, 1), (53, .getfield 29, 3)]
theorem DX12_fits_q2 : ∀ q ∈ TX12_fits_q2, decode cX12_fits q.1 = .ok q.2 := dec_wk _ 36 (by decide +kernel)
def TX12_fits_q3 : List (Nat × Instr × Nat) := [(56, .iload_n 3, 1), (57, .iconst 3, 1), (58, .iadd, 1), (59, .baload, 1), (60, .if_icmp .ne 7, 3), (63, .iconst 1, 1), (64, .goto 4, 3), (67, .iconst 0, 1), (68, .istore_n 2, 1), (69, .iinc 3 4, 3), (72, .goto (-68), 3), (75, .iload_n 2, 1)]
theorem DX12_fits_q3 : ∀ q ∈ TX12_fits_q3, decode cX12_fits q.1 = .ok q.2 := dec_wk _ 56 (by decide +kernel)
def TX12_fits_q4 : List (Nat × Instr × Nat) := [(76, .ireturn, 1)]
theorem DX12_fits_q4 : ∀ q ∈ TX12_fits_q4, decode cX12_fits q.1 = .ok q.2 := dec_wk _ 76 (by decide +kernel)
def TX12_snags_q0 : List (Nat × Instr × Nat) := [(0, .aload_n 0, 1), (1, .invokevirtual 239, 3), (4, .aload_n 0, 1), (5, .aload_n 0, 1), (6, .invokevirtual 389, 3), (9, .ifCond .ne 7, 3), (12, .iconst 1, 1), (13, .goto 4, 3), (16, .iconst 0, 1), (17, .iconst 1, 1), (18, .invokevirtual 250, 3), (21, .ifCond .eq 5, 3)]
theorem DX12_snags_q0 : ∀ q ∈ TX12_snags_q0, decode cX12_snags q.1 = .ok q.2 := dec_wk _ 0 (by decide +kernel)
def TX12_snags_q1 : List (Nat × Instr × Nat) := [(24, .iconst 0, 1), (25, .ireturn, 1), (26, .iconst 0, 1), (27, .istore_n 2, 1), (28, .aload_n 0, 1), (29, .invokevirtual 392, 3), (32, .istore_n 3, 1), (33, .iconst 0, 1), (34, .istore 4, 2), (36, .iload 4, 2), (38, .aload_n 0, 1), (39, .invokevirtual 392, 3)]
theorem DX12_snags_q1 : ∀ q ∈ TX12_snags_q1, decode cX12_snags q.1 = .ok q.2 := dec_wk _ 24 (by decide +kernel)
def TX12_snags_q2 : List (Nat × Instr × Nat) := [(42, .if_icmp .gt 29, 3), (45, .aload_n 0, 1), (46, .iload 4, 2), (48, .invokevirtual 395, 3), (51, .ifCond .ne 6, 3), (54, .goto 11, 3), (57, .iinc 2 1, 3), (60, .iload_n 3, 1), (61, .iload 4, 2), (63, .iand, 1), (64, .istore_n 3, 1), (65, .iinc 4 1, 3)]
theorem DX12_snags_q2 : ∀ q ∈ TX12_snags_q2, decode cX12_snags q.1 = .ok q.2 := dec_wk _ 42 (by decide +kernel)
def TX12_snags_q3 : List (Nat × Instr × Nat) := [(68, .goto (-32), 3), (71, .iload_n 1, 1), (72, .ifCond .ne 7, 3), (75, .iload_n 2, 1), (76, .goto 12, 3), (79, .iload_n 2, 1), (80, .ifCond .ne 7, 3), (83, .iconst 0, 1), (84, .goto 4, 3), (87, .iload_n 3, 1), (88, .ireturn, 1)]
theorem DX12_snags_q3 : ∀ q ∈ TX12_snags_q3, decode cX12_snags q.1 = .ok q.2 := dec_wk _ 68 (by decide +kernel)
def TX12_partBy_q0 : List (Nat × Instr × Nat) := [(0, .iconst 0, 1), (1, .istore_n 3, 1), (2, .iconst 0, 1), (3, .istore 4, 2), (5, .iload 4, 2), (7, .bipush 31, 2), (9, .if_icmp .gt 17, 3), (12, .aload_n 0, 1), (13, .getfield 46, 3), (16, .iload 4, 2), (18, .iconst 0, 1), (19, .iastore, 1)]
theorem DX12_partBy_q0 : ∀ q ∈ TX12_partBy_q0, decode cX12_partBy q.1 = .ok q.2 := dec_wk _ 0 (by decide +kernel)
def TX12_partBy_q1 : List (Nat × Instr × Nat) := [(20, .iinc 4 1, 3), (23, .goto (-18), 3), (26, .iconst 0, 1), (27, .istore 4, 2), (29, .iload 4, 2), (31, .aload_n 0, 1), (32, .invokevirtual 392, 3), (35, .if_icmp .gt 57, 3), (38, .aload_n 0, 1), (39, .getfield 42, 3), (42, .iload 4, 2), (44, .baload, 1)]
theorem DX12_partBy_q1 : ∀ q ∈ TX12_partBy_q1, decode cX12_partBy q.1 = .ok q.2 := dec_wk _ 20 (by decide +kernel)
def TX12_partBy_q2 : List (Nat × Instr × Nat) := [(45, .ifCond .ne 6, 3), (48, .goto 38, 3), (51, .aload_n 0, 1), (52, .iload 4, 2), (54, .iload_n 1, 1), (55, .iload_n 2, 1), (56, .bipush 31, 2), (58, .invokevirtual 385, 3), (61, .istore 5, 2), (63, .aload_n 0, 1), (64, .getfield 46, 3), (67, .iload 5, 2)]
theorem DX12_partBy_q2 : ∀ q ∈ TX12_partBy_q2, decode cX12_partBy q.1 = .ok q.2 := dec_wk _ 45 (by decide +kernel)
def TX12_partBy_q3 : List (Nat × Instr × Nat) := [(69, .dup2, 1), (70, .iaload, 1), (71, .iconst 1, 1), (72, .iadd, 1), (73, .iastore, 1), (74, .iload_n 3, 1), (75, .aload_n 0, 1), (76, .getfield 46, 3), (79, .iload 5, 2), (81, .iaload, 1), (82, .invokestatic 368, 3), (85, .istore_n 3, 1)]
theorem DX12_partBy_q3 : ∀ q ∈ TX12_partBy_q3, decode cX12_partBy q.1 = .ok q.2 := dec_wk _ 69 (by decide +kernel)
def TX12_partBy_q4 : List (Nat × Instr × Nat) := [(86, .iinc 4 1, 3), (89, .goto (-60), 3), (92, .iload_n 3, 1), (93, .ireturn, 1)]
theorem DX12_partBy_q4 : ∀ q ∈ TX12_partBy_q4, decode cX12_partBy q.1 = .ok q.2 := dec_wk _ 86 (by decide +kernel)
def TX12_tries_q0 : List (Nat × Instr × Nat) := [(0, .aload_n 0, 1), (1, .invokevirtual 239, 3), (4, .aload_n 0, 1), (5, .aload_n 0, 1), (6, .invokevirtual 389, 3), (9, .ifCond .ne 7, 3), (12, .iconst 1, 1), (13, .goto 4, 3), (16, .iconst 0, 1), (17, .iconst 1, 1), (18, .invokevirtual 250, 3), (21, .ifCond .eq 5, 3)]
theorem DX12_tries_q0 : ∀ q ∈ TX12_tries_q0, decode cX12_tries q.1 = .ok q.2 := dec_wk _ 0 (by decide +kernel)
def TX12_tries_q1 : List (Nat × Instr × Nat) := [(24, .iconst 0, 1), (25, .ireturn, 1), (26, .iconst 0, 1), (27, .istore_n 1, 1), (28, .iconst 0, 1), (29, .istore_n 2, 1), (30, .iload_n 2, 1), (31, .aload_n 0, 1), (32, .invokevirtual 392, 3), (35, .if_icmp .gt 37, 3), (38, .aload_n 0, 1), (39, .getfield 42, 3)]
theorem DX12_tries_q1 : ∀ q ∈ TX12_tries_q1, decode cX12_tries q.1 = .ok q.2 := dec_wk _ 24 (by decide +kernel)
def TX12_tries_q2 : List (Nat × Instr × Nat) := [(42, .iload_n 2, 1), (43, .aload_n 0, 1), (44, .iload_n 2, 1), (45, .invokevirtual 395, 3), (48, .bastore, 1), (49, .iload_n 1, 1), (50, .aload_n 0, 1), (51, .getfield 42, 3), (54, .iload_n 2, 1), (55, .baload, 1), (56, .ifCond .eq 7, 3), (59, .iconst 1, 1)]
theorem DX12_tries_q2 : ∀ q ∈ TX12_tries_q2, decode cX12_tries q.1 = .ok q.2 := dec_wk _ 42 (by decide +kernel)
def TX12_tries_q3 : List (Nat × Instr × Nat) := [(60, .goto 4, 3), (63, .iconst 0, 1), (64, .iadd, 1), (65, .istore_n 1, 1), (66, .iinc 2 1, 3), (69, .goto (-39), 3), (72, .iconst (-1), 1), (73, .istore_n 2, 1), (74, .ldc_w 273, 3), (77, .istore_n 3, 1), (78, .iconst 0, 1), (79, .istore 4, 2)]
theorem DX12_tries_q3 : ∀ q ∈ TX12_tries_q3, decode cX12_tries q.1 = .ok q.2 := dec_wk _ 60 (by decide +kernel)
def TX12_tries_q4 : List (Nat × Instr × Nat) := [(81, .iload 4, 2), (83, .iconst 2, 1), (84, .aload_n 0, 1), (85, .invokevirtual 59, 3), (88, .imul, 1), (89, .if_icmp .ge 57, 3), (92, .iload_n 1, 1), (93, .iconst 1, 1), (94, .if_icmp .le 52, 3), (97, .aload_n 0, 1), (98, .iload 4, 2), (100, .iconst 2, 1)]
theorem DX12_tries_q4 : ∀ q ∈ TX12_tries_q4, decode cX12_tries q.1 = .ok q.2 := dec_wk _ 81 (by decide +kernel)
def TX12_tries_q5 : List (Nat × Instr × Nat) := [(101, .idiv, 1), (102, .iload 4, 2), (104, .iconst 2, 1), (105, .irem, 1)]
theorem DX12_tries_q5 : ∀ q ∈ TX12_tries_q5, decode cX12_tries q.1 = .ok q.2 := dec_wk _ 101 (by decide +kernel)
def TX12_tries_1_q0 : List (Nat × Instr × Nat) := [(106, .iconst 1, 1), (107, .if_icmp .ne 7, 3), (110, .iconst 1, 1), (111, .goto 4, 3), (114, .iconst 0, 1), (115, .invokevirtual 398, 3), (118, .istore 5, 2), (120, .iload 5, 2), (122, .iload_n 3, 1), (123, .if_icmp .ge 8, 3), (126, .iload 4, 2), (128, .goto 4, 3)]
theorem DX12_tries_1_q0 : ∀ q ∈ TX12_tries_1_q0, decode cX12_tries q.1 = .ok q.2 := dec_wk _ 106 (by decide +kernel)
def TX12_tries_1_q1 : List (Nat × Instr × Nat) := [(131, .iload_n 2, 1), (132, .istore_n 2, 1), (133, .iload_n 3, 1), (134, .iload 5, 2), (136, .invokestatic 119, 3), (139, .istore_n 3, 1), (140, .iinc 4 1, 3), (143, .goto (-62), 3), (146, .iload_n 2, 1), (147, .ireturn, 1)]
theorem DX12_tries_1_q1 : ∀ q ∈ TX12_tries_1_q1, decode cX12_tries q.1 = .ok q.2 := dec_wk _ 131 (by decide +kernel)
def TX12_loosen_q0 : List (Nat × Instr × Nat) := [(0, .aload_n 0, 1), (1, .iconst 0, 1), (2, .putfield 3, 3), (5, .aload_n 0, 1), (6, .aload_n 0, 1), (7, .iload_n 1, 1), (8, .invokevirtual 277, 3), (11, .iconst 1, 1), (12, .invokevirtual 250, 3), (15, .ifCond .ne 15, 3), (18, .aload_n 0, 1), (19, .iload_n 3, 1)]
theorem DX12_loosen_q0 : ∀ q ∈ TX12_loosen_q0, decode cX12_loosen q.1 = .ok q.2 := dec_wk _ 0 (by decide +kernel)
def TX12_loosen_q1 : List (Nat × Instr × Nat) := [(20, .invokestatic 316, 3), (23, .iconst 2, 1), (24, .invokevirtual 250, 3), (27, .ifCond .eq 5, 3), (30, .iconst 0, 1), (31, .ireturn, 1), (32, .aload_n 0, 1), (33, .bipush 7, 2), (35, .invokevirtual 401, 3), (38, .istore 4, 2), (40, .iconst (-1), 1), (41, .istore 5, 2)]
theorem DX12_loosen_q1 : ∀ q ∈ TX12_loosen_q1, decode cX12_loosen q.1 = .ok q.2 := dec_wk _ 20 (by decide +kernel)
def TX12_loosen_q2 : List (Nat × Instr × Nat) := [(43, .ldc_w 273, 3), (46, .istore 6, 2), (48, .iconst 0, 1), (49, .istore 7, 2), (51, .iload 7, 2), (53, .iload 4, 2), (55, .if_icmp .gt 61, 3), (58, .iload 7, 2), (60, .iload 4, 2), (62, .iconst (-1), 1), (63, .ixor, 1), (64, .iand, 1)]
theorem DX12_loosen_q2 : ∀ q ∈ TX12_loosen_q2, decode cX12_loosen q.1 = .ok q.2 := dec_wk _ 43 (by decide +kernel)
def TX12_loosen_q3 : List (Nat × Instr × Nat) := [(65, .ifCond .ne 45, 3), (68, .iload 7, 2), (70, .invokestatic 360, 3), (73, .iload 6, 2), (75, .if_icmp .ge 35, 3), (78, .aload_n 0, 1), (79, .iload 4, 2), (81, .iload 7, 2), (83, .iconst (-1), 1), (84, .ixor, 1), (85, .iand, 1), (86, .iload_n 1, 1)]
theorem DX12_loosen_q3 : ∀ q ∈ TX12_loosen_q3, decode cX12_loosen q.1 = .ok q.2 := dec_wk _ 65 (by decide +kernel)
def TX12_loosen_q4 : List (Nat × Instr × Nat) := [(87, .iload_n 2, 1), (88, .iload_n 3, 1), (89, .invokevirtual 385, 3), (92, .iload_n 3, 1), (93, .if_icmp .ge 6, 3), (96, .goto 14, 3), (99, .iload 7, 2), (101, .istore 5, 2), (103, .iload 7, 2), (105, .invokestatic 360, 3), (108, .istore 6, 2), (110, .iinc 7 1, 3)]
theorem DX12_loosen_q4 : ∀ q ∈ TX12_loosen_q4, decode cX12_loosen q.1 = .ok q.2 := dec_wk _ 87 (by decide +kernel)
def TX12_loosen_q5 : List (Nat × Instr × Nat) := [(113, .goto (-62), 3), (116, .iload 5, 2), (118, .ireturn, 1)]
theorem DX12_loosen_q5 : ∀ q ∈ TX12_loosen_q5, decode cX12_loosen q.1 = .ok q.2 := dec_wk _ 113 (by decide +kernel)
def TX12_order_q0 : List (Nat × Instr × Nat) := [(0, .aload_n 0, 1), (1, .iconst 0, 1), (2, .putfield 3, 3), (5, .iconst 0, 1), (6, .istore_n 1, 1), (7, .iconst 0, 1), (8, .istore_n 2, 1), (9, .iload_n 2, 1), (10, .aload_n 0, 1), (11, .invokevirtual 59, 3), (14, .if_icmp .ge 87, 3), (17, .aload_n 0, 1)]
theorem DX12_order_q0 : ∀ q ∈ TX12_order_q0, decode cX12_order q.1 = .ok q.2 := dec_wk _ 0 (by decide +kernel)
def TX12_order_q1 : List (Nat × Instr × Nat) := [(18, .getfield 49, 3), (21, .iload_n 2, 1), (22, .iconst 1, 1), (23, .iastore, 1), (24, .iconst 0, 1), (25, .istore_n 3, 1), (26, .iload_n 3, 1), (27, .iload_n 2, 1), (28, .if_icmp .ge 56, 3), (31, .aload_n 0, 1), (32, .getfield 49, 3), (35, .iload_n 2, 1)]
theorem DX12_order_q1 : ∀ q ∈ TX12_order_q1, decode cX12_order q.1 = .ok q.2 := dec_wk _ 18 (by decide +kernel)
def TX12_order_q2 : List (Nat × Instr × Nat) := [(36, .aload_n 0, 1), (37, .iload_n 3, 1), (38, .iconst 4, 1), (39, .invokevirtual 67, 3), (42, .aload_n 0, 1), (43, .iload_n 2, 1), (44, .iconst 4, 1), (45, .invokevirtual 67, 3), (48, .if_icmp .gt 23, 3), (51, .aload_n 0, 1), (52, .getfield 49, 3), (55, .iload_n 2, 1)]
theorem DX12_order_q2 : ∀ q ∈ TX12_order_q2, decode cX12_order q.1 = .ok q.2 := dec_wk _ 36 (by decide +kernel)
def TX12_order_q3 : List (Nat × Instr × Nat) := [(56, .iaload, 1), (57, .aload_n 0, 1), (58, .getfield 49, 3), (61, .iload_n 3, 1), (62, .iaload, 1), (63, .iconst 1, 1), (64, .iadd, 1), (65, .invokestatic 368, 3), (68, .goto 9, 3), (71, .aload_n 0, 1), (72, .getfield 49, 3), (75, .iload_n 2, 1)]
theorem DX12_order_q3 : ∀ q ∈ TX12_order_q3, decode cX12_order q.1 = .ok q.2 := dec_wk _ 56 (by decide +kernel)
def TX12_order_q4 : List (Nat × Instr × Nat) := [(76, .iaload, 1), (77, .iastore, 1), (78, .iinc 3 1, 3), (81, .goto (-55), 3), (84, .iload_n 1, 1), (85, .aload_n 0, 1), (86, .getfield 49, 3), (89, .iload_n 2, 1), (90, .iaload, 1), (91, .invokestatic 368, 3), (94, .istore_n 1, 1), (95, .iinc 2 1, 3)]
theorem DX12_order_q4 : ∀ q ∈ TX12_order_q4, decode cX12_order q.1 = .ok q.2 := dec_wk _ 76 (by decide +kernel)
def TX12_order_q5 : List (Nat × Instr × Nat) := [(98, .goto (-89), 3), (101, .aload_n 0, 1), (102, .invokevirtual 59, 3), (105, .iload_n 1, 1)]
theorem DX12_order_q5 : ∀ q ∈ TX12_order_q5, decode cX12_order q.1 = .ok q.2 := dec_wk _ 98 (by decide +kernel)
def TX12_order_1_q0 : List (Nat × Instr × Nat) := [(106, .isub, 1), (107, .ireturn, 1)]
theorem DX12_order_1_q0 : ∀ q ∈ TX12_order_1_q0, decode cX12_order q.1 = .ok q.2 := dec_wk _ 106 (by decide +kernel)
def TX12_tight_q0 : List (Nat × Instr × Nat) := [(0, .aload_n 0, 1), (1, .iconst 0, 1), (2, .putfield 3, 3), (5, .aload_n 0, 1), (6, .iload_n 1, 1), (7, .iconst 2, 1), (8, .bipush 8, 2), (10, .invokestatic 77, 3), (13, .ifCond .ne 7, 3), (16, .iconst 1, 1), (17, .goto 4, 3), (20, .iconst 0, 1)]
theorem DX12_tight_q0 : ∀ q ∈ TX12_tight_q0, decode cX12_tight q.1 = .ok q.2 := dec_wk _ 0 (by decide +kernel)
def TX12_tight_q1 : List (Nat × Instr × Nat) := [(21, .iconst 1, 1), (22, .invokevirtual 250, 3), (25, .ifCond .eq 5, 3), (28, .iconst 0, 1), (29, .ireturn, 1), (30, .iconst (-1), 1), (31, .istore_n 2, 1), (32, .ldc_w 273, 3), (35, .istore_n 3, 1), (36, .iconst 0, 1), (37, .istore 4, 2), (39, .iload 4, 2)]
theorem DX12_tight_q1 : ∀ q ∈ TX12_tight_q1, decode cX12_tight q.1 = .ok q.2 := dec_wk _ 21 (by decide +kernel)
def TX12_tight_q2 : List (Nat × Instr × Nat) := [(41, .iload_n 1, 1), (42, .iadd, 1), (43, .aload_n 0, 1), (44, .invokevirtual 59, 3), (47, .if_icmp .gt 50, 3), (50, .aload_n 0, 1), (51, .iload 4, 2), (53, .iload_n 1, 1), (54, .iadd, 1), (55, .iconst 1, 1), (56, .isub, 1), (57, .iconst 0, 1)]
theorem DX12_tight_q2 : ∀ q ∈ TX12_tight_q2, decode cX12_tight q.1 = .ok q.2 := dec_wk _ 41 (by decide +kernel)
def TX12_tight_q3 : List (Nat × Instr × Nat) := [(58, .invokevirtual 67, 3), (61, .aload_n 0, 1), (62, .iload 4, 2), (64, .iconst 0, 1), (65, .invokevirtual 67, 3), (68, .isub, 1), (69, .istore 5, 2), (71, .iload 5, 2), (73, .iload_n 3, 1), (74, .if_icmp .ge 8, 3), (77, .iload 4, 2), (79, .goto 4, 3)]
theorem DX12_tight_q3 : ∀ q ∈ TX12_tight_q3, decode cX12_tight q.1 = .ok q.2 := dec_wk _ 58 (by decide +kernel)
def TX12_tight_q4 : List (Nat × Instr × Nat) := [(82, .iload_n 2, 1), (83, .istore_n 2, 1), (84, .iload_n 3, 1), (85, .iload 5, 2), (87, .invokestatic 119, 3), (90, .istore_n 3, 1), (91, .iinc 4 1, 3), (94, .goto (-55), 3), (97, .iload_n 2, 1), (98, .ireturn, 1)]
theorem DX12_tight_q4 : ∀ q ∈ TX12_tight_q4, decode cX12_tight q.1 = .ok q.2 := dec_wk _ 82 (by decide +kernel)
def TX12_slack_q0 : List (Nat × Instr × Nat) := [(0, .aload_n 0, 1), (1, .iconst 0, 1), (2, .putfield 3, 3), (5, .iconst 0, 1), (6, .istore_n 1, 1), (7, .iconst 0, 1), (8, .istore_n 2, 1), (9, .iload_n 2, 1), (10, .aload_n 0, 1), (11, .invokevirtual 70, 3), (14, .if_icmp .ge 24, 3), (17, .iload_n 1, 1)]
theorem DX12_slack_q0 : ∀ q ∈ TX12_slack_q0, decode cX12_slack q.1 = .ok q.2 := dec_wk _ 0 (by decide +kernel)
def TX12_slack_q1 : List (Nat × Instr × Nat) := [(18, .aload_n 0, 1), (19, .iload_n 2, 1), (20, .iconst 1, 1), (21, .invokevirtual 67, 3), (24, .aload_n 0, 1), (25, .iload_n 2, 1), (26, .invokevirtual 253, 3), (29, .isub, 1), (30, .iadd, 1), (31, .istore_n 1, 1), (32, .iinc 2 1, 3), (35, .goto (-26), 3)]
theorem DX12_slack_q1 : ∀ q ∈ TX12_slack_q1, decode cX12_slack q.1 = .ok q.2 := dec_wk _ 18 (by decide +kernel)
def TX12_slack_q2 : List (Nat × Instr × Nat) := [(38, .iload_n 1, 1), (39, .ireturn, 1)]
theorem DX12_slack_q2 : ∀ q ∈ TX12_slack_q2, decode cX12_slack q.1 = .ok q.2 := dec_wk _ 38 (by decide +kernel)
def TX12_taut_q0 : List (Nat × Instr × Nat) := [(0, .aload_n 0, 1), (1, .iconst 0, 1), (2, .putfield 3, 3), (5, .iconst 0, 1), (6, .istore_n 1, 1), (7, .iconst 0, 1), (8, .istore_n 2, 1), (9, .iload_n 2, 1), (10, .aload_n 0, 1), (11, .invokevirtual 70, 3), (14, .if_icmp .ge 33, 3), (17, .iload_n 1, 1)]
theorem DX12_taut_q0 : ∀ q ∈ TX12_taut_q0, decode cX12_taut q.1 = .ok q.2 := dec_wk _ 0 (by decide +kernel)
def TX12_taut_q1 : List (Nat × Instr × Nat) := [(18, .aload_n 0, 1), (19, .iload_n 2, 1), (20, .invokevirtual 253, 3), (23, .aload_n 0, 1), (24, .iload_n 2, 1), (25, .iconst 1, 1), (26, .invokevirtual 67, 3), (29, .if_icmp .ne 9, 3), (32, .iconst 1, 1), (33, .iload_n 2, 1), (34, .ishl, 1), (35, .goto 4, 3)]
theorem DX12_taut_q1 : ∀ q ∈ TX12_taut_q1, decode cX12_taut q.1 = .ok q.2 := dec_wk _ 18 (by decide +kernel)
def TX12_taut_q2 : List (Nat × Instr × Nat) := [(38, .iconst 0, 1), (39, .ior, 1), (40, .istore_n 1, 1), (41, .iinc 2 1, 3), (44, .goto (-35), 3), (47, .iload_n 1, 1), (48, .ireturn, 1)]
theorem DX12_taut_q2 : ∀ q ∈ TX12_taut_q2, decode cX12_taut q.1 = .ok q.2 := dec_wk _ 38 (by decide +kernel)
def TX12_bunch_q0 : List (Nat × Instr × Nat) := [(0, .aload_n 0, 1), (1, .iconst 0, 1), (2, .putfield 3, 3), (5, .iconst 0, 1), (6, .istore_n 1, 1), (7, .iconst 0, 1), (8, .istore_n 2, 1), (9, .iconst 0, 1), (10, .istore_n 3, 1), (11, .iload_n 3, 1), (12, .aload_n 0, 1), (13, .invokevirtual 59, 3)]
theorem DX12_bunch_q0 : ∀ q ∈ TX12_bunch_q0, decode cX12_bunch q.1 = .ok q.2 := dec_wk _ 0 (by decide +kernel)
def TX12_bunch_q1 : List (Nat × Instr × Nat) := [(16, .if_icmp .ge 38, 3), (19, .iload_n 3, 1), (20, .ifCond .le 20, 3), (23, .aload_n 0, 1), (24, .iload_n 3, 1), (25, .iconst 1, 1), (26, .isub, 1), (27, .invokevirtual 253, 3), (30, .iconst 1, 1), (31, .if_icmp .ne 9, 3), (34, .iload_n 2, 1), (35, .iconst 1, 1)]
theorem DX12_bunch_q1 : ∀ q ∈ TX12_bunch_q1, decode cX12_bunch q.1 = .ok q.2 := dec_wk _ 16 (by decide +kernel)
def TX12_bunch_q2 : List (Nat × Instr × Nat) := [(36, .iadd, 1), (37, .goto 4, 3), (40, .iconst 1, 1), (41, .istore_n 2, 1), (42, .iload_n 1, 1), (43, .iload_n 2, 1), (44, .invokestatic 368, 3), (47, .istore_n 1, 1), (48, .iinc 3 1, 3), (51, .goto (-40), 3), (54, .iload_n 1, 1), (55, .ireturn, 1)]
theorem DX12_bunch_q2 : ∀ q ∈ TX12_bunch_q2, decode cX12_bunch q.1 = .ok q.2 := dec_wk _ 36 (by decide +kernel)
def TX12_litIn_q0 : List (Nat × Instr × Nat) := [(0, .iconst 0, 1), (1, .istore_n 2, 1), (2, .iconst 0, 1), (3, .istore_n 3, 1), (4, .iload_n 3, 1), (5, .aload_n 0, 1), (6, .invokevirtual 59, 3), (9, .if_icmp .ge 28, 3), (12, .iload_n 2, 1), (13, .aload_n 0, 1), (14, .iload_n 3, 1), (15, .iload_n 1, 1)]
theorem DX12_litIn_q0 : ∀ q ∈ TX12_litIn_q0, decode cX12_litIn q.1 = .ok q.2 := dec_wk _ 0 (by decide +kernel)
def TX12_litIn_q1 : List (Nat × Instr × Nat) := [(16, .invokevirtual 257, 3), (19, .ifCond .eq 9, 3), (22, .iconst 1, 1), (23, .iload_n 3, 1), (24, .ishl, 1), (25, .goto 4, 3), (28, .iconst 0, 1), (29, .ior, 1), (30, .istore_n 2, 1), (31, .iinc 3 1, 3), (34, .goto (-30), 3), (37, .iload_n 2, 1)]
theorem DX12_litIn_q1 : ∀ q ∈ TX12_litIn_q1, decode cX12_litIn q.1 = .ok q.2 := dec_wk _ 16 (by decide +kernel)
def TX12_litIn_q2 : List (Nat × Instr × Nat) := [(38, .ireturn, 1)]
theorem DX12_litIn_q2 : ∀ q ∈ TX12_litIn_q2, decode cX12_litIn q.1 = .ok q.2 := dec_wk _ 38 (by decide +kernel)
def TX12_lit_q0 : List (Nat × Instr × Nat) := [(0, .aload_n 0, 1), (1, .iconst 0, 1), (2, .putfield 3, 3), (5, .aload_n 0, 1), (6, .iload_n 1, 1), (7, .iconst 0, 1), (8, .bipush 7, 2), (10, .invokestatic 77, 3), (13, .ifCond .ne 7, 3), (16, .iconst 1, 1), (17, .goto 4, 3), (20, .iconst 0, 1)]
theorem DX12_lit_q0 : ∀ q ∈ TX12_lit_q0, decode cX12_lit q.1 = .ok q.2 := dec_wk _ 0 (by decide +kernel)
def TX12_lit_q1 : List (Nat × Instr × Nat) := [(21, .iconst 1, 1), (22, .invokevirtual 250, 3), (25, .ifCond .eq 7, 3), (28, .iconst 0, 1), (29, .goto 8, 3), (32, .aload_n 0, 1), (33, .iload_n 1, 1), (34, .invokevirtual 404, 3), (37, .ireturn, 1)]
theorem DX12_lit_q1 : ∀ q ∈ TX12_lit_q1, decode cX12_lit q.1 = .ok q.2 := dec_wk _ 21 (by decide +kernel)
def TX12_sunny_q0 : List (Nat × Instr × Nat) := [(0, .aload_n 0, 1), (1, .iconst 0, 1), (2, .putfield 3, 3), (5, .iconst (-1), 1), (6, .istore_n 1, 1), (7, .iconst (-1), 1), (8, .istore_n 2, 1), (9, .iconst 0, 1), (10, .istore_n 3, 1), (11, .iload_n 3, 1), (12, .aload_n 0, 1), (13, .invokevirtual 59, 3)]
theorem DX12_sunny_q0 : ∀ q ∈ TX12_sunny_q0, decode cX12_sunny q.1 = .ok q.2 := dec_wk _ 0 (by decide +kernel)
def TX12_sunny_q1 : List (Nat × Instr × Nat) := [(16, .if_icmp .ge 67, 3), (19, .iconst 0, 1), (20, .istore 4, 2), (22, .iconst 0, 1), (23, .istore 5, 2), (25, .iload 5, 2), (27, .bipush 8, 2), (29, .if_icmp .ge 29, 3), (32, .iload 4, 2), (34, .aload_n 0, 1), (35, .iload_n 3, 1), (36, .iload 5, 2)]
theorem DX12_sunny_q1 : ∀ q ∈ TX12_sunny_q1, decode cX12_sunny q.1 = .ok q.2 := dec_wk _ 16 (by decide +kernel)
def TX12_sunny_q2 : List (Nat × Instr × Nat) := [(38, .invokevirtual 257, 3), (41, .ifCond .eq 7, 3), (44, .iconst 1, 1), (45, .goto 4, 3), (48, .iconst 0, 1), (49, .iadd, 1), (50, .istore 4, 2), (52, .iinc 5 1, 3), (55, .goto (-30), 3), (58, .iload 4, 2), (60, .iload_n 2, 1), (61, .if_icmp .le 7, 3)]
theorem DX12_sunny_q2 : ∀ q ∈ TX12_sunny_q2, decode cX12_sunny q.1 = .ok q.2 := dec_wk _ 38 (by decide +kernel)
def TX12_sunny_q3 : List (Nat × Instr × Nat) := [(64, .iload_n 3, 1), (65, .goto 4, 3), (68, .iload_n 1, 1), (69, .istore_n 1, 1), (70, .iload_n 2, 1), (71, .iload 4, 2), (73, .invokestatic 368, 3), (76, .istore_n 2, 1), (77, .iinc 3 1, 3), (80, .goto (-69), 3), (83, .iload_n 1, 1), (84, .ireturn, 1)]
theorem DX12_sunny_q3 : ∀ q ∈ TX12_sunny_q3, decode cX12_sunny q.1 = .ok q.2 := dec_wk _ 64 (by decide +kernel)
def TX12_lets_q0 : List (Nat × Instr × Nat) := [(0, .aload_n 0, 1), (1, .iconst 0, 1), (2, .putfield 3, 3), (5, .aload_n 0, 1), (6, .aload_n 0, 1), (7, .iload_n 1, 1), (8, .invokevirtual 277, 3), (11, .iconst 1, 1), (12, .invokevirtual 250, 3), (15, .ifCond .ne 26, 3), (18, .aload_n 0, 1), (19, .iload_n 2, 1)]
theorem DX12_lets_q0 : ∀ q ∈ TX12_lets_q0, decode cX12_lets q.1 = .ok q.2 := dec_wk _ 0 (by decide +kernel)
def TX12_lets_q1 : List (Nat × Instr × Nat) := [(20, .iconst 0, 1), (21, .bipush 9, 2), (23, .invokestatic 77, 3), (26, .ifCond .ne 7, 3), (29, .iconst 1, 1), (30, .goto 4, 3), (33, .iconst 0, 1), (34, .iconst 2, 1), (35, .invokevirtual 250, 3), (38, .ifCond .eq 5, 3), (41, .iconst 0, 1), (42, .ireturn, 1)]
theorem DX12_lets_q1 : ∀ q ∈ TX12_lets_q1, decode cX12_lets q.1 = .ok q.2 := dec_wk _ 20 (by decide +kernel)
def TX12_lets_q2 : List (Nat × Instr × Nat) := [(43, .iconst 0, 1), (44, .istore_n 3, 1), (45, .iconst 0, 1), (46, .istore 4, 2), (48, .iload 4, 2), (50, .aload_n 0, 1), (51, .invokevirtual 59, 3), (54, .if_icmp .ge 19, 3), (57, .iload_n 3, 1), (58, .aload_n 0, 1), (59, .iload 4, 2), (61, .iconst 5, 1)]
theorem DX12_lets_q2 : ∀ q ∈ TX12_lets_q2, decode cX12_lets q.1 = .ok q.2 := dec_wk _ 43 (by decide +kernel)
def TX12_lets_q3 : List (Nat × Instr × Nat) := [(62, .invokevirtual 67, 3), (65, .iadd, 1), (66, .istore_n 3, 1), (67, .iinc 4 1, 3), (70, .goto (-22), 3), (73, .iload_n 3, 1), (74, .aload_n 0, 1), (75, .invokevirtual 59, 3), (78, .idiv, 1), (79, .istore 4, 2), (81, .iload_n 3, 1), (82, .aload_n 0, 1)]
theorem DX12_lets_q3 : ∀ q ∈ TX12_lets_q3, decode cX12_lets q.1 = .ok q.2 := dec_wk _ 62 (by decide +kernel)
def TX12_lets_q4 : List (Nat × Instr × Nat) := [(83, .invokevirtual 59, 3), (86, .irem, 1), (87, .istore 5, 2), (89, .iload 5, 2), (91, .ifCond .le 10, 3), (94, .iload 4, 2), (96, .iconst 1, 1), (97, .iadd, 1), (98, .goto 5, 3), (101, .iload 4, 2), (103, .istore 6, 2), (105, .iload 6, 2)]
theorem DX12_lets_q4 : ∀ q ∈ TX12_lets_q4, decode cX12_lets q.1 = .ok q.2 := dec_wk _ 83 (by decide +kernel)
def TX12_lets_q5 : List (Nat × Instr × Nat) := [(107, .iload_n 2, 1), (108, .if_icmp .le 7, 3), (111, .iconst (-1), 1), (112, .goto 18, 3)]
theorem DX12_lets_q5 : ∀ q ∈ TX12_lets_q5, decode cX12_lets q.1 = .ok q.2 := dec_wk _ 107 (by decide +kernel)
def TX12_lets_1_q0 : List (Nat × Instr × Nat) := [(115, .iload_n 1, 1), (116, .iload 5, 2), (118, .if_icmp .ge 10, 3), (121, .iload 4, 2), (123, .iconst 1, 1), (124, .iadd, 1), (125, .goto 5, 3), (128, .iload 4, 2), (130, .ireturn, 1)]
theorem DX12_lets_1_q0 : ∀ q ∈ TX12_lets_1_q0, decode cX12_lets q.1 = .ok q.2 := dec_wk _ 115 (by decide +kernel)
def TX12_envy_q0 : List (Nat × Instr × Nat) := [(0, .aload_n 0, 1), (1, .iconst 0, 1), (2, .putfield 3, 3), (5, .iconst 0, 1), (6, .istore_n 1, 1), (7, .iconst 0, 1), (8, .istore_n 2, 1), (9, .iload_n 2, 1), (10, .aload_n 0, 1), (11, .invokevirtual 70, 3), (14, .if_icmp .ge 39, 3), (17, .iload_n 1, 1)]
theorem DX12_envy_q0 : ∀ q ∈ TX12_envy_q0, decode cX12_envy q.1 = .ok q.2 := dec_wk _ 0 (by decide +kernel)
def TX12_envy_q1 : List (Nat × Instr × Nat) := [(18, .aload_n 0, 1), (19, .iload_n 2, 1), (20, .iconst 5, 1), (21, .invokevirtual 67, 3), (24, .aload_n 0, 1), (25, .iload_n 2, 1), (26, .iconst 1, 1), (27, .iadd, 1), (28, .iconst 5, 1), (29, .invokevirtual 67, 3), (32, .isub, 1), (33, .invokestatic 274, 3)]
theorem DX12_envy_q1 : ∀ q ∈ TX12_envy_q1, decode cX12_envy q.1 = .ok q.2 := dec_wk _ 18 (by decide +kernel)
def TX12_envy_q2 : List (Nat × Instr × Nat) := [(36, .iconst 1, 1), (37, .if_icmp .le 7, 3), (40, .iconst 1, 1), (41, .goto 4, 3), (44, .iconst 0, 1), (45, .iadd, 1), (46, .istore_n 1, 1), (47, .iinc 2 1, 3), (50, .goto (-41), 3), (53, .iload_n 1, 1), (54, .ireturn, 1)]
theorem DX12_envy_q2 : ∀ q ∈ TX12_envy_q2, decode cX12_envy q.1 = .ok q.2 := dec_wk _ 36 (by decide +kernel)
def TX12_eachHas_q0 : List (Nat × Instr × Nat) := [(0, .iload_n 2, 1), (1, .iload_n 3, 1), (2, .if_icmp .ne 5, 3), (5, .iconst 2, 1), (6, .ireturn, 1), (7, .iload_n 2, 1), (8, .iconst 1, 1), (9, .if_icmp .ne 13, 3), (12, .aload_n 0, 1), (13, .iload_n 1, 1), (14, .invokevirtual 253, 3), (17, .iconst 1, 1)]
theorem DX12_eachHas_q0 : ∀ q ∈ TX12_eachHas_q0, decode cX12_eachHas q.1 = .ok q.2 := dec_wk _ 0 (by decide +kernel)
def TX12_eachHas_q1 : List (Nat × Instr × Nat) := [(18, .isub, 1), (19, .goto 19, 3), (22, .aload_n 0, 1), (23, .iload_n 1, 1), (24, .bipush 7, 2), (26, .invokevirtual 73, 3), (29, .ifCond .eq 8, 3), (32, .bipush (-2), 2), (34, .goto 4, 3), (37, .iconst 1, 1), (38, .ireturn, 1)]
theorem DX12_eachHas_q1 : ∀ q ∈ TX12_eachHas_q1, decode cX12_eachHas q.1 = .ok q.2 := dec_wk _ 18 (by decide +kernel)
def TX12_rests_q0 : List (Nat × Instr × Nat) := [(0, .aload_n 0, 1), (1, .iconst 0, 1), (2, .putfield 3, 3), (5, .aload_n 0, 1), (6, .aload_n 0, 1), (7, .iload_n 1, 1), (8, .invokevirtual 277, 3), (11, .iconst 1, 1), (12, .invokevirtual 250, 3), (15, .ifCond .eq 5, 3), (18, .iconst 0, 1), (19, .ireturn, 1)]
theorem DX12_rests_q0 : ∀ q ∈ TX12_rests_q0, decode cX12_rests q.1 = .ok q.2 := dec_wk _ 0 (by decide +kernel)
def TX12_rests_q1 : List (Nat × Instr × Nat) := [(20, .iload_n 1, 1), (21, .aload_n 0, 1), (22, .invokevirtual 70, 3), (25, .if_icmp .ne 5, 3), (28, .iconst (-1), 1), (29, .ireturn, 1), (30, .iconst 0, 1), (31, .istore_n 2, 1), (32, .iconst 0, 1), (33, .istore_n 3, 1), (34, .iload_n 3, 1), (35, .iconst 2, 1)]
theorem DX12_rests_q1 : ∀ q ∈ TX12_rests_q1, decode cX12_rests q.1 = .ok q.2 := dec_wk _ 20 (by decide +kernel)
def TX12_rests_q2 : List (Nat × Instr × Nat) := [(36, .if_icmp .ge 81, 3), (39, .iconst 0, 1), (40, .istore 4, 2), (42, .iload 4, 2), (44, .iconst 2, 1), (45, .if_icmp .ge 66, 3), (48, .iload_n 2, 1), (49, .aload_n 0, 1), (50, .iload_n 1, 1), (51, .iload_n 3, 1), (52, .iload 4, 2), (54, .invokevirtual 407, 3)]
theorem DX12_rests_q2 : ∀ q ∈ TX12_rests_q2, decode cX12_rests q.1 = .ok q.2 := dec_wk _ 36 (by decide +kernel)
def TX12_rests_q3 : List (Nat × Instr × Nat) := [(57, .aload_n 0, 1), (58, .iload_n 1, 1), (59, .iconst 1, 1), (60, .iload_n 3, 1), (61, .isub, 1), (62, .iload 4, 2), (64, .invokevirtual 407, 3), (67, .if_icmp .lt 35, 3), (70, .aload_n 0, 1), (71, .iload_n 1, 1), (72, .iload_n 3, 1), (73, .iload 4, 2)]
theorem DX12_rests_q3 : ∀ q ∈ TX12_rests_q3, decode cX12_rests q.1 = .ok q.2 := dec_wk _ 57 (by decide +kernel)
def TX12_rests_q4 : List (Nat × Instr × Nat) := [(75, .invokevirtual 407, 3), (78, .aload_n 0, 1), (79, .iload_n 1, 1), (80, .iload_n 3, 1), (81, .iconst 1, 1), (82, .iload 4, 2), (84, .isub, 1), (85, .invokevirtual 407, 3), (88, .if_icmp .lt 14, 3), (91, .iconst 1, 1), (92, .iconst 2, 1), (93, .iload_n 3, 1)]
theorem DX12_rests_q4 : ∀ q ∈ TX12_rests_q4, decode cX12_rests q.1 = .ok q.2 := dec_wk _ 75 (by decide +kernel)
def TX12_rests_q5 : List (Nat × Instr × Nat) := [(94, .imul, 1), (95, .iload 4, 2), (97, .iadd, 1), (98, .ishl, 1)]
theorem DX12_rests_q5 : ∀ q ∈ TX12_rests_q5, decode cX12_rests q.1 = .ok q.2 := dec_wk _ 94 (by decide +kernel)
def TX12_rests_1_q0 : List (Nat × Instr × Nat) := [(99, .goto 4, 3), (102, .iconst 0, 1), (103, .ior, 1), (104, .istore_n 2, 1), (105, .iinc 4 1, 3), (108, .goto (-66), 3), (111, .iinc 3 1, 3), (114, .goto (-80), 3), (117, .iload_n 2, 1), (118, .ireturn, 1)]
theorem DX12_rests_1_q0 : ∀ q ∈ TX12_rests_1_q0, decode cX12_rests q.1 = .ok q.2 := dec_wk _ 99 (by decide +kernel)
def TX12_wooden_q0 : List (Nat × Instr × Nat) := [(0, .aload_n 0, 1), (1, .iconst 0, 1), (2, .putfield 3, 3), (5, .aload_n 0, 1), (6, .iconst 3, 1), (7, .invokevirtual 401, 3), (10, .ireturn, 1)]
theorem DX12_wooden_q0 : ∀ q ∈ TX12_wooden_q0, decode cX12_wooden q.1 = .ok q.2 := dec_wk _ 0 (by decide +kernel)
def TX12_caught_q0 : List (Nat × Instr × Nat) := [(0, .aload_n 0, 1), (1, .iconst 0, 1), (2, .putfield 3, 3), (5, .aload_n 0, 1), (6, .bipush 7, 2), (8, .invokevirtual 401, 3), (11, .ireturn, 1)]
theorem DX12_caught_q0 : ∀ q ∈ TX12_caught_q0, decode cX12_caught q.1 = .ok q.2 := dec_wk _ 0 (by decide +kernel)
def TX12_looseOnes_q0 : List (Nat × Instr × Nat) := [(0, .iconst 1, 1), (1, .aload_n 0, 1), (2, .invokevirtual 59, 3), (5, .ishl, 1), (6, .iconst 1, 1), (7, .isub, 1), (8, .aload_n 0, 1), (9, .bipush 6, 2), (11, .invokevirtual 401, 3), (14, .iconst (-1), 1), (15, .ixor, 1), (16, .iand, 1)]
theorem DX12_looseOnes_q0 : ∀ q ∈ TX12_looseOnes_q0, decode cX12_looseOnes q.1 = .ok q.2 := dec_wk _ 0 (by decide +kernel)
def TX12_looseOnes_q1 : List (Nat × Instr × Nat) := [(17, .ireturn, 1)]
theorem DX12_looseOnes_q1 : ∀ q ∈ TX12_looseOnes_q1, decode cX12_looseOnes q.1 = .ok q.2 := dec_wk _ 17 (by decide +kernel)
def TX12_loose_q0 : List (Nat × Instr × Nat) := [(0, .aload_n 0, 1), (1, .iconst 0, 1), (2, .putfield 3, 3), (5, .aload_n 0, 1), (6, .invokevirtual 410, 3), (9, .ireturn, 1)]
theorem DX12_loose_q0 : ∀ q ∈ TX12_loose_q0, decode cX12_loose q.1 = .ok q.2 := dec_wk _ 0 (by decide +kernel)
def TX12_beyond_q0 : List (Nat × Instr × Nat) := [(0, .aload_n 0, 1), (1, .iconst 0, 1), (2, .putfield 3, 3), (5, .iconst 0, 1), (6, .istore_n 1, 1), (7, .iconst 0, 1), (8, .istore_n 2, 1), (9, .iload_n 2, 1), (10, .aload_n 0, 1), (11, .invokevirtual 59, 3), (14, .if_icmp .ge 43, 3), (17, .iload_n 1, 1)]
theorem DX12_beyond_q0 : ∀ q ∈ TX12_beyond_q0, decode cX12_beyond q.1 = .ok q.2 := dec_wk _ 0 (by decide +kernel)
def TX12_beyond_q1 : List (Nat × Instr × Nat) := [(18, .aload_n 0, 1), (19, .iload_n 2, 1), (20, .iconst 2, 1), (21, .invokevirtual 73, 3), (24, .ifCond .eq 24, 3), (27, .aload_n 0, 1), (28, .iload_n 2, 1), (29, .iconst 0, 1), (30, .invokevirtual 67, 3), (33, .aload_n 0, 1), (34, .getfield 13, 3), (37, .iconst 5, 1)]
theorem DX12_beyond_q1 : ∀ q ∈ TX12_beyond_q1, decode cX12_beyond q.1 = .ok q.2 := dec_wk _ 18 (by decide +kernel)
def TX12_beyond_q2 : List (Nat × Instr × Nat) := [(38, .iaload, 1), (39, .if_icmp .lt 9, 3), (42, .iconst 1, 1), (43, .iload_n 2, 1), (44, .ishl, 1), (45, .goto 4, 3), (48, .iconst 0, 1), (49, .ior, 1), (50, .istore_n 1, 1), (51, .iinc 2 1, 3), (54, .goto (-45), 3), (57, .iload_n 1, 1)]
theorem DX12_beyond_q2 : ∀ q ∈ TX12_beyond_q2, decode cX12_beyond q.1 = .ok q.2 := dec_wk _ 38 (by decide +kernel)
def TX12_beyond_q3 : List (Nat × Instr × Nat) := [(58, .ireturn, 1)]
theorem DX12_beyond_q3 : ∀ q ∈ TX12_beyond_q3, decode cX12_beyond q.1 = .ok q.2 := dec_wk _ 58 (by decide +kernel)
def TX12_odds_q0 : List (Nat × Instr × Nat) := [(0, .aload_n 0, 1), (1, .iconst 0, 1), (2, .putfield 3, 3), (5, .aload_n 0, 1), (6, .aload_n 0, 1), (7, .iload_n 1, 1), (8, .invokevirtual 277, 3), (11, .iconst 1, 1), (12, .invokevirtual 250, 3), (15, .ifCond .ne 25, 3), (18, .aload_n 0, 1), (19, .iload_n 2, 1)]
theorem DX12_odds_q0 : ∀ q ∈ TX12_odds_q0, decode cX12_odds q.1 = .ok q.2 := dec_wk _ 0 (by decide +kernel)
def TX12_odds_q1 : List (Nat × Instr × Nat) := [(20, .iconst 0, 1), (21, .iconst 4, 1), (22, .invokestatic 77, 3), (25, .ifCond .ne 7, 3), (28, .iconst 1, 1), (29, .goto 4, 3), (32, .iconst 0, 1), (33, .iconst 2, 1), (34, .invokevirtual 250, 3), (37, .ifCond .eq 5, 3), (40, .iconst 0, 1), (41, .ireturn, 1)]
theorem DX12_odds_q1 : ∀ q ∈ TX12_odds_q1, decode cX12_odds q.1 = .ok q.2 := dec_wk _ 20 (by decide +kernel)
def TX12_odds_q2 : List (Nat × Instr × Nat) := [(42, .bipush 100, 2), (44, .bipush 100, 2), (46, .aload_n 0, 1), (47, .iconst 2, 1), (48, .iload_n 1, 1), (49, .invokevirtual 280, 3), (52, .invokestatic 119, 3), (55, .isub, 1), (56, .istore_n 3, 1), (57, .sipush 10000, 3), (60, .istore 4, 2), (62, .iconst 0, 1)]
theorem DX12_odds_q2 : ∀ q ∈ TX12_odds_q2, decode cX12_odds q.1 = .ok q.2 := dec_wk _ 42 (by decide +kernel)
def TX12_odds_q3 : List (Nat × Instr × Nat) := [(63, .istore 5, 2), (65, .iload 5, 2), (67, .iload_n 2, 1), (68, .if_icmp .ge 18, 3), (71, .iload 4, 2), (73, .iload_n 3, 1), (74, .imul, 1), (75, .bipush 100, 2), (77, .idiv, 1), (78, .istore 4, 2), (80, .iinc 5 1, 3), (83, .goto (-18), 3)]
theorem DX12_odds_q3 : ∀ q ∈ TX12_odds_q3, decode cX12_odds q.1 = .ok q.2 := dec_wk _ 63 (by decide +kernel)
def TX12_odds_q4 : List (Nat × Instr × Nat) := [(86, .iload 4, 2), (88, .ireturn, 1)]
theorem DX12_odds_q4 : ∀ q ∈ TX12_odds_q4, decode cX12_odds q.1 = .ok q.2 := dec_wk _ 86 (by decide +kernel)
def TX12_likens_q0 : List (Nat × Instr × Nat) := [(0, .aload_n 0, 1), (1, .iload_n 1, 1), (2, .iconst 1, 1), (3, .invokevirtual 67, 3), (6, .aload_n 0, 1), (7, .iload_n 2, 1), (8, .iconst 1, 1), (9, .invokevirtual 67, 3), (12, .if_icmp .ne 37, 3), (15, .aload_n 0, 1), (16, .iload_n 1, 1), (17, .iconst 5, 1)]
theorem DX12_likens_q0 : ∀ q ∈ TX12_likens_q0, decode cX12_likens q.1 = .ok q.2 := dec_wk _ 0 (by decide +kernel)
def TX12_likens_q1 : List (Nat × Instr × Nat) := [(18, .invokevirtual 67, 3), (21, .aload_n 0, 1), (22, .iload_n 2, 1), (23, .iconst 5, 1), (24, .invokevirtual 67, 3), (27, .if_icmp .ne 22, 3), (30, .aload_n 0, 1), (31, .iload_n 1, 1), (32, .iconst 4, 1), (33, .invokevirtual 67, 3), (36, .aload_n 0, 1), (37, .iload_n 2, 1)]
theorem DX12_likens_q1 : ∀ q ∈ TX12_likens_q1, decode cX12_likens q.1 = .ok q.2 := dec_wk _ 18 (by decide +kernel)
def TX12_likens_q2 : List (Nat × Instr × Nat) := [(38, .iconst 4, 1), (39, .invokevirtual 67, 3), (42, .if_icmp .ne 7, 3), (45, .iconst 1, 1), (46, .goto 4, 3), (49, .iconst 0, 1), (50, .ireturn, 1)]
theorem DX12_likens_q2 : ∀ q ∈ TX12_likens_q2, decode cX12_likens q.1 = .ok q.2 := dec_wk _ 38 (by decide +kernel)
def TX12_twins_q0 : List (Nat × Instr × Nat) := [(0, .aload_n 0, 1), (1, .iconst 0, 1), (2, .putfield 3, 3), (5, .iconst 0, 1), (6, .istore_n 1, 1), (7, .iconst 0, 1), (8, .istore_n 2, 1), (9, .iload_n 2, 1), (10, .aload_n 0, 1), (11, .invokevirtual 59, 3), (14, .if_icmp .ge 39, 3), (17, .iconst 0, 1)]
theorem DX12_twins_q0 : ∀ q ∈ TX12_twins_q0, decode cX12_twins q.1 = .ok q.2 := dec_wk _ 0 (by decide +kernel)
def TX12_twins_q1 : List (Nat × Instr × Nat) := [(18, .istore_n 3, 1), (19, .iload_n 3, 1), (20, .iload_n 2, 1), (21, .if_icmp .ge 26, 3), (24, .iload_n 1, 1), (25, .aload_n 0, 1), (26, .iload_n 2, 1), (27, .iload_n 3, 1), (28, .invokevirtual 413, 3), (31, .ifCond .eq 7, 3), (34, .iconst 1, 1), (35, .goto 4, 3)]
theorem DX12_twins_q1 : ∀ q ∈ TX12_twins_q1, decode cX12_twins q.1 = .ok q.2 := dec_wk _ 18 (by decide +kernel)
def TX12_twins_q2 : List (Nat × Instr × Nat) := [(38, .iconst 0, 1), (39, .iadd, 1), (40, .istore_n 1, 1), (41, .iinc 3 1, 3), (44, .goto (-25), 3), (47, .iinc 2 1, 3), (50, .goto (-41), 3), (53, .iload_n 1, 1), (54, .ireturn, 1)]
theorem DX12_twins_q2 : ∀ q ∈ TX12_twins_q2, decode cX12_twins q.1 = .ok q.2 := dec_wk _ 38 (by decide +kernel)
def TX12_trial_q0 : List (Nat × Instr × Nat) := [(0, .aload_n 0, 1), (1, .iconst 0, 1), (2, .putfield 3, 3), (5, .aload_n 0, 1), (6, .iload_n 1, 1), (7, .invokestatic 345, 3), (10, .iconst 1, 1), (11, .invokevirtual 250, 3), (14, .ifCond .eq 5, 3), (17, .iconst 0, 1), (18, .ireturn, 1), (19, .aload_n 0, 1)]
theorem DX12_trial_q0 : ∀ q ∈ TX12_trial_q0, decode cX12_trial q.1 = .ok q.2 := dec_wk _ 0 (by decide +kernel)
def TX12_trial_q1 : List (Nat × Instr × Nat) := [(20, .invokevirtual 348, 3), (23, .aload_n 0, 1), (24, .iload_n 1, 1), (25, .iconst 0, 1), (26, .invokevirtual 342, 3), (29, .pop, 1), (30, .iload_n 2, 1), (31, .ifCond .eq 10, 3), (34, .aload_n 0, 1), (35, .invokevirtual 410, 3), (38, .goto 9, 3), (41, .aload_n 0, 1)]
theorem DX12_trial_q1 : ∀ q ∈ TX12_trial_q1, decode cX12_trial q.1 = .ok q.2 := dec_wk _ 20 (by decide +kernel)
def TX12_trial_q2 : List (Nat × Instr × Nat) := [(42, .bipush 7, 2), (44, .invokevirtual 401, 3), (47, .istore_n 3, 1), (48, .aload_n 0, 1), (49, .invokevirtual 351, 3), (52, .iload_n 3, 1), (53, .ireturn, 1)]
theorem DX12_trial_q2 : ∀ q ∈ TX12_trial_q2, decode cX12_trial q.1 = .ok q.2 := dec_wk _ 42 (by decide +kernel)
def TX12_span_q0 : List (Nat × Instr × Nat) := [(0, .aload_n 0, 1), (1, .iconst 0, 1), (2, .putfield 3, 3), (5, .aload_n 0, 1), (6, .iload_n 1, 1), (7, .invokestatic 345, 3), (10, .iconst 1, 1), (11, .invokevirtual 250, 3), (14, .ifCond .eq 5, 3), (17, .iconst 0, 1), (18, .ireturn, 1), (19, .aload_n 0, 1)]
theorem DX12_span_q0 : ∀ q ∈ TX12_span_q0, decode cX12_span q.1 = .ok q.2 := dec_wk _ 0 (by decide +kernel)
def TX12_span_q1 : List (Nat × Instr × Nat) := [(20, .invokevirtual 348, 3), (23, .iconst (-1), 1), (24, .istore_n 3, 1), (25, .iconst 1, 1), (26, .istore 4, 2), (28, .iload 4, 2), (30, .bipush 6, 2), (32, .if_icmp .gt 77, 3), (35, .aload_n 0, 1), (36, .getfield 13, 3), (39, .bipush 10, 2), (41, .iload 4, 2)]
theorem DX12_span_q1 : ∀ q ∈ TX12_span_q1, decode cX12_span q.1 = .ok q.2 := dec_wk _ 20 (by decide +kernel)
def TX12_span_q2 : List (Nat × Instr × Nat) := [(43, .iastore, 1), (44, .aload_n 0, 1), (45, .iload_n 1, 1), (46, .iconst 0, 1), (47, .invokevirtual 342, 3), (50, .pop, 1), (51, .aload_n 0, 1), (52, .bipush 7, 2), (54, .invokevirtual 401, 3), (57, .invokestatic 360, 3), (60, .aload_n 0, 1), (61, .invokevirtual 410, 3)]
theorem DX12_span_q2 : ∀ q ∈ TX12_span_q2, decode cX12_span q.1 = .ok q.2 := dec_wk _ 43 (by decide +kernel)
def TX12_span_q3 : List (Nat × Instr × Nat) := [(64, .invokestatic 360, 3), (67, .iadd, 1), (68, .istore 5, 2), (70, .aload_n 0, 1), (71, .invokevirtual 351, 3), (74, .iload_n 3, 1), (75, .ifCond .ge 8, 3), (78, .iload 5, 2), (80, .goto 22, 3), (83, .iload_n 2, 1), (84, .ifCond .eq 12, 3), (87, .iload_n 3, 1)]
theorem DX12_span_q3 : ∀ q ∈ TX12_span_q3, decode cX12_span q.1 = .ok q.2 := dec_wk _ 64 (by decide +kernel)
def TX12_span_q4 : List (Nat × Instr × Nat) := [(88, .iload 5, 2), (90, .invokestatic 368, 3), (93, .goto 9, 3), (96, .iload_n 3, 1), (97, .iload 5, 2), (99, .invokestatic 119, 3), (102, .istore_n 3, 1), (103, .iinc 4 1, 3), (106, .goto (-78), 3), (109, .iload_n 3, 1), (110, .ireturn, 1)]
theorem DX12_span_q4 : ∀ q ∈ TX12_span_q4, decode cX12_span q.1 = .ok q.2 := dec_wk _ 88 (by decide +kernel)
def TX12_ofLog_q0 : List (Nat × Instr × Nat) := [(0, .aload_n 0, 1), (1, .getfield 13, 3), (4, .bipush 75, 2), (6, .bipush 6, 2), (8, .iload_n 1, 1), (9, .imul, 1), (10, .iadd, 1), (11, .iload_n 2, 1), (12, .iadd, 1), (13, .iaload, 1), (14, .ireturn, 1)]
theorem DX12_ofLog_q0 : ∀ q ∈ TX12_ofLog_q0, decode cX12_ofLog q.1 = .ok q.2 := dec_wk _ 0 (by decide +kernel)
def TX12_led_q0 : List (Nat × Instr × Nat) := [(0, .aload_n 0, 1), (1, .iconst 0, 1), (2, .putfield 3, 3), (5, .aload_n 0, 1), (6, .aload_n 0, 1), (7, .iload_n 1, 1), (8, .invokevirtual 277, 3), (11, .iconst 1, 1), (12, .invokevirtual 250, 3), (15, .ifCond .eq 5, 3), (18, .iconst 0, 1), (19, .ireturn, 1)]
theorem DX12_led_q0 : ∀ q ∈ TX12_led_q0, decode cX12_led q.1 = .ok q.2 := dec_wk _ 0 (by decide +kernel)
def TX12_led_q1 : List (Nat × Instr × Nat) := [(20, .iconst 0, 1), (21, .istore_n 3, 1), (22, .iconst (-1), 1), (23, .istore 4, 2), (25, .aload_n 0, 1), (26, .getfield 13, 3), (29, .bipush 9, 2), (31, .iaload, 1), (32, .iconst 1, 1), (33, .isub, 1), (34, .istore 5, 2), (36, .iload 5, 2)]
theorem DX12_led_q1 : ∀ q ∈ TX12_led_q1, decode cX12_led q.1 = .ok q.2 := dec_wk _ 20 (by decide +kernel)
def TX12_led_q2 : List (Nat × Instr × Nat) := [(38, .ifCond .lt 35, 3), (41, .aload_n 0, 1), (42, .iload 5, 2), (44, .iconst 2, 1), (45, .invokevirtual 416, 3), (48, .iload_n 1, 1), (49, .if_icmp .eq 6, 3), (52, .goto 15, 3), (55, .iinc 3 1, 3), (58, .aload_n 0, 1), (59, .iload 5, 2), (61, .iconst 5, 1)]
theorem DX12_led_q2 : ∀ q ∈ TX12_led_q2, decode cX12_led q.1 = .ok q.2 := dec_wk _ 38 (by decide +kernel)
def TX12_led_q3 : List (Nat × Instr × Nat) := [(62, .invokevirtual 416, 3), (65, .istore 4, 2), (67, .iinc 5 (-1), 3), (70, .goto (-34), 3), (73, .iload_n 2, 1), (74, .ifCond .eq 8, 3), (77, .iload 4, 2), (79, .goto 4, 3), (82, .iload_n 3, 1), (83, .ireturn, 1)]
theorem DX12_led_q3 : ∀ q ∈ TX12_led_q3, decode cX12_led q.1 = .ok q.2 := dec_wk _ 62 (by decide +kernel)
def TX12_log_q0 : List (Nat × Instr × Nat) := [(0, .aload_n 0, 1), (1, .iconst 0, 1), (2, .putfield 3, 3), (5, .aload_n 0, 1), (6, .iload_n 2, 1), (7, .iconst 0, 1), (8, .iconst 5, 1), (9, .invokestatic 77, 3), (12, .ifCond .ne 7, 3), (15, .iconst 1, 1), (16, .goto 4, 3), (19, .iconst 0, 1)]
theorem DX12_log_q0 : ∀ q ∈ TX12_log_q0, decode cX12_log q.1 = .ok q.2 := dec_wk _ 0 (by decide +kernel)
def TX12_log_q1 : List (Nat × Instr × Nat) := [(20, .iconst 1, 1), (21, .invokevirtual 250, 3), (24, .ifCond .eq 5, 3), (27, .iconst 0, 1), (28, .ireturn, 1), (29, .iload_n 1, 1), (30, .iconst 0, 1), (31, .aload_n 0, 1), (32, .getfield 13, 3), (35, .bipush 9, 2), (37, .iaload, 1), (38, .iconst 1, 1)]
theorem DX12_log_q1 : ∀ q ∈ TX12_log_q1, decode cX12_log q.1 = .ok q.2 := dec_wk _ 20 (by decide +kernel)
def TX12_log_q2 : List (Nat × Instr × Nat) := [(39, .isub, 1), (40, .invokestatic 77, 3), (43, .ifCond .eq 12, 3), (46, .aload_n 0, 1), (47, .iload_n 1, 1), (48, .iload_n 2, 1), (49, .invokevirtual 416, 3), (52, .goto 4, 3), (55, .iconst (-1), 1), (56, .ireturn, 1)]
theorem DX12_log_q2 : ∀ q ∈ TX12_log_q2, decode cX12_log q.1 = .ok q.2 := dec_wk _ 39 (by decide +kernel)
def TX12_seed_q0 : List (Nat × Instr × Nat) := [(0, .aload_n 0, 1), (1, .iconst 0, 1), (2, .putfield 3, 3), (5, .aload_n 0, 1), (6, .getfield 13, 3), (9, .bipush 10, 2), (11, .iaload, 1), (12, .istore_n 2, 1), (13, .aload_n 0, 1), (14, .getfield 13, 3), (17, .bipush 10, 2), (19, .iload_n 1, 1)]
theorem DX12_seed_q0 : ∀ q ∈ TX12_seed_q0, decode cX12_seed q.1 = .ok q.2 := dec_wk _ 0 (by decide +kernel)
def TX12_seed_q1 : List (Nat × Instr × Nat) := [(20, .iastore, 1), (21, .iload_n 2, 1), (22, .ireturn, 1)]
theorem DX12_seed_q1 : ∀ q ∈ TX12_seed_q1, decode cX12_seed q.1 = .ok q.2 := dec_wk _ 20 (by decide +kernel)
def TX12_count_q0 : List (Nat × Instr × Nat) := [(0, .aload_n 0, 1), (1, .iconst 0, 1), (2, .putfield 3, 3), (5, .iload_n 1, 1)]
theorem DX12_count_q0 : ∀ q ∈ TX12_count_q0, decode cX12_count q.1 = .ok q.2 := dec_wk _ 0 (by decide +kernel)
def TX12_count_q1 : List (Nat × Instr × Nat) := [(6, .lookupswitch 70 #[(2, 34), (9, 57), (10, 65)], 34)]
theorem DX12_count_q1 : ∀ q ∈ TX12_count_q1, decode cX12_count q.1 = .ok q.2 := by decide +kernel
def TX12_count_q2 : List (Nat × Instr × Nat) := [(40, .aload_n 0, 1), (41, .getfield 13, 3), (44, .iconst 2, 1), (45, .iaload, 1), (46, .iconst 1, 1), (47, .if_icmp .ne 14, 3), (50, .aload_n 0, 1), (51, .getfield 13, 3), (54, .sipush 435, 3), (57, .iaload, 1), (58, .goto 4, 3), (61, .iconst (-1), 1)]
theorem DX12_count_q2 : ∀ q ∈ TX12_count_q2, decode cX12_count q.1 = .ok q.2 := dec_wk _ 40 (by decide +kernel)
def TX12_count_q3 : List (Nat × Instr × Nat) := [(62, .ireturn, 1), (63, .aload_n 0, 1), (64, .getfield 13, 3), (67, .bipush 9, 2), (69, .iaload, 1), (70, .ireturn, 1), (71, .aload_n 0, 1), (72, .getfield 56, 3), (75, .ireturn, 1), (76, .iload_n 1, 1), (77, .iconst 0, 1), (78, .bipush 8, 2)]
theorem DX12_count_q3 : ∀ q ∈ TX12_count_q3, decode cX12_count q.1 = .ok q.2 := dec_wk _ 62 (by decide +kernel)
def TX12_count_q4 : List (Nat × Instr × Nat) := [(80, .invokestatic 77, 3), (83, .ifCond .eq 12, 3), (86, .aload_n 0, 1), (87, .getfield 13, 3), (90, .iload_n 1, 1), (91, .iaload, 1), (92, .goto 4, 3), (95, .iconst (-1), 1), (96, .ireturn, 1)]
theorem DX12_count_q4 : ∀ q ∈ TX12_count_q4, decode cX12_count q.1 = .ok q.2 := dec_wk _ 80 (by decide +kernel)
def TJ6_bitCount_0f7a4_q0 : List (Nat × Instr × Nat) := [(0, .iload_n 0, 1), (1, .iload_n 0, 1), (2, .iconst 1, 1), (3, .iushr, 1), (4, .ldc_w 265, 3), (7, .iand, 1), (8, .isub, 1), (9, .istore_n 0, 1), (10, .iload_n 0, 1), (11, .ldc_w 266, 3), (14, .iand, 1), (15, .iload_n 0, 1)]
theorem DJ6_bitCount_0f7a4_q0 : ∀ q ∈ TJ6_bitCount_0f7a4_q0, decode cJ6_bitCount_0f7a4 q.1 = .ok q.2 := dec_wk _ 0 (by decide +kernel)
def TJ6_bitCount_0f7a4_q1 : List (Nat × Instr × Nat) := [(16, .iconst 2, 1), (17, .iushr, 1), (18, .ldc_w 266, 3), (21, .iand, 1), (22, .iadd, 1), (23, .istore_n 0, 1), (24, .iload_n 0, 1), (25, .iload_n 0, 1), (26, .iconst 4, 1), (27, .iushr, 1), (28, .iadd, 1), (29, .ldc_w 267, 3)]
theorem DJ6_bitCount_0f7a4_q1 : ∀ q ∈ TJ6_bitCount_0f7a4_q1, decode cJ6_bitCount_0f7a4 q.1 = .ok q.2 := dec_wk _ 16 (by decide +kernel)
def TJ6_bitCount_0f7a4_q2 : List (Nat × Instr × Nat) := [(32, .iand, 1), (33, .istore_n 0, 1), (34, .iload_n 0, 1), (35, .iload_n 0, 1), (36, .bipush 8, 2), (38, .iushr, 1), (39, .iadd, 1), (40, .istore_n 0, 1), (41, .iload_n 0, 1), (42, .iload_n 0, 1), (43, .bipush 16, 2), (45, .iushr, 1)]
theorem DJ6_bitCount_0f7a4_q2 : ∀ q ∈ TJ6_bitCount_0f7a4_q2, decode cJ6_bitCount_0f7a4 q.1 = .ok q.2 := dec_wk _ 32 (by decide +kernel)
def TJ6_bitCount_0f7a4_q3 : List (Nat × Instr × Nat) := [(46, .iadd, 1), (47, .istore_n 0, 1), (48, .iload_n 0, 1), (49, .bipush 63, 2), (51, .iand, 1), (52, .ireturn, 1)]
theorem DJ6_bitCount_0f7a4_q3 : ∀ q ∈ TJ6_bitCount_0f7a4_q3, decode cJ6_bitCount_0f7a4 q.1 = .ok q.2 := dec_wk _ 46 (by decide +kernel)
def TJ9_floorMod_7cf53_q0 : List (Nat × Instr × Nat) := [(0, .iload_n 0, 1), (1, .iload_n 1, 1), (2, .irem, 1), (3, .istore_n 2, 1), (4, .iload_n 0, 1), (5, .iload_n 1, 1), (6, .ixor, 1), (7, .ifCond .ge 11, 3), (10, .iload_n 2, 1), (11, .ifCond .eq 7, 3), (14, .iload_n 2, 1), (15, .iload_n 1, 1)]
theorem DJ9_floorMod_7cf53_q0 : ∀ q ∈ TJ9_floorMod_7cf53_q0, decode cJ9_floorMod_7cf53 q.1 = .ok q.2 := dec_wk _ 0 (by decide +kernel)
def TJ9_floorMod_7cf53_q1 : List (Nat × Instr × Nat) := [(16, .iadd, 1), (17, .ireturn, 1), (18, .iload_n 2, 1), (19, .ireturn, 1)]
theorem DJ9_floorMod_7cf53_q1 : ∀ q ∈ TJ9_floorMod_7cf53_q1, decode cJ9_floorMod_7cf53 q.1 = .ok q.2 := dec_wk _ 16 (by decide +kernel)
def TJ9_abs_0f7a4_q0 : List (Nat × Instr × Nat) := [(0, .iload_n 0, 1), (1, .ifCond .ge 8, 3), (4, .iload_n 0, 1), (5, .ineg, 1), (6, .goto 4, 3), (9, .iload_n 0, 1), (10, .ireturn, 1)]
theorem DJ9_abs_0f7a4_q0 : ∀ q ∈ TJ9_abs_0f7a4_q0, decode cJ9_abs_0f7a4 q.1 = .ok q.2 := dec_wk _ 0 (by decide +kernel)
def TJ9_max_7cf53_q0 : List (Nat × Instr × Nat) := [(0, .iload_n 0, 1), (1, .iload_n 1, 1), (2, .if_icmp .lt 7, 3), (5, .iload_n 0, 1), (6, .goto 4, 3), (9, .iload_n 1, 1), (10, .ireturn, 1)]
theorem DJ9_max_7cf53_q0 : ∀ q ∈ TJ9_max_7cf53_q0, decode cJ9_max_7cf53 q.1 = .ok q.2 := dec_wk _ 0 (by decide +kernel)
def TJ9_min_7cf53_q0 : List (Nat × Instr × Nat) := [(0, .iload_n 0, 1), (1, .iload_n 1, 1), (2, .if_icmp .gt 7, 3), (5, .iload_n 0, 1), (6, .goto 4, 3), (9, .iload_n 1, 1), (10, .ireturn, 1)]
theorem DJ9_min_7cf53_q0 : ∀ q ∈ TJ9_min_7cf53_q0, decode cJ9_min_7cf53 q.1 = .ok q.2 := dec_wk _ 0 (by decide +kernel)
def TJ0_length_8abf5_q0 : List (Nat × Instr × Nat) := [(0, .aload_n 0, 1), (1, .getfield 9, 3), (4, .arraylength, 1), (5, .aload_n 0, 1), (6, .invokevirtual 335, 3), (9, .ishr, 1), (10, .ireturn, 1)]
theorem DJ0_length_8abf5_q0 : ∀ q ∈ TJ0_length_8abf5_q0, decode cJ0_length_8abf5 q.1 = .ok q.2 := dec_wk _ 0 (by decide +kernel)
def TJ0_charAt_5068e_q0 : List (Nat × Instr × Nat) := [(0, .aload_n 0, 1), (1, .invokevirtual 492, 3), (4, .ifCond .eq 12, 3), (7, .aload_n 0, 1), (8, .getfield 9, 3), (11, .iload_n 1, 1), (12, .invokestatic 495, 3), (15, .ireturn, 1), (16, .aload_n 0, 1), (17, .getfield 9, 3), (20, .iload_n 1, 1), (21, .invokestatic 498, 3)]
theorem DJ0_charAt_5068e_q0 : ∀ q ∈ TJ0_charAt_5068e_q0, decode cJ0_charAt_5068e q.1 = .ok q.2 := dec_wk _ 0 (by decide +kernel)
def TJ0_charAt_5068e_q1 : List (Nat × Instr × Nat) := [(24, .ireturn, 1)]
theorem DJ0_charAt_5068e_q1 : ∀ q ∈ TJ0_charAt_5068e_q1, decode cJ0_charAt_5068e q.1 = .ok q.2 := dec_wk _ 24 (by decide +kernel)
def TJ0_coder_7d493_q0 : List (Nat × Instr × Nat) := [(0, .getstatic 38, 3), (3, .ifCond .eq 10, 3), (6, .aload_n 0, 1), (7, .getfield 15, 3), (10, .goto 4, 3), (13, .iconst 1, 1), (14, .ireturn, 1)]
theorem DJ0_coder_7d493_q0 : ∀ q ∈ TJ0_coder_7d493_q0, decode cJ0_coder_7d493 q.1 = .ok q.2 := dec_wk _ 0 (by decide +kernel)
def TJ0_isLatin1_aae02_q0 : List (Nat × Instr × Nat) := [(0, .getstatic 38, 3), (3, .ifCond .eq 14, 3), (6, .aload_n 0, 1), (7, .getfield 15, 3), (10, .ifCond .ne 7, 3), (13, .iconst 1, 1), (14, .goto 4, 3), (17, .iconst 0, 1), (18, .ireturn, 1)]
theorem DJ0_isLatin1_aae02_q0 : ∀ q ∈ TJ0_isLatin1_aae02_q0, decode cJ0_isLatin1_aae02 q.1 = .ok q.2 := dec_wk _ 0 (by decide +kernel)
def TJ0_checkIndex_df160_q0 : List (Nat × Instr × Nat) := [(0, .iload_n 0, 1), (1, .iload_n 1, 1), (2, .getstatic 1053, 3), (5, .invokestatic 1059, 3), (8, .pop, 1), (9, .return_, 1)]
theorem DJ0_checkIndex_df160_q0 : ∀ q ∈ TJ0_checkIndex_df160_q0, decode cJ0_checkIndex_df160 q.1 = .ok q.2 := dec_wk _ 0 (by decide +kernel)
def TJ1_charAt_3b067_q0 : List (Nat × Instr × Nat) := [(0, .iload_n 1, 1), (1, .aload_n 0, 1), (2, .arraylength, 1), (3, .invokestatic 9, 3), (6, .aload_n 0, 1), (7, .iload_n 1, 1), (8, .baload, 1), (9, .sipush 255, 3), (12, .iand, 1), (13, .i2c, 1), (14, .ireturn, 1)]
theorem DJ1_charAt_3b067_q0 : ∀ q ∈ TJ1_charAt_3b067_q0, decode cJ1_charAt_3b067 q.1 = .ok q.2 := dec_wk _ 0 (by decide +kernel)
def TJ2_getChar_3b067_q0 : List (Nat × Instr × Nat) := [(0, .getstatic 44, 3), (3, .ifCond .ne 25, 3), (6, .iload_n 1, 1), (7, .ifCond .lt 11, 3), (10, .iload_n 1, 1), (11, .aload_n 0, 1), (12, .invokestatic 48, 3), (15, .if_icmp .lt 13, 3), (18, .new 52, 3), (21, .dup, 1), (22, .ldc 54, 2), (24, .invokespecial 56, 3)]
theorem DJ2_getChar_3b067_q0 : ∀ q ∈ TJ2_getChar_3b067_q0, decode cJ2_getChar_3b067 q.1 = .ok q.2 := dec_wk _ 0 (by decide +kernel)
def TJ2_getChar_3b067_q1 : List (Nat × Instr × Nat) := [(27, .athrow, 1), (28, .iload_n 1, 1), (29, .iconst 1, 1), (30, .ishl, 1), (31, .istore_n 1, 1), (32, .aload_n 0, 1), (33, .iload_n 1, 1), (34, .iinc 1 1, 3), (37, .baload, 1), (38, .sipush 255, 3), (41, .iand, 1), (42, .getstatic 59, 3)]
theorem DJ2_getChar_3b067_q1 : ∀ q ∈ TJ2_getChar_3b067_q1, decode cJ2_getChar_3b067 q.1 = .ok q.2 := dec_wk _ 27 (by decide +kernel)
def TJ2_getChar_3b067_q2 : List (Nat × Instr × Nat) := [(45, .ishl, 1), (46, .aload_n 0, 1), (47, .iload_n 1, 1), (48, .baload, 1), (49, .sipush 255, 3), (52, .iand, 1), (53, .getstatic 63, 3), (56, .ishl, 1), (57, .ior, 1), (58, .i2c, 1), (59, .ireturn, 1)]
theorem DJ2_getChar_3b067_q2 : ∀ q ∈ TJ2_getChar_3b067_q2, decode cJ2_getChar_3b067 q.1 = .ok q.2 := dec_wk _ 45 (by decide +kernel)
def TJ2_length_9d52b_q0 : List (Nat × Instr × Nat) := [(0, .aload_n 0, 1), (1, .arraylength, 1), (2, .iconst 1, 1), (3, .ishr, 1), (4, .ireturn, 1)]
theorem DJ2_length_9d52b_q0 : ∀ q ∈ TJ2_length_9d52b_q0, decode cJ2_length_9d52b q.1 = .ok q.2 := dec_wk _ 0 (by decide +kernel)
def TJ2_charAt_3b067_q0 : List (Nat × Instr × Nat) := [(0, .iload_n 1, 1), (1, .aload_n 0, 1), (2, .invokestatic 67, 3), (5, .aload_n 0, 1), (6, .iload_n 1, 1), (7, .invokestatic 71, 3), (10, .ireturn, 1)]
theorem DJ2_charAt_3b067_q0 : ∀ q ∈ TJ2_charAt_3b067_q0, decode cJ2_charAt_3b067 q.1 = .ok q.2 := dec_wk _ 0 (by decide +kernel)
def TJ2_checkIndex_2214a_q0 : List (Nat × Instr × Nat) := [(0, .iload_n 0, 1), (1, .aload_n 1, 1), (2, .invokestatic 48, 3), (5, .invokestatic 414, 3), (8, .return_, 1)]
theorem DJ2_checkIndex_2214a_q0 : ∀ q ∈ TJ2_checkIndex_2214a_q0, decode cJ2_checkIndex_2214a q.1 = .ok q.2 := dec_wk _ 0 (by decide +kernel)
def TJ3_checkIndex_8e157_q0 : List (Nat × Instr × Nat) := [(0, .iload_n 0, 1), (1, .ifCond .lt 8, 3), (4, .iload_n 0, 1), (5, .iload_n 1, 1), (6, .if_icmp .lt 10, 3), (9, .aload_n 2, 1), (10, .iload_n 0, 1), (11, .iload_n 1, 1), (12, .invokestatic 95, 3), (15, .athrow, 1), (16, .iload_n 0, 1), (17, .ireturn, 1)]
theorem DJ3_checkIndex_8e157_q0 : ∀ q ∈ TJ3_checkIndex_8e157_q0, decode cJ3_checkIndex_8e157 q.1 = .ok q.2 := dec_wk _ 0 (by decide +kernel)
end
