section
def TX12_sumOf : List (Nat × Instr × Nat) := [(0, .iconst 0, 1), (1, .istore_n 3, 1), (2, .iconst 0, 1), (3, .istore 4, 2), (5, .iload 4, 2), (7, .aload_n 0, 1), (8, .getfield 13, 3), (11, .sipush 435, 3), (14, .iaload, 1), (15, .if_icmp .ge 54, 3), (18, .aload_n 0, 1), (19, .getfield 13, 3), (22, .sipush 436, 3), (25, .iconst 4, 1), (26, .iload 4, 2), (28, .imul, 1), (29, .iadd, 1), (30, .iaload, 1), (31, .iload_n 1, 1), (32, .if_icmp .ne 31, 3), (35, .aload_n 0, 1), (36, .iload 4, 2), (38, .iload_n 2, 1), (39, .invokevirtual 264, 3), (42, .ifCond .eq 21, 3), (45, .iload_n 3, 1), (46, .aload_n 0, 1), (47, .getfield 13, 3), (50, .sipush 436, 3), (53, .iconst 4, 1), (54, .iload 4, 2), (56, .imul, 1), (57, .iadd, 1), (58, .iconst 1, 1), (59, .iadd, 1), (60, .iaload, 1), (61, .iadd, 1), (62, .istore_n 3, 1), (63, .iinc 4 1, 3), (66, .goto (-61), 3), (69, .iload_n 3, 1), (70, .ireturn, 1)]
theorem DX12_sumOf : ∀ q ∈ TX12_sumOf, decode cX12_sumOf q.1 = .ok q.2 := dec_cut 24 (by decide +kernel) (dec_sf cX12_sumOf 42 _ (by decide +kernel))
def TX12_byLaw : List (Nat × Instr × Nat) := [(0, .aload_n 0, 1), (1, .getfield 13, 3), (4, .iconst 2, 1), (5, .iaload, 1), (6, .iconst 1, 1), (7, .if_icmp .ne 10, 3), (10, .aload_n 0, 1), (11, .iload_n 1, 1), (12, .iload_n 2, 1), (13, .invokevirtual 267, 3), (16, .ireturn, 1), (17, .iload_n 1, 1), (18, .ifCond .ne 25, 3), (21, .aload_n 0, 1), (22, .iload_n 2, 1), (23, .aload_n 0, 1), (24, .getfield 13, 3), (27, .iconst 3, 1), (28, .iaload, 1), (29, .invokevirtual 257, 3), (32, .ifCond .eq 7, 3), (35, .iconst 1, 1), (36, .goto 18, 3), (39, .iconst 0, 1), (40, .goto 14, 3), (43, .iload_n 1, 1), (44, .iconst 1, 1), (45, .if_icmp .ne 8, 3), (48, .bipush 10, 2), (50, .goto 4, 3), (53, .iconst 0, 1), (54, .ireturn, 1)]
theorem DX12_byLaw : ∀ q ∈ TX12_byLaw, decode cX12_byLaw q.1 = .ok q.2 := dec_cut 24 (by decide +kernel) (dec_sf cX12_byLaw 40 _ (by decide +kernel))
def TX12_fadesOfAll : List (Nat × Instr × Nat) := [(0, .iconst 0, 1), (1, .istore_n 1, 1), (2, .iconst 0, 1), (3, .istore_n 2, 1), (4, .iload_n 2, 1), (5, .aload_n 0, 1), (6, .invokevirtual 59, 3), (9, .if_icmp .ge 18, 3), (12, .iload_n 1, 1), (13, .aload_n 0, 1), (14, .iload_n 2, 1), (15, .iconst 4, 1), (16, .invokevirtual 67, 3), (19, .iadd, 1), (20, .istore_n 1, 1), (21, .iinc 2 1, 3), (24, .goto (-20), 3), (27, .iload_n 1, 1), (28, .ireturn, 1)]
theorem DX12_fadesOfAll : ∀ q ∈ TX12_fadesOfAll, decode cX12_fadesOfAll q.1 = .ok q.2 := by decide +kernel
def TX12_shareOf : List (Nat × Instr × Nat) := [(0, .aload_n 0, 1), (1, .invokevirtual 270, 3), (4, .istore_n 2, 1), (5, .iload_n 2, 1), (6, .ifCond .ne 7, 3), (9, .iconst 0, 1), (10, .goto 14, 3), (13, .bipush 100, 2), (15, .aload_n 0, 1), (16, .iload_n 1, 1), (17, .iconst 4, 1), (18, .invokevirtual 67, 3), (21, .imul, 1), (22, .iload_n 2, 1), (23, .idiv, 1), (24, .ireturn, 1)]
theorem DX12_shareOf : ∀ q ∈ TX12_shareOf, decode cX12_shareOf q.1 = .ok q.2 := by decide +kernel
def TX12_hangsOn : List (Nat × Instr × Nat) := [(0, .aload_n 0, 1), (1, .iload_n 1, 1), (2, .bipush 6, 2), (4, .invokevirtual 73, 3), (7, .ifCond .eq 5, 3), (10, .iload_n 1, 1), (11, .ireturn, 1), (12, .iconst (-1), 1), (13, .istore_n 2, 1), (14, .ldc_w 273, 3), (17, .istore_n 3, 1), (18, .iconst 0, 1), (19, .istore 4, 2), (21, .iload 4, 2), (23, .aload_n 0, 1), (24, .invokevirtual 59, 3), (27, .if_icmp .ge 65, 3), (30, .aload_n 0, 1), (31, .iload 4, 2), (33, .bipush 6, 2), (35, .invokevirtual 73, 3), (38, .ifCond .eq 23, 3), (41, .aload_n 0, 1), (42, .iload 4, 2), (44, .iconst 0, 1), (45, .invokevirtual 67, 3), (48, .aload_n 0, 1), (49, .iload_n 1, 1), (50, .iconst 0, 1), (51, .invokevirtual 67, 3), (54, .isub, 1), (55, .invokestatic 274, 3), (58, .goto 6, 3), (61, .ldc_w 273, 3), (64, .istore 5, 2), (66, .iload 5, 2), (68, .iload_n 3, 1), (69, .if_icmp .ge 8, 3), (72, .iload 4, 2), (74, .goto 4, 3), (77, .iload_n 2, 1), (78, .istore_n 2, 1), (79, .iload_n 3, 1), (80, .iload 5, 2), (82, .invokestatic 119, 3), (85, .istore_n 3, 1), (86, .iinc 4 1, 3), (89, .goto (-68), 3), (92, .iload_n 2, 1), (93, .ireturn, 1)]
theorem DX12_hangsOn : ∀ q ∈ TX12_hangsOn, decode cX12_hangsOn q.1 = .ok q.2 := dec_cut 24 (by decide +kernel) (dec_sf cX12_hangsOn 44 _ (by decide +kernel))
def TX12_ring : List (Nat × Instr × Nat) := [(0, .aload_n 0, 1), (1, .iconst 0, 1), (2, .putfield 3, 3), (5, .aload_n 0, 1), (6, .aload_n 0, 1), (7, .iload_n 1, 1), (8, .invokevirtual 277, 3), (11, .iconst 1, 1), (12, .invokevirtual 250, 3), (15, .ifCond .ne 26, 3), (18, .aload_n 0, 1), (19, .iload_n 2, 1), (20, .iconst 0, 1), (21, .bipush 13, 2), (23, .invokestatic 77, 3), (26, .ifCond .ne 7, 3), (29, .iconst 1, 1), (30, .goto 4, 3), (33, .iconst 0, 1), (34, .iconst 2, 1), (35, .invokevirtual 250, 3), (38, .ifCond .eq 5, 3), (41, .iconst 0, 1), (42, .ireturn, 1), (43, .iload_n 2, 1), (44, .tableswitch 91 8 13 #[40, 58, 65, 72, 79, 85], 40), (84, .iload_n 1, 1), (85, .aload_n 0, 1), (86, .invokevirtual 70, 3), (89, .if_icmp .ne 7, 3), (92, .iconst (-1), 1), (93, .goto 8, 3), (96, .aload_n 0, 1), (97, .iload_n 1, 1), (98, .invokevirtual 253, 3), (101, .ireturn, 1), (102, .aload_n 0, 1), (103, .iconst 0, 1), (104, .iload_n 1, 1), (105, .invokevirtual 280, 3), (108, .ireturn, 1), (109, .aload_n 0, 1), (110, .iconst 1, 1), (111, .iload_n 1, 1), (112, .invokevirtual 280, 3), (115, .ireturn, 1), (116, .aload_n 0, 1), (117, .iconst 2, 1), (118, .iload_n 1, 1), (119, .invokevirtual 280, 3), (122, .ireturn, 1), (123, .aload_n 0, 1), (124, .iload_n 1, 1), (125, .invokevirtual 283, 3), (128, .ireturn, 1), (129, .aload_n 0, 1), (130, .iload_n 1, 1), (131, .invokevirtual 286, 3), (134, .ireturn, 1), (135, .aload_n 0, 1), (136, .iload_n 1, 1), (137, .iload_n 2, 1), (138, .invokevirtual 67, 3), (141, .ireturn, 1)]
theorem DX12_ring : ∀ q ∈ TX12_ring, decode cX12_ring q.1 = .ok q.2 := dec_cut 24 (by decide +kernel) (dec_cut 24 (by decide +kernel) (dec_sf cX12_ring 118 _ (by decide +kernel)))
def TX12_takesAlong : List (Nat × Instr × Nat) := [(0, .iload_n 1, 1), (1, .iload_n 2, 1), (2, .invokestatic 119, 3), (5, .istore 4, 2), (7, .aload_n 0, 1), (8, .iload 4, 2), (10, .bipush 7, 2), (12, .invokevirtual 73, 3), (15, .ifCond .eq 5, 3), (18, .iconst 1, 1), (19, .ireturn, 1), (20, .iload_n 2, 1), (21, .iload_n 1, 1), (22, .if_icmp .le 7, 3), (25, .iconst 1, 1), (26, .goto 4, 3), (29, .iconst 0, 1), (30, .iload_n 3, 1), (31, .if_icmp .ne 21, 3), (34, .aload_n 0, 1), (35, .iload 4, 2), (37, .invokevirtual 253, 3), (40, .iconst 1, 1), (41, .if_icmp .ne 7, 3), (44, .iconst 1, 1), (45, .goto 28, 3), (48, .iconst 0, 1), (49, .goto 24, 3), (52, .aload_n 0, 1), (53, .iload 4, 2), (55, .invokevirtual 253, 3), (58, .aload_n 0, 1), (59, .iload 4, 2), (61, .iconst 1, 1), (62, .invokevirtual 67, 3), (65, .if_icmp .lt 7, 3), (68, .iconst 1, 1), (69, .goto 4, 3), (72, .iconst 0, 1), (73, .ireturn, 1)]
theorem DX12_takesAlong : ∀ q ∈ TX12_takesAlong, decode cX12_takesAlong q.1 = .ok q.2 := dec_cut 24 (by decide +kernel) (dec_sf cX12_takesAlong 44 _ (by decide +kernel))
def TX12_allWith : List (Nat × Instr × Nat) := [(0, .iconst 1, 1), (1, .iload_n 1, 1), (2, .ishl, 1), (3, .istore_n 3, 1), (4, .iconst 0, 1), (5, .istore 4, 2), (7, .iload 4, 2), (9, .bipush 8, 2), (11, .if_icmp .ge 107, 3), (14, .iconst 0, 1), (15, .istore 5, 2), (17, .iload 5, 2), (19, .aload_n 0, 1), (20, .invokevirtual 59, 3), (23, .if_icmp .ge 89, 3), (26, .iload_n 3, 1), (27, .iload 5, 2), (29, .invokestatic 289, 3), (32, .ifCond .ne 6, 3), (35, .goto 71, 3), (38, .iload_n 3, 1), (39, .iload 5, 2), (41, .aload_n 0, 1), (42, .invokevirtual 70, 3), (45, .if_icmp .ge 26, 3), (48, .aload_n 0, 1), (49, .iload 5, 2), (51, .iload 5, 2), (53, .iconst 1, 1), (54, .iadd, 1), (55, .iload_n 2, 1), (56, .invokevirtual 292, 3), (59, .ifCond .eq 12, 3), (62, .iconst 1, 1), (63, .iload 5, 2), (65, .iconst 1, 1), (66, .iadd, 1), (67, .ishl, 1), (68, .goto 4, 3), (71, .iconst 0, 1), (72, .ior, 1), (73, .istore_n 3, 1), (74, .iload_n 3, 1), (75, .iload 5, 2), (77, .ifCond .le 26, 3), (80, .aload_n 0, 1), (81, .iload 5, 2), (83, .iload 5, 2), (85, .iconst 1, 1), (86, .isub, 1), (87, .iload_n 2, 1), (88, .invokevirtual 292, 3), (91, .ifCond .eq 12, 3), (94, .iconst 1, 1), (95, .iload 5, 2), (97, .iconst 1, 1), (98, .isub, 1), (99, .ishl, 1), (100, .goto 4, 3), (103, .iconst 0, 1), (104, .ior, 1), (105, .istore_n 3, 1), (106, .iinc 5 1, 3), (109, .goto (-92), 3)]
theorem DX12_allWith : ∀ q ∈ TX12_allWith, decode cX12_allWith q.1 = .ok q.2 := dec_cut 24 (by decide +kernel) (dec_cut 24 (dec_sf cX12_allWith 45 _ (by decide +kernel)) (dec_sf cX12_allWith 85 _ (by decide +kernel)))
def TX12_allWith_1 : List (Nat × Instr × Nat) := [(112, .iinc 4 1, 3), (115, .goto (-108), 3), (118, .iload_n 3, 1), (119, .ireturn, 1)]
theorem DX12_allWith_1 : ∀ q ∈ TX12_allWith_1, decode cX12_allWith q.1 = .ok q.2 := dec_sf cX12_allWith 112 _ (by decide +kernel)
def TX12_mayGo : List (Nat × Instr × Nat) := [(0, .aload_n 0, 1), (1, .iload_n 1, 1), (2, .iconst 0, 1), (3, .invokevirtual 67, 3), (6, .istore_n 3, 1), (7, .iload_n 2, 1), (8, .ifCond .eq 9, 3), (11, .iload_n 3, 1), (12, .iconst 1, 1), (13, .iadd, 1), (14, .goto 6, 3), (17, .iload_n 3, 1), (18, .iconst 1, 1), (19, .isub, 1), (20, .invokestatic 296, 3), (23, .ifCond .eq 5, 3), (26, .iconst 0, 1), (27, .ireturn, 1), (28, .aload_n 0, 1), (29, .iload_n 1, 1), (30, .iconst 2, 1), (31, .invokevirtual 73, 3), (34, .ifCond .eq 23, 3), (37, .iload_n 2, 1), (38, .ifCond .eq 9, 3), (41, .iload_n 3, 1), (42, .iconst 1, 1), (43, .iadd, 1), (44, .goto 4, 3), (47, .iload_n 3, 1), (48, .aload_n 0, 1), (49, .getfield 13, 3), (52, .iconst 5, 1), (53, .iaload, 1), (54, .if_icmp .eq 7, 3), (57, .iconst 1, 1), (58, .goto 4, 3), (61, .iconst 0, 1), (62, .ireturn, 1)]
theorem DX12_mayGo : ∀ q ∈ TX12_mayGo, decode cX12_mayGo q.1 = .ok q.2 := dec_cut 24 (by decide +kernel) (dec_sf cX12_mayGo 38 _ (by decide +kernel))
def TX12_goingBy : List (Nat × Instr × Nat) := [(0, .aload_n 0, 1), (1, .iload_n 1, 1), (2, .iload_n 2, 1), (3, .invokevirtual 299, 3), (6, .istore_n 3, 1), (7, .iconst 1, 1), (8, .istore 4, 2), (10, .iconst 0, 1), (11, .istore 5, 2), (13, .iload 5, 2), (15, .aload_n 0, 1), (16, .invokevirtual 59, 3), (19, .if_icmp .ge 40, 3), (22, .iload 4, 2), (24, .ifCond .eq 26, 3), (27, .iload_n 3, 1), (28, .iload 5, 2), (30, .invokestatic 289, 3), (33, .ifCond .eq 13, 3), (36, .aload_n 0, 1), (37, .iload 5, 2), (39, .iload_n 2, 1), (40, .invokevirtual 303, 3), (43, .ifCond .eq 7, 3), (46, .iconst 1, 1), (47, .goto 4, 3), (50, .iconst 0, 1), (51, .istore 4, 2), (53, .iinc 5 1, 3), (56, .goto (-43), 3), (59, .iload 4, 2), (61, .ifCond .eq 7, 3), (64, .iload_n 3, 1), (65, .goto 4, 3), (68, .iconst 0, 1), (69, .ireturn, 1)]
theorem DX12_goingBy : ∀ q ∈ TX12_goingBy, decode cX12_goingBy q.1 = .ok q.2 := dec_cut 24 (by decide +kernel) (dec_sf cX12_goingBy 46 _ (by decide +kernel))
def TX12_goesOne : List (Nat × Instr × Nat) := [(0, .aload_n 0, 1), (1, .iload_n 1, 1), (2, .iload_n 2, 1), (3, .invokevirtual 307, 3), (6, .istore_n 3, 1), (7, .iconst 0, 1), (8, .istore 4, 2), (10, .iload 4, 2), (12, .aload_n 0, 1), (13, .invokevirtual 59, 3), (16, .if_icmp .ge 68, 3), (19, .iload_n 3, 1), (20, .iload 4, 2), (22, .invokestatic 289, 3), (25, .ifCond .ne 6, 3), (28, .goto 50, 3), (31, .aload_n 0, 1), (32, .getfield 13, 3), (35, .iload 4, 2), (37, .iconst 0, 1), (38, .invokestatic 63, 3), (41, .dup2, 1), (42, .iaload, 1), (43, .iload_n 2, 1), (44, .ifCond .eq 7, 3), (47, .iconst 1, 1), (48, .goto 4, 3), (51, .iconst (-1), 1), (52, .iadd, 1), (53, .iastore, 1), (54, .aload_n 0, 1), (55, .dup, 1), (56, .getfield 310, 3), (59, .aload_n 0, 1), (60, .iload 4, 2), (62, .iconst 3, 1), (63, .invokevirtual 73, 3), (66, .ifCond .eq 7, 3), (69, .iconst 0, 1), (70, .goto 4, 3), (73, .iconst 1, 1), (74, .iadd, 1), (75, .putfield 310, 3), (78, .iinc 4 1, 3), (81, .goto (-71), 3), (84, .iload_n 3, 1), (85, .ifCond .eq 7, 3), (88, .iconst 1, 1), (89, .goto 4, 3), (92, .iconst 0, 1), (93, .ireturn, 1)]
theorem DX12_goesOne : ∀ q ∈ TX12_goesOne, decode cX12_goesOne q.1 = .ok q.2 := dec_cut 24 (by decide +kernel) (dec_sf cX12_goesOne 44 _ (by decide +kernel))
def TX12_pulls : List (Nat × Instr × Nat) := [(0, .aload_n 0, 1), (1, .iconst 0, 1), (2, .putfield 310, 3), (5, .iconst 0, 1), (6, .istore 4, 2), (8, .iload 4, 2), (10, .iload_n 3, 1), (11, .if_icmp .ge 18, 3), (14, .aload_n 0, 1), (15, .iload_n 1, 1), (16, .iload_n 2, 1), (17, .invokevirtual 313, 3), (20, .ifCond .eq 9, 3), (23, .iinc 4 1, 3), (26, .goto (-18), 3), (29, .aload_n 0, 1), (30, .getfield 13, 3), (33, .bipush 8, 2), (35, .sipush 9999, 3), (38, .aload_n 0, 1), (39, .getfield 13, 3), (42, .bipush 8, 2), (44, .iaload, 1), (45, .aload_n 0, 1), (46, .getfield 310, 3), (49, .iadd, 1), (50, .invokestatic 119, 3), (53, .iastore, 1), (54, .iload 4, 2), (56, .ireturn, 1)]
theorem DX12_pulls : ∀ q ∈ TX12_pulls, decode cX12_pulls q.1 = .ok q.2 := dec_cut 24 (by decide +kernel) (dec_sf cX12_pulls 46 _ (by decide +kernel))
def TX12_tells : List (Nat × Instr × Nat) := [(0, .sipush 359, 3), (3, .istore 4, 2), (5, .iload 4, 2), (7, .bipush 6, 2), (9, .if_icmp .lt 32, 3), (12, .aload_n 0, 1), (13, .getfield 13, 3), (16, .bipush 75, 2), (18, .iload 4, 2), (20, .iadd, 1), (21, .aload_n 0, 1), (22, .getfield 13, 3), (25, .bipush 75, 2), (27, .iload 4, 2), (29, .iadd, 1), (30, .bipush 6, 2), (32, .isub, 1), (33, .iaload, 1), (34, .iastore, 1), (35, .iinc 4 (-1), 3), (38, .goto (-33), 3), (41, .aload_n 0, 1), (42, .getfield 13, 3), (45, .bipush 75, 2), (47, .aload_n 0, 1), (48, .getfield 13, 3), (51, .iconst 4, 1), (52, .iaload, 1), (53, .iastore, 1), (54, .aload_n 0, 1), (55, .getfield 13, 3), (58, .bipush 76, 2), (60, .aload_n 0, 1), (61, .getfield 13, 3), (64, .iconst 3, 1), (65, .iaload, 1), (66, .iastore, 1), (67, .aload_n 0, 1), (68, .getfield 13, 3), (71, .bipush 77, 2), (73, .iload_n 1, 1), (74, .iastore, 1), (75, .aload_n 0, 1), (76, .getfield 13, 3), (79, .bipush 78, 2), (81, .iload_n 2, 1), (82, .iastore, 1), (83, .aload_n 0, 1), (84, .getfield 13, 3), (87, .bipush 79, 2), (89, .iload_n 3, 1), (90, .iastore, 1), (91, .aload_n 0, 1), (92, .getfield 13, 3), (95, .bipush 80, 2), (97, .aload_n 0, 1), (98, .iload_n 1, 1), (99, .iconst 0, 1), (100, .invokevirtual 67, 3), (103, .iastore, 1), (104, .aload_n 0, 1), (105, .getfield 13, 3), (108, .bipush 9, 2), (110, .bipush 60, 2)]
theorem DX12_tells : ∀ q ∈ TX12_tells, decode cX12_tells q.1 = .ok q.2 := dec_cut 24 (by decide +kernel) (dec_cut 24 (dec_sf cX12_tells 47 _ (by decide +kernel)) (dec_sf cX12_tells 84 _ (by decide +kernel)))
def TX12_tells_1 : List (Nat × Instr × Nat) := [(112, .aload_n 0, 1), (113, .getfield 13, 3), (116, .bipush 9, 2), (118, .iaload, 1), (119, .iconst 1, 1), (120, .iadd, 1), (121, .invokestatic 119, 3), (124, .iastore, 1), (125, .return_, 1)]
theorem DX12_tells_1 : ∀ q ∈ TX12_tells_1, decode cX12_tells q.1 = .ok q.2 := dec_sf cX12_tells 112 _ (by decide +kernel)
def TX12_pull : List (Nat × Instr × Nat) := [(0, .aload_n 0, 1), (1, .iconst 0, 1), (2, .putfield 3, 3), (5, .aload_n 0, 1), (6, .aload_n 0, 1), (7, .iload_n 1, 1), (8, .invokevirtual 277, 3), (11, .iconst 1, 1), (12, .invokevirtual 250, 3), (15, .ifCond .ne 15, 3), (18, .aload_n 0, 1), (19, .iload_n 3, 1), (20, .invokestatic 316, 3), (23, .iconst 2, 1), (24, .invokevirtual 250, 3), (27, .ifCond .eq 5, 3), (30, .iconst 0, 1), (31, .ireturn, 1), (32, .aload_n 0, 1), (33, .invokevirtual 319, 3), (36, .aload_n 0, 1), (37, .iload_n 1, 1), (38, .iload_n 2, 1), (39, .iload_n 3, 1), (40, .invokevirtual 322, 3), (43, .istore 4, 2), (45, .aload_n 0, 1), (46, .iload_n 1, 1), (47, .iconst 0, 1), (48, .iload 4, 2), (50, .invokevirtual 326, 3), (53, .iload 4, 2), (55, .ireturn, 1)]
theorem DX12_pull : ∀ q ∈ TX12_pull, decode cX12_pull q.1 = .ok q.2 := dec_cut 24 (by decide +kernel) (dec_sf cX12_pull 40 _ (by decide +kernel))
def TX12_free : List (Nat × Instr × Nat) := [(0, .aload_n 0, 1), (1, .iconst 0, 1), (2, .putfield 3, 3), (5, .aload_n 0, 1), (6, .aload_n 0, 1), (7, .iload_n 1, 1), (8, .invokevirtual 277, 3), (11, .iconst 1, 1), (12, .invokevirtual 250, 3), (15, .ifCond .ne 26, 3), (18, .aload_n 0, 1), (19, .aload_n 0, 1), (20, .iload_n 1, 1), (21, .bipush 7, 2), (23, .invokevirtual 73, 3), (26, .ifCond .ne 7, 3), (29, .iconst 1, 1), (30, .goto 4, 3), (33, .iconst 0, 1), (34, .iconst 2, 1), (35, .invokevirtual 250, 3), (38, .ifCond .eq 5, 3), (41, .iconst 0, 1), (42, .ireturn, 1), (43, .aload_n 0, 1), (44, .invokevirtual 319, 3), (47, .aload_n 0, 1), (48, .getfield 13, 3), (51, .iload_n 1, 1), (52, .bipush 7, 2), (54, .invokestatic 63, 3), (57, .iconst 0, 1), (58, .iastore, 1), (59, .aload_n 0, 1), (60, .iload_n 1, 1), (61, .invokevirtual 253, 3), (64, .ireturn, 1)]
theorem DX12_free : ∀ q ∈ TX12_free, decode cX12_free q.1 = .ok q.2 := dec_cut 24 (by decide +kernel) (dec_sf cX12_free 43 _ (by decide +kernel))
def TX12_snag : List (Nat × Instr × Nat) := [(0, .aload_n 0, 1), (1, .iconst 0, 1), (2, .putfield 3, 3), (5, .aload_n 0, 1), (6, .aload_n 0, 1), (7, .iload_n 1, 1), (8, .invokevirtual 277, 3), (11, .iconst 1, 1), (12, .invokevirtual 250, 3), (15, .ifCond .ne 34, 3), (18, .aload_n 0, 1), (19, .iload_n 1, 1), (20, .aload_n 0, 1), (21, .invokevirtual 70, 3), (24, .if_icmp .eq 13, 3), (27, .aload_n 0, 1), (28, .iload_n 1, 1), (29, .bipush 7, 2), (31, .invokevirtual 73, 3), (34, .ifCond .eq 7, 3), (37, .iconst 1, 1), (38, .goto 4, 3), (41, .iconst 0, 1), (42, .iconst 2, 1), (43, .invokevirtual 250, 3), (46, .ifCond .eq 5, 3), (49, .iconst 0, 1), (50, .ireturn, 1), (51, .aload_n 0, 1), (52, .invokevirtual 319, 3), (55, .aload_n 0, 1), (56, .getfield 13, 3), (59, .iload_n 1, 1), (60, .bipush 7, 2), (62, .invokestatic 63, 3), (65, .iconst 1, 1), (66, .iastore, 1), (67, .aload_n 0, 1), (68, .iload_n 1, 1), (69, .invokevirtual 253, 3), (72, .ireturn, 1)]
theorem DX12_snag : ∀ q ∈ TX12_snag, decode cX12_snag q.1 = .ok q.2 := dec_cut 24 (by decide +kernel) (dec_sf cX12_snag 43 _ (by decide +kernel))
def TX12_hook : List (Nat × Instr × Nat) := [(0, .aload_n 0, 1), (1, .iconst 0, 1), (2, .putfield 3, 3), (5, .aload_n 0, 1), (6, .aload_n 0, 1), (7, .iload_n 1, 1), (8, .invokevirtual 277, 3), (11, .iconst 1, 1), (12, .invokevirtual 250, 3), (15, .ifCond .eq 5, 3), (18, .iconst 0, 1), (19, .ireturn, 1), (20, .aload_n 0, 1), (21, .invokevirtual 319, 3), (24, .aload_n 0, 1), (25, .iload_n 1, 1), (26, .bipush 6, 2), (28, .invokevirtual 73, 3), (31, .istore_n 3, 1), (32, .aload_n 0, 1), (33, .getfield 13, 3), (36, .iload_n 1, 1), (37, .bipush 6, 2), (39, .invokestatic 63, 3), (42, .iload_n 2, 1), (43, .ifCond .eq 7, 3), (46, .iconst 1, 1), (47, .goto 4, 3), (50, .iconst 0, 1), (51, .iastore, 1), (52, .iload_n 3, 1), (53, .iload_n 2, 1), (54, .if_icmp .eq 7, 3), (57, .iconst 1, 1), (58, .goto 4, 3), (61, .iconst 0, 1), (62, .ireturn, 1)]
theorem DX12_hook : ∀ q ∈ TX12_hook, decode cX12_hook q.1 = .ok q.2 := dec_cut 24 (by decide +kernel) (dec_sf cX12_hook 42 _ (by decide +kernel))
def TX12_sew : List (Nat × Instr × Nat) := [(0, .aload_n 0, 1), (1, .iconst 0, 1), (2, .putfield 3, 3), (5, .aload_n 0, 1), (6, .iload_n 1, 1), (7, .invokestatic 296, 3), (10, .iconst 1, 1), (11, .invokevirtual 250, 3), (14, .ifCond .ne 63, 3), (17, .aload_n 0, 1), (18, .iload_n 2, 1), (19, .iconst 1, 1), (20, .bipush 9, 2), (22, .invokestatic 77, 3), (25, .ifCond .ne 7, 3), (28, .iconst 1, 1), (29, .goto 4, 3), (32, .iconst 0, 1), (33, .iconst 2, 1), (34, .invokevirtual 250, 3), (37, .ifCond .ne 40, 3), (40, .aload_n 0, 1), (41, .aload_n 0, 1), (42, .invokevirtual 59, 3), (45, .bipush 8, 2), (47, .if_icmp .eq 18, 3), (50, .iload_n 1, 1), (51, .aload_n 0, 1), (52, .invokevirtual 125, 3), (55, .aload_n 0, 1), (56, .invokevirtual 128, 3), (59, .invokestatic 77, 3), (62, .ifCond .ne 7, 3), (65, .iconst 1, 1), (66, .goto 4, 3), (69, .iconst 0, 1), (70, .iconst 3, 1), (71, .invokevirtual 250, 3), (74, .ifCond .eq 5, 3), (77, .iconst 0, 1), (78, .ireturn, 1), (79, .aload_n 0, 1), (80, .invokevirtual 319, 3), (83, .aload_n 0, 1), (84, .iload_n 1, 1), (85, .iload_n 2, 1), (86, .invokevirtual 148, 3), (89, .aload_n 0, 1), (90, .invokevirtual 70, 3), (93, .ireturn, 1)]
theorem DX12_sew : ∀ q ∈ TX12_sew, decode cX12_sew q.1 = .ok q.2 := dec_cut 24 (by decide +kernel) (dec_sf cX12_sew 45 _ (by decide +kernel))
def TX12_let : List (Nat × Instr × Nat) := [(0, .aload_n 0, 1), (1, .iconst 0, 1), (2, .putfield 3, 3), (5, .aload_n 0, 1), (6, .aload_n 0, 1), (7, .iload_n 1, 1), (8, .invokevirtual 277, 3), (11, .iconst 1, 1), (12, .invokevirtual 250, 3), (15, .ifCond .ne 26, 3), (18, .aload_n 0, 1), (19, .iload_n 2, 1), (20, .iconst 0, 1), (21, .bipush 9, 2), (23, .invokestatic 77, 3), (26, .ifCond .ne 7, 3), (29, .iconst 1, 1), (30, .goto 4, 3), (33, .iconst 0, 1), (34, .iconst 2, 1), (35, .invokevirtual 250, 3), (38, .ifCond .eq 5, 3), (41, .iconst 0, 1), (42, .ireturn, 1), (43, .aload_n 0, 1), (44, .invokevirtual 319, 3), (47, .aload_n 0, 1), (48, .iload_n 1, 1), (49, .iconst 5, 1), (50, .invokevirtual 67, 3), (53, .istore_n 3, 1), (54, .aload_n 0, 1), (55, .getfield 13, 3), (58, .iload_n 1, 1), (59, .iconst 5, 1), (60, .invokestatic 63, 3), (63, .iload_n 2, 1), (64, .iastore, 1), (65, .iload_n 3, 1), (66, .ireturn, 1)]
theorem DX12_let : ∀ q ∈ TX12_let, decode cX12_let q.1 = .ok q.2 := dec_cut 24 (by decide +kernel) (dec_sf cX12_let 43 _ (by decide +kernel))
def TX12_chair : List (Nat × Instr × Nat) := [(0, .aload_n 0, 1), (1, .iconst 0, 1), (2, .putfield 3, 3), (5, .aload_n 0, 1), (6, .iload_n 1, 1), (7, .invokestatic 296, 3), (10, .iconst 1, 1), (11, .invokevirtual 250, 3), (14, .ifCond .eq 5, 3), (17, .iconst 0, 1), (18, .ireturn, 1), (19, .aload_n 0, 1), (20, .invokevirtual 319, 3), (23, .aload_n 0, 1), (24, .getfield 13, 3), (27, .bipush 7, 2), (29, .iaload, 1), (30, .iload_n 1, 1), (31, .invokestatic 289, 3), (34, .istore_n 3, 1), (35, .aload_n 0, 1), (36, .getfield 13, 3), (39, .bipush 7, 2), (41, .iaload, 1), (42, .iconst 1, 1), (43, .iload_n 1, 1), (44, .ishl, 1), (45, .iconst (-1), 1), (46, .ixor, 1), (47, .iand, 1), (48, .istore 4, 2), (50, .aload_n 0, 1), (51, .getfield 13, 3), (54, .bipush 7, 2), (56, .iload_n 2, 1), (57, .ifCond .eq 12, 3), (60, .iload 4, 2), (62, .iconst 1, 1), (63, .iload_n 1, 1), (64, .ishl, 1), (65, .ior, 1), (66, .goto 5, 3), (69, .iload 4, 2), (71, .iastore, 1), (72, .iload_n 3, 1), (73, .iload_n 2, 1), (74, .if_icmp .eq 7, 3), (77, .iconst 1, 1), (78, .goto 4, 3), (81, .iconst 0, 1), (82, .ireturn, 1)]
theorem DX12_chair : ∀ q ∈ TX12_chair, decode cX12_chair q.1 = .ok q.2 := dec_cut 24 (by decide +kernel) (dec_sf cX12_chair 42 _ (by decide +kernel))
def TX12_catches : List (Nat × Instr × Nat) := [(0, .iconst 0, 1), (1, .istore_n 1, 1), (2, .iconst 0, 1), (3, .istore_n 2, 1), (4, .iload_n 2, 1), (5, .aload_n 0, 1), (6, .invokevirtual 70, 3), (9, .if_icmp .ge 68, 3), (12, .aload_n 0, 1), (13, .iload_n 2, 1), (14, .invokevirtual 253, 3), (17, .iconst 1, 1), (18, .if_icmp .ne 53, 3), (21, .aload_n 0, 1), (22, .iload_n 2, 1), (23, .bipush 7, 2), (25, .invokevirtual 73, 3), (28, .ifCond .ne 43, 3), (31, .aload_n 0, 1), (32, .bipush 100, 2), (34, .invokevirtual 330, 3), (37, .aload_n 0, 1), (38, .iconst 1, 1), (39, .iload_n 2, 1), (40, .invokevirtual 280, 3), (43, .if_icmp .lt 6, 3), (46, .goto 25, 3), (49, .aload_n 0, 1), (50, .getfield 13, 3), (53, .iload_n 2, 1), (54, .bipush 7, 2), (56, .invokestatic 63, 3), (59, .iconst 1, 1), (60, .iastore, 1), (61, .aload_n 0, 1), (62, .iload_n 2, 1), (63, .iconst 1, 1), (64, .iconst 0, 1), (65, .invokevirtual 326, 3), (68, .iinc 1 1, 3), (71, .iinc 2 1, 3), (74, .goto (-70), 3), (77, .iload_n 1, 1), (78, .ireturn, 1)]
theorem DX12_catches : ∀ q ∈ TX12_catches, decode cX12_catches q.1 = .ok q.2 := dec_cut 24 (by decide +kernel) (dec_sf cX12_catches 40 _ (by decide +kernel))
def TX12_falls : List (Nat × Instr × Nat) := [(0, .iconst 0, 1), (1, .istore_n 1, 1), (2, .iconst 0, 1), (3, .istore_n 2, 1), (4, .iload_n 2, 1), (5, .aload_n 0, 1), (6, .invokevirtual 59, 3), (9, .if_icmp .ge 59, 3), (12, .aload_n 0, 1), (13, .iload_n 2, 1), (14, .bipush 6, 2), (16, .invokevirtual 73, 3), (19, .ifCond .eq 43, 3), (22, .aload_n 0, 1), (23, .bipush 100, 2), (25, .invokevirtual 330, 3), (28, .aload_n 0, 1), (29, .iconst 2, 1), (30, .iload_n 2, 1), (31, .invokevirtual 280, 3), (34, .if_icmp .lt 6, 3), (37, .goto 25, 3), (40, .aload_n 0, 1), (41, .getfield 13, 3), (44, .iload_n 2, 1), (45, .bipush 6, 2), (47, .invokestatic 63, 3), (50, .iconst 0, 1), (51, .iastore, 1), (52, .aload_n 0, 1), (53, .iload_n 2, 1), (54, .iconst 2, 1), (55, .iconst 0, 1), (56, .invokevirtual 326, 3), (59, .iinc 1 1, 3), (62, .iinc 2 1, 3), (65, .goto (-61), 3), (68, .iload_n 1, 1), (69, .ireturn, 1)]
theorem DX12_falls : ∀ q ∈ TX12_falls, decode cX12_falls q.1 = .ok q.2 := dec_cut 24 (by decide +kernel) (dec_sf cX12_falls 44 _ (by decide +kernel))
def TX12_oneHour : List (Nat × Instr × Nat) := [(0, .iconst 0, 1), (1, .istore_n 2, 1), (2, .iload_n 2, 1), (3, .aload_n 0, 1), (4, .invokevirtual 59, 3), (7, .if_icmp .ge 37, 3), (10, .aload_n 0, 1), (11, .getfield 13, 3), (14, .iload_n 2, 1), (15, .iconst 4, 1), (16, .invokestatic 63, 3), (19, .bipush 99, 2), (21, .aload_n 0, 1), (22, .iload_n 2, 1), (23, .iconst 4, 1), (24, .invokevirtual 67, 3), (27, .aload_n 0, 1), (28, .iconst 0, 1), (29, .iload_n 2, 1), (30, .invokevirtual 280, 3), (33, .iadd, 1), (34, .invokestatic 119, 3), (37, .iastore, 1), (38, .iinc 2 1, 3), (41, .goto (-39), 3), (44, .iload_n 1, 1), (45, .ifCond .eq 7, 3), (48, .iconst 0, 1), (49, .goto 12, 3), (52, .aload_n 0, 1), (53, .invokevirtual 333, 3), (56, .aload_n 0, 1), (57, .invokevirtual 336, 3), (60, .iadd, 1), (61, .istore_n 2, 1), (62, .aload_n 0, 1), (63, .getfield 13, 3), (66, .iconst 3, 1), (67, .dup2, 1), (68, .iaload, 1), (69, .iconst 1, 1), (70, .iadd, 1), (71, .iastore, 1), (72, .aload_n 0, 1), (73, .getfield 13, 3), (76, .iconst 3, 1), (77, .iaload, 1), (78, .bipush 8, 2), (80, .if_icmp .ne 30, 3), (83, .aload_n 0, 1), (84, .getfield 13, 3), (87, .iconst 3, 1), (88, .iconst 0, 1), (89, .iastore, 1), (90, .aload_n 0, 1), (91, .getfield 13, 3), (94, .iconst 4, 1), (95, .sipush 9999, 3), (98, .aload_n 0, 1), (99, .getfield 13, 3), (102, .iconst 4, 1), (103, .iaload, 1), (104, .iconst 1, 1), (105, .iadd, 1)]
theorem DX12_oneHour : ∀ q ∈ TX12_oneHour, decode cX12_oneHour q.1 = .ok q.2 := dec_cut 24 (by decide +kernel) (dec_cut 24 (dec_sf cX12_oneHour 41 _ (by decide +kernel)) (dec_sf cX12_oneHour 80 _ (by decide +kernel)))
def TX12_oneHour_1 : List (Nat × Instr × Nat) := [(106, .invokestatic 119, 3), (109, .iastore, 1), (110, .iload_n 2, 1), (111, .ireturn, 1)]
theorem DX12_oneHour_1 : ∀ q ∈ TX12_oneHour_1, decode cX12_oneHour q.1 = .ok q.2 := dec_sf cX12_oneHour 106 _ (by decide +kernel)
def TX12_goesOn : List (Nat × Instr × Nat) := [(0, .iconst 0, 1), (1, .istore_n 3, 1), (2, .iconst 0, 1), (3, .istore 4, 2), (5, .iload 4, 2), (7, .iload_n 1, 1), (8, .if_icmp .ge 17, 3), (11, .iload_n 3, 1), (12, .aload_n 0, 1), (13, .iload_n 2, 1), (14, .invokevirtual 339, 3), (17, .iadd, 1), (18, .istore_n 3, 1), (19, .iinc 4 1, 3), (22, .goto (-17), 3), (25, .iload_n 3, 1), (26, .ireturn, 1)]
theorem DX12_goesOn : ∀ q ∈ TX12_goesOn, decode cX12_goesOn q.1 = .ok q.2 := by decide +kernel
def TX12_keepsAll : List (Nat × Instr × Nat) := [(0, .iconst 0, 1), (1, .istore_n 1, 1), (2, .iload_n 1, 1), (3, .sipush 435, 3), (6, .if_icmp .ge 21, 3), (9, .aload_n 0, 1), (10, .getfield 23, 3), (13, .iload_n 1, 1), (14, .aload_n 0, 1), (15, .getfield 13, 3), (18, .iload_n 1, 1), (19, .iaload, 1), (20, .iastore, 1), (21, .iinc 1 1, 3), (24, .goto (-22), 3), (27, .return_, 1)]
theorem DX12_keepsAll : ∀ q ∈ TX12_keepsAll, decode cX12_keepsAll q.1 = .ok q.2 := by decide +kernel
def TX12_bringsBack : List (Nat × Instr × Nat) := [(0, .iconst 0, 1), (1, .istore_n 1, 1), (2, .iload_n 1, 1), (3, .sipush 435, 3), (6, .if_icmp .ge 21, 3), (9, .aload_n 0, 1), (10, .getfield 13, 3), (13, .iload_n 1, 1), (14, .aload_n 0, 1), (15, .getfield 23, 3), (18, .iload_n 1, 1), (19, .iaload, 1), (20, .iastore, 1), (21, .iinc 1 1, 3), (24, .goto (-22), 3), (27, .return_, 1)]
theorem DX12_bringsBack : ∀ q ∈ TX12_bringsBack, decode cX12_bringsBack q.1 = .ok q.2 := by decide +kernel
def TX12_hours : List (Nat × Instr × Nat) := [(0, .aload_n 0, 1), (1, .iconst 0, 1), (2, .putfield 3, 3), (5, .aload_n 0, 1), (6, .iload_n 1, 1), (7, .iconst 1, 1), (8, .bipush 80, 2), (10, .invokestatic 77, 3), (13, .ifCond .ne 7, 3), (16, .iconst 1, 1), (17, .goto 4, 3), (20, .iconst 0, 1), (21, .iconst 1, 1), (22, .invokevirtual 250, 3), (25, .ifCond .eq 5, 3), (28, .iconst 0, 1), (29, .ireturn, 1), (30, .aload_n 0, 1), (31, .invokevirtual 319, 3), (34, .aload_n 0, 1), (35, .iload_n 1, 1), (36, .iconst 0, 1), (37, .invokevirtual 342, 3), (40, .ireturn, 1)]
theorem DX12_hours : ∀ q ∈ TX12_hours, decode cX12_hours q.1 = .ok q.2 := by decide +kernel
def TX12_noAhead : List (Nat × Instr × Nat) := [(0, .iload_n 0, 1), (1, .iconst 0, 1), (2, .bipush 80, 2), (4, .invokestatic 77, 3), (7, .ifCond .ne 7, 3), (10, .iconst 1, 1), (11, .goto 4, 3), (14, .iconst 0, 1), (15, .ireturn, 1)]
theorem DX12_noAhead : ∀ q ∈ TX12_noAhead, decode cX12_noAhead q.1 = .ok q.2 := by decide +kernel
def TX12_ahead : List (Nat × Instr × Nat) := [(0, .aload_n 0, 1), (1, .iconst 0, 1), (2, .putfield 3, 3), (5, .aload_n 0, 1), (6, .aload_n 0, 1), (7, .iload_n 1, 1), (8, .invokevirtual 277, 3), (11, .iconst 1, 1), (12, .invokevirtual 250, 3), (15, .ifCond .ne 15, 3), (18, .aload_n 0, 1), (19, .iload_n 2, 1), (20, .invokestatic 345, 3), (23, .iconst 2, 1), (24, .invokevirtual 250, 3), (27, .ifCond .eq 5, 3), (30, .iconst 0, 1), (31, .ireturn, 1), (32, .aload_n 0, 1), (33, .invokevirtual 348, 3), (36, .aload_n 0, 1), (37, .iload_n 2, 1), (38, .iconst 1, 1), (39, .invokevirtual 342, 3), (42, .pop, 1), (43, .aload_n 0, 1), (44, .iload_n 1, 1), (45, .iconst 4, 1), (46, .invokevirtual 67, 3), (49, .istore_n 3, 1), (50, .aload_n 0, 1), (51, .invokevirtual 351, 3), (54, .iload_n 3, 1), (55, .ireturn, 1)]
theorem DX12_ahead : ∀ q ∈ TX12_ahead, decode cX12_ahead q.1 = .ok q.2 := dec_cut 24 (by decide +kernel) (dec_sf cX12_ahead 42 _ (by decide +kernel))
def TX12_faded : List (Nat × Instr × Nat) := [(0, .aload_n 0, 1), (1, .iconst 0, 1), (2, .putfield 3, 3), (5, .aload_n 0, 1), (6, .iload_n 1, 1), (7, .invokestatic 345, 3), (10, .iconst 1, 1), (11, .invokevirtual 250, 3), (14, .ifCond .eq 5, 3), (17, .iconst 0, 1), (18, .ireturn, 1), (19, .aload_n 0, 1), (20, .invokevirtual 348, 3), (23, .aload_n 0, 1), (24, .iload_n 1, 1), (25, .iconst 1, 1), (26, .invokevirtual 342, 3), (29, .pop, 1), (30, .aload_n 0, 1), (31, .invokevirtual 270, 3), (34, .istore_n 2, 1), (35, .aload_n 0, 1), (36, .invokevirtual 351, 3), (39, .iload_n 2, 1), (40, .ireturn, 1)]
theorem DX12_faded : ∀ q ∈ TX12_faded, decode cX12_faded q.1 = .ok q.2 := by decide +kernel
def TX12_somePale : List (Nat × Instr × Nat) := [(0, .iconst 0, 1), (1, .istore_n 1, 1), (2, .iconst 0, 1), (3, .istore_n 2, 1), (4, .iload_n 2, 1), (5, .aload_n 0, 1), (6, .invokevirtual 59, 3), (9, .if_icmp .ge 30, 3), (12, .iload_n 1, 1), (13, .ifCond .ne 14, 3), (16, .aload_n 0, 1), (17, .iload_n 2, 1), (18, .iconst 4, 1), (19, .invokevirtual 67, 3), (22, .bipush 99, 2), (24, .if_icmp .ne 7, 3), (27, .iconst 1, 1), (28, .goto 4, 3), (31, .iconst 0, 1), (32, .istore_n 1, 1), (33, .iinc 2 1, 3), (36, .goto (-32), 3), (39, .iload_n 1, 1), (40, .ireturn, 1)]
theorem DX12_somePale : ∀ q ∈ TX12_somePale, decode cX12_somePale q.1 = .ok q.2 := by decide +kernel
def TX12_pale : List (Nat × Instr × Nat) := [(0, .aload_n 0, 1), (1, .iconst 0, 1), (2, .putfield 3, 3), (5, .iconst (-1), 1), (6, .istore_n 1, 1), (7, .aload_n 0, 1), (8, .invokevirtual 348, 3), (11, .iconst 0, 1), (12, .istore_n 2, 1), (13, .iload_n 2, 1), (14, .bipush 80, 2), (16, .if_icmp .gt 33, 3), (19, .iload_n 1, 1), (20, .iconst (-1), 1), (21, .if_icmp .ne 28, 3), (24, .aload_n 0, 1), (25, .invokevirtual 354, 3), (28, .ifCond .eq 7, 3), (31, .iload_n 2, 1), (32, .goto 4, 3), (35, .iconst (-1), 1), (36, .istore_n 1, 1), (37, .aload_n 0, 1), (38, .iconst 1, 1), (39, .invokevirtual 339, 3), (42, .pop, 1), (43, .iinc 2 1, 3), (46, .goto (-33), 3), (49, .aload_n 0, 1), (50, .invokevirtual 351, 3), (53, .iload_n 1, 1), (54, .ireturn, 1)]
theorem DX12_pale : ∀ q ∈ TX12_pale, decode cX12_pale q.1 = .ok q.2 := dec_cut 24 (by decide +kernel) (dec_sf cX12_pale 39 _ (by decide +kernel))
def TX12_shadeNow : List (Nat × Instr × Nat) := [(0, .iconst 0, 1), (1, .istore_n 1, 1), (2, .iconst 0, 1), (3, .istore_n 2, 1), (4, .iload_n 2, 1), (5, .aload_n 0, 1), (6, .invokevirtual 70, 3), (9, .if_icmp .ge 65, 3), (12, .aload_n 0, 1), (13, .iload_n 2, 1), (14, .bipush 6, 2), (16, .invokevirtual 73, 3), (19, .ifCond .eq 49, 3), (22, .aload_n 0, 1), (23, .iload_n 2, 1), (24, .iconst 1, 1), (25, .iadd, 1), (26, .bipush 6, 2), (28, .invokevirtual 73, 3), (31, .ifCond .ne 6, 3), (34, .goto 34, 3), (37, .aload_n 0, 1), (38, .iload_n 2, 1), (39, .iconst 0, 1), (40, .invokevirtual 67, 3), (43, .istore_n 3, 1), (44, .iload_n 3, 1), (45, .aload_n 0, 1), (46, .iload_n 2, 1), (47, .iconst 1, 1), (48, .iadd, 1), (49, .iconst 0, 1), (50, .invokevirtual 67, 3), (53, .if_icmp .gt 15, 3), (56, .iload_n 1, 1), (57, .iconst 1, 1), (58, .iload_n 3, 1), (59, .ishl, 1), (60, .ior, 1), (61, .istore_n 1, 1), (62, .iinc 3 1, 3), (65, .goto (-21), 3), (68, .iinc 2 1, 3), (71, .goto (-67), 3), (74, .iload_n 1, 1), (75, .ireturn, 1)]
theorem DX12_shadeNow : ∀ q ∈ TX12_shadeNow, decode cX12_shadeNow q.1 = .ok q.2 := dec_cut 24 (by decide +kernel) (dec_sf cX12_shadeNow 40 _ (by decide +kernel))
def TX12_darkNow : List (Nat × Instr × Nat) := [(0, .aload_n 0, 1), (1, .getfield 13, 3), (4, .bipush 7, 2), (6, .iaload, 1), (7, .aload_n 0, 1), (8, .invokevirtual 357, 3), (11, .iand, 1), (12, .invokestatic 360, 3), (15, .ireturn, 1)]
theorem DX12_darkNow : ∀ q ∈ TX12_darkNow, decode cX12_darkNow q.1 = .ok q.2 := by decide +kernel
def TX12_shade : List (Nat × Instr × Nat) := [(0, .aload_n 0, 1), (1, .iconst 0, 1), (2, .putfield 3, 3), (5, .aload_n 0, 1), (6, .invokevirtual 357, 3), (9, .ireturn, 1)]
theorem DX12_shade : ∀ q ∈ TX12_shade, decode cX12_shade q.1 = .ok q.2 := by decide +kernel
def TX12_dark : List (Nat × Instr × Nat) := [(0, .aload_n 0, 1), (1, .iconst 0, 1), (2, .putfield 3, 3), (5, .aload_n 0, 1), (6, .invokevirtual 365, 3), (9, .ireturn, 1)]
theorem DX12_dark : ∀ q ∈ TX12_dark, decode cX12_dark q.1 = .ok q.2 := by decide +kernel
def TX12_bare : List (Nat × Instr × Nat) := [(0, .aload_n 0, 1), (1, .iconst 0, 1), (2, .putfield 3, 3), (5, .aload_n 0, 1), (6, .getfield 13, 3), (9, .bipush 7, 2), (11, .iaload, 1), (12, .aload_n 0, 1), (13, .invokevirtual 357, 3), (16, .iconst (-1), 1), (17, .ixor, 1), (18, .iand, 1), (19, .ireturn, 1)]
theorem DX12_bare : ∀ q ∈ TX12_bare, decode cX12_bare q.1 = .ok q.2 := by decide +kernel
def TX12_goes : List (Nat × Instr × Nat) := [(0, .aload_n 0, 1), (1, .iconst 0, 1), (2, .putfield 3, 3), (5, .aload_n 0, 1), (6, .aload_n 0, 1), (7, .iload_n 1, 1), (8, .invokevirtual 277, 3), (11, .iconst 1, 1), (12, .invokevirtual 250, 3), (15, .ifCond .eq 5, 3), (18, .iconst 0, 1), (19, .ireturn, 1), (20, .aload_n 0, 1), (21, .invokevirtual 348, 3), (24, .aload_n 0, 1), (25, .iload_n 1, 1), (26, .iload_n 2, 1), (27, .bipush 31, 2), (29, .invokevirtual 322, 3), (32, .istore_n 3, 1), (33, .aload_n 0, 1), (34, .invokevirtual 351, 3), (37, .iload_n 3, 1), (38, .ireturn, 1)]
theorem DX12_goes : ∀ q ∈ TX12_goes, decode cX12_goes q.1 = .ok q.2 := by decide +kernel
def TX12_with : List (Nat × Instr × Nat) := [(0, .aload_n 0, 1), (1, .iconst 0, 1), (2, .putfield 3, 3), (5, .aload_n 0, 1), (6, .aload_n 0, 1), (7, .iload_n 1, 1), (8, .invokevirtual 277, 3), (11, .iconst 1, 1), (12, .invokevirtual 250, 3), (15, .ifCond .eq 7, 3), (18, .iconst 0, 1), (19, .goto 9, 3), (22, .aload_n 0, 1), (23, .iload_n 1, 1), (24, .iload_n 2, 1), (25, .invokevirtual 307, 3), (28, .ireturn, 1)]
theorem DX12_with : ∀ q ∈ TX12_with, decode cX12_with q.1 = .ok q.2 := by decide +kernel
def TX12_would : List (Nat × Instr × Nat) := [(0, .aload_n 0, 1), (1, .iconst 0, 1), (2, .putfield 3, 3), (5, .aload_n 0, 1), (6, .aload_n 0, 1), (7, .iload_n 1, 1), (8, .invokevirtual 277, 3), (11, .iconst 1, 1), (12, .invokevirtual 250, 3), (15, .ifCond .ne 15, 3), (18, .aload_n 0, 1), (19, .iload_n 3, 1), (20, .invokestatic 316, 3), (23, .iconst 2, 1), (24, .invokevirtual 250, 3), (27, .ifCond .eq 5, 3), (30, .iconst 0, 1), (31, .ireturn, 1), (32, .aload_n 0, 1), (33, .invokevirtual 348, 3), (36, .aload_n 0, 1), (37, .iload_n 1, 1), (38, .iload_n 2, 1), (39, .iload_n 3, 1), (40, .invokevirtual 322, 3), (43, .pop, 1), (44, .iload 4, 2), (46, .ifCond .eq 10, 3), (49, .aload_n 0, 1), (50, .getfield 310, 3), (53, .goto 7, 3), (56, .aload_n 0, 1), (57, .invokevirtual 365, 3), (60, .istore 5, 2), (62, .aload_n 0, 1), (63, .invokevirtual 351, 3), (66, .iload 5, 2), (68, .ireturn, 1)]
theorem DX12_would : ∀ q ∈ TX12_would, decode cX12_would q.1 = .ok q.2 := dec_cut 24 (by decide +kernel) (dec_sf cX12_would 40 _ (by decide +kernel))
def TX12_best : List (Nat × Instr × Nat) := [(0, .aload_n 0, 1), (1, .iconst 0, 1), (2, .putfield 3, 3), (5, .iconst (-1), 1), (6, .istore_n 1, 1), (7, .aload_n 0, 1), (8, .invokevirtual 365, 3), (11, .istore_n 2, 1), (12, .iconst 0, 1), (13, .istore_n 3, 1), (14, .iload_n 3, 1), (15, .iconst 2, 1), (16, .aload_n 0, 1), (17, .invokevirtual 59, 3), (20, .imul, 1), (21, .if_icmp .ge 102, 3), (24, .iconst 1, 1), (25, .istore 4, 2), (27, .aload_n 0, 1), (28, .invokevirtual 348, 3), (31, .iconst 1, 1), (32, .istore 5, 2), (34, .iload 5, 2), (36, .bipush 31, 2), (38, .if_icmp .gt 75, 3), (41, .iload 4, 2), (43, .ifCond .eq 70, 3), (46, .aload_n 0, 1), (47, .iload_n 3, 1), (48, .iconst 2, 1), (49, .idiv, 1), (50, .iload_n 3, 1), (51, .iconst 2, 1), (52, .irem, 1), (53, .iconst 1, 1), (54, .if_icmp .ne 7, 3), (57, .iconst 1, 1), (58, .goto 4, 3), (61, .iconst 0, 1), (62, .invokevirtual 313, 3), (65, .istore 4, 2), (67, .iload 4, 2), (69, .ifCond .eq 10, 3), (72, .aload_n 0, 1), (73, .invokevirtual 365, 3), (76, .goto 4, 3), (79, .iconst 0, 1), (80, .istore 6, 2), (82, .iload 6, 2), (84, .iload_n 2, 1), (85, .if_icmp .le 13, 3), (88, .bipush 32, 2), (90, .iload_n 3, 1), (91, .imul, 1), (92, .iload 5, 2), (94, .iadd, 1), (95, .goto 4, 3), (98, .iload_n 1, 1), (99, .istore_n 1, 1), (100, .iload_n 2, 1), (101, .iload 6, 2), (103, .invokestatic 368, 3), (106, .istore_n 2, 1), (107, .iinc 5 1, 3)]
theorem DX12_best : ∀ q ∈ TX12_best, decode cX12_best q.1 = .ok q.2 := dec_cut 24 (by decide +kernel) (dec_cut 24 (dec_sf cX12_best 38 _ (by decide +kernel)) (dec_sf cX12_best 82 _ (by decide +kernel)))
def TX12_best_1 : List (Nat × Instr × Nat) := [(110, .goto (-76), 3), (113, .aload_n 0, 1), (114, .invokevirtual 351, 3), (117, .iinc 3 1, 3), (120, .goto (-106), 3), (123, .iload_n 1, 1), (124, .ireturn, 1)]
theorem DX12_best_1 : ∀ q ∈ TX12_best_1, decode cX12_best q.1 = .ok q.2 := dec_sf cX12_best 110 _ (by decide +kernel)
def TX12_shadesAll : List (Nat × Instr × Nat) := [(0, .iload_n 1, 1), (1, .aload_n 0, 1), (2, .invokevirtual 357, 3), (5, .iconst (-1), 1), (6, .ixor, 1), (7, .iand, 1), (8, .ifCond .ne 7, 3), (11, .iconst 1, 1), (12, .goto 4, 3), (15, .iconst 0, 1), (16, .ireturn, 1)]
theorem DX12_shadesAll : ∀ q ∈ TX12_shadesAll, decode cX12_shadesAll q.1 = .ok q.2 := by decide +kernel
def TX12_stepsTo : List (Nat × Instr × Nat) := [(0, .ldc_w 273, 3), (3, .istore 4, 2), (5, .iconst 1, 1), (6, .istore 5, 2), (8, .aload_n 0, 1), (9, .invokevirtual 348, 3), (12, .iconst 1, 1), (13, .istore 6, 2), (15, .iload 6, 2), (17, .bipush 31, 2), (19, .if_icmp .gt 53, 3), (22, .iload 5, 2), (24, .ifCond .eq 48, 3), (27, .iload 4, 2), (29, .ldc_w 273, 3), (32, .if_icmp .ne 40, 3), (35, .aload_n 0, 1), (36, .iload_n 2, 1), (37, .iload_n 3, 1), (38, .invokevirtual 313, 3), (41, .istore 5, 2), (43, .iload 5, 2), (45, .ifCond .eq 16, 3), (48, .aload_n 0, 1), (49, .iload_n 1, 1), (50, .invokevirtual 371, 3), (53, .ifCond .eq 8, 3), (56, .iload 6, 2), (58, .goto 6, 3), (61, .ldc_w 273, 3), (64, .istore 4, 2), (66, .iinc 6 1, 3), (69, .goto (-54), 3), (72, .aload_n 0, 1), (73, .invokevirtual 351, 3), (76, .iload 4, 2), (78, .ireturn, 1)]
theorem DX12_stepsTo : ∀ q ∈ TX12_stepsTo, decode cX12_stepsTo q.1 = .ok q.2 := dec_cut 24 (by decide +kernel) (dec_sf cX12_stepsTo 49 _ (by decide +kernel))
def TX12_fewestTo : List (Nat × Instr × Nat) := [(0, .iconst (-1), 1), (1, .istore_n 3, 1), (2, .ldc_w 273, 3), (5, .istore 4, 2), (7, .iconst 0, 1), (8, .istore 5, 2), (10, .iload 5, 2), (12, .iconst 2, 1), (13, .aload_n 0, 1), (14, .invokevirtual 59, 3), (17, .imul, 1), (18, .if_icmp .ge 56, 3), (21, .aload_n 0, 1), (22, .iload_n 1, 1), (23, .iload 5, 2), (25, .iconst 2, 1), (26, .idiv, 1), (27, .iload 5, 2), (29, .iconst 2, 1), (30, .irem, 1), (31, .iconst 1, 1), (32, .if_icmp .ne 7, 3), (35, .iconst 1, 1), (36, .goto 4, 3), (39, .iconst 0, 1), (40, .invokevirtual 374, 3), (43, .istore 6, 2), (45, .iload 6, 2), (47, .iload 4, 2), (49, .if_icmp .ge 8, 3), (52, .iload 5, 2), (54, .goto 4, 3), (57, .iload_n 3, 1), (58, .istore_n 3, 1), (59, .iload 4, 2), (61, .iload 6, 2), (63, .invokestatic 119, 3), (66, .istore 4, 2), (68, .iinc 5 1, 3), (71, .goto (-61), 3), (74, .iload_n 2, 1), (75, .ifCond .ne 8, 3), (78, .iload_n 3, 1), (79, .iconst (-1), 1), (80, .if_icmp .ne 7, 3), (83, .iload_n 3, 1), (84, .goto 5, 3), (87, .iload 4, 2), (89, .ireturn, 1)]
theorem DX12_fewestTo : ∀ q ∈ TX12_fewestTo, decode cX12_fewestTo q.1 = .ok q.2 := dec_cut 24 (by decide +kernel) (dec_sf cX12_fewestTo 39 _ (by decide +kernel))
def TX12_fewest : List (Nat × Instr × Nat) := [(0, .aload_n 0, 1), (1, .iconst 0, 1), (2, .putfield 3, 3), (5, .aload_n 0, 1), (6, .iload_n 1, 1), (7, .invokevirtual 371, 3), (10, .ifCond .eq 7, 3), (13, .iconst 0, 1), (14, .goto 9, 3), (17, .aload_n 0, 1), (18, .iload_n 1, 1), (19, .iconst 0, 1), (20, .invokevirtual 378, 3), (23, .ireturn, 1)]
theorem DX12_fewest : ∀ q ∈ TX12_fewest, decode cX12_fewest q.1 = .ok q.2 := by decide +kernel
def TX12_first : List (Nat × Instr × Nat) := [(0, .aload_n 0, 1), (1, .iconst 0, 1), (2, .putfield 3, 3), (5, .aload_n 0, 1), (6, .iload_n 1, 1), (7, .invokevirtual 371, 3), (10, .ifCond .eq 7, 3), (13, .iconst (-1), 1), (14, .goto 9, 3), (17, .aload_n 0, 1), (18, .iload_n 1, 1), (19, .iconst 1, 1), (20, .invokevirtual 378, 3), (23, .ireturn, 1)]
theorem DX12_first : ∀ q ∈ TX12_first, decode cX12_first q.1 = .ok q.2 := by decide +kernel
def TX12_isTold : List (Nat × Instr × Nat) := [(0, .aload_n 0, 1), (1, .getfield 88, 3), (4, .iconst 4, 1), (5, .irem, 1), (6, .ifCond .ne 16, 3), (9, .aload_n 0, 1), (10, .getfield 88, 3), (13, .bipush 40, 2), (15, .if_icmp .gt 7, 3), (18, .iconst 1, 1), (19, .goto 4, 3), (22, .iconst 0, 1), (23, .istore_n 1, 1), (24, .iconst 0, 1), (25, .istore_n 2, 1), (26, .iload_n 2, 1), (27, .aload_n 0, 1), (28, .getfield 88, 3), (31, .if_icmp .ge 79, 3), (34, .iload_n 1, 1), (35, .ifCond .eq 75, 3), (38, .aload_n 0, 1), (39, .aload_n 0, 1), (40, .getfield 29, 3), (43, .iload_n 2, 1), (44, .baload, 1), (45, .invokevirtual 277, 3), (48, .ifCond .ne 54, 3), (51, .aload_n 0, 1), (52, .getfield 29, 3), (55, .iload_n 2, 1), (56, .iconst 1, 1), (57, .iadd, 1), (58, .baload, 1), (59, .iconst 0, 1), (60, .iconst 1, 1), (61, .invokestatic 77, 3), (64, .ifCond .eq 38, 3), (67, .aload_n 0, 1), (68, .getfield 29, 3), (71, .iload_n 2, 1), (72, .iconst 2, 1), (73, .iadd, 1), (74, .baload, 1), (75, .invokestatic 316, 3), (78, .ifCond .ne 24, 3), (81, .aload_n 0, 1), (82, .getfield 29, 3), (85, .iload_n 2, 1), (86, .iconst 3, 1), (87, .iadd, 1), (88, .baload, 1), (89, .iconst 0, 1), (90, .bipush 31, 2), (92, .invokestatic 77, 3), (95, .ifCond .eq 7, 3), (98, .iconst 1, 1), (99, .goto 4, 3), (102, .iconst 0, 1), (103, .istore_n 1, 1), (104, .iinc 2 4, 3), (107, .goto (-81), 3), (110, .iload_n 1, 1), (111, .ireturn, 1)]
theorem DX12_isTold : ∀ q ∈ TX12_isTold, decode cX12_isTold q.1 = .ok q.2 := dec_cut 24 (by decide +kernel) (dec_cut 24 (dec_sf cX12_isTold 43 _ (by decide +kernel)) (dec_sf cX12_isTold 85 _ (by decide +kernel)))
def TX12_thatCanCatch : List (Nat × Instr × Nat) := [(0, .aload_n 0, 1), (1, .invokevirtual 59, 3), (4, .iconst 2, 1), (5, .if_icmp .ge 7, 3), (8, .iconst 0, 1), (9, .goto 11, 3), (12, .iconst 1, 1), (13, .aload_n 0, 1), (14, .invokevirtual 70, 3), (17, .ishl, 1), (18, .iconst 1, 1), (19, .isub, 1), (20, .ireturn, 1)]
theorem DX12_thatCanCatch : ∀ q ∈ TX12_thatCanCatch, decode cX12_thatCanCatch q.1 = .ok q.2 := by decide +kernel
def TX12_areCaught : List (Nat × Instr × Nat) := [(0, .iconst 0, 1), (1, .istore_n 2, 1), (2, .iload_n 2, 1), (3, .aload_n 0, 1), (4, .invokevirtual 59, 3), (7, .if_icmp .ge 33, 3), (10, .aload_n 0, 1), (11, .getfield 13, 3), (14, .iload_n 2, 1), (15, .bipush 7, 2), (17, .invokestatic 63, 3), (20, .iload_n 1, 1), (21, .iload_n 2, 1), (22, .invokestatic 289, 3), (25, .ifCond .eq 7, 3), (28, .iconst 1, 1), (29, .goto 4, 3), (32, .iconst 0, 1), (33, .iastore, 1), (34, .iinc 2 1, 3), (37, .goto (-35), 3), (40, .return_, 1)]
theorem DX12_areCaught : ∀ q ∈ TX12_areCaught, decode cX12_areCaught q.1 = .ok q.2 := by decide +kernel
def TX12_wentWith : List (Nat × Instr × Nat) := [(0, .aload_n 0, 1), (1, .invokevirtual 348, 3), (4, .aload_n 0, 1), (5, .iload_n 1, 1), (6, .invokevirtual 381, 3), (9, .aload_n 0, 1), (10, .iload_n 2, 1), (11, .iload_n 3, 1), (12, .iload 4, 2), (14, .invokevirtual 322, 3), (17, .istore 5, 2), (19, .aload_n 0, 1), (20, .invokevirtual 351, 3), (23, .iload 5, 2), (25, .ireturn, 1)]
theorem DX12_wentWith : ∀ q ∈ TX12_wentWith, decode cX12_wentWith q.1 = .ok q.2 := by decide +kernel
def TX12_fits : List (Nat × Instr × Nat) := [(0, .iconst 1, 1), (1, .istore_n 2, 1), (2, .iconst 0, 1), (3, .istore_n 3, 1), (4, .iload_n 3, 1), (5, .aload_n 0, 1), (6, .getfield 88, 3), (9, .if_icmp .ge 66, 3), (12, .iload_n 2, 1), (13, .ifCond .eq 62, 3), (16, .aload_n 0, 1), (17, .iload_n 1, 1), (18, .aload_n 0, 1), (19, .getfield 29, 3), (22, .iload_n 3, 1), (23, .baload, 1), (24, .aload_n 0, 1), (25, .getfield 29, 3), (28, .iload_n 3, 1), (29, .iconst 1, 1), (30, .iadd, 1), (31, .baload, 1), (32, .iconst 1, 1), (33, .if_icmp .ne 7, 3), (36, .iconst 1, 1), (37, .goto 4, 3), (40, .iconst 0, 1), (41, .aload_n 0, 1), (42, .getfield 29, 3), (45, .iload_n 3, 1), (46, .iconst 2, 1), (47, .iadd, 1), (48, .baload, 1), (49, .invokevirtual 385, 3), (52, .aload_n 0, 1), (53, .getfield 29, 3), (56, .iload_n 3, 1), (57, .iconst 3, 1), (58, .iadd, 1), (59, .baload, 1), (60, .if_icmp .ne 7, 3), (63, .iconst 1, 1), (64, .goto 4, 3), (67, .iconst 0, 1), (68, .istore_n 2, 1), (69, .iinc 3 4, 3), (72, .goto (-68), 3), (75, .iload_n 2, 1), (76, .ireturn, 1)]
theorem DX12_fits : ∀ q ∈ TX12_fits, decode cX12_fits q.1 = .ok q.2 := dec_cut 24 (by decide +kernel) (dec_sf cX12_fits 36 _ (by decide +kernel))
def TX12_snags : List (Nat × Instr × Nat) := [(0, .aload_n 0, 1), (1, .invokevirtual 239, 3), (4, .aload_n 0, 1), (5, .aload_n 0, 1), (6, .invokevirtual 389, 3), (9, .ifCond .ne 7, 3), (12, .iconst 1, 1), (13, .goto 4, 3), (16, .iconst 0, 1), (17, .iconst 1, 1), (18, .invokevirtual 250, 3), (21, .ifCond .eq 5, 3), (24, .iconst 0, 1), (25, .ireturn, 1), (26, .iconst 0, 1), (27, .istore_n 2, 1), (28, .aload_n 0, 1), (29, .invokevirtual 392, 3), (32, .istore_n 3, 1), (33, .iconst 0, 1), (34, .istore 4, 2), (36, .iload 4, 2), (38, .aload_n 0, 1), (39, .invokevirtual 392, 3), (42, .if_icmp .gt 29, 3), (45, .aload_n 0, 1), (46, .iload 4, 2), (48, .invokevirtual 395, 3), (51, .ifCond .ne 6, 3), (54, .goto 11, 3), (57, .iinc 2 1, 3), (60, .iload_n 3, 1), (61, .iload 4, 2), (63, .iand, 1), (64, .istore_n 3, 1), (65, .iinc 4 1, 3), (68, .goto (-32), 3), (71, .iload_n 1, 1), (72, .ifCond .ne 7, 3), (75, .iload_n 2, 1), (76, .goto 12, 3), (79, .iload_n 2, 1), (80, .ifCond .ne 7, 3), (83, .iconst 0, 1), (84, .goto 4, 3), (87, .iload_n 3, 1), (88, .ireturn, 1)]
theorem DX12_snags : ∀ q ∈ TX12_snags, decode cX12_snags q.1 = .ok q.2 := dec_cut 24 (by decide +kernel) (dec_sf cX12_snags 42 _ (by decide +kernel))
def TX12_partBy : List (Nat × Instr × Nat) := [(0, .iconst 0, 1), (1, .istore_n 3, 1), (2, .iconst 0, 1), (3, .istore 4, 2), (5, .iload 4, 2), (7, .bipush 31, 2), (9, .if_icmp .gt 17, 3), (12, .aload_n 0, 1), (13, .getfield 46, 3), (16, .iload 4, 2), (18, .iconst 0, 1), (19, .iastore, 1), (20, .iinc 4 1, 3), (23, .goto (-18), 3), (26, .iconst 0, 1), (27, .istore 4, 2), (29, .iload 4, 2), (31, .aload_n 0, 1), (32, .invokevirtual 392, 3), (35, .if_icmp .gt 57, 3), (38, .aload_n 0, 1), (39, .getfield 42, 3), (42, .iload 4, 2), (44, .baload, 1), (45, .ifCond .ne 6, 3), (48, .goto 38, 3), (51, .aload_n 0, 1), (52, .iload 4, 2), (54, .iload_n 1, 1), (55, .iload_n 2, 1), (56, .bipush 31, 2), (58, .invokevirtual 385, 3), (61, .istore 5, 2), (63, .aload_n 0, 1), (64, .getfield 46, 3), (67, .iload 5, 2), (69, .dup2, 1), (70, .iaload, 1), (71, .iconst 1, 1), (72, .iadd, 1), (73, .iastore, 1), (74, .iload_n 3, 1), (75, .aload_n 0, 1), (76, .getfield 46, 3), (79, .iload 5, 2), (81, .iaload, 1), (82, .invokestatic 368, 3), (85, .istore_n 3, 1), (86, .iinc 4 1, 3), (89, .goto (-60), 3), (92, .iload_n 3, 1), (93, .ireturn, 1)]
theorem DX12_partBy : ∀ q ∈ TX12_partBy, decode cX12_partBy q.1 = .ok q.2 := dec_cut 24 (by decide +kernel) (dec_sf cX12_partBy 45 _ (by decide +kernel))
def TX12_tries : List (Nat × Instr × Nat) := [(0, .aload_n 0, 1), (1, .invokevirtual 239, 3), (4, .aload_n 0, 1), (5, .aload_n 0, 1), (6, .invokevirtual 389, 3), (9, .ifCond .ne 7, 3), (12, .iconst 1, 1), (13, .goto 4, 3), (16, .iconst 0, 1), (17, .iconst 1, 1), (18, .invokevirtual 250, 3), (21, .ifCond .eq 5, 3), (24, .iconst 0, 1), (25, .ireturn, 1), (26, .iconst 0, 1), (27, .istore_n 1, 1), (28, .iconst 0, 1), (29, .istore_n 2, 1), (30, .iload_n 2, 1), (31, .aload_n 0, 1), (32, .invokevirtual 392, 3), (35, .if_icmp .gt 37, 3), (38, .aload_n 0, 1), (39, .getfield 42, 3), (42, .iload_n 2, 1), (43, .aload_n 0, 1), (44, .iload_n 2, 1), (45, .invokevirtual 395, 3), (48, .bastore, 1), (49, .iload_n 1, 1), (50, .aload_n 0, 1), (51, .getfield 42, 3), (54, .iload_n 2, 1), (55, .baload, 1), (56, .ifCond .eq 7, 3), (59, .iconst 1, 1), (60, .goto 4, 3), (63, .iconst 0, 1), (64, .iadd, 1), (65, .istore_n 1, 1), (66, .iinc 2 1, 3), (69, .goto (-39), 3), (72, .iconst (-1), 1), (73, .istore_n 2, 1), (74, .ldc_w 273, 3), (77, .istore_n 3, 1), (78, .iconst 0, 1), (79, .istore 4, 2), (81, .iload 4, 2), (83, .iconst 2, 1), (84, .aload_n 0, 1), (85, .invokevirtual 59, 3), (88, .imul, 1), (89, .if_icmp .ge 57, 3), (92, .iload_n 1, 1), (93, .iconst 1, 1), (94, .if_icmp .le 52, 3), (97, .aload_n 0, 1), (98, .iload 4, 2), (100, .iconst 2, 1), (101, .idiv, 1), (102, .iload 4, 2), (104, .iconst 2, 1), (105, .irem, 1)]
theorem DX12_tries : ∀ q ∈ TX12_tries, decode cX12_tries q.1 = .ok q.2 := dec_cut 24 (by decide +kernel) (dec_cut 24 (dec_sf cX12_tries 42 _ (by decide +kernel)) (dec_sf cX12_tries 81 _ (by decide +kernel)))
def TX12_tries_1 : List (Nat × Instr × Nat) := [(106, .iconst 1, 1), (107, .if_icmp .ne 7, 3), (110, .iconst 1, 1), (111, .goto 4, 3), (114, .iconst 0, 1), (115, .invokevirtual 398, 3), (118, .istore 5, 2), (120, .iload 5, 2), (122, .iload_n 3, 1), (123, .if_icmp .ge 8, 3), (126, .iload 4, 2), (128, .goto 4, 3), (131, .iload_n 2, 1), (132, .istore_n 2, 1), (133, .iload_n 3, 1), (134, .iload 5, 2), (136, .invokestatic 119, 3), (139, .istore_n 3, 1), (140, .iinc 4 1, 3), (143, .goto (-62), 3), (146, .iload_n 2, 1), (147, .ireturn, 1)]
theorem DX12_tries_1 : ∀ q ∈ TX12_tries_1, decode cX12_tries q.1 = .ok q.2 := dec_sf cX12_tries 106 _ (by decide +kernel)
def TX12_loosen : List (Nat × Instr × Nat) := [(0, .aload_n 0, 1), (1, .iconst 0, 1), (2, .putfield 3, 3), (5, .aload_n 0, 1), (6, .aload_n 0, 1), (7, .iload_n 1, 1), (8, .invokevirtual 277, 3), (11, .iconst 1, 1), (12, .invokevirtual 250, 3), (15, .ifCond .ne 15, 3), (18, .aload_n 0, 1), (19, .iload_n 3, 1), (20, .invokestatic 316, 3), (23, .iconst 2, 1), (24, .invokevirtual 250, 3), (27, .ifCond .eq 5, 3), (30, .iconst 0, 1), (31, .ireturn, 1), (32, .aload_n 0, 1), (33, .bipush 7, 2), (35, .invokevirtual 401, 3), (38, .istore 4, 2), (40, .iconst (-1), 1), (41, .istore 5, 2), (43, .ldc_w 273, 3), (46, .istore 6, 2), (48, .iconst 0, 1), (49, .istore 7, 2), (51, .iload 7, 2), (53, .iload 4, 2), (55, .if_icmp .gt 61, 3), (58, .iload 7, 2), (60, .iload 4, 2), (62, .iconst (-1), 1), (63, .ixor, 1), (64, .iand, 1), (65, .ifCond .ne 45, 3), (68, .iload 7, 2), (70, .invokestatic 360, 3), (73, .iload 6, 2), (75, .if_icmp .ge 35, 3), (78, .aload_n 0, 1), (79, .iload 4, 2), (81, .iload 7, 2), (83, .iconst (-1), 1), (84, .ixor, 1), (85, .iand, 1), (86, .iload_n 1, 1), (87, .iload_n 2, 1), (88, .iload_n 3, 1), (89, .invokevirtual 385, 3), (92, .iload_n 3, 1), (93, .if_icmp .ge 6, 3), (96, .goto 14, 3), (99, .iload 7, 2), (101, .istore 5, 2), (103, .iload 7, 2), (105, .invokestatic 360, 3), (108, .istore 6, 2), (110, .iinc 7 1, 3), (113, .goto (-62), 3), (116, .iload 5, 2), (118, .ireturn, 1)]
theorem DX12_loosen : ∀ q ∈ TX12_loosen, decode cX12_loosen q.1 = .ok q.2 := dec_cut 24 (by decide +kernel) (dec_cut 24 (dec_sf cX12_loosen 43 _ (by decide +kernel)) (dec_sf cX12_loosen 87 _ (by decide +kernel)))
def TX12_order : List (Nat × Instr × Nat) := [(0, .aload_n 0, 1), (1, .iconst 0, 1), (2, .putfield 3, 3), (5, .iconst 0, 1), (6, .istore_n 1, 1), (7, .iconst 0, 1), (8, .istore_n 2, 1), (9, .iload_n 2, 1), (10, .aload_n 0, 1), (11, .invokevirtual 59, 3), (14, .if_icmp .ge 87, 3), (17, .aload_n 0, 1), (18, .getfield 49, 3), (21, .iload_n 2, 1), (22, .iconst 1, 1), (23, .iastore, 1), (24, .iconst 0, 1), (25, .istore_n 3, 1), (26, .iload_n 3, 1), (27, .iload_n 2, 1), (28, .if_icmp .ge 56, 3), (31, .aload_n 0, 1), (32, .getfield 49, 3), (35, .iload_n 2, 1), (36, .aload_n 0, 1), (37, .iload_n 3, 1), (38, .iconst 4, 1), (39, .invokevirtual 67, 3), (42, .aload_n 0, 1), (43, .iload_n 2, 1), (44, .iconst 4, 1), (45, .invokevirtual 67, 3), (48, .if_icmp .gt 23, 3), (51, .aload_n 0, 1), (52, .getfield 49, 3), (55, .iload_n 2, 1), (56, .iaload, 1), (57, .aload_n 0, 1), (58, .getfield 49, 3), (61, .iload_n 3, 1), (62, .iaload, 1), (63, .iconst 1, 1), (64, .iadd, 1), (65, .invokestatic 368, 3), (68, .goto 9, 3), (71, .aload_n 0, 1), (72, .getfield 49, 3), (75, .iload_n 2, 1), (76, .iaload, 1), (77, .iastore, 1), (78, .iinc 3 1, 3), (81, .goto (-55), 3), (84, .iload_n 1, 1), (85, .aload_n 0, 1), (86, .getfield 49, 3), (89, .iload_n 2, 1), (90, .iaload, 1), (91, .invokestatic 368, 3), (94, .istore_n 1, 1), (95, .iinc 2 1, 3), (98, .goto (-89), 3), (101, .aload_n 0, 1), (102, .invokevirtual 59, 3), (105, .iload_n 1, 1)]
theorem DX12_order : ∀ q ∈ TX12_order, decode cX12_order q.1 = .ok q.2 := dec_cut 24 (by decide +kernel) (dec_cut 24 (dec_sf cX12_order 36 _ (by decide +kernel)) (dec_sf cX12_order 76 _ (by decide +kernel)))
def TX12_order_1 : List (Nat × Instr × Nat) := [(106, .isub, 1), (107, .ireturn, 1)]
theorem DX12_order_1 : ∀ q ∈ TX12_order_1, decode cX12_order q.1 = .ok q.2 := dec_sf cX12_order 106 _ (by decide +kernel)
def TX12_tight : List (Nat × Instr × Nat) := [(0, .aload_n 0, 1), (1, .iconst 0, 1), (2, .putfield 3, 3), (5, .aload_n 0, 1), (6, .iload_n 1, 1), (7, .iconst 2, 1), (8, .bipush 8, 2), (10, .invokestatic 77, 3), (13, .ifCond .ne 7, 3), (16, .iconst 1, 1), (17, .goto 4, 3), (20, .iconst 0, 1), (21, .iconst 1, 1), (22, .invokevirtual 250, 3), (25, .ifCond .eq 5, 3), (28, .iconst 0, 1), (29, .ireturn, 1), (30, .iconst (-1), 1), (31, .istore_n 2, 1), (32, .ldc_w 273, 3), (35, .istore_n 3, 1), (36, .iconst 0, 1), (37, .istore 4, 2), (39, .iload 4, 2), (41, .iload_n 1, 1), (42, .iadd, 1), (43, .aload_n 0, 1), (44, .invokevirtual 59, 3), (47, .if_icmp .gt 50, 3), (50, .aload_n 0, 1), (51, .iload 4, 2), (53, .iload_n 1, 1), (54, .iadd, 1), (55, .iconst 1, 1), (56, .isub, 1), (57, .iconst 0, 1), (58, .invokevirtual 67, 3), (61, .aload_n 0, 1), (62, .iload 4, 2), (64, .iconst 0, 1), (65, .invokevirtual 67, 3), (68, .isub, 1), (69, .istore 5, 2), (71, .iload 5, 2), (73, .iload_n 3, 1), (74, .if_icmp .ge 8, 3), (77, .iload 4, 2), (79, .goto 4, 3), (82, .iload_n 2, 1), (83, .istore_n 2, 1), (84, .iload_n 3, 1), (85, .iload 5, 2), (87, .invokestatic 119, 3), (90, .istore_n 3, 1), (91, .iinc 4 1, 3), (94, .goto (-55), 3), (97, .iload_n 2, 1), (98, .ireturn, 1)]
theorem DX12_tight : ∀ q ∈ TX12_tight, decode cX12_tight q.1 = .ok q.2 := dec_cut 24 (by decide +kernel) (dec_cut 24 (dec_sf cX12_tight 41 _ (by decide +kernel)) (dec_sf cX12_tight 82 _ (by decide +kernel)))
def TX12_slack : List (Nat × Instr × Nat) := [(0, .aload_n 0, 1), (1, .iconst 0, 1), (2, .putfield 3, 3), (5, .iconst 0, 1), (6, .istore_n 1, 1), (7, .iconst 0, 1), (8, .istore_n 2, 1), (9, .iload_n 2, 1), (10, .aload_n 0, 1), (11, .invokevirtual 70, 3), (14, .if_icmp .ge 24, 3), (17, .iload_n 1, 1), (18, .aload_n 0, 1), (19, .iload_n 2, 1), (20, .iconst 1, 1), (21, .invokevirtual 67, 3), (24, .aload_n 0, 1), (25, .iload_n 2, 1), (26, .invokevirtual 253, 3), (29, .isub, 1), (30, .iadd, 1), (31, .istore_n 1, 1), (32, .iinc 2 1, 3), (35, .goto (-26), 3), (38, .iload_n 1, 1), (39, .ireturn, 1)]
theorem DX12_slack : ∀ q ∈ TX12_slack, decode cX12_slack q.1 = .ok q.2 := by decide +kernel
def TX12_taut : List (Nat × Instr × Nat) := [(0, .aload_n 0, 1), (1, .iconst 0, 1), (2, .putfield 3, 3), (5, .iconst 0, 1), (6, .istore_n 1, 1), (7, .iconst 0, 1), (8, .istore_n 2, 1), (9, .iload_n 2, 1), (10, .aload_n 0, 1), (11, .invokevirtual 70, 3), (14, .if_icmp .ge 33, 3), (17, .iload_n 1, 1), (18, .aload_n 0, 1), (19, .iload_n 2, 1), (20, .invokevirtual 253, 3), (23, .aload_n 0, 1), (24, .iload_n 2, 1), (25, .iconst 1, 1), (26, .invokevirtual 67, 3), (29, .if_icmp .ne 9, 3), (32, .iconst 1, 1), (33, .iload_n 2, 1), (34, .ishl, 1), (35, .goto 4, 3), (38, .iconst 0, 1), (39, .ior, 1), (40, .istore_n 1, 1), (41, .iinc 2 1, 3), (44, .goto (-35), 3), (47, .iload_n 1, 1), (48, .ireturn, 1)]
theorem DX12_taut : ∀ q ∈ TX12_taut, decode cX12_taut q.1 = .ok q.2 := dec_cut 24 (by decide +kernel) (dec_sf cX12_taut 38 _ (by decide +kernel))
def TX12_bunch : List (Nat × Instr × Nat) := [(0, .aload_n 0, 1), (1, .iconst 0, 1), (2, .putfield 3, 3), (5, .iconst 0, 1), (6, .istore_n 1, 1), (7, .iconst 0, 1), (8, .istore_n 2, 1), (9, .iconst 0, 1), (10, .istore_n 3, 1), (11, .iload_n 3, 1), (12, .aload_n 0, 1), (13, .invokevirtual 59, 3), (16, .if_icmp .ge 38, 3), (19, .iload_n 3, 1), (20, .ifCond .le 20, 3), (23, .aload_n 0, 1), (24, .iload_n 3, 1), (25, .iconst 1, 1), (26, .isub, 1), (27, .invokevirtual 253, 3), (30, .iconst 1, 1), (31, .if_icmp .ne 9, 3), (34, .iload_n 2, 1), (35, .iconst 1, 1), (36, .iadd, 1), (37, .goto 4, 3), (40, .iconst 1, 1), (41, .istore_n 2, 1), (42, .iload_n 1, 1), (43, .iload_n 2, 1), (44, .invokestatic 368, 3), (47, .istore_n 1, 1), (48, .iinc 3 1, 3), (51, .goto (-40), 3), (54, .iload_n 1, 1), (55, .ireturn, 1)]
theorem DX12_bunch : ∀ q ∈ TX12_bunch, decode cX12_bunch q.1 = .ok q.2 := dec_cut 24 (by decide +kernel) (dec_sf cX12_bunch 36 _ (by decide +kernel))
def TX12_litIn : List (Nat × Instr × Nat) := [(0, .iconst 0, 1), (1, .istore_n 2, 1), (2, .iconst 0, 1), (3, .istore_n 3, 1), (4, .iload_n 3, 1), (5, .aload_n 0, 1), (6, .invokevirtual 59, 3), (9, .if_icmp .ge 28, 3), (12, .iload_n 2, 1), (13, .aload_n 0, 1), (14, .iload_n 3, 1), (15, .iload_n 1, 1), (16, .invokevirtual 257, 3), (19, .ifCond .eq 9, 3), (22, .iconst 1, 1), (23, .iload_n 3, 1), (24, .ishl, 1), (25, .goto 4, 3), (28, .iconst 0, 1), (29, .ior, 1), (30, .istore_n 2, 1), (31, .iinc 3 1, 3), (34, .goto (-30), 3), (37, .iload_n 2, 1), (38, .ireturn, 1)]
theorem DX12_litIn : ∀ q ∈ TX12_litIn, decode cX12_litIn q.1 = .ok q.2 := by decide +kernel
def TX12_lit : List (Nat × Instr × Nat) := [(0, .aload_n 0, 1), (1, .iconst 0, 1), (2, .putfield 3, 3), (5, .aload_n 0, 1), (6, .iload_n 1, 1), (7, .iconst 0, 1), (8, .bipush 7, 2), (10, .invokestatic 77, 3), (13, .ifCond .ne 7, 3), (16, .iconst 1, 1), (17, .goto 4, 3), (20, .iconst 0, 1), (21, .iconst 1, 1), (22, .invokevirtual 250, 3), (25, .ifCond .eq 7, 3), (28, .iconst 0, 1), (29, .goto 8, 3), (32, .aload_n 0, 1), (33, .iload_n 1, 1), (34, .invokevirtual 404, 3), (37, .ireturn, 1)]
theorem DX12_lit : ∀ q ∈ TX12_lit, decode cX12_lit q.1 = .ok q.2 := by decide +kernel
def TX12_sunny : List (Nat × Instr × Nat) := [(0, .aload_n 0, 1), (1, .iconst 0, 1), (2, .putfield 3, 3), (5, .iconst (-1), 1), (6, .istore_n 1, 1), (7, .iconst (-1), 1), (8, .istore_n 2, 1), (9, .iconst 0, 1), (10, .istore_n 3, 1), (11, .iload_n 3, 1), (12, .aload_n 0, 1), (13, .invokevirtual 59, 3), (16, .if_icmp .ge 67, 3), (19, .iconst 0, 1), (20, .istore 4, 2), (22, .iconst 0, 1), (23, .istore 5, 2), (25, .iload 5, 2), (27, .bipush 8, 2), (29, .if_icmp .ge 29, 3), (32, .iload 4, 2), (34, .aload_n 0, 1), (35, .iload_n 3, 1), (36, .iload 5, 2), (38, .invokevirtual 257, 3), (41, .ifCond .eq 7, 3), (44, .iconst 1, 1), (45, .goto 4, 3), (48, .iconst 0, 1), (49, .iadd, 1), (50, .istore 4, 2), (52, .iinc 5 1, 3), (55, .goto (-30), 3), (58, .iload 4, 2), (60, .iload_n 2, 1), (61, .if_icmp .le 7, 3), (64, .iload_n 3, 1), (65, .goto 4, 3), (68, .iload_n 1, 1), (69, .istore_n 1, 1), (70, .iload_n 2, 1), (71, .iload 4, 2), (73, .invokestatic 368, 3), (76, .istore_n 2, 1), (77, .iinc 3 1, 3), (80, .goto (-69), 3), (83, .iload_n 1, 1), (84, .ireturn, 1)]
theorem DX12_sunny : ∀ q ∈ TX12_sunny, decode cX12_sunny q.1 = .ok q.2 := dec_cut 24 (by decide +kernel) (dec_sf cX12_sunny 38 _ (by decide +kernel))
def TX12_lets : List (Nat × Instr × Nat) := [(0, .aload_n 0, 1), (1, .iconst 0, 1), (2, .putfield 3, 3), (5, .aload_n 0, 1), (6, .aload_n 0, 1), (7, .iload_n 1, 1), (8, .invokevirtual 277, 3), (11, .iconst 1, 1), (12, .invokevirtual 250, 3), (15, .ifCond .ne 26, 3), (18, .aload_n 0, 1), (19, .iload_n 2, 1), (20, .iconst 0, 1), (21, .bipush 9, 2), (23, .invokestatic 77, 3), (26, .ifCond .ne 7, 3), (29, .iconst 1, 1), (30, .goto 4, 3), (33, .iconst 0, 1), (34, .iconst 2, 1), (35, .invokevirtual 250, 3), (38, .ifCond .eq 5, 3), (41, .iconst 0, 1), (42, .ireturn, 1), (43, .iconst 0, 1), (44, .istore_n 3, 1), (45, .iconst 0, 1), (46, .istore 4, 2), (48, .iload 4, 2), (50, .aload_n 0, 1), (51, .invokevirtual 59, 3), (54, .if_icmp .ge 19, 3), (57, .iload_n 3, 1), (58, .aload_n 0, 1), (59, .iload 4, 2), (61, .iconst 5, 1), (62, .invokevirtual 67, 3), (65, .iadd, 1), (66, .istore_n 3, 1), (67, .iinc 4 1, 3), (70, .goto (-22), 3), (73, .iload_n 3, 1), (74, .aload_n 0, 1), (75, .invokevirtual 59, 3), (78, .idiv, 1), (79, .istore 4, 2), (81, .iload_n 3, 1), (82, .aload_n 0, 1), (83, .invokevirtual 59, 3), (86, .irem, 1), (87, .istore 5, 2), (89, .iload 5, 2), (91, .ifCond .le 10, 3), (94, .iload 4, 2), (96, .iconst 1, 1), (97, .iadd, 1), (98, .goto 5, 3), (101, .iload 4, 2), (103, .istore 6, 2), (105, .iload 6, 2), (107, .iload_n 2, 1), (108, .if_icmp .le 7, 3), (111, .iconst (-1), 1), (112, .goto 18, 3)]
theorem DX12_lets : ∀ q ∈ TX12_lets, decode cX12_lets q.1 = .ok q.2 := dec_cut 24 (by decide +kernel) (dec_cut 24 (dec_sf cX12_lets 43 _ (by decide +kernel)) (dec_sf cX12_lets 83 _ (by decide +kernel)))
def TX12_lets_1 : List (Nat × Instr × Nat) := [(115, .iload_n 1, 1), (116, .iload 5, 2), (118, .if_icmp .ge 10, 3), (121, .iload 4, 2), (123, .iconst 1, 1), (124, .iadd, 1), (125, .goto 5, 3), (128, .iload 4, 2), (130, .ireturn, 1)]
theorem DX12_lets_1 : ∀ q ∈ TX12_lets_1, decode cX12_lets q.1 = .ok q.2 := dec_sf cX12_lets 115 _ (by decide +kernel)
def TX12_envy : List (Nat × Instr × Nat) := [(0, .aload_n 0, 1), (1, .iconst 0, 1), (2, .putfield 3, 3), (5, .iconst 0, 1), (6, .istore_n 1, 1), (7, .iconst 0, 1), (8, .istore_n 2, 1), (9, .iload_n 2, 1), (10, .aload_n 0, 1), (11, .invokevirtual 70, 3), (14, .if_icmp .ge 39, 3), (17, .iload_n 1, 1), (18, .aload_n 0, 1), (19, .iload_n 2, 1), (20, .iconst 5, 1), (21, .invokevirtual 67, 3), (24, .aload_n 0, 1), (25, .iload_n 2, 1), (26, .iconst 1, 1), (27, .iadd, 1), (28, .iconst 5, 1), (29, .invokevirtual 67, 3), (32, .isub, 1), (33, .invokestatic 274, 3), (36, .iconst 1, 1), (37, .if_icmp .le 7, 3), (40, .iconst 1, 1), (41, .goto 4, 3), (44, .iconst 0, 1), (45, .iadd, 1), (46, .istore_n 1, 1), (47, .iinc 2 1, 3), (50, .goto (-41), 3), (53, .iload_n 1, 1), (54, .ireturn, 1)]
theorem DX12_envy : ∀ q ∈ TX12_envy, decode cX12_envy q.1 = .ok q.2 := dec_cut 24 (by decide +kernel) (dec_sf cX12_envy 36 _ (by decide +kernel))
def TX12_eachHas : List (Nat × Instr × Nat) := [(0, .iload_n 2, 1), (1, .iload_n 3, 1), (2, .if_icmp .ne 5, 3), (5, .iconst 2, 1), (6, .ireturn, 1), (7, .iload_n 2, 1), (8, .iconst 1, 1), (9, .if_icmp .ne 13, 3), (12, .aload_n 0, 1), (13, .iload_n 1, 1), (14, .invokevirtual 253, 3), (17, .iconst 1, 1), (18, .isub, 1), (19, .goto 19, 3), (22, .aload_n 0, 1), (23, .iload_n 1, 1), (24, .bipush 7, 2), (26, .invokevirtual 73, 3), (29, .ifCond .eq 8, 3), (32, .bipush (-2), 2), (34, .goto 4, 3), (37, .iconst 1, 1), (38, .ireturn, 1)]
theorem DX12_eachHas : ∀ q ∈ TX12_eachHas, decode cX12_eachHas q.1 = .ok q.2 := by decide +kernel
def TX12_rests : List (Nat × Instr × Nat) := [(0, .aload_n 0, 1), (1, .iconst 0, 1), (2, .putfield 3, 3), (5, .aload_n 0, 1), (6, .aload_n 0, 1), (7, .iload_n 1, 1), (8, .invokevirtual 277, 3), (11, .iconst 1, 1), (12, .invokevirtual 250, 3), (15, .ifCond .eq 5, 3), (18, .iconst 0, 1), (19, .ireturn, 1), (20, .iload_n 1, 1), (21, .aload_n 0, 1), (22, .invokevirtual 70, 3), (25, .if_icmp .ne 5, 3), (28, .iconst (-1), 1), (29, .ireturn, 1), (30, .iconst 0, 1), (31, .istore_n 2, 1), (32, .iconst 0, 1), (33, .istore_n 3, 1), (34, .iload_n 3, 1), (35, .iconst 2, 1), (36, .if_icmp .ge 81, 3), (39, .iconst 0, 1), (40, .istore 4, 2), (42, .iload 4, 2), (44, .iconst 2, 1), (45, .if_icmp .ge 66, 3), (48, .iload_n 2, 1), (49, .aload_n 0, 1), (50, .iload_n 1, 1), (51, .iload_n 3, 1), (52, .iload 4, 2), (54, .invokevirtual 407, 3), (57, .aload_n 0, 1), (58, .iload_n 1, 1), (59, .iconst 1, 1), (60, .iload_n 3, 1), (61, .isub, 1), (62, .iload 4, 2), (64, .invokevirtual 407, 3), (67, .if_icmp .lt 35, 3), (70, .aload_n 0, 1), (71, .iload_n 1, 1), (72, .iload_n 3, 1), (73, .iload 4, 2), (75, .invokevirtual 407, 3), (78, .aload_n 0, 1), (79, .iload_n 1, 1), (80, .iload_n 3, 1), (81, .iconst 1, 1), (82, .iload 4, 2), (84, .isub, 1), (85, .invokevirtual 407, 3), (88, .if_icmp .lt 14, 3), (91, .iconst 1, 1), (92, .iconst 2, 1), (93, .iload_n 3, 1), (94, .imul, 1), (95, .iload 4, 2), (97, .iadd, 1), (98, .ishl, 1)]
theorem DX12_rests : ∀ q ∈ TX12_rests, decode cX12_rests q.1 = .ok q.2 := dec_cut 24 (by decide +kernel) (dec_cut 24 (dec_sf cX12_rests 36 _ (by decide +kernel)) (dec_sf cX12_rests 75 _ (by decide +kernel)))
def TX12_rests_1 : List (Nat × Instr × Nat) := [(99, .goto 4, 3), (102, .iconst 0, 1), (103, .ior, 1), (104, .istore_n 2, 1), (105, .iinc 4 1, 3), (108, .goto (-66), 3), (111, .iinc 3 1, 3), (114, .goto (-80), 3), (117, .iload_n 2, 1), (118, .ireturn, 1)]
theorem DX12_rests_1 : ∀ q ∈ TX12_rests_1, decode cX12_rests q.1 = .ok q.2 := dec_sf cX12_rests 99 _ (by decide +kernel)
def TX12_wooden : List (Nat × Instr × Nat) := [(0, .aload_n 0, 1), (1, .iconst 0, 1), (2, .putfield 3, 3), (5, .aload_n 0, 1), (6, .iconst 3, 1), (7, .invokevirtual 401, 3), (10, .ireturn, 1)]
theorem DX12_wooden : ∀ q ∈ TX12_wooden, decode cX12_wooden q.1 = .ok q.2 := by decide +kernel
def TX12_caught : List (Nat × Instr × Nat) := [(0, .aload_n 0, 1), (1, .iconst 0, 1), (2, .putfield 3, 3), (5, .aload_n 0, 1), (6, .bipush 7, 2), (8, .invokevirtual 401, 3), (11, .ireturn, 1)]
theorem DX12_caught : ∀ q ∈ TX12_caught, decode cX12_caught q.1 = .ok q.2 := by decide +kernel
def TX12_looseOnes : List (Nat × Instr × Nat) := [(0, .iconst 1, 1), (1, .aload_n 0, 1), (2, .invokevirtual 59, 3), (5, .ishl, 1), (6, .iconst 1, 1), (7, .isub, 1), (8, .aload_n 0, 1), (9, .bipush 6, 2), (11, .invokevirtual 401, 3), (14, .iconst (-1), 1), (15, .ixor, 1), (16, .iand, 1), (17, .ireturn, 1)]
theorem DX12_looseOnes : ∀ q ∈ TX12_looseOnes, decode cX12_looseOnes q.1 = .ok q.2 := by decide +kernel
def TX12_loose : List (Nat × Instr × Nat) := [(0, .aload_n 0, 1), (1, .iconst 0, 1), (2, .putfield 3, 3), (5, .aload_n 0, 1), (6, .invokevirtual 410, 3), (9, .ireturn, 1)]
theorem DX12_loose : ∀ q ∈ TX12_loose, decode cX12_loose q.1 = .ok q.2 := by decide +kernel
def TX12_beyond : List (Nat × Instr × Nat) := [(0, .aload_n 0, 1), (1, .iconst 0, 1), (2, .putfield 3, 3), (5, .iconst 0, 1), (6, .istore_n 1, 1), (7, .iconst 0, 1), (8, .istore_n 2, 1), (9, .iload_n 2, 1), (10, .aload_n 0, 1), (11, .invokevirtual 59, 3), (14, .if_icmp .ge 43, 3), (17, .iload_n 1, 1), (18, .aload_n 0, 1), (19, .iload_n 2, 1), (20, .iconst 2, 1), (21, .invokevirtual 73, 3), (24, .ifCond .eq 24, 3), (27, .aload_n 0, 1), (28, .iload_n 2, 1), (29, .iconst 0, 1), (30, .invokevirtual 67, 3), (33, .aload_n 0, 1), (34, .getfield 13, 3), (37, .iconst 5, 1), (38, .iaload, 1), (39, .if_icmp .lt 9, 3), (42, .iconst 1, 1), (43, .iload_n 2, 1), (44, .ishl, 1), (45, .goto 4, 3), (48, .iconst 0, 1), (49, .ior, 1), (50, .istore_n 1, 1), (51, .iinc 2 1, 3), (54, .goto (-45), 3), (57, .iload_n 1, 1), (58, .ireturn, 1)]
theorem DX12_beyond : ∀ q ∈ TX12_beyond, decode cX12_beyond q.1 = .ok q.2 := dec_cut 24 (by decide +kernel) (dec_sf cX12_beyond 38 _ (by decide +kernel))
def TX12_odds : List (Nat × Instr × Nat) := [(0, .aload_n 0, 1), (1, .iconst 0, 1), (2, .putfield 3, 3), (5, .aload_n 0, 1), (6, .aload_n 0, 1), (7, .iload_n 1, 1), (8, .invokevirtual 277, 3), (11, .iconst 1, 1), (12, .invokevirtual 250, 3), (15, .ifCond .ne 25, 3), (18, .aload_n 0, 1), (19, .iload_n 2, 1), (20, .iconst 0, 1), (21, .iconst 4, 1), (22, .invokestatic 77, 3), (25, .ifCond .ne 7, 3), (28, .iconst 1, 1), (29, .goto 4, 3), (32, .iconst 0, 1), (33, .iconst 2, 1), (34, .invokevirtual 250, 3), (37, .ifCond .eq 5, 3), (40, .iconst 0, 1), (41, .ireturn, 1), (42, .bipush 100, 2), (44, .bipush 100, 2), (46, .aload_n 0, 1), (47, .iconst 2, 1), (48, .iload_n 1, 1), (49, .invokevirtual 280, 3), (52, .invokestatic 119, 3), (55, .isub, 1), (56, .istore_n 3, 1), (57, .sipush 10000, 3), (60, .istore 4, 2), (62, .iconst 0, 1), (63, .istore 5, 2), (65, .iload 5, 2), (67, .iload_n 2, 1), (68, .if_icmp .ge 18, 3), (71, .iload 4, 2), (73, .iload_n 3, 1), (74, .imul, 1), (75, .bipush 100, 2), (77, .idiv, 1), (78, .istore 4, 2), (80, .iinc 5 1, 3), (83, .goto (-18), 3), (86, .iload 4, 2), (88, .ireturn, 1)]
theorem DX12_odds : ∀ q ∈ TX12_odds, decode cX12_odds q.1 = .ok q.2 := dec_cut 24 (by decide +kernel) (dec_sf cX12_odds 42 _ (by decide +kernel))
def TX12_likens : List (Nat × Instr × Nat) := [(0, .aload_n 0, 1), (1, .iload_n 1, 1), (2, .iconst 1, 1), (3, .invokevirtual 67, 3), (6, .aload_n 0, 1), (7, .iload_n 2, 1), (8, .iconst 1, 1), (9, .invokevirtual 67, 3), (12, .if_icmp .ne 37, 3), (15, .aload_n 0, 1), (16, .iload_n 1, 1), (17, .iconst 5, 1), (18, .invokevirtual 67, 3), (21, .aload_n 0, 1), (22, .iload_n 2, 1), (23, .iconst 5, 1), (24, .invokevirtual 67, 3), (27, .if_icmp .ne 22, 3), (30, .aload_n 0, 1), (31, .iload_n 1, 1), (32, .iconst 4, 1), (33, .invokevirtual 67, 3), (36, .aload_n 0, 1), (37, .iload_n 2, 1), (38, .iconst 4, 1), (39, .invokevirtual 67, 3), (42, .if_icmp .ne 7, 3), (45, .iconst 1, 1), (46, .goto 4, 3), (49, .iconst 0, 1), (50, .ireturn, 1)]
theorem DX12_likens : ∀ q ∈ TX12_likens, decode cX12_likens q.1 = .ok q.2 := dec_cut 24 (by decide +kernel) (dec_sf cX12_likens 38 _ (by decide +kernel))
def TX12_twins : List (Nat × Instr × Nat) := [(0, .aload_n 0, 1), (1, .iconst 0, 1), (2, .putfield 3, 3), (5, .iconst 0, 1), (6, .istore_n 1, 1), (7, .iconst 0, 1), (8, .istore_n 2, 1), (9, .iload_n 2, 1), (10, .aload_n 0, 1), (11, .invokevirtual 59, 3), (14, .if_icmp .ge 39, 3), (17, .iconst 0, 1), (18, .istore_n 3, 1), (19, .iload_n 3, 1), (20, .iload_n 2, 1), (21, .if_icmp .ge 26, 3), (24, .iload_n 1, 1), (25, .aload_n 0, 1), (26, .iload_n 2, 1), (27, .iload_n 3, 1), (28, .invokevirtual 413, 3), (31, .ifCond .eq 7, 3), (34, .iconst 1, 1), (35, .goto 4, 3), (38, .iconst 0, 1), (39, .iadd, 1), (40, .istore_n 1, 1), (41, .iinc 3 1, 3), (44, .goto (-25), 3), (47, .iinc 2 1, 3), (50, .goto (-41), 3), (53, .iload_n 1, 1), (54, .ireturn, 1)]
theorem DX12_twins : ∀ q ∈ TX12_twins, decode cX12_twins q.1 = .ok q.2 := dec_cut 24 (by decide +kernel) (dec_sf cX12_twins 38 _ (by decide +kernel))
def TX12_trial : List (Nat × Instr × Nat) := [(0, .aload_n 0, 1), (1, .iconst 0, 1), (2, .putfield 3, 3), (5, .aload_n 0, 1), (6, .iload_n 1, 1), (7, .invokestatic 345, 3), (10, .iconst 1, 1), (11, .invokevirtual 250, 3), (14, .ifCond .eq 5, 3), (17, .iconst 0, 1), (18, .ireturn, 1), (19, .aload_n 0, 1), (20, .invokevirtual 348, 3), (23, .aload_n 0, 1), (24, .iload_n 1, 1), (25, .iconst 0, 1), (26, .invokevirtual 342, 3), (29, .pop, 1), (30, .iload_n 2, 1), (31, .ifCond .eq 10, 3), (34, .aload_n 0, 1), (35, .invokevirtual 410, 3), (38, .goto 9, 3), (41, .aload_n 0, 1), (42, .bipush 7, 2), (44, .invokevirtual 401, 3), (47, .istore_n 3, 1), (48, .aload_n 0, 1), (49, .invokevirtual 351, 3), (52, .iload_n 3, 1), (53, .ireturn, 1)]
theorem DX12_trial : ∀ q ∈ TX12_trial, decode cX12_trial q.1 = .ok q.2 := dec_cut 24 (by decide +kernel) (dec_sf cX12_trial 42 _ (by decide +kernel))
def TX12_span : List (Nat × Instr × Nat) := [(0, .aload_n 0, 1), (1, .iconst 0, 1), (2, .putfield 3, 3), (5, .aload_n 0, 1), (6, .iload_n 1, 1), (7, .invokestatic 345, 3), (10, .iconst 1, 1), (11, .invokevirtual 250, 3), (14, .ifCond .eq 5, 3), (17, .iconst 0, 1), (18, .ireturn, 1), (19, .aload_n 0, 1), (20, .invokevirtual 348, 3), (23, .iconst (-1), 1), (24, .istore_n 3, 1), (25, .iconst 1, 1), (26, .istore 4, 2), (28, .iload 4, 2), (30, .bipush 6, 2), (32, .if_icmp .gt 77, 3), (35, .aload_n 0, 1), (36, .getfield 13, 3), (39, .bipush 10, 2), (41, .iload 4, 2), (43, .iastore, 1), (44, .aload_n 0, 1), (45, .iload_n 1, 1), (46, .iconst 0, 1), (47, .invokevirtual 342, 3), (50, .pop, 1), (51, .aload_n 0, 1), (52, .bipush 7, 2), (54, .invokevirtual 401, 3), (57, .invokestatic 360, 3), (60, .aload_n 0, 1), (61, .invokevirtual 410, 3), (64, .invokestatic 360, 3), (67, .iadd, 1), (68, .istore 5, 2), (70, .aload_n 0, 1), (71, .invokevirtual 351, 3), (74, .iload_n 3, 1), (75, .ifCond .ge 8, 3), (78, .iload 5, 2), (80, .goto 22, 3), (83, .iload_n 2, 1), (84, .ifCond .eq 12, 3), (87, .iload_n 3, 1), (88, .iload 5, 2), (90, .invokestatic 368, 3), (93, .goto 9, 3), (96, .iload_n 3, 1), (97, .iload 5, 2), (99, .invokestatic 119, 3), (102, .istore_n 3, 1), (103, .iinc 4 1, 3), (106, .goto (-78), 3), (109, .iload_n 3, 1), (110, .ireturn, 1)]
theorem DX12_span : ∀ q ∈ TX12_span, decode cX12_span q.1 = .ok q.2 := dec_cut 24 (by decide +kernel) (dec_cut 24 (dec_sf cX12_span 43 _ (by decide +kernel)) (dec_sf cX12_span 88 _ (by decide +kernel)))
def TX12_ofLog : List (Nat × Instr × Nat) := [(0, .aload_n 0, 1), (1, .getfield 13, 3), (4, .bipush 75, 2), (6, .bipush 6, 2), (8, .iload_n 1, 1), (9, .imul, 1), (10, .iadd, 1), (11, .iload_n 2, 1), (12, .iadd, 1), (13, .iaload, 1), (14, .ireturn, 1)]
theorem DX12_ofLog : ∀ q ∈ TX12_ofLog, decode cX12_ofLog q.1 = .ok q.2 := by decide +kernel
def TX12_led : List (Nat × Instr × Nat) := [(0, .aload_n 0, 1), (1, .iconst 0, 1), (2, .putfield 3, 3), (5, .aload_n 0, 1), (6, .aload_n 0, 1), (7, .iload_n 1, 1), (8, .invokevirtual 277, 3), (11, .iconst 1, 1), (12, .invokevirtual 250, 3), (15, .ifCond .eq 5, 3), (18, .iconst 0, 1), (19, .ireturn, 1), (20, .iconst 0, 1), (21, .istore_n 3, 1), (22, .iconst (-1), 1), (23, .istore 4, 2), (25, .aload_n 0, 1), (26, .getfield 13, 3), (29, .bipush 9, 2), (31, .iaload, 1), (32, .iconst 1, 1), (33, .isub, 1), (34, .istore 5, 2), (36, .iload 5, 2), (38, .ifCond .lt 35, 3), (41, .aload_n 0, 1), (42, .iload 5, 2), (44, .iconst 2, 1), (45, .invokevirtual 416, 3), (48, .iload_n 1, 1), (49, .if_icmp .eq 6, 3), (52, .goto 15, 3), (55, .iinc 3 1, 3), (58, .aload_n 0, 1), (59, .iload 5, 2), (61, .iconst 5, 1), (62, .invokevirtual 416, 3), (65, .istore 4, 2), (67, .iinc 5 (-1), 3), (70, .goto (-34), 3), (73, .iload_n 2, 1), (74, .ifCond .eq 8, 3), (77, .iload 4, 2), (79, .goto 4, 3), (82, .iload_n 3, 1), (83, .ireturn, 1)]
theorem DX12_led : ∀ q ∈ TX12_led, decode cX12_led q.1 = .ok q.2 := dec_cut 24 (by decide +kernel) (dec_sf cX12_led 38 _ (by decide +kernel))
def TX12_log : List (Nat × Instr × Nat) := [(0, .aload_n 0, 1), (1, .iconst 0, 1), (2, .putfield 3, 3), (5, .aload_n 0, 1), (6, .iload_n 2, 1), (7, .iconst 0, 1), (8, .iconst 5, 1), (9, .invokestatic 77, 3), (12, .ifCond .ne 7, 3), (15, .iconst 1, 1), (16, .goto 4, 3), (19, .iconst 0, 1), (20, .iconst 1, 1), (21, .invokevirtual 250, 3), (24, .ifCond .eq 5, 3), (27, .iconst 0, 1), (28, .ireturn, 1), (29, .iload_n 1, 1), (30, .iconst 0, 1), (31, .aload_n 0, 1), (32, .getfield 13, 3), (35, .bipush 9, 2), (37, .iaload, 1), (38, .iconst 1, 1), (39, .isub, 1), (40, .invokestatic 77, 3), (43, .ifCond .eq 12, 3), (46, .aload_n 0, 1), (47, .iload_n 1, 1), (48, .iload_n 2, 1), (49, .invokevirtual 416, 3), (52, .goto 4, 3), (55, .iconst (-1), 1), (56, .ireturn, 1)]
theorem DX12_log : ∀ q ∈ TX12_log, decode cX12_log q.1 = .ok q.2 := dec_cut 24 (by decide +kernel) (dec_sf cX12_log 39 _ (by decide +kernel))
def TX12_seed : List (Nat × Instr × Nat) := [(0, .aload_n 0, 1), (1, .iconst 0, 1), (2, .putfield 3, 3), (5, .aload_n 0, 1), (6, .getfield 13, 3), (9, .bipush 10, 2), (11, .iaload, 1), (12, .istore_n 2, 1), (13, .aload_n 0, 1), (14, .getfield 13, 3), (17, .bipush 10, 2), (19, .iload_n 1, 1), (20, .iastore, 1), (21, .iload_n 2, 1), (22, .ireturn, 1)]
theorem DX12_seed : ∀ q ∈ TX12_seed, decode cX12_seed q.1 = .ok q.2 := by decide +kernel
def TX12_count : List (Nat × Instr × Nat) := [(0, .aload_n 0, 1), (1, .iconst 0, 1), (2, .putfield 3, 3), (5, .iload_n 1, 1), (6, .lookupswitch 70 #[(2, 34), (9, 57), (10, 65)], 34), (40, .aload_n 0, 1), (41, .getfield 13, 3), (44, .iconst 2, 1), (45, .iaload, 1), (46, .iconst 1, 1), (47, .if_icmp .ne 14, 3), (50, .aload_n 0, 1), (51, .getfield 13, 3), (54, .sipush 435, 3), (57, .iaload, 1), (58, .goto 4, 3), (61, .iconst (-1), 1), (62, .ireturn, 1), (63, .aload_n 0, 1), (64, .getfield 13, 3), (67, .bipush 9, 2), (69, .iaload, 1), (70, .ireturn, 1), (71, .aload_n 0, 1), (72, .getfield 56, 3), (75, .ireturn, 1), (76, .iload_n 1, 1), (77, .iconst 0, 1), (78, .bipush 8, 2), (80, .invokestatic 77, 3), (83, .ifCond .eq 12, 3), (86, .aload_n 0, 1), (87, .getfield 13, 3), (90, .iload_n 1, 1), (91, .iaload, 1), (92, .goto 4, 3), (95, .iconst (-1), 1), (96, .ireturn, 1)]
theorem DX12_count : ∀ q ∈ TX12_count, decode cX12_count q.1 = .ok q.2 := dec_cut 24 (by decide +kernel) (dec_sf cX12_count 71 _ (by decide +kernel))
def TJ6_bitCount_0f7a4 : List (Nat × Instr × Nat) := [(0, .iload_n 0, 1), (1, .iload_n 0, 1), (2, .iconst 1, 1), (3, .iushr, 1), (4, .ldc_w 265, 3), (7, .iand, 1), (8, .isub, 1), (9, .istore_n 0, 1), (10, .iload_n 0, 1), (11, .ldc_w 266, 3), (14, .iand, 1), (15, .iload_n 0, 1), (16, .iconst 2, 1), (17, .iushr, 1), (18, .ldc_w 266, 3), (21, .iand, 1), (22, .iadd, 1), (23, .istore_n 0, 1), (24, .iload_n 0, 1), (25, .iload_n 0, 1), (26, .iconst 4, 1), (27, .iushr, 1), (28, .iadd, 1), (29, .ldc_w 267, 3), (32, .iand, 1), (33, .istore_n 0, 1), (34, .iload_n 0, 1), (35, .iload_n 0, 1), (36, .bipush 8, 2), (38, .iushr, 1), (39, .iadd, 1), (40, .istore_n 0, 1), (41, .iload_n 0, 1), (42, .iload_n 0, 1), (43, .bipush 16, 2), (45, .iushr, 1), (46, .iadd, 1), (47, .istore_n 0, 1), (48, .iload_n 0, 1), (49, .bipush 63, 2), (51, .iand, 1), (52, .ireturn, 1)]
theorem DJ6_bitCount_0f7a4 : ∀ q ∈ TJ6_bitCount_0f7a4, decode cJ6_bitCount_0f7a4 q.1 = .ok q.2 := dec_cut 24 (by decide +kernel) (dec_sf cJ6_bitCount_0f7a4 32 _ (by decide +kernel))
def TJ9_floorMod_7cf53 : List (Nat × Instr × Nat) := [(0, .iload_n 0, 1), (1, .iload_n 1, 1), (2, .irem, 1), (3, .istore_n 2, 1), (4, .iload_n 0, 1), (5, .iload_n 1, 1), (6, .ixor, 1), (7, .ifCond .ge 11, 3), (10, .iload_n 2, 1), (11, .ifCond .eq 7, 3), (14, .iload_n 2, 1), (15, .iload_n 1, 1), (16, .iadd, 1), (17, .ireturn, 1), (18, .iload_n 2, 1), (19, .ireturn, 1)]
theorem DJ9_floorMod_7cf53 : ∀ q ∈ TJ9_floorMod_7cf53, decode cJ9_floorMod_7cf53 q.1 = .ok q.2 := by decide +kernel
def TJ9_abs_0f7a4 : List (Nat × Instr × Nat) := [(0, .iload_n 0, 1), (1, .ifCond .ge 8, 3), (4, .iload_n 0, 1), (5, .ineg, 1), (6, .goto 4, 3), (9, .iload_n 0, 1), (10, .ireturn, 1)]
theorem DJ9_abs_0f7a4 : ∀ q ∈ TJ9_abs_0f7a4, decode cJ9_abs_0f7a4 q.1 = .ok q.2 := by decide +kernel
def TJ9_max_7cf53 : List (Nat × Instr × Nat) := [(0, .iload_n 0, 1), (1, .iload_n 1, 1), (2, .if_icmp .lt 7, 3), (5, .iload_n 0, 1), (6, .goto 4, 3), (9, .iload_n 1, 1), (10, .ireturn, 1)]
theorem DJ9_max_7cf53 : ∀ q ∈ TJ9_max_7cf53, decode cJ9_max_7cf53 q.1 = .ok q.2 := by decide +kernel
def TJ9_min_7cf53 : List (Nat × Instr × Nat) := [(0, .iload_n 0, 1), (1, .iload_n 1, 1), (2, .if_icmp .gt 7, 3), (5, .iload_n 0, 1), (6, .goto 4, 3), (9, .iload_n 1, 1), (10, .ireturn, 1)]
theorem DJ9_min_7cf53 : ∀ q ∈ TJ9_min_7cf53, decode cJ9_min_7cf53 q.1 = .ok q.2 := by decide +kernel
def TJ0_length_8abf5 : List (Nat × Instr × Nat) := [(0, .aload_n 0, 1), (1, .getfield 9, 3), (4, .arraylength, 1), (5, .aload_n 0, 1), (6, .invokevirtual 335, 3), (9, .ishr, 1), (10, .ireturn, 1)]
theorem DJ0_length_8abf5 : ∀ q ∈ TJ0_length_8abf5, decode cJ0_length_8abf5 q.1 = .ok q.2 := by decide +kernel
def TJ0_charAt_5068e : List (Nat × Instr × Nat) := [(0, .aload_n 0, 1), (1, .invokevirtual 492, 3), (4, .ifCond .eq 12, 3), (7, .aload_n 0, 1), (8, .getfield 9, 3), (11, .iload_n 1, 1), (12, .invokestatic 495, 3), (15, .ireturn, 1), (16, .aload_n 0, 1), (17, .getfield 9, 3), (20, .iload_n 1, 1), (21, .invokestatic 498, 3), (24, .ireturn, 1)]
theorem DJ0_charAt_5068e : ∀ q ∈ TJ0_charAt_5068e, decode cJ0_charAt_5068e q.1 = .ok q.2 := by decide +kernel
def TJ0_coder_7d493 : List (Nat × Instr × Nat) := [(0, .getstatic 38, 3), (3, .ifCond .eq 10, 3), (6, .aload_n 0, 1), (7, .getfield 15, 3), (10, .goto 4, 3), (13, .iconst 1, 1), (14, .ireturn, 1)]
theorem DJ0_coder_7d493 : ∀ q ∈ TJ0_coder_7d493, decode cJ0_coder_7d493 q.1 = .ok q.2 := by decide +kernel
def TJ0_isLatin1_aae02 : List (Nat × Instr × Nat) := [(0, .getstatic 38, 3), (3, .ifCond .eq 14, 3), (6, .aload_n 0, 1), (7, .getfield 15, 3), (10, .ifCond .ne 7, 3), (13, .iconst 1, 1), (14, .goto 4, 3), (17, .iconst 0, 1), (18, .ireturn, 1)]
theorem DJ0_isLatin1_aae02 : ∀ q ∈ TJ0_isLatin1_aae02, decode cJ0_isLatin1_aae02 q.1 = .ok q.2 := by decide +kernel
def TJ0_checkIndex_df160 : List (Nat × Instr × Nat) := [(0, .iload_n 0, 1), (1, .iload_n 1, 1), (2, .getstatic 1053, 3), (5, .invokestatic 1059, 3), (8, .pop, 1), (9, .return_, 1)]
theorem DJ0_checkIndex_df160 : ∀ q ∈ TJ0_checkIndex_df160, decode cJ0_checkIndex_df160 q.1 = .ok q.2 := by decide +kernel
def TJ1_charAt_3b067 : List (Nat × Instr × Nat) := [(0, .iload_n 1, 1), (1, .aload_n 0, 1), (2, .arraylength, 1), (3, .invokestatic 9, 3), (6, .aload_n 0, 1), (7, .iload_n 1, 1), (8, .baload, 1), (9, .sipush 255, 3), (12, .iand, 1), (13, .i2c, 1), (14, .ireturn, 1)]
theorem DJ1_charAt_3b067 : ∀ q ∈ TJ1_charAt_3b067, decode cJ1_charAt_3b067 q.1 = .ok q.2 := by decide +kernel
def TJ2_getChar_3b067 : List (Nat × Instr × Nat) := [(0, .getstatic 44, 3), (3, .ifCond .ne 25, 3), (6, .iload_n 1, 1), (7, .ifCond .lt 11, 3), (10, .iload_n 1, 1), (11, .aload_n 0, 1), (12, .invokestatic 48, 3), (15, .if_icmp .lt 13, 3), (18, .new 52, 3), (21, .dup, 1), (22, .ldc 54, 2), (24, .invokespecial 56, 3), (27, .athrow, 1), (28, .iload_n 1, 1), (29, .iconst 1, 1), (30, .ishl, 1), (31, .istore_n 1, 1), (32, .aload_n 0, 1), (33, .iload_n 1, 1), (34, .iinc 1 1, 3), (37, .baload, 1), (38, .sipush 255, 3), (41, .iand, 1), (42, .getstatic 59, 3), (45, .ishl, 1), (46, .aload_n 0, 1), (47, .iload_n 1, 1), (48, .baload, 1), (49, .sipush 255, 3), (52, .iand, 1), (53, .getstatic 63, 3), (56, .ishl, 1), (57, .ior, 1), (58, .i2c, 1), (59, .ireturn, 1)]
theorem DJ2_getChar_3b067 : ∀ q ∈ TJ2_getChar_3b067, decode cJ2_getChar_3b067 q.1 = .ok q.2 := dec_cut 24 (by decide +kernel) (dec_sf cJ2_getChar_3b067 45 _ (by decide +kernel))
def TJ2_length_9d52b : List (Nat × Instr × Nat) := [(0, .aload_n 0, 1), (1, .arraylength, 1), (2, .iconst 1, 1), (3, .ishr, 1), (4, .ireturn, 1)]
theorem DJ2_length_9d52b : ∀ q ∈ TJ2_length_9d52b, decode cJ2_length_9d52b q.1 = .ok q.2 := by decide +kernel
def TJ2_charAt_3b067 : List (Nat × Instr × Nat) := [(0, .iload_n 1, 1), (1, .aload_n 0, 1), (2, .invokestatic 67, 3), (5, .aload_n 0, 1), (6, .iload_n 1, 1), (7, .invokestatic 71, 3), (10, .ireturn, 1)]
theorem DJ2_charAt_3b067 : ∀ q ∈ TJ2_charAt_3b067, decode cJ2_charAt_3b067 q.1 = .ok q.2 := by decide +kernel
def TJ2_checkIndex_2214a : List (Nat × Instr × Nat) := [(0, .iload_n 0, 1), (1, .aload_n 1, 1), (2, .invokestatic 48, 3), (5, .invokestatic 414, 3), (8, .return_, 1)]
theorem DJ2_checkIndex_2214a : ∀ q ∈ TJ2_checkIndex_2214a, decode cJ2_checkIndex_2214a q.1 = .ok q.2 := by decide +kernel
def TJ3_checkIndex_8e157 : List (Nat × Instr × Nat) := [(0, .iload_n 0, 1), (1, .ifCond .lt 8, 3), (4, .iload_n 0, 1), (5, .iload_n 1, 1), (6, .if_icmp .lt 10, 3), (9, .aload_n 2, 1), (10, .iload_n 0, 1), (11, .iload_n 1, 1), (12, .invokestatic 95, 3), (15, .athrow, 1), (16, .iload_n 0, 1), (17, .ireturn, 1)]
theorem DJ3_checkIndex_8e157 : ∀ q ∈ TJ3_checkIndex_8e157, decode cJ3_checkIndex_8e157 q.1 = .ok q.2 := by decide +kernel
end
section
abbrev mX0_init : jM := (yX0_init, cX0_init, 1, none, [])
theorem oi_X0_1 : Cond.methodLink RX0 1 Lib.objectInit ∈ jall ∧ Cond.instanceMethod Lib.objectInit ∈ jall ∧ Cond.code Lib.objectInit ⟨#[0xb1]⟩ 1 none ∈ jall := ⟨(jw_2 7 rfl rfl), (jw_1 35 rfl rfl), (jw_1 36 rfl rfl)⟩
theorem cl_X0_9 : Cond.classLink RX0 9 "RodRings$Rod" ∈ jall := (jw_2 8 rfl rfl)
theorem fp_X0_11_0 : jFp RX0 11 0 0 true (.array (.object "RodRings$Rod")) := ⟨RX0, TX0, 3, tyX0, rfl, wsX00_tb, tyX0_ok, nmX0, by decide, (jw_2 10 rfl rfl), rfl, tyX0_ok 0 (by decide), fun _ => rfl⟩
abbrev mX0_remember : jM := (yX0_remember, cX0_remember, 2, none, [])
theorem fg_X0_11_0 : jFg RX0 11 0 0 := ⟨RX0, TX0, 3, _, rfl, wsX00_tb, by decide, (jw_2 10 rfl rfl), Or.inl rfl⟩
theorem fg_X0_15_0 : jFg RX0 15 0 1 := ⟨RX0, TX0, 3, _, rfl, wsX00_tb, by decide, (jw_2 11 rfl rfl), Or.inl rfl⟩
theorem fn_X0_9 : jFn RX0 9 6 18 [.null, .null, .null, .null, .null, .int 0, .int 0, .int 0, .int 0, .int 0, .int 0, .int 0, .int 0, .int 0, .int 0, .int 0, .int 0, .int 0] := ⟨RX8, TX8, tyX8, rfl, wsX80_tb, tyX8_ok, (jw_2 8 rfl rfl), (jw_1 70 rfl rfl), (jw_1 3 rfl rfl), by decide⟩
abbrev mX8_init : jM := (yX8_init, cX8_init, 1, none, [])
theorem sy_X8_init : jSY mX8_init 0 := ⟨(jw_1 73 rfl rfl), (jw_1 3 rfl rfl), by decide +kernel, by decide⟩
theorem cin_X0_19_X8_init : jSiN RX0 19 mX8_init 0 := ⟨(jn_5 72 rfl rfl), (jw_1 72 rfl rfl), rfl, sy_X8_init⟩
abbrev mX8_copyFrom : jM := (yX8_copyFrom, cX8_copyFrom, 2, none, [])
theorem sy_X8_copyFrom : jSY mX8_copyFrom 1 := ⟨(jw_2 201 rfl rfl), (jw_1 3 rfl rfl), by decide +kernel, by decide⟩
theorem cv_X0_20_X8_copyFrom : jSv RX0 20 mX8_copyFrom 1 := ⟨(jw_3 172 rfl rfl), (jw_2 199 rfl rfl), (jw_2 200 rfl rfl), sy_X8_copyFrom⟩
theorem fp_X0_15_0 : jFp RX0 15 0 1 false .int := ⟨RX0, TX0, 3, tyX0, rfl, wsX00_tb, tyX0_ok, nmX0, by decide, (jw_2 11 rfl rfl), rfl, tyX0_ok 1 (by decide), fun q => by cases q⟩
theorem fg_X0_24_0 : jFg RX0 24 0 2 := ⟨RX0, TX0, 3, _, rfl, wsX00_tb, by decide, (jw_2 12 rfl rfl), Or.inl rfl⟩
theorem mm_X0_27 : Cond.methodLink RX0 27 Lib.Math.min.name ∈ jall ∧ Cond.static Lib.Math.min.name ∈ jall ∧ Cond.initialized "java/lang/Math" ∈ jall ∧ Cond.code Lib.Math.min.name Lib.Math.min.code 2 (some .int) ∈ jall := ⟨(jw_5 73 rfl rfl), (jw_2 233 rfl rfl), (jw_1 18 rfl rfl), (jw_2 234 rfl rfl)⟩
theorem fp_X0_24_0 : jFp RX0 24 0 2 false .int := ⟨RX0, TX0, 3, tyX0, rfl, wsX00_tb, tyX0_ok, nmX0, by decide, (jw_2 12 rfl rfl), rfl, tyX0_ok 2 (by decide), fun q => by cases q⟩
abbrev mX0_takeBack : jM := (yX0_takeBack, cX0_takeBack, 3, (some .boolean), [])
abbrev mX0_forget : jM := (yX0_forget, cX0_forget, 1, none, [])
abbrev mX1_init : jM := (yX1_init, cX1_init, 3, none, [])
theorem oi_X1_3 : Cond.methodLink RX1 3 Lib.objectInit ∈ jall ∧ Cond.instanceMethod Lib.objectInit ∈ jall ∧ Cond.code Lib.objectInit ⟨#[0xb1]⟩ 1 none ∈ jall := ⟨(jw_2 61 rfl rfl), (jw_1 35 rfl rfl), (jw_1 36 rfl rfl)⟩
theorem fp_X1_9_1 : jFp RX1 9 1 0 true (.object "RodRings$Law") := ⟨RX1, TX1, 2, tyX1, rfl, wsX10_tb, tyX1_ok, nmX1, by decide, (jw_2 62 rfl rfl), rfl, tyX1_ok 0 (by decide), fun _ => rfl⟩
theorem fp_X1_15_1 : jFp RX1 15 1 1 true (.object "RodRings$Rod") := ⟨RX1, TX1, 2, tyX1, rfl, wsX10_tb, tyX1_ok, nmX1, by decide, (jw_2 63 rfl rfl), rfl, tyX1_ok 1 (by decide), fun _ => rfl⟩
abbrev mX1_run : jM := (yX1_run, cX1_run, 5, (some .int), [])
abbrev mX1_fadeAll : jM := (yX1_fadeAll, cX1_fadeAll, 3, none, [])
theorem sy_X1_fadeAll : jSY mX1_fadeAll 1 := ⟨(jw_3 77 rfl rfl), (jw_1 10 rfl rfl), by decide +kernel, by decide⟩
theorem cv_X1_19_X1_fadeAll : jSv RX1 19 mX1_fadeAll 1 := ⟨(jw_3 74 rfl rfl), (jw_3 76 rfl rfl), (js_1 3 rfl), sy_X1_fadeAll⟩
abbrev mX1_catchSome : jM := (yX1_catchSome, cX1_catchSome, 4, (some .int), [])
theorem sy_X1_catchSome : jSY mX1_catchSome 1 := ⟨(jw_5 166 rfl rfl), (jw_1 10 rfl rfl), by decide +kernel, by decide⟩
theorem cv_X1_23_X1_catchSome : jSv RX1 23 mX1_catchSome 1 := ⟨(jw_5 163 rfl rfl), (jw_5 165 rfl rfl), (js_2 8 rfl), sy_X1_catchSome⟩
abbrev mX1_dropSome : jM := (yX1_dropSome, cX1_dropSome, 4, (some .int), [])
theorem sy_X1_dropSome : jSY mX1_dropSome 1 := ⟨(jw_5 178 rfl rfl), (jw_1 10 rfl rfl), by decide +kernel, by decide⟩
theorem cv_X1_27_X1_dropSome : jSv RX1 27 mX1_dropSome 1 := ⟨(jw_5 175 rfl rfl), (jw_5 177 rfl rfl), (js_2 9 rfl), sy_X1_dropSome⟩
abbrev mX1_turn : jM := (yX1_turn, cX1_turn, 1, none, [])
theorem sy_X1_turn : jSY mX1_turn 1 := ⟨(jw_3 112 rfl rfl), (jw_1 10 rfl rfl), by decide +kernel, by decide⟩
theorem cs_X1_30_X1_turn : jSs RX1 30 mX1_turn 1 := ⟨(jw_3 110 rfl rfl), (jw_3 111 rfl rfl), sy_X1_turn⟩
abbrev mX1_tryHours : jM := (yX1_tryHours, cX1_tryHours, 4, none, [])
theorem fg_X1_15_1 : jFg RX1 15 1 1 := ⟨RX1, TX1, 2, _, rfl, wsX10_tb, by decide, (jw_2 63 rfl rfl), Or.inl rfl⟩
theorem cv_X1_33_X8_copyFrom : jSv RX1 33 mX8_copyFrom 1 := ⟨(jw_3 70 rfl rfl), (jw_2 199 rfl rfl), (jw_2 200 rfl rfl), sy_X8_copyFrom⟩
theorem fp_X1_38_6 : jFp RX1 38 6 16 false .int := ⟨RX8, TX8, 18, tyX8, rfl, wsX80_tb, tyX8_ok, nmX8, by decide, (jw_1 165 rfl rfl), rfl, tyX8_ok 16 (by decide), fun q => by cases q⟩
theorem sy_X1_run : jSY mX1_run 2 := ⟨(jw_5 162 rfl rfl), (jw_1 10 rfl rfl), by decide +kernel, by decide⟩
theorem cv_X1_42_X1_run : jSv RX1 42 mX1_run 2 := ⟨(jw_6 107 rfl rfl), (jw_5 160 rfl rfl), (jw_5 161 rfl rfl), sy_X1_run⟩
abbrev mX1_goAhead : jM := (yX1_goAhead, cX1_goAhead, 4, none, [])
abbrev mX1_firstPale : jM := (yX1_firstPale, cX1_firstPale, 3, (some .int), [])
abbrev mX1_isSomePale : jM := (yX1_isSomePale, cX1_isSomePale, 2, (some .boolean), [])
theorem sy_X1_isSomePale : jSY mX1_isSomePale 1 := ⟨(jw_3 73 rfl rfl), (jw_1 10 rfl rfl), by decide +kernel, by decide⟩
theorem cs_X1_46_X1_isSomePale : jSs RX1 46 mX1_isSomePale 1 := ⟨(jw_3 71 rfl rfl), (jw_3 72 rfl rfl), sy_X1_isSomePale⟩
abbrev mX1_oddsToStay : jM := (yX1_oddsToStay, cX1_oddsToStay, 7, (some .int), [])
theorem fg_X1_9_1 : jFg RX1 9 1 0 := ⟨RX1, TX1, 2, _, rfl, wsX10_tb, by decide, (jw_2 62 rfl rfl), Or.inl rfl⟩
abbrev mX2_amount : jM := (yX2_amount, cX2_amount, 6, (some .int), [])
theorem sy_X2_amount : jSY mX2_amount 3 := ⟨(jw_3 81 rfl rfl), (jw_1 5 rfl rfl), by decide +kernel, by decide⟩
theorem cv_X1_50_X2_amount : jSv RX1 50 mX2_amount 3 := ⟨(jw_3 78 rfl rfl), (jw_3 79 rfl rfl), (jw_3 80 rfl rfl), sy_X2_amount⟩
theorem mm_X1_56 : Cond.methodLink RX1 56 Lib.Math.min.name ∈ jall ∧ Cond.static Lib.Math.min.name ∈ jall ∧ Cond.initialized "java/lang/Math" ∈ jall ∧ Cond.code Lib.Math.min.name Lib.Math.min.code 2 (some .int) ∈ jall := ⟨(jw_3 109 rfl rfl), (jw_2 233 rfl rfl), (jw_1 18 rfl rfl), (jw_2 234 rfl rfl)⟩
theorem fg_X1_62_6 : jFg RX1 62 6 5 := ⟨RX8, TX8, 18, _, rfl, wsX80_tb, by decide, (jw_1 118 rfl rfl), Or.inl rfl⟩
theorem fg_X1_65_6 : jFg RX1 65 6 2 := ⟨RX8, TX8, 18, _, rfl, wsX80_tb, by decide, (jw_1 103 rfl rfl), Or.inl rfl⟩
abbrev mX8_gap : jM := (yX8_gap, cX8_gap, 3, (some .int), [])
theorem sy_X8_gap : jSY mX8_gap 2 := ⟨(jw_3 37 rfl rfl), (jw_1 3 rfl rfl), by decide +kernel, by decide⟩
theorem cv_X1_69_X8_gap : jSv RX1 69 mX8_gap 2 := ⟨(jw_5 167 rfl rfl), (jw_3 35 rfl rfl), (jw_3 36 rfl rfl), sy_X8_gap⟩
theorem fg_X1_72_6 : jFg RX1 72 6 9 := ⟨RX8, TX8, 18, _, rfl, wsX80_tb, by decide, (jw_1 138 rfl rfl), Or.inl rfl⟩
abbrev mX11_bit : jM := (yX11_bit, cX11_bit, 2, (some .int), [])
theorem sy_X11_bit : jSY mX11_bit 2 := ⟨(jw_2 170 rfl rfl), (jw_1 1 rfl rfl), by decide +kernel, by decide⟩
theorem csn_X1_75_X11_bit : jSsN RX1 75 mX11_bit 2 := ⟨(jn_5 168 rfl rfl), (jw_2 169 rfl rfl), sy_X11_bit⟩
abbrev mX1_draw : jM := (yX1_draw, cX1_draw, 1, (some .int), [])
theorem sy_X1_draw : jSY mX1_draw 1 := ⟨(jw_5 171 rfl rfl), (jw_1 10 rfl rfl), by decide +kernel, by decide⟩
theorem cs_X1_78_X1_draw : jSs RX1 78 mX1_draw 1 := ⟨(jw_5 169 rfl rfl), (jw_5 170 rfl rfl), sy_X1_draw⟩
abbrev mX11_withBit : jM := (yX11_withBit, cX11_withBit, 3, (some .int), [])
theorem sy_X11_withBit : jSY mX11_withBit 3 := ⟨(jw_3 47 rfl rfl), (jw_1 1 rfl rfl), by decide +kernel, by decide⟩
theorem csn_X1_81_X11_withBit : jSsN RX1 81 mX11_withBit 3 := ⟨(jn_5 173 rfl rfl), (jw_3 46 rfl rfl), sy_X11_withBit⟩
theorem fp_X1_72_6 : jFp RX1 72 6 9 false .int := ⟨RX8, TX8, 18, tyX8, rfl, wsX80_tb, tyX8_ok, nmX8, by decide, (jw_1 138 rfl rfl), rfl, tyX8_ok 9 (by decide), fun q => by cases q⟩
theorem fg_X1_85_6 : jFg RX1 85 6 4 := ⟨RX8, TX8, 18, _, rfl, wsX80_tb, by decide, (jw_1 113 rfl rfl), Or.inl rfl⟩
abbrev mX5_add : jM := (yX5_add, cX5_add, 5, none, [])
theorem sy_X5_add : jSY mX5_add 4 := ⟨(jw_5 78 rfl rfl), (jw_1 4 rfl rfl), by decide +kernel, by decide⟩
theorem cv_X1_89_X5_add : jSv RX1 89 mX5_add 4 := ⟨(jw_5 174 rfl rfl), (jw_5 76 rfl rfl), (jw_5 77 rfl rfl), sy_X5_add⟩
theorem fg_X1_95_6 : jFg RX1 95 6 8 := ⟨RX8, TX8, 18, _, rfl, wsX80_tb, by decide, (jw_1 132 rfl rfl), Or.inl rfl⟩
theorem fp_X1_95_6 : jFp RX1 95 6 8 false .int := ⟨RX8, TX8, 18, tyX8, rfl, wsX80_tb, tyX8_ok, nmX8, by decide, (jw_1 132 rfl rfl), rfl, tyX8_ok 8 (by decide), fun q => by cases q⟩
theorem kc_X1_98 : Cond.constant RX1 98 (1103515245 : Int32) ∈ jall := (jw_5 172 rfl rfl)
theorem fg_X1_38_6 : jFg RX1 38 6 16 := ⟨RX8, TX8, 18, _, rfl, wsX80_tb, by decide, (jw_1 165 rfl rfl), Or.inl rfl⟩
theorem fg_X1_99_6 : jFg RX1 99 6 13 := ⟨RX8, TX8, 18, _, rfl, wsX80_tb, by decide, (jw_1 154 rfl rfl), Or.inl rfl⟩
theorem fp_X1_99_6 : jFp RX1 99 6 13 false .int := ⟨RX8, TX8, 18, tyX8, rfl, wsX80_tb, tyX8_ok, nmX8, by decide, (jw_1 154 rfl rfl), rfl, tyX8_ok 13 (by decide), fun q => by cases q⟩
theorem fg_X1_102_6 : jFg RX1 102 6 14 := ⟨RX8, TX8, 18, _, rfl, wsX80_tb, by decide, (jw_1 159 rfl rfl), Or.inl rfl⟩
theorem fp_X1_102_6 : jFp RX1 102 6 14 false .int := ⟨RX8, TX8, 18, tyX8, rfl, wsX80_tb, tyX8_ok, nmX8, by decide, (jw_1 159 rfl rfl), rfl, tyX8_ok 14 (by decide), fun q => by cases q⟩
abbrev mX2_init : jM := (yX2_init, cX2_init, 1, none, [])
theorem oi_X2_3 : Cond.methodLink RX2 3 Lib.objectInit ∈ jall ∧ Cond.instanceMethod Lib.objectInit ∈ jall ∧ Cond.code Lib.objectInit ⟨#[0xb1]⟩ 1 none ∈ jall := ⟨(jw_1 211 rfl rfl), (jw_1 35 rfl rfl), (jw_1 36 rfl rfl)⟩
theorem ac_int : Cond.arrayClass .int ∈ jall := (jw_1 68 rfl rfl)
theorem fp_X2_11_2 : jFp RX2 11 2 0 true (.array .int) := ⟨RX2, TX2, 9, tyX2, rfl, wsX20_tb, tyX2_ok, nmX2, by decide, (jw_1 212 rfl rfl), rfl, tyX2_ok 0 (by decide), fun _ => rfl⟩
theorem fp_X2_15_2 : jFp RX2 15 2 1 true (.array .int) := ⟨RX2, TX2, 9, tyX2, rfl, wsX20_tb, tyX2_ok, nmX2, by decide, (jw_1 213 rfl rfl), rfl, tyX2_ok 1 (by decide), fun _ => rfl⟩
theorem fp_X2_18_2 : jFp RX2 18 2 2 true (.array .int) := ⟨RX2, TX2, 9, tyX2, rfl, wsX20_tb, tyX2_ok, nmX2, by decide, (jw_1 214 rfl rfl), rfl, tyX2_ok 2 (by decide), fun _ => rfl⟩
theorem fp_X2_21_2 : jFp RX2 21 2 3 true (.array .int) := ⟨RX2, TX2, 9, tyX2, rfl, wsX20_tb, tyX2_ok, nmX2, by decide, (jw_1 215 rfl rfl), rfl, tyX2_ok 3 (by decide), fun _ => rfl⟩
theorem fp_X2_24_2 : jFp RX2 24 2 4 true (.array .int) := ⟨RX2, TX2, 9, tyX2, rfl, wsX20_tb, tyX2_ok, nmX2, by decide, (jw_1 216 rfl rfl), rfl, tyX2_ok 4 (by decide), fun _ => rfl⟩
abbrev mX2_begin : jM := (yX2_begin, cX2_begin, 1, none, [])
theorem fp_X2_27_2 : jFp RX2 27 2 7 false .boolean := ⟨RX2, TX2, 9, tyX2, rfl, wsX20_tb, tyX2_ok, nmX2, by decide, (jw_1 219 rfl rfl), rfl, tyX2_ok 7 (by decide), fun q => by cases q⟩
theorem fp_X2_31_2 : jFp RX2 31 2 8 false .int := ⟨RX2, TX2, 9, tyX2, rfl, wsX20_tb, tyX2_ok, nmX2, by decide, (jw_1 221 rfl rfl), rfl, tyX2_ok 8 (by decide), fun q => by cases q⟩
theorem fp_X2_35_2 : jFp RX2 35 2 6 false .int := ⟨RX2, TX2, 9, tyX2, rfl, wsX20_tb, tyX2_ok, nmX2, by decide, (jw_1 218 rfl rfl), rfl, tyX2_ok 6 (by decide), fun q => by cases q⟩
abbrev mX2_copyFrom : jM := (yX2_copyFrom, cX2_copyFrom, 2, none, [])
theorem fg_X2_11_2 : jFg RX2 11 2 0 := ⟨RX2, TX2, 9, _, rfl, wsX20_tb, by decide, (jw_1 212 rfl rfl), Or.inl rfl⟩
theorem cy_X2_38 : Cond.methodLink RX2 38 arraycopyName ∈ jall ∧ Cond.native arraycopyName ∈ jall ∧ Cond.static arraycopyName ∈ jall ∧ Cond.initialized "java/lang/System" ∈ jall := ⟨(jw_3 182 rfl rfl), (jw_2 204 rfl rfl), (jw_2 203 rfl rfl), (jw_1 13 rfl rfl)⟩
theorem fg_X2_15_2 : jFg RX2 15 2 1 := ⟨RX2, TX2, 9, _, rfl, wsX20_tb, by decide, (jw_1 213 rfl rfl), Or.inl rfl⟩
theorem fg_X2_18_2 : jFg RX2 18 2 2 := ⟨RX2, TX2, 9, _, rfl, wsX20_tb, by decide, (jw_1 214 rfl rfl), Or.inl rfl⟩
theorem fg_X2_21_2 : jFg RX2 21 2 3 := ⟨RX2, TX2, 9, _, rfl, wsX20_tb, by decide, (jw_1 215 rfl rfl), Or.inl rfl⟩
theorem fg_X2_35_2 : jFg RX2 35 2 6 := ⟨RX2, TX2, 9, _, rfl, wsX20_tb, by decide, (jw_1 218 rfl rfl), Or.inl rfl⟩
theorem fg_X2_27_2 : jFg RX2 27 2 7 := ⟨RX2, TX2, 9, _, rfl, wsX20_tb, by decide, (jw_1 219 rfl rfl), Or.inl rfl⟩
theorem fg_X2_31_2 : jFg RX2 31 2 8 := ⟨RX2, TX2, 9, _, rfl, wsX20_tb, by decide, (jw_1 221 rfl rfl), Or.inl rfl⟩
abbrev mX2_addLine : jM := (yX2_addLine, cX2_addLine, 3, none, [])
abbrev mX2_addCode : jM := (yX2_addCode, cX2_addCode, 2, none, [])
abbrev mX2_holds : jM := (yX2_holds, cX2_holds, 7, (some .boolean), [])
theorem sy_X2_holds : jSY mX2_holds 3 := ⟨(jw_3 89 rfl rfl), (jw_1 5 rfl rfl), by decide +kernel, by decide⟩
theorem cv_X2_48_X2_holds : jSv RX2 48 mX2_holds 3 := ⟨(jw_3 86 rfl rfl), (jw_3 88 rfl rfl), (js_1 4 rfl), sy_X2_holds⟩
abbrev mX2_untoldAmount : jM := (yX2_untoldAmount, cX2_untoldAmount, 3, (some .int), [])
theorem sy_X2_untoldAmount : jSY mX2_untoldAmount 3 := ⟨(jw_3 84 rfl rfl), (jw_1 5 rfl rfl), by decide +kernel, by decide⟩
theorem cs_X2_44_X2_untoldAmount : jSs RX2 44 mX2_untoldAmount 3 := ⟨(jw_3 82 rfl rfl), (jw_3 83 rfl rfl), sy_X2_untoldAmount⟩
theorem fg_X2_52_6 : jFg RX2 52 6 13 := ⟨RX8, TX8, 18, _, rfl, wsX80_tb, by decide, (jw_1 153 rfl rfl), Or.inl rfl⟩
abbrev mX8_isLit : jM := (yX8_isLit, cX8_isLit, 3, (some .boolean), [])
theorem sy_X8_isLit : jSY mX8_isLit 2 := ⟨(jw_3 61 rfl rfl), (jw_1 3 rfl rfl), by decide +kernel, by decide⟩
theorem cv_X2_57_X8_isLit : jSv RX2 57 mX8_isLit 2 := ⟨(jw_3 85 rfl rfl), (jw_3 59 rfl rfl), (jw_3 60 rfl rfl), sy_X8_isLit⟩
theorem fp_X2_61_2 : jFp RX2 61 2 5 false .int := ⟨RX2, TX2, 9, tyX2, rfl, wsX20_tb, tyX2_ok, nmX2, by decide, (jw_1 217 rfl rfl), rfl, tyX2_ok 5 (by decide), fun q => by cases q⟩
theorem fg_X2_61_2 : jFg RX2 61 2 5 := ⟨RX2, TX2, 9, _, rfl, wsX20_tb, by decide, (jw_1 217 rfl rfl), Or.inl rfl⟩
abbrev mX2_pop : jM := (yX2_pop, cX2_pop, 1, (some .int), [])
theorem sy_X2_pop : jSY mX2_pop 0 := ⟨(jw_3 105 rfl rfl), (jw_1 5 rfl rfl), by decide +kernel, by decide⟩
theorem cv_X2_77_X2_pop : jSv RX2 77 mX2_pop 0 := ⟨(jw_3 102 rfl rfl), (jw_3 104 rfl rfl), (js_1 6 rfl), sy_X2_pop⟩
abbrev mX2_isValue : jM := (yX2_isValue, cX2_isValue, 1, (some .boolean), [])
theorem sy_X2_isValue : jSY mX2_isValue 1 := ⟨(jw_3 92 rfl rfl), (jw_1 5 rfl rfl), by decide +kernel, by decide⟩
theorem cs_X2_64_X2_isValue : jSs RX2 64 mX2_isValue 1 := ⟨(jw_3 90 rfl rfl), (jw_3 91 rfl rfl), sy_X2_isValue⟩
abbrev mX2_joined : jM := (yX2_joined, cX2_joined, 3, (some .int), [])
theorem sy_X2_joined : jSY mX2_joined 3 := ⟨(jw_3 108 rfl rfl), (jw_1 5 rfl rfl), by decide +kernel, by decide⟩
theorem cs_X2_81_X2_joined : jSs RX2 81 mX2_joined 3 := ⟨(jw_3 106 rfl rfl), (jw_3 107 rfl rfl), sy_X2_joined⟩
abbrev mX2_push : jM := (yX2_push, cX2_push, 2, none, [])
theorem sy_X2_push : jSY mX2_push 1 := ⟨(jw_3 101 rfl rfl), (jw_1 5 rfl rfl), by decide +kernel, by decide⟩
theorem cv_X2_71_X2_push : jSv RX2 71 mX2_push 1 := ⟨(jw_3 98 rfl rfl), (jw_3 100 rfl rfl), (js_1 5 rfl), sy_X2_push⟩
abbrev mX2_value : jM := (yX2_value, cX2_value, 3, (some .int), [])
theorem sy_X2_value : jSY mX2_value 3 := ⟨(jw_3 95 rfl rfl), (jw_1 5 rfl rfl), by decide +kernel, by decide⟩
theorem cs_X2_68_X2_value : jSs RX2 68 mX2_value 3 := ⟨(jw_3 93 rfl rfl), (jw_3 94 rfl rfl), sy_X2_value⟩
theorem fg_X2_24_2 : jFg RX2 24 2 4 := ⟨RX2, TX2, 9, _, rfl, wsX20_tb, by decide, (jw_1 216 rfl rfl), Or.inl rfl⟩
theorem fg_X2_85_6 : jFg RX2 85 6 0 := ⟨RX8, TX8, 18, _, rfl, wsX80_tb, by decide, (jw_1 96 rfl rfl), Or.inl rfl⟩
theorem cv_X2_88_X8_gap : jSv RX2 88 mX8_gap 2 := ⟨(jw_3 96 rfl rfl), (jw_3 35 rfl rfl), (jw_3 36 rfl rfl), sy_X8_gap⟩
theorem fg_X2_92_6 : jFg RX2 92 6 2 := ⟨RX8, TX8, 18, _, rfl, wsX80_tb, by decide, (jw_1 105 rfl rfl), Or.inl rfl⟩
theorem fg_X2_95_6 : jFg RX2 95 6 3 := ⟨RX8, TX8, 18, _, rfl, wsX80_tb, by decide, (jw_1 110 rfl rfl), Or.inl rfl⟩
theorem fg_X2_98_6 : jFg RX2 98 6 14 := ⟨RX8, TX8, 18, _, rfl, wsX80_tb, by decide, (jw_1 160 rfl rfl), Or.inl rfl⟩
theorem fg_X2_101_6 : jFg RX2 101 6 7 := ⟨RX8, TX8, 18, _, rfl, wsX80_tb, by decide, (jw_1 128 rfl rfl), Or.inl rfl⟩
theorem csn_X2_104_X11_bit : jSsN RX2 104 mX11_bit 2 := ⟨(jn_3 97 rfl rfl), (jw_2 169 rfl rfl), sy_X11_bit⟩
theorem fg_X2_107_6 : jFg RX2 107 6 6 := ⟨RX8, TX8, 18, _, rfl, wsX80_tb, by decide, (jw_1 123 rfl rfl), Or.inl rfl⟩
theorem fg_X2_110_6 : jFg RX2 110 6 8 := ⟨RX8, TX8, 18, _, rfl, wsX80_tb, by decide, (jw_1 133 rfl rfl), Or.inl rfl⟩
abbrev mX3_init : jM := (yX3_init, cX3_init, 3, none, [])
abbrev mX4_init : jM := (yX4_init, cX4_init, 3, none, [])
theorem sy_X4_init : jSY mX4_init 2 := ⟨(jw_2 28 rfl rfl), (jw_1 7 rfl rfl), by decide +kernel, by decide⟩
theorem ci_X3_5_X4_init : jSi RX3 5 mX4_init 2 := ⟨(jw_2 49 rfl rfl), (jw_2 27 rfl rfl), rfl, sy_X4_init⟩
theorem fp_X3_11_3 : jFp RX3 11 3 2 true (.object "RodRings$Law") := ⟨RX3, TX3, 3, tyX3, rfl, wsX30_tb, tyX3_ok, nmX3, by decide, (jw_2 50 rfl rfl), rfl, tyX3_ok 2 (by decide), fun _ => rfl⟩
abbrev mX3_readLine : jM := (yX3_readLine, cX3_readLine, 3, (some .boolean), [])
theorem fg_X3_17_3 : jFg RX3 17 3 0 := ⟨RX3, TX3, 3, _, rfl, wsX30_tb, by decide, (jw_2 32 rfl rfl), Or.inr (jw_2 33 rfl rfl)⟩
abbrev mX10_kind : jM := (yX10_kind, cX10_kind, 1, (some .int), [])
theorem sy_X10_kind : jSY mX10_kind 0 := ⟨(jw_4 50 rfl rfl), (jw_1 2 rfl rfl), by decide +kernel, by decide⟩
theorem cv_X3_21_X10_kind : jSv RX3 21 mX10_kind 0 := ⟨(jw_4 57 rfl rfl), (jw_4 48 rfl rfl), (jw_4 49 rfl rfl), sy_X10_kind⟩
abbrev mX10_skip : jM := (yX10_skip, cX10_skip, 1, none, [])
theorem sy_X10_skip : jSY mX10_skip 0 := ⟨(jw_4 61 rfl rfl), (jw_1 2 rfl rfl), by decide +kernel, by decide⟩
theorem cv_X3_27_X10_skip : jSv RX3 27 mX10_skip 0 := ⟨(jw_4 58 rfl rfl), (jw_4 59 rfl rfl), (jw_4 60 rfl rfl), sy_X10_skip⟩
abbrev mX10_takeNumber : jM := (yX10_takeNumber, cX10_takeNumber, 3, (some .int), [])
theorem sy_X10_takeNumber : jSY mX10_takeNumber 2 := ⟨(jw_4 65 rfl rfl), (jw_1 2 rfl rfl), by decide +kernel, by decide⟩
theorem cv_X3_31_X10_takeNumber : jSv RX3 31 mX10_takeNumber 2 := ⟨(jw_4 62 rfl rfl), (jw_4 63 rfl rfl), (jw_4 64 rfl rfl), sy_X10_takeNumber⟩
theorem fg_X3_11_3 : jFg RX3 11 3 2 := ⟨RX3, TX3, 3, _, rfl, wsX30_tb, by decide, (jw_2 50 rfl rfl), Or.inl rfl⟩
theorem sy_X2_addLine : jSY mX2_addLine 2 := ⟨(jw_4 69 rfl rfl), (jw_1 5 rfl rfl), by decide +kernel, by decide⟩
theorem cv_X3_35_X2_addLine : jSv RX3 35 mX2_addLine 2 := ⟨(jw_4 66 rfl rfl), (jw_4 67 rfl rfl), (jw_4 68 rfl rfl), sy_X2_addLine⟩
abbrev mX10_take : jM := (yX10_take, cX10_take, 2, (some .boolean), [])
theorem sy_X10_take : jSY mX10_take 1 := ⟨(jw_4 73 rfl rfl), (jw_1 2 rfl rfl), by decide +kernel, by decide⟩
theorem cv_X3_39_X10_take : jSv RX3 39 mX10_take 1 := ⟨(jw_4 70 rfl rfl), (jw_4 71 rfl rfl), (jw_4 72 rfl rfl), sy_X10_take⟩
abbrev mX3_readCondition : jM := (yX3_readCondition, cX3_readCondition, 5, (some .boolean), [])
theorem sy_X3_readCondition : jSY mX3_readCondition 1 := ⟨(jw_4 77 rfl rfl), (jw_1 9 rfl rfl), by decide +kernel, by decide⟩
theorem cv_X3_43_X3_readCondition : jSv RX3 43 mX3_readCondition 1 := ⟨(jw_4 74 rfl rfl), (jw_4 76 rfl rfl), (js_1 12 rfl), sy_X3_readCondition⟩
abbrev mX3_readAtom : jM := (yX3_readAtom, cX3_readAtom, 4, (some .boolean), [])
theorem sy_X3_readAtom : jSY mX3_readAtom 1 := ⟨(jw_4 81 rfl rfl), (jw_1 9 rfl rfl), by decide +kernel, by decide⟩
theorem cv_X3_46_X3_readAtom : jSv RX3 46 mX3_readAtom 1 := ⟨(jw_4 78 rfl rfl), (jw_4 80 rfl rfl), (js_1 13 rfl), sy_X3_readAtom⟩
theorem sy_X2_addCode : jSY mX2_addCode 1 := ⟨(jw_4 85 rfl rfl), (jw_1 5 rfl rfl), by decide +kernel, by decide⟩
theorem cv_X3_49_X2_addCode : jSv RX3 49 mX2_addCode 1 := ⟨(jw_4 82 rfl rfl), (jw_4 83 rfl rfl), (jw_4 84 rfl rfl), sy_X2_addCode⟩
abbrev mX3_readComparison : jM := (yX3_readComparison, cX3_readComparison, 3, (some .boolean), [])
theorem sy_X3_readComparison : jSY mX3_readComparison 0 := ⟨(jw_4 89 rfl rfl), (jw_1 9 rfl rfl), by decide +kernel, by decide⟩
theorem cv_X3_53_X3_readComparison : jSv RX3 53 mX3_readComparison 0 := ⟨(jw_4 86 rfl rfl), (jw_4 88 rfl rfl), (js_1 14 rfl), sy_X3_readComparison⟩
abbrev mX3_readSum : jM := (yX3_readSum, cX3_readSum, 5, (some .boolean), [])
theorem sy_X3_readSum : jSY mX3_readSum 0 := ⟨(jw_4 93 rfl rfl), (jw_1 9 rfl rfl), by decide +kernel, by decide⟩
theorem cv_X3_57_X3_readSum : jSv RX3 57 mX3_readSum 0 := ⟨(jw_4 90 rfl rfl), (jw_4 92 rfl rfl), (js_1 15 rfl), sy_X3_readSum⟩
abbrev mX5_init : jM := (yX5_init, cX5_init, 1, none, [])
theorem oi_X5_3 : Cond.methodLink RX5 3 Lib.objectInit ∈ jall ∧ Cond.instanceMethod Lib.objectInit ∈ jall ∧ Cond.code Lib.objectInit ⟨#[0xb1]⟩ 1 none ∈ jall := ⟨(jw_1 80 rfl rfl), (jw_1 35 rfl rfl), (jw_1 36 rfl rfl)⟩
theorem fp_X5_11_4 : jFp RX5 11 4 0 true (.array .int) := ⟨RX5, TX5, 3, tyX5, rfl, wsX50_tb, tyX5_ok, nmX5, by decide, (jw_1 81 rfl rfl), rfl, tyX5_ok 0 (by decide), fun _ => rfl⟩
abbrev mX5_copyFrom : jM := (yX5_copyFrom, cX5_copyFrom, 2, none, [])
theorem fg_X5_11_4 : jFg RX5 11 4 0 := ⟨RX5, TX5, 3, _, rfl, wsX50_tb, by decide, (jw_1 81 rfl rfl), Or.inl rfl⟩
theorem cy_X5_15 : Cond.methodLink RX5 15 arraycopyName ∈ jall ∧ Cond.native arraycopyName ∈ jall ∧ Cond.static arraycopyName ∈ jall ∧ Cond.initialized "java/lang/System" ∈ jall := ⟨(jw_2 209 rfl rfl), (jw_2 204 rfl rfl), (jw_2 203 rfl rfl), (jw_1 13 rfl rfl)⟩
theorem fg_X5_21_4 : jFg RX5 21 4 1 := ⟨RX5, TX5, 3, _, rfl, wsX50_tb, by decide, (jw_1 82 rfl rfl), Or.inl rfl⟩
theorem fp_X5_21_4 : jFp RX5 21 4 1 false .int := ⟨RX5, TX5, 3, tyX5, rfl, wsX50_tb, tyX5_ok, nmX5, by decide, (jw_1 82 rfl rfl), rfl, tyX5_ok 1 (by decide), fun q => by cases q⟩
theorem fg_X5_25_4 : jFg RX5 25 4 2 := ⟨RX5, TX5, 3, _, rfl, wsX50_tb, by decide, (jw_1 84 rfl rfl), Or.inl rfl⟩
theorem fp_X5_25_4 : jFp RX5 25 4 2 false .int := ⟨RX5, TX5, 3, tyX5, rfl, wsX50_tb, tyX5_ok, nmX5, by decide, (jw_1 84 rfl rfl), rfl, tyX5_ok 2 (by decide), fun q => by cases q⟩
theorem fg_X5_28_6 : jFg RX5 28 6 14 := ⟨RX8, TX8, 18, _, rfl, wsX80_tb, by decide, (jw_1 157 rfl rfl), Or.inl rfl⟩
theorem st_X5_33 : Cond.fieldLink RX5 33 "RodRings$Log" "SHIFTS" "[I" ∈ jall := (jw_5 79 rfl rfl)
theorem fg_X5_36_6 : jFg RX5 36 6 13 := ⟨RX8, TX8, 18, _, rfl, wsX80_tb, by decide, (jw_1 151 rfl rfl), Or.inl rfl⟩
theorem fg_X5_39_6 : jFg RX5 39 6 0 := ⟨RX8, TX8, 18, _, rfl, wsX80_tb, by decide, (jw_1 94 rfl rfl), Or.inl rfl⟩
theorem mm_X5_42 : Cond.methodLink RX5 42 Lib.Math.min.name ∈ jall ∧ Cond.static Lib.Math.min.name ∈ jall ∧ Cond.initialized "java/lang/Math" ∈ jall ∧ Cond.code Lib.Math.min.name Lib.Math.min.code 2 (some .int) ∈ jall := ⟨(jw_5 81 rfl rfl), (jw_2 233 rfl rfl), (jw_1 18 rfl rfl), (jw_2 234 rfl rfl)⟩
abbrev mX5_read : jM := (yX5_read, cX5_read, 4, (some .int), [])
abbrev mJ9_floorMod_7cf53 : jM := (yJ9_floorMod_7cf53, cJ9_floorMod_7cf53, 3, (some .int), [])
theorem sy_J9_floorMod_7cf53 : jSY mJ9_floorMod_7cf53 2 := ⟨(jw_6 133 rfl rfl), (jw_1 18 rfl rfl), by decide +kernel, by decide⟩
theorem cs_X5_48_J9_floorMod_7cf53 : jSs RX5 48 mJ9_floorMod_7cf53 2 := ⟨(jw_6 131 rfl rfl), (jw_6 132 rfl rfl), sy_J9_floorMod_7cf53⟩
theorem st_X5_51 : Cond.fieldLink RX5 51 "RodRings$Log" "MASKS" "[I" ∈ jall := (jw_6 134 rfl rfl)
abbrev mX5_rowsOf : jM := (yX5_rowsOf, cX5_rowsOf, 4, (some .int), [])
theorem sy_X5_read : jSY mX5_read 2 := ⟨(jw_6 130 rfl rfl), (jw_1 4 rfl rfl), by decide +kernel, by decide⟩
theorem cv_X5_54_X5_read : jSv RX5 54 mX5_read 2 := ⟨(jw_6 127 rfl rfl), (jw_6 128 rfl rfl), (jw_6 129 rfl rfl), sy_X5_read⟩
abbrev mX5_latestPlace : jM := (yX5_latestPlace, cX5_latestPlace, 3, (some .int), [])
abbrev mX6_hangsBy : jM := (yX6_hangsBy, cX6_hangsBy, 6, (some .int), [])
theorem fg_X6_9_6 : jFg RX6 9 6 8 := ⟨RX8, TX8, 18, _, rfl, wsX80_tb, by decide, (jw_1 129 rfl rfl), Or.inl rfl⟩
theorem csn_X6_15_X11_bit : jSsN RX6 15 mX11_bit 2 := ⟨(jn_3 22 rfl rfl), (jw_2 169 rfl rfl), sy_X11_bit⟩
theorem fg_X6_19_6 : jFg RX6 19 6 5 := ⟨RX8, TX8, 18, _, rfl, wsX80_tb, by decide, (jw_1 116 rfl rfl), Or.inl rfl⟩
theorem fg_X6_22_6 : jFg RX6 22 6 0 := ⟨RX8, TX8, 18, _, rfl, wsX80_tb, by decide, (jw_1 93 rfl rfl), Or.inl rfl⟩
theorem mm_X6_26 : Cond.methodLink RX6 26 Lib.Math.abs.name ∈ jall ∧ Cond.static Lib.Math.abs.name ∈ jall ∧ Cond.initialized "java/lang/Math" ∈ jall ∧ Cond.code Lib.Math.abs.name Lib.Math.abs.code 1 (some .int) ∈ jall := ⟨(jw_3 120 rfl rfl), (jw_3 121 rfl rfl), (jw_1 18 rfl rfl), (jw_3 122 rfl rfl)⟩
abbrev mX6_share : jM := (yX6_share, cX6_share, 3, (some .int), [])
abbrev mX8_allFades : jM := (yX8_allFades, cX8_allFades, 3, (some .int), [])
theorem sy_X8_allFades : jSY mX8_allFades 0 := ⟨(jw_5 39 rfl rfl), (jw_1 3 rfl rfl), by decide +kernel, by decide⟩
theorem cv_X6_32_X8_allFades : jSv RX6 32 mX8_allFades 0 := ⟨(jw_5 36 rfl rfl), (jw_5 37 rfl rfl), (jw_5 38 rfl rfl), sy_X8_allFades⟩
theorem fg_X6_36_6 : jFg RX6 36 6 2 := ⟨RX8, TX8, 18, _, rfl, wsX80_tb, by decide, (jw_1 101 rfl rfl), Or.inl rfl⟩
abbrev mX6_outOfOrder : jM := (yX6_outOfOrder, cX6_outOfOrder, 3, (some .int), [])
abbrev mX6_isInOrder : jM := (yX6_isInOrder, cX6_isInOrder, 4, (some .boolean), [])
theorem sy_X6_isInOrder : jSY mX6_isInOrder 2 := ⟨(jw_3 21 rfl rfl), (jw_1 25 rfl rfl), by decide +kernel, by decide⟩
theorem cs_X6_39_X6_isInOrder : jSs RX6 39 mX6_isInOrder 2 := ⟨(jw_3 19 rfl rfl), (jw_3 20 rfl rfl), sy_X6_isInOrder⟩
abbrev mJ6_bitCount_0f7a4 : jM := (yJ6_bitCount_0f7a4, cJ6_bitCount_0f7a4, 1, (some .int), [])
theorem sy_J6_bitCount_0f7a4 : jSY mJ6_bitCount_0f7a4 1 := ⟨(jw_2 182 rfl rfl), (jw_1 27 rfl rfl), by decide +kernel, by decide⟩
theorem cs_X6_45_J6_bitCount_0f7a4 : jSs RX6 45 mJ6_bitCount_0f7a4 1 := ⟨(jw_3 23 rfl rfl), (jw_2 181 rfl rfl), sy_J6_bitCount_0f7a4⟩
theorem mm_X6_50 : Cond.methodLink RX6 50 Lib.Math.max.name ∈ jall ∧ Cond.static Lib.Math.max.name ∈ jall ∧ Cond.initialized "java/lang/Math" ∈ jall ∧ Cond.code Lib.Math.max.name Lib.Math.max.code 2 (some .int) ∈ jall := ⟨(jw_3 24 rfl rfl), (jw_3 25 rfl rfl), (jw_1 18 rfl rfl), (jw_3 26 rfl rfl)⟩
abbrev mX6_tightest : jM := (yX6_tightest, cX6_tightest, 6, (some .int), [])
abbrev mX6_spareCloth : jM := (yX6_spareCloth, cX6_spareCloth, 3, (some .int), [])
theorem fg_X6_53_6 : jFg RX6 53 6 1 := ⟨RX8, TX8, 18, _, rfl, wsX80_tb, by decide, (jw_1 98 rfl rfl), Or.inl rfl⟩
theorem cv_X6_56_X8_gap : jSv RX6 56 mX8_gap 2 := ⟨(jw_3 34 rfl rfl), (jw_3 35 rfl rfl), (jw_3 36 rfl rfl), sy_X8_gap⟩
abbrev mX6_tautRings : jM := (yX6_tautRings, cX6_tautRings, 3, (some .int), [])
theorem csn_X6_59_X11_withBit : jSsN RX6 59 mX11_withBit 3 := ⟨(jn_3 45 rfl rfl), (jw_3 46 rfl rfl), sy_X11_withBit⟩
abbrev mX6_litRings : jM := (yX6_litRings, cX6_litRings, 4, (some .int), [])
theorem cv_X6_63_X8_isLit : jSv RX6 63 mX8_isLit 2 := ⟨(jw_3 58 rfl rfl), (jw_3 59 rfl rfl), (jw_3 60 rfl rfl), sy_X8_isLit⟩
abbrev mX6_sunniest : jM := (yX6_sunniest, cX6_sunniest, 5, (some .int), [])
abbrev mX6_litHours : jM := (yX6_litHours, cX6_litHours, 4, (some .int), [])
theorem sy_X6_litHours : jSY mX6_litHours 2 := ⟨(jw_3 57 rfl rfl), (jw_1 25 rfl rfl), by decide +kernel, by decide⟩
theorem cs_X6_67_X6_litHours : jSs RX6 67 mX6_litHours 2 := ⟨(jw_3 55 rfl rfl), (jw_3 56 rfl rfl), sy_X6_litHours⟩
abbrev mX6_evenLength : jM := (yX6_evenLength, cX6_evenLength, 6, (some .int), [])
theorem fg_X6_71_6 : jFg RX6 71 6 3 := ⟨RX8, TX8, 18, _, rfl, wsX80_tb, by decide, (jw_1 109 rfl rfl), Or.inl rfl⟩
abbrev mX6_enviousPairs : jM := (yX6_enviousPairs, cX6_enviousPairs, 3, (some .int), [])
abbrev mX6_restingChoices : jM := (yX6_restingChoices, cX6_restingChoices, 5, (some .int), [])
abbrev mX6_gain : jM := (yX6_gain, cX6_gain, 3, (some .int), [])
theorem sy_X6_gain : jSY mX6_gain 3 := ⟨(jw_6 77 rfl rfl), (jw_1 25 rfl rfl), by decide +kernel, by decide⟩
theorem cs_X6_74_X6_gain : jSs RX6 74 mX6_gain 3 := ⟨(jw_6 75 rfl rfl), (jw_6 76 rfl rfl), sy_X6_gain⟩
theorem fg_X6_78_6 : jFg RX6 78 6 9 := ⟨RX8, TX8, 18, _, rfl, wsX80_tb, by decide, (jw_1 139 rfl rfl), Or.inl rfl⟩
abbrev mX6_largestBunch : jM := (yX6_largestBunch, cX6_largestBunch, 4, (some .int), [])
abbrev mX6_thickBeyondJoin : jM := (yX6_thickBeyondJoin, cX6_thickBeyondJoin, 3, (some .int), [])
theorem fg_X6_81_6 : jFg RX6 81 6 6 := ⟨RX8, TX8, 18, _, rfl, wsX80_tb, by decide, (jw_1 124 rfl rfl), Or.inl rfl⟩
theorem fg_X6_84_6 : jFg RX6 84 6 11 := ⟨RX8, TX8, 18, _, rfl, wsX80_tb, by decide, (jw_1 145 rfl rfl), Or.inl rfl⟩
abbrev mX6_likePairs : jM := (yX6_likePairs, cX6_likePairs, 4, (some .int), [])
abbrev mX7_init : jM := (yX7_init, cX7_init, 3, none, [])
theorem oi_X7_3 : Cond.methodLink RX7 3 Lib.objectInit ∈ jall ∧ Cond.instanceMethod Lib.objectInit ∈ jall ∧ Cond.code Lib.objectInit ⟨#[0xb1]⟩ 1 none ∈ jall := ⟨(jw_2 74 rfl rfl), (jw_1 35 rfl rfl), (jw_1 36 rfl rfl)⟩
theorem fp_X7_11_5 : jFp RX7 11 5 2 true (.array .int) := ⟨RX7, TX7, 7, tyX7, rfl, wsX70_tb, tyX7_ok, nmX7, by decide, (jw_2 77 rfl rfl), rfl, tyX7_ok 2 (by decide), fun _ => rfl⟩
theorem fp_X7_15_5 : jFp RX7 15 5 3 true (.array .int) := ⟨RX7, TX7, 7, tyX7, rfl, wsX70_tb, tyX7_ok, nmX7, by decide, (jw_2 78 rfl rfl), rfl, tyX7_ok 3 (by decide), fun _ => rfl⟩
theorem fp_X7_18_5 : jFp RX7 18 5 0 true (.object "RodRings$Tape") := ⟨RX7, TX7, 7, tyX7, rfl, wsX70_tb, tyX7_ok, nmX7, by decide, (jw_2 75 rfl rfl), rfl, tyX7_ok 0 (by decide), fun _ => rfl⟩
theorem fp_X7_22_5 : jFp RX7 22 5 1 true (.object "RodRings$Rod") := ⟨RX7, TX7, 7, tyX7, rfl, wsX70_tb, tyX7_ok, nmX7, by decide, (jw_2 76 rfl rfl), rfl, tyX7_ok 1 (by decide), fun _ => rfl⟩
abbrev mX7_shadiest : jM := (yX7_shadiest, cX7_shadiest, 7, (some .int), [])
theorem fg_X7_22_5 : jFg RX7 22 5 1 := ⟨RX7, TX7, 7, _, rfl, wsX70_tb, by decide, (jw_2 76 rfl rfl), Or.inl rfl⟩
theorem cv_X7_26_X8_copyFrom : jSv RX7 26 mX8_copyFrom 1 := ⟨(jw_2 198 rfl rfl), (jw_2 199 rfl rfl), (jw_2 200 rfl rfl), sy_X8_copyFrom⟩
abbrev mX8_shadedChairs : jM := (yX8_shadedChairs, cX8_shadedChairs, 1, (some .int), [])
theorem sy_X8_shadedChairs : jSY mX8_shadedChairs 0 := ⟨(jw_2 178 rfl rfl), (jw_1 3 rfl rfl), by decide +kernel, by decide⟩
theorem cv_X7_32_X8_shadedChairs : jSv RX7 32 mX8_shadedChairs 0 := ⟨(jw_2 214 rfl rfl), (jw_2 176 rfl rfl), (jw_2 177 rfl rfl), sy_X8_shadedChairs⟩
theorem fg_X7_36_6 : jFg RX7 36 6 5 := ⟨RX8, TX8, 18, _, rfl, wsX80_tb, by decide, (jw_1 114 rfl rfl), Or.inl rfl⟩
abbrev mX8_hangAs : jM := (yX8_hangAs, cX8_hangAs, 2, none, [])
theorem sy_X8_hangAs : jSY mX8_hangAs 1 := ⟨(jw_2 213 rfl rfl), (jw_1 3 rfl rfl), by decide +kernel, by decide⟩
theorem cv_X7_40_X8_hangAs : jSv RX7 40 mX8_hangAs 1 := ⟨(jw_2 215 rfl rfl), (jw_2 211 rfl rfl), (jw_2 212 rfl rfl), sy_X8_hangAs⟩
abbrev mX8_move : jM := (yX8_move, cX8_move, 7, (some .int), [])
theorem sy_X8_move : jSY mX8_move 3 := ⟨(jw_2 219 rfl rfl), (jw_1 3 rfl rfl), by decide +kernel, by decide⟩
theorem cv_X7_43_X8_move : jSv RX7 43 mX8_move 3 := ⟨(jw_2 216 rfl rfl), (jw_2 217 rfl rfl), (jw_2 218 rfl rfl), sy_X8_move⟩
abbrev mX7_seekShade : jM := (yX7_seekShade, cX7_seekShade, 5, none, [])
theorem fp_X7_47_5 : jFp RX7 47 5 6 false .int := ⟨RX7, TX7, 7, tyX7, rfl, wsX70_tb, tyX7_ok, nmX7, by decide, (jw_2 83 rfl rfl), rfl, tyX7_ok 6 (by decide), fun q => by cases q⟩
abbrev mX8_shadow : jM := (yX8_shadow, cX8_shadow, 3, (some .int), [])
theorem sy_X8_shadow : jSY mX8_shadow 0 := ⟨(jw_2 167 rfl rfl), (jw_1 3 rfl rfl), by decide +kernel, by decide⟩
theorem cv_X7_50_X8_shadow : jSv RX7 50 mX8_shadow 0 := ⟨(jw_3 3 rfl rfl), (jw_2 165 rfl rfl), (jw_2 166 rfl rfl), sy_X8_shadow⟩
theorem fp_X7_53_5 : jFp RX7 53 5 5 false .int := ⟨RX7, TX7, 7, tyX7, rfl, wsX70_tb, tyX7_ok, nmX7, by decide, (jw_2 81 rfl rfl), rfl, tyX7_ok 5 (by decide), fun q => by cases q⟩
theorem fg_X7_53_5 : jFg RX7 53 5 5 := ⟨RX7, TX7, 7, _, rfl, wsX70_tb, by decide, (jw_2 81 rfl rfl), Or.inl rfl⟩
abbrev mX7_stepsToShade : jM := (yX7_stepsToShade, cX7_stepsToShade, 5, (some .int), [])
theorem sy_X7_stepsToShade : jSY mX7_stepsToShade 3 := ⟨(jw_3 7 rfl rfl), (jw_1 11 rfl rfl), by decide +kernel, by decide⟩
theorem cv_X7_56_X7_stepsToShade : jSv RX7 56 mX7_stepsToShade 3 := ⟨(jw_3 4 rfl rfl), (jw_3 6 rfl rfl), (js_1 2 rfl), sy_X7_stepsToShade⟩
abbrev mX7_fewestFreed : jM := (yX7_fewestFreed, cX7_fewestFreed, 8, (some .int), [])
theorem fg_X7_66_6 : jFg RX7 66 6 9 := ⟨RX8, TX8, 18, _, rfl, wsX80_tb, by decide, (jw_1 135 rfl rfl), Or.inl rfl⟩
abbrev mX7_farWith : jM := (yX7_farWith, cX7_farWith, 6, (some .int), [])
theorem sy_X7_farWith : jSY mX7_farWith 5 := ⟨(jw_5 228 rfl rfl), (jw_1 11 rfl rfl), by decide +kernel, by decide⟩
theorem cv_X7_69_X7_farWith : jSv RX7 69 mX7_farWith 5 := ⟨(jw_5 225 rfl rfl), (jw_5 227 rfl rfl), (js_2 12 rfl), sy_X7_farWith⟩
theorem cs_X7_60_J6_bitCount_0f7a4 : jSs RX7 60 mJ6_bitCount_0f7a4 1 := ⟨(jw_6 21 rfl rfl), (jw_2 181 rfl rfl), sy_J6_bitCount_0f7a4⟩
theorem fp_X7_66_6 : jFp RX7 66 6 9 false .int := ⟨RX8, TX8, 18, tyX8, rfl, wsX80_tb, tyX8_ok, nmX8, by decide, (jw_1 135 rfl rfl), rfl, tyX8_ok 9 (by decide), fun q => by cases q⟩
abbrev mX7_areRows : jM := (yX7_areRows, cX7_areRows, 3, (some .boolean), [])
theorem fg_X7_18_5 : jFg RX7 18 5 0 := ⟨RX7, TX7, 7, _, rfl, wsX70_tb, by decide, (jw_2 75 rfl rfl), Or.inl rfl⟩
theorem fg_X7_73_8 : jFg RX7 73 8 6 := ⟨RX10, TX10, 7, _, rfl, wsX100_tb, by decide, (jw_1 51 rfl rfl), Or.inl rfl⟩
abbrev mX10_at : jM := (yX10_at, cX10_at, 2, (some .int), [])
theorem sy_X10_at : jSY mX10_at 1 := ⟨(jw_3 217 rfl rfl), (jw_1 2 rfl rfl), by decide +kernel, by decide⟩
theorem cv_X7_78_X10_at : jSv RX7 78 mX10_at 1 := ⟨(jw_5 216 rfl rfl), (jw_3 215 rfl rfl), (jw_3 216 rfl rfl), sy_X10_at⟩
abbrev mX7_seekSnags : jM := (yX7_seekSnags, cX7_seekSnags, 4, none, [])
theorem fp_X7_81_5 : jFp RX7 81 5 4 false .int := ⟨RX7, TX7, 7, tyX7, rfl, wsX70_tb, tyX7_ok, nmX7, by decide, (jw_2 79 rfl rfl), rfl, tyX7_ok 4 (by decide), fun q => by cases q⟩
theorem fg_X7_81_5 : jFg RX7 81 5 4 := ⟨RX7, TX7, 7, _, rfl, wsX70_tb, by decide, (jw_2 79 rfl rfl), Or.inl rfl⟩
abbrev mX7_isFitting : jM := (yX7_isFitting, cX7_isFitting, 5, (some .boolean), [])
theorem sy_X7_isFitting : jSY mX7_isFitting 2 := ⟨(jw_5 224 rfl rfl), (jw_1 11 rfl rfl), by decide +kernel, by decide⟩
theorem cv_X7_84_X7_isFitting : jSv RX7 84 mX7_isFitting 2 := ⟨(jw_5 221 rfl rfl), (jw_5 223 rfl rfl), (js_2 11 rfl), sy_X7_isFitting⟩
theorem fg_X7_11_5 : jFg RX7 11 5 2 := ⟨RX7, TX7, 7, _, rfl, wsX70_tb, by decide, (jw_2 77 rfl rfl), Or.inl rfl⟩
abbrev mX7_inAllFitting : jM := (yX7_inAllFitting, cX7_inAllFitting, 3, (some .int), [])
abbrev mX7_partingPull : jM := (yX7_partingPull, cX7_partingPull, 6, (some .int), [])
abbrev mX7_greatestPart : jM := (yX7_greatestPart, cX7_greatestPart, 6, (some .int), [])
theorem sy_X7_greatestPart : jSY mX7_greatestPart 2 := ⟨(jw_6 8 rfl rfl), (jw_1 11 rfl rfl), by decide +kernel, by decide⟩
theorem cv_X7_88_X7_greatestPart : jSv RX7 88 mX7_greatestPart 2 := ⟨(jw_6 5 rfl rfl), (jw_6 7 rfl rfl), (js_2 13 rfl), sy_X7_greatestPart⟩
theorem fg_X7_15_5 : jFg RX7 15 5 3 := ⟨RX7, TX7, 7, _, rfl, wsX70_tb, by decide, (jw_2 78 rfl rfl), Or.inl rfl⟩
theorem mm_X7_92 : Cond.methodLink RX7 92 Lib.Math.max.name ∈ jall ∧ Cond.static Lib.Math.max.name ∈ jall ∧ Cond.initialized "java/lang/Math" ∈ jall ∧ Cond.code Lib.Math.max.name Lib.Math.max.code 2 (some .int) ∈ jall := ⟨(jw_6 9 rfl rfl), (jw_3 25 rfl rfl), (jw_1 18 rfl rfl), (jw_3 26 rfl rfl)⟩
theorem oi_X8_3 : Cond.methodLink RX8 3 Lib.objectInit ∈ jall ∧ Cond.instanceMethod Lib.objectInit ∈ jall ∧ Cond.code Lib.objectInit ⟨#[0xb1]⟩ 1 none ∈ jall := ⟨(jw_1 74 rfl rfl), (jw_1 35 rfl rfl), (jw_1 36 rfl rfl)⟩
theorem fp_X8_9_6 : jFp RX8 9 6 0 true (.array .int) := ⟨RX8, TX8, 18, tyX8, rfl, wsX80_tb, tyX8_ok, nmX8, by decide, (jw_1 92 rfl rfl), rfl, tyX8_ok 0 (by decide), fun _ => rfl⟩
theorem fp_X8_15_6 : jFp RX8 15 6 1 true (.array .int) := ⟨RX8, TX8, 18, tyX8, rfl, wsX80_tb, tyX8_ok, nmX8, by decide, (jw_1 97 rfl rfl), rfl, tyX8_ok 1 (by decide), fun _ => rfl⟩
theorem fp_X8_18_6 : jFp RX8 18 6 2 true (.array .int) := ⟨RX8, TX8, 18, tyX8, rfl, wsX80_tb, tyX8_ok, nmX8, by decide, (jw_1 100 rfl rfl), rfl, tyX8_ok 2 (by decide), fun _ => rfl⟩
theorem fp_X8_21_6 : jFp RX8 21 6 3 true (.array .int) := ⟨RX8, TX8, 18, tyX8, rfl, wsX80_tb, tyX8_ok, nmX8, by decide, (jw_1 106 rfl rfl), rfl, tyX8_ok 3 (by decide), fun _ => rfl⟩
theorem fn_X8_24 : jFn RX8 24 4 3 [.null, .int 0, .int 0] := ⟨RX5, TX5, tyX5, rfl, wsX50_tb, tyX5_ok, (jw_1 75 rfl rfl), (jw_1 76 rfl rfl), (jw_1 4 rfl rfl), by decide⟩
theorem sy_X5_init : jSY mX5_init 0 := ⟨(jw_1 79 rfl rfl), (jw_1 4 rfl rfl), by decide +kernel, by decide⟩
theorem cin_X8_26_X5_init : jSiN RX8 26 mX5_init 0 := ⟨(jn_1 77 rfl rfl), (jw_1 78 rfl rfl), rfl, sy_X5_init⟩
theorem fp_X8_27_6 : jFp RX8 27 6 4 true (.object "RodRings$Log") := ⟨RX8, TX8, 18, tyX8, rfl, wsX80_tb, tyX8_ok, nmX8, by decide, (jw_1 111 rfl rfl), rfl, tyX8_ok 4 (by decide), fun _ => rfl⟩
theorem fp_X8_31_6 : jFp RX8 31 6 11 false .int := ⟨RX8, TX8, 18, tyX8, rfl, wsX80_tb, tyX8_ok, nmX8, by decide, (jw_1 143 rfl rfl), rfl, tyX8_ok 11 (by decide), fun q => by cases q⟩
theorem fp_X8_35_6 : jFp RX8 35 6 12 false .int := ⟨RX8, TX8, 18, tyX8, rfl, wsX80_tb, tyX8_ok, nmX8, by decide, (jw_1 147 rfl rfl), rfl, tyX8_ok 12 (by decide), fun q => by cases q⟩
theorem fp_X8_38_6 : jFp RX8 38 6 16 false .int := ⟨RX8, TX8, 18, tyX8, rfl, wsX80_tb, tyX8_ok, nmX8, by decide, (jw_1 164 rfl rfl), rfl, tyX8_ok 16 (by decide), fun q => by cases q⟩
theorem fg_X8_15_6 : jFg RX8 15 6 1 := ⟨RX8, TX8, 18, _, rfl, wsX80_tb, by decide, (jw_1 97 rfl rfl), Or.inl rfl⟩
theorem cy_X8_41 : Cond.methodLink RX8 41 arraycopyName ∈ jall ∧ Cond.native arraycopyName ∈ jall ∧ Cond.static arraycopyName ∈ jall ∧ Cond.initialized "java/lang/System" ∈ jall := ⟨(jw_2 202 rfl rfl), (jw_2 204 rfl rfl), (jw_2 203 rfl rfl), (jw_1 13 rfl rfl)⟩
theorem fg_X8_18_6 : jFg RX8 18 6 2 := ⟨RX8, TX8, 18, _, rfl, wsX80_tb, by decide, (jw_1 100 rfl rfl), Or.inl rfl⟩
theorem fg_X8_21_6 : jFg RX8 21 6 3 := ⟨RX8, TX8, 18, _, rfl, wsX80_tb, by decide, (jw_1 106 rfl rfl), Or.inl rfl⟩
theorem fg_X8_27_6 : jFg RX8 27 6 4 := ⟨RX8, TX8, 18, _, rfl, wsX80_tb, by decide, (jw_1 111 rfl rfl), Or.inl rfl⟩
theorem sy_X5_copyFrom : jSY mX5_copyFrom 1 := ⟨(jw_2 208 rfl rfl), (jw_1 4 rfl rfl), by decide +kernel, by decide⟩
theorem cv_X8_47_X5_copyFrom : jSv RX8 47 mX5_copyFrom 1 := ⟨(jw_2 205 rfl rfl), (jw_2 206 rfl rfl), (jw_2 207 rfl rfl), sy_X5_copyFrom⟩
theorem fg_X8_51_6 : jFg RX8 51 6 5 := ⟨RX8, TX8, 18, _, rfl, wsX80_tb, by decide, (jw_1 117 rfl rfl), Or.inl rfl⟩
theorem fp_X8_51_6 : jFp RX8 51 6 5 false .int := ⟨RX8, TX8, 18, tyX8, rfl, wsX80_tb, tyX8_ok, nmX8, by decide, (jw_1 117 rfl rfl), rfl, tyX8_ok 5 (by decide), fun q => by cases q⟩
theorem fg_X8_54_6 : jFg RX8 54 6 6 := ⟨RX8, TX8, 18, _, rfl, wsX80_tb, by decide, (jw_1 120 rfl rfl), Or.inl rfl⟩
theorem fp_X8_54_6 : jFp RX8 54 6 6 false .int := ⟨RX8, TX8, 18, tyX8, rfl, wsX80_tb, tyX8_ok, nmX8, by decide, (jw_1 120 rfl rfl), rfl, tyX8_ok 6 (by decide), fun q => by cases q⟩
theorem fg_X8_57_6 : jFg RX8 57 6 7 := ⟨RX8, TX8, 18, _, rfl, wsX80_tb, by decide, (jw_1 125 rfl rfl), Or.inl rfl⟩
theorem fp_X8_57_6 : jFp RX8 57 6 7 false .int := ⟨RX8, TX8, 18, tyX8, rfl, wsX80_tb, tyX8_ok, nmX8, by decide, (jw_1 125 rfl rfl), rfl, tyX8_ok 7 (by decide), fun q => by cases q⟩
theorem fg_X8_60_6 : jFg RX8 60 6 8 := ⟨RX8, TX8, 18, _, rfl, wsX80_tb, by decide, (jw_1 130 rfl rfl), Or.inl rfl⟩
theorem fp_X8_60_6 : jFp RX8 60 6 8 false .int := ⟨RX8, TX8, 18, tyX8, rfl, wsX80_tb, tyX8_ok, nmX8, by decide, (jw_1 130 rfl rfl), rfl, tyX8_ok 8 (by decide), fun q => by cases q⟩
theorem fg_X8_63_6 : jFg RX8 63 6 10 := ⟨RX8, TX8, 18, _, rfl, wsX80_tb, by decide, (jw_1 140 rfl rfl), Or.inl rfl⟩
theorem fp_X8_63_6 : jFp RX8 63 6 10 false .int := ⟨RX8, TX8, 18, tyX8, rfl, wsX80_tb, tyX8_ok, nmX8, by decide, (jw_1 140 rfl rfl), rfl, tyX8_ok 10 (by decide), fun q => by cases q⟩
theorem fg_X8_31_6 : jFg RX8 31 6 11 := ⟨RX8, TX8, 18, _, rfl, wsX80_tb, by decide, (jw_1 143 rfl rfl), Or.inl rfl⟩
theorem fg_X8_35_6 : jFg RX8 35 6 12 := ⟨RX8, TX8, 18, _, rfl, wsX80_tb, by decide, (jw_1 147 rfl rfl), Or.inl rfl⟩
theorem fg_X8_66_6 : jFg RX8 66 6 13 := ⟨RX8, TX8, 18, _, rfl, wsX80_tb, by decide, (jw_1 150 rfl rfl), Or.inl rfl⟩
theorem fp_X8_66_6 : jFp RX8 66 6 13 false .int := ⟨RX8, TX8, 18, tyX8, rfl, wsX80_tb, tyX8_ok, nmX8, by decide, (jw_1 150 rfl rfl), rfl, tyX8_ok 13 (by decide), fun q => by cases q⟩
theorem fg_X8_69_6 : jFg RX8 69 6 14 := ⟨RX8, TX8, 18, _, rfl, wsX80_tb, by decide, (jw_1 156 rfl rfl), Or.inl rfl⟩
theorem fp_X8_69_6 : jFp RX8 69 6 14 false .int := ⟨RX8, TX8, 18, tyX8, rfl, wsX80_tb, tyX8_ok, nmX8, by decide, (jw_1 156 rfl rfl), rfl, tyX8_ok 14 (by decide), fun q => by cases q⟩
theorem fg_X8_38_6 : jFg RX8 38 6 16 := ⟨RX8, TX8, 18, _, rfl, wsX80_tb, by decide, (jw_1 164 rfl rfl), Or.inl rfl⟩
theorem fg_X8_72_6 : jFg RX8 72 6 17 := ⟨RX8, TX8, 18, _, rfl, wsX80_tb, by decide, (jw_1 167 rfl rfl), Or.inl rfl⟩
theorem fp_X8_72_6 : jFp RX8 72 6 17 false .int := ⟨RX8, TX8, 18, tyX8, rfl, wsX80_tb, tyX8_ok, nmX8, by decide, (jw_1 167 rfl rfl), rfl, tyX8_ok 17 (by decide), fun q => by cases q⟩
theorem cv_X8_75_X8_hangAs : jSv RX8 75 mX8_hangAs 1 := ⟨(jw_2 210 rfl rfl), (jw_2 211 rfl rfl), (jw_2 212 rfl rfl), sy_X8_hangAs⟩
theorem fg_X8_9_6 : jFg RX8 9 6 0 := ⟨RX8, TX8, 18, _, rfl, wsX80_tb, by decide, (jw_1 92 rfl rfl), Or.inl rfl⟩
theorem fg_X8_79_6 : jFg RX8 79 6 15 := ⟨RX8, TX8, 18, _, rfl, wsX80_tb, by decide, (jw_1 162 rfl rfl), Or.inl rfl⟩
theorem fp_X8_79_6 : jFp RX8 79 6 15 false .int := ⟨RX8, TX8, 18, tyX8, rfl, wsX80_tb, tyX8_ok, nmX8, by decide, (jw_1 162 rfl rfl), rfl, tyX8_ok 15 (by decide), fun q => by cases q⟩
theorem fg_X8_82_6 : jFg RX8 82 6 9 := ⟨RX8, TX8, 18, _, rfl, wsX80_tb, by decide, (jw_1 134 rfl rfl), Or.inl rfl⟩
theorem fp_X8_82_6 : jFp RX8 82 6 9 false .int := ⟨RX8, TX8, 18, tyX8, rfl, wsX80_tb, tyX8_ok, nmX8, by decide, (jw_1 134 rfl rfl), rfl, tyX8_ok 9 (by decide), fun q => by cases q⟩
abbrev mX8_nearestNew : jM := (yX8_nearestNew, cX8_nearestNew, 1, (some .int), [])
abbrev mX8_farthestNew : jM := (yX8_farthestNew, cX8_farthestNew, 1, (some .int), [])
theorem mm_X8_85 : Cond.methodLink RX8 85 Lib.Math.min.name ∈ jall ∧ Cond.static Lib.Math.min.name ∈ jall ∧ Cond.initialized "java/lang/Math" ∈ jall ∧ Cond.code Lib.Math.min.name Lib.Math.min.code 2 (some .int) ∈ jall := ⟨(jw_2 232 rfl rfl), (jw_2 233 rfl rfl), (jw_1 18 rfl rfl), (jw_2 234 rfl rfl)⟩
abbrev mX8_add : jM := (yX8_add, cX8_add, 3, none, [])
theorem csn_X8_91_X11_withBit : jSsN RX8 91 mX11_withBit 3 := ⟨(jn_4 120 rfl rfl), (jw_3 46 rfl rfl), sy_X11_withBit⟩
abbrev mX8_unhooked : jM := (yX8_unhooked, cX8_unhooked, 1, (some .int), [])
theorem csn_X8_95_X11_bit : jSsN RX8 95 mX11_bit 2 := ⟨(jn_2 168 rfl rfl), (jw_2 169 rfl rfl), sy_X11_bit⟩
theorem cv_X8_98_X8_shadow : jSv RX8 98 mX8_shadow 0 := ⟨(jw_2 179 rfl rfl), (jw_2 165 rfl rfl), (jw_2 166 rfl rfl), sy_X8_shadow⟩
theorem cs_X8_102_J6_bitCount_0f7a4 : jSs RX8 102 mJ6_bitCount_0f7a4 1 := ⟨(jw_2 180 rfl rfl), (jw_2 181 rfl rfl), sy_J6_bitCount_0f7a4⟩
abbrev mX8_goers : jM := (yX8_goers, cX8_goers, 6, (some .int), [])
abbrev mX8_isStopped : jM := (yX8_isStopped, cX8_isStopped, 3, (some .boolean), [])
theorem sy_X8_isStopped : jSY mX8_isStopped 2 := ⟨(jw_2 231 rfl rfl), (jw_1 3 rfl rfl), by decide +kernel, by decide⟩
theorem cv_X8_112_X8_isStopped : jSv RX8 112 mX8_isStopped 2 := ⟨(jw_2 228 rfl rfl), (jw_2 230 rfl rfl), (js_1 1 rfl), sy_X8_isStopped⟩
abbrev mX8_goTogether : jM := (yX8_goTogether, cX8_goTogether, 4, (some .boolean), [])
theorem sy_X8_goTogether : jSY mX8_goTogether 2 := ⟨(jw_2 227 rfl rfl), (jw_1 3 rfl rfl), by decide +kernel, by decide⟩
theorem cv_X8_108_X8_goTogether : jSv RX8 108 mX8_goTogether 2 := ⟨(jw_2 224 rfl rfl), (jw_2 226 rfl rfl), (js_1 0 rfl), sy_X8_goTogether⟩
theorem sy_X8_goers : jSY mX8_goers 2 := ⟨(jw_2 223 rfl rfl), (jw_1 3 rfl rfl), by decide +kernel, by decide⟩
theorem cv_X8_115_X8_goers : jSv RX8 115 mX8_goers 2 := ⟨(jw_2 220 rfl rfl), (jw_2 221 rfl rfl), (jw_2 222 rfl rfl), sy_X8_goers⟩
abbrev mX9_init : jM := (yX9_init, cX9_init, 3, none, [])
theorem ci_X9_5_X4_init : jSi RX9 5 mX4_init 2 := ⟨(jw_2 26 rfl rfl), (jw_2 27 rfl rfl), rfl, sy_X4_init⟩
theorem fp_X9_11_7 : jFp RX9 11 7 2 true (.object "RodRings$Rod") := ⟨RX9, TX9, 3, tyX9, rfl, wsX90_tb, tyX9_ok, nmX9, by decide, (jw_2 30 rfl rfl), rfl, tyX9_ok 2 (by decide), fun _ => rfl⟩
abbrev mX9_readLine : jM := (yX9_readLine, cX9_readLine, 3, (some .boolean), [])
theorem fg_X9_15_7 : jFg RX9 15 7 0 := ⟨RX9, TX9, 3, _, rfl, wsX90_tb, by decide, (jw_2 34 rfl rfl), Or.inr (jw_2 35 rfl rfl)⟩
theorem cv_X9_19_X10_kind : jSv RX9 19 mX10_kind 0 := ⟨(jw_4 97 rfl rfl), (jw_4 48 rfl rfl), (jw_4 49 rfl rfl), sy_X10_kind⟩
abbrev mX9_beginsLine : jM := (yX9_beginsLine, cX9_beginsLine, 1, (some .boolean), [])
theorem sy_X9_beginsLine : jSY mX9_beginsLine 1 := ⟨(jw_4 100 rfl rfl), (jw_1 8 rfl rfl), by decide +kernel, by decide⟩
theorem cs_X9_25_X9_beginsLine : jSs RX9 25 mX9_beginsLine 1 := ⟨(jw_4 98 rfl rfl), (jw_4 99 rfl rfl), sy_X9_beginsLine⟩
theorem cv_X9_35_X10_skip : jSv RX9 35 mX10_skip 0 := ⟨(jw_4 101 rfl rfl), (jw_4 59 rfl rfl), (jw_4 60 rfl rfl), sy_X10_skip⟩
abbrev mX9_readNumber : jM := (yX9_readNumber, cX9_readNumber, 2, (some .int), [])
theorem sy_X9_readNumber : jSY mX9_readNumber 1 := ⟨(jw_4 129 rfl rfl), (jw_1 8 rfl rfl), by decide +kernel, by decide⟩
theorem cv_X9_43_X9_readNumber : jSv RX9 43 mX9_readNumber 1 := ⟨(jw_4 126 rfl rfl), (jw_4 128 rfl rfl), (js_2 2 rfl), sy_X9_readNumber⟩
abbrev mX9_keepNumber : jM := (yX9_keepNumber, cX9_keepNumber, 3, none, [])
theorem sy_X9_keepNumber : jSY mX9_keepNumber 2 := ⟨(jw_4 133 rfl rfl), (jw_1 8 rfl rfl), by decide +kernel, by decide⟩
theorem cv_X9_47_X9_keepNumber : jSv RX9 47 mX9_keepNumber 2 := ⟨(jw_4 130 rfl rfl), (jw_4 132 rfl rfl), (js_2 3 rfl), sy_X9_keepNumber⟩
abbrev mX9_readRing : jM := (yX9_readRing, cX9_readRing, 4, (some .boolean), [])
theorem sy_X9_readRing : jSY mX9_readRing 0 := ⟨(jw_4 105 rfl rfl), (jw_1 8 rfl rfl), by decide +kernel, by decide⟩
theorem cv_X9_39_X9_readRing : jSv RX9 39 mX9_readRing 0 := ⟨(jw_4 102 rfl rfl), (jw_4 104 rfl rfl), (js_2 0 rfl), sy_X9_readRing⟩
theorem fg_X9_11_7 : jFg RX9 11 7 2 := ⟨RX9, TX9, 3, _, rfl, wsX90_tb, by decide, (jw_2 30 rfl rfl), Or.inl rfl⟩
theorem fg_X9_29_6 : jFg RX9 29 6 5 := ⟨RX8, TX8, 18, _, rfl, wsX80_tb, by decide, (jw_1 115 rfl rfl), Or.inl rfl⟩
theorem cv_X9_51_X10_takeNumber : jSv RX9 51 mX10_takeNumber 2 := ⟨(jw_4 115 rfl rfl), (jw_4 63 rfl rfl), (jw_4 64 rfl rfl), sy_X10_takeNumber⟩
theorem fp_X9_71_6 : jFp RX9 71 6 13 false .int := ⟨RX8, TX8, 18, tyX8, rfl, wsX80_tb, tyX8_ok, nmX8, by decide, (jw_1 152 rfl rfl), rfl, tyX8_ok 13 (by decide), fun q => by cases q⟩
theorem fg_X9_55_6 : jFg RX9 55 6 9 := ⟨RX8, TX8, 18, _, rfl, wsX80_tb, by decide, (jw_1 136 rfl rfl), Or.inl rfl⟩
theorem csn_X9_58_X11_withBit : jSsN RX9 58 mX11_withBit 3 := ⟨(jn_4 121 rfl rfl), (jw_3 46 rfl rfl), sy_X11_withBit⟩
theorem fp_X9_55_6 : jFp RX9 55 6 9 false .int := ⟨RX8, TX8, 18, tyX8, rfl, wsX80_tb, tyX8_ok, nmX8, by decide, (jw_1 136 rfl rfl), rfl, tyX8_ok 9 (by decide), fun q => by cases q⟩
theorem fg_X9_62_6 : jFg RX9 62 6 10 := ⟨RX8, TX8, 18, _, rfl, wsX80_tb, by decide, (jw_1 141 rfl rfl), Or.inl rfl⟩
theorem fp_X9_62_6 : jFp RX9 62 6 10 false .int := ⟨RX8, TX8, 18, tyX8, rfl, wsX80_tb, tyX8_ok, nmX8, by decide, (jw_1 141 rfl rfl), rfl, tyX8_ok 10 (by decide), fun q => by cases q⟩
theorem fp_X9_65_6 : jFp RX9 65 6 11 false .int := ⟨RX8, TX8, 18, tyX8, rfl, wsX80_tb, tyX8_ok, nmX8, by decide, (jw_1 144 rfl rfl), rfl, tyX8_ok 11 (by decide), fun q => by cases q⟩
theorem fp_X9_68_6 : jFp RX9 68 6 12 false .int := ⟨RX8, TX8, 18, tyX8, rfl, wsX80_tb, tyX8_ok, nmX8, by decide, (jw_1 148 rfl rfl), rfl, tyX8_ok 12 (by decide), fun q => by cases q⟩
theorem fp_X9_74_6 : jFp RX9 74 6 14 false .int := ⟨RX8, TX8, 18, tyX8, rfl, wsX80_tb, tyX8_ok, nmX8, by decide, (jw_1 158 rfl rfl), rfl, tyX8_ok 14 (by decide), fun q => by cases q⟩
theorem cv_X9_77_X10_take : jSv RX9 77 mX10_take 1 := ⟨(jw_4 106 rfl rfl), (jw_4 71 rfl rfl), (jw_4 72 rfl rfl), sy_X10_take⟩
theorem sy_X8_nearestNew : jSY mX8_nearestNew 0 := ⟨(jw_4 110 rfl rfl), (jw_1 3 rfl rfl), by decide +kernel, by decide⟩
theorem cv_X9_80_X8_nearestNew : jSv RX9 80 mX8_nearestNew 0 := ⟨(jw_4 107 rfl rfl), (jw_4 108 rfl rfl), (jw_4 109 rfl rfl), sy_X8_nearestNew⟩
theorem sy_X8_farthestNew : jSY mX8_farthestNew 0 := ⟨(jw_4 114 rfl rfl), (jw_1 3 rfl rfl), by decide +kernel, by decide⟩
theorem cv_X9_83_X8_farthestNew : jSv RX9 83 mX8_farthestNew 0 := ⟨(jw_4 111 rfl rfl), (jw_4 112 rfl rfl), (jw_4 113 rfl rfl), sy_X8_farthestNew⟩
theorem sy_X8_add : jSY mX8_add 2 := ⟨(jw_4 119 rfl rfl), (jw_1 3 rfl rfl), by decide +kernel, by decide⟩
theorem cv_X9_86_X8_add : jSv RX9 86 mX8_add 2 := ⟨(jw_4 116 rfl rfl), (jw_4 117 rfl rfl), (jw_4 118 rfl rfl), sy_X8_add⟩
theorem fg_X9_89_6 : jFg RX9 89 6 6 := ⟨RX8, TX8, 18, _, rfl, wsX80_tb, by decide, (jw_1 121 rfl rfl), Or.inl rfl⟩
theorem fp_X9_89_6 : jFp RX9 89 6 6 false .int := ⟨RX8, TX8, 18, tyX8, rfl, wsX80_tb, tyX8_ok, nmX8, by decide, (jw_1 121 rfl rfl), rfl, tyX8_ok 6 (by decide), fun q => by cases q⟩
theorem fg_X9_92_6 : jFg RX9 92 6 7 := ⟨RX8, TX8, 18, _, rfl, wsX80_tb, by decide, (jw_1 126 rfl rfl), Or.inl rfl⟩
theorem fp_X9_92_6 : jFp RX9 92 6 7 false .int := ⟨RX8, TX8, 18, tyX8, rfl, wsX80_tb, tyX8_ok, nmX8, by decide, (jw_1 126 rfl rfl), rfl, tyX8_ok 7 (by decide), fun q => by cases q⟩
theorem fg_X9_95_6 : jFg RX9 95 6 2 := ⟨RX8, TX8, 18, _, rfl, wsX80_tb, by decide, (jw_1 102 rfl rfl), Or.inl rfl⟩
abbrev mX9_readMore : jM := (yX9_readMore, cX9_readMore, 6, (some .boolean), [])
theorem sy_X9_readMore : jSY mX9_readMore 4 := ⟨(jw_4 125 rfl rfl), (jw_1 8 rfl rfl), by decide +kernel, by decide⟩
theorem cv_X9_99_X9_readMore : jSv RX9 99 mX9_readMore 4 := ⟨(jw_4 122 rfl rfl), (jw_4 124 rfl rfl), (js_2 1 rfl), sy_X9_readMore⟩
theorem fg_X9_103_6 : jFg RX9 103 6 3 := ⟨RX8, TX8, 18, _, rfl, wsX80_tb, by decide, (jw_1 107 rfl rfl), Or.inl rfl⟩
abbrev mX10_init : jM := (yX10_init, cX10_init, 1, none, [])
theorem oi_X10_3 : Cond.methodLink RX10 3 Lib.objectInit ∈ jall ∧ Cond.instanceMethod Lib.objectInit ∈ jall ∧ Cond.code Lib.objectInit ⟨#[0xb1]⟩ 1 none ∈ jall := ⟨(jw_1 42 rfl rfl), (jw_1 35 rfl rfl), (jw_1 36 rfl rfl)⟩
theorem ac_byte : Cond.arrayClass .byte ∈ jall := (jw_1 67 rfl rfl)
theorem fp_X10_9_8 : jFp RX10 9 8 0 true (.array .byte) := ⟨RX10, TX10, 7, tyX10, rfl, wsX100_tb, tyX10_ok, nmX10, by decide, (jw_1 43 rfl rfl), rfl, tyX10_ok 0 (by decide), fun _ => rfl⟩
theorem fp_X10_15_8 : jFp RX10 15 8 1 true (.array .int) := ⟨RX10, TX10, 7, tyX10, rfl, wsX100_tb, tyX10_ok, nmX10, by decide, (jw_1 44 rfl rfl), rfl, tyX10_ok 1 (by decide), fun _ => rfl⟩
theorem fp_X10_19_8 : jFp RX10 19 8 2 true (.array .int) := ⟨RX10, TX10, 7, tyX10, rfl, wsX100_tb, tyX10_ok, nmX10, by decide, (jw_1 45 rfl rfl), rfl, tyX10_ok 2 (by decide), fun _ => rfl⟩
theorem fp_X10_22_8 : jFp RX10 22 8 3 true (.array .int) := ⟨RX10, TX10, 7, tyX10, rfl, wsX100_tb, tyX10_ok, nmX10, by decide, (jw_1 46 rfl rfl), rfl, tyX10_ok 3 (by decide), fun _ => rfl⟩
abbrev mX10_hasRoom : jM := (yX10_hasRoom, cX10_hasRoom, 1, (some .boolean), [])
theorem fg_X10_25_8 : jFg RX10 25 8 6 := ⟨RX10, TX10, 7, _, rfl, wsX100_tb, by decide, (jw_1 49 rfl rfl), Or.inl rfl⟩
abbrev mX10_put : jM := (yX10_put, cX10_put, 3, none, [])
theorem fg_X10_9_8 : jFg RX10 9 8 0 := ⟨RX10, TX10, 7, _, rfl, wsX100_tb, by decide, (jw_1 43 rfl rfl), Or.inl rfl⟩
theorem fp_X10_25_8 : jFp RX10 25 8 6 false .int := ⟨RX10, TX10, 7, tyX10, rfl, wsX100_tb, tyX10_ok, nmX10, by decide, (jw_1 49 rfl rfl), rfl, tyX10_ok 6 (by decide), fun q => by cases q⟩
abbrev mX10_scan : jM := (yX10_scan, cX10_scan, 3, none, [])
theorem fp_X10_29_8 : jFp RX10 29 8 4 false .int := ⟨RX10, TX10, 7, tyX10, rfl, wsX100_tb, tyX10_ok, nmX10, by decide, (jw_1 47 rfl rfl), rfl, tyX10_ok 4 (by decide), fun q => by cases q⟩
theorem fp_X10_32_8 : jFp RX10 32 8 5 false .int := ⟨RX10, TX10, 7, tyX10, rfl, wsX100_tb, tyX10_ok, nmX10, by decide, (jw_1 48 rfl rfl), rfl, tyX10_ok 5 (by decide), fun q => by cases q⟩
theorem fg_X10_29_8 : jFg RX10 29 8 4 := ⟨RX10, TX10, 7, _, rfl, wsX100_tb, by decide, (jw_1 47 rfl rfl), Or.inl rfl⟩
theorem cv_X10_35_X10_at : jSv RX10 35 mX10_at 1 := ⟨(jw_3 214 rfl rfl), (jw_3 215 rfl rfl), (jw_3 216 rfl rfl), sy_X10_at⟩
abbrev mX10_scanThing : jM := (yX10_scanThing, cX10_scanThing, 4, (some .int), [])
theorem sy_X10_scanThing : jSY mX10_scanThing 1 := ⟨(jw_3 221 rfl rfl), (jw_1 2 rfl rfl), by decide +kernel, by decide⟩
theorem cv_X10_39_X10_scanThing : jSv RX10 39 mX10_scanThing 1 := ⟨(jw_3 218 rfl rfl), (jw_3 220 rfl rfl), (js_1 7 rfl), sy_X10_scanThing⟩
theorem fg_X10_19_8 : jFg RX10 19 8 2 := ⟨RX10, TX10, 7, _, rfl, wsX100_tb, by decide, (jw_1 45 rfl rfl), Or.inl rfl⟩
abbrev mX10_endOfRow : jM := (yX10_endOfRow, cX10_endOfRow, 5, (some .int), [])
theorem sy_X10_endOfRow : jSY mX10_endOfRow 3 := ⟨(jw_3 225 rfl rfl), (jw_1 2 rfl rfl), by decide +kernel, by decide⟩
theorem cv_X10_42_X10_endOfRow : jSv RX10 42 mX10_endOfRow 3 := ⟨(jw_3 222 rfl rfl), (jw_3 224 rfl rfl), (js_1 8 rfl), sy_X10_endOfRow⟩
theorem fg_X10_15_8 : jFg RX10 15 8 1 := ⟨RX10, TX10, 7, _, rfl, wsX100_tb, by decide, (jw_1 44 rfl rfl), Or.inl rfl⟩
theorem fg_X10_22_8 : jFg RX10 22 8 3 := ⟨RX10, TX10, 7, _, rfl, wsX100_tb, by decide, (jw_1 46 rfl rfl), Or.inl rfl⟩
abbrev mX10_numberBetween : jM := (yX10_numberBetween, cX10_numberBetween, 5, (some .int), [])
theorem sy_X10_numberBetween : jSY mX10_numberBetween 2 := ⟨(jw_4 46 rfl rfl), (jw_1 2 rfl rfl), by decide +kernel, by decide⟩
theorem cv_X10_50_X10_numberBetween : jSv RX10 50 mX10_numberBetween 2 := ⟨(jw_4 43 rfl rfl), (jw_4 45 rfl rfl), (js_1 11 rfl), sy_X10_numberBetween⟩
abbrev mX10_wordBetween : jM := (yX10_wordBetween, cX10_wordBetween, 6, (some .int), [])
theorem sy_X10_wordBetween : jSY mX10_wordBetween 2 := ⟨(jw_3 229 rfl rfl), (jw_1 2 rfl rfl), by decide +kernel, by decide⟩
theorem cv_X10_46_X10_wordBetween : jSv RX10 46 mX10_wordBetween 2 := ⟨(jw_3 226 rfl rfl), (jw_3 228 rfl rfl), (js_1 9 rfl), sy_X10_wordBetween⟩
abbrev mJ0_length_8abf5 : jM := (yJ0_length_8abf5, cJ0_length_8abf5, 1, (some .int), [])
theorem sy_J0_length_8abf5 : jSY mJ0_length_8abf5 0 := ⟨(jw_3 234 rfl rfl), (jw_1 14 rfl rfl), by decide +kernel, by decide⟩
theorem ss_X10_55 : jSv RX10 55 mJ0_length_8abf5 0 := ⟨(jw_3 231 rfl rfl), (jw_3 232 rfl rfl), (jw_3 233 rfl rfl), sy_J0_length_8abf5⟩
abbrev mJ0_charAt_5068e : jM := (yJ0_charAt_5068e, cJ0_charAt_5068e, 2, (some .char), [])
theorem sy_J0_charAt_5068e : jSY mJ0_charAt_5068e 1 := ⟨(jw_4 4 rfl rfl), (jw_1 14 rfl rfl), by decide +kernel, by decide⟩
theorem ss_X10_60 : jSv RX10 60 mJ0_charAt_5068e 1 := ⟨(jw_4 1 rfl rfl), (jw_4 2 rfl rfl), (jw_4 3 rfl rfl), sy_J0_charAt_5068e⟩
abbrev mX10_standsAt : jM := (yX10_standsAt, cX10_standsAt, 5, (some .boolean), [])
theorem sy_X10_standsAt : jSY mX10_standsAt 3 := ⟨(jw_4 42 rfl rfl), (jw_1 2 rfl rfl), by decide +kernel, by decide⟩
theorem cv_X10_64_X10_standsAt : jSv RX10 64 mX10_standsAt 3 := ⟨(jw_4 39 rfl rfl), (jw_4 41 rfl rfl), (js_1 10 rfl), sy_X10_standsAt⟩
theorem fg_X10_32_8 : jFg RX10 32 8 5 := ⟨RX10, TX10, 7, _, rfl, wsX100_tb, by decide, (jw_1 48 rfl rfl), Or.inl rfl⟩
abbrev mX10_start : jM := (yX10_start, cX10_start, 1, (some .int), [])
abbrev mX11_init : jM := (yX11_init, cX11_init, 1, none, [])
theorem oi_X11_1 : Cond.methodLink RX11 1 Lib.objectInit ∈ jall ∧ Cond.instanceMethod Lib.objectInit ∈ jall ∧ Cond.code Lib.objectInit ⟨#[0xb1]⟩ 1 none ∈ jall := ⟨(jw_1 34 rfl rfl), (jw_1 35 rfl rfl), (jw_1 36 rfl rfl)⟩
theorem fn_X11_7 : jFn RX11 7 8 7 [.null, .null, .null, .null, .int 0, .int 0, .int 0] := ⟨RX10, TX10, tyX10, rfl, wsX100_tb, tyX10_ok, (jw_1 37 rfl rfl), (jw_1 38 rfl rfl), (jw_1 2 rfl rfl), by decide⟩
theorem sy_X10_init : jSY mX10_init 0 := ⟨(jw_1 41 rfl rfl), (jw_1 2 rfl rfl), by decide +kernel, by decide⟩
theorem cin_X11_9_X10_init : jSiN RX11 9 mX10_init 0 := ⟨(jn_1 39 rfl rfl), (jw_1 40 rfl rfl), rfl, sy_X10_init⟩
theorem fp_X11_10_9 : jFp RX11 10 9 0 true (.object "RodRings$Tape") := ⟨RX11, TX11, 13, tyX11, rfl, wsX110_tb, tyX11_ok, nmX11, by decide, (jw_2 100 rfl rfl), rfl, tyX11_ok 0 (by decide), fun _ => rfl⟩
theorem fn_X11_16 : jFn RX11 16 6 18 [.null, .null, .null, .null, .null, .int 0, .int 0, .int 0, .int 0, .int 0, .int 0, .int 0, .int 0, .int 0, .int 0, .int 0, .int 0, .int 0] := ⟨RX8, TX8, tyX8, rfl, wsX80_tb, tyX8_ok, (jw_1 69 rfl rfl), (jw_1 70 rfl rfl), (jw_1 3 rfl rfl), by decide⟩
theorem cin_X11_18_X8_init : jSiN RX11 18 mX8_init 0 := ⟨(jn_1 71 rfl rfl), (jw_1 72 rfl rfl), rfl, sy_X8_init⟩
theorem fp_X11_19_9 : jFp RX11 19 9 1 true (.object "RodRings$Rod") := ⟨RX11, TX11, 13, tyX11, rfl, wsX110_tb, tyX11_ok, nmX11, by decide, (jw_2 101 rfl rfl), rfl, tyX11_ok 1 (by decide), fun _ => rfl⟩
theorem fn_X11_23 : jFn RX11 23 2 9 [.null, .null, .null, .null, .null, .int 0, .int 0, .int 0, .int 0] := ⟨RX2, TX2, tyX2, rfl, wsX20_tb, tyX2_ok, (jw_1 206 rfl rfl), (jw_1 207 rfl rfl), (jw_1 5 rfl rfl), by decide⟩
theorem sy_X2_init : jSY mX2_init 0 := ⟨(jw_1 210 rfl rfl), (jw_1 5 rfl rfl), by decide +kernel, by decide⟩
theorem cin_X11_25_X2_init : jSiN RX11 25 mX2_init 0 := ⟨(jn_1 208 rfl rfl), (jw_1 209 rfl rfl), rfl, sy_X2_init⟩
theorem fp_X11_26_9 : jFp RX11 26 9 2 true (.object "RodRings$Law") := ⟨RX11, TX11, 13, tyX11, rfl, wsX110_tb, tyX11_ok, nmX11, by decide, (jw_2 102 rfl rfl), rfl, tyX11_ok 2 (by decide), fun _ => rfl⟩
theorem fn_X11_30 : jFn RX11 30 0 3 [.null, .int 0, .int 0] := ⟨RX0, TX0, tyX0, rfl, wsX00_tb, tyX0_ok, (jw_2 2 rfl rfl), (jw_2 3 rfl rfl), (jw_1 6 rfl rfl), by decide⟩
theorem sy_X0_init : jSY mX0_init 0 := ⟨(jw_2 6 rfl rfl), (jw_1 6 rfl rfl), by decide +kernel, by decide⟩
theorem cin_X11_32_X0_init : jSiN RX11 32 mX0_init 0 := ⟨(jn_2 4 rfl rfl), (jw_2 5 rfl rfl), rfl, sy_X0_init⟩
theorem fp_X11_33_9 : jFp RX11 33 9 3 true (.object "RodRings$Acts") := ⟨RX11, TX11, 13, tyX11, rfl, wsX110_tb, tyX11_ok, nmX11, by decide, (jw_2 103 rfl rfl), rfl, tyX11_ok 3 (by decide), fun _ => rfl⟩
theorem fp_X11_37_9 : jFp RX11 37 9 4 true (.object "RodRings$Rod") := ⟨RX11, TX11, 13, tyX11, rfl, wsX110_tb, tyX11_ok, nmX11, by decide, (jw_2 104 rfl rfl), rfl, tyX11_ok 4 (by decide), fun _ => rfl⟩
theorem fp_X11_40_9 : jFp RX11 40 9 5 true (.object "RodRings$Law") := ⟨RX11, TX11, 13, tyX11, rfl, wsX110_tb, tyX11_ok, nmX11, by decide, (jw_2 105 rfl rfl), rfl, tyX11_ok 5 (by decide), fun _ => rfl⟩
theorem fn_X11_43 : jFn RX11 43 7 3 [.null, .int 0, .null] := ⟨RX9, TX9, tyX9, rfl, wsX90_tb, tyX9_ok, (jw_2 21 rfl rfl), (jw_2 22 rfl rfl), (jw_1 8 rfl rfl), by decide⟩
theorem fg_X11_10_9 : jFg RX11 10 9 0 := ⟨RX11, TX11, 13, _, rfl, wsX110_tb, by decide, (jw_2 100 rfl rfl), Or.inl rfl⟩
theorem fg_X11_37_9 : jFg RX11 37 9 4 := ⟨RX11, TX11, 13, _, rfl, wsX110_tb, by decide, (jw_2 104 rfl rfl), Or.inl rfl⟩
theorem sy_X9_init : jSY mX9_init 2 := ⟨(jw_2 25 rfl rfl), (jw_1 8 rfl rfl), by decide +kernel, by decide⟩
theorem ci_X11_45_X9_init : jSi RX11 45 mX9_init 2 := ⟨(jw_2 23 rfl rfl), (jw_2 24 rfl rfl), rfl, sy_X9_init⟩
theorem fp_X11_48_9 : jFp RX11 48 9 6 true (.object "RodRings$RodReader") := ⟨RX11, TX11, 13, tyX11, rfl, wsX110_tb, tyX11_ok, nmX11, by decide, (jw_2 106 rfl rfl), rfl, tyX11_ok 6 (by decide), fun _ => rfl⟩
theorem fn_X11_52 : jFn RX11 52 3 3 [.null, .int 0, .null] := ⟨RX3, TX3, tyX3, rfl, wsX30_tb, tyX3_ok, (jw_2 44 rfl rfl), (jw_2 45 rfl rfl), (jw_1 9 rfl rfl), by decide⟩
theorem fg_X11_40_9 : jFg RX11 40 9 5 := ⟨RX11, TX11, 13, _, rfl, wsX110_tb, by decide, (jw_2 105 rfl rfl), Or.inl rfl⟩
theorem sy_X3_init : jSY mX3_init 2 := ⟨(jw_2 48 rfl rfl), (jw_1 9 rfl rfl), by decide +kernel, by decide⟩
theorem ci_X11_54_X3_init : jSi RX11 54 mX3_init 2 := ⟨(jw_2 46 rfl rfl), (jw_2 47 rfl rfl), rfl, sy_X3_init⟩
theorem fp_X11_57_9 : jFp RX11 57 9 7 true (.object "RodRings$LawReader") := ⟨RX11, TX11, 13, tyX11, rfl, wsX110_tb, tyX11_ok, nmX11, by decide, (jw_2 107 rfl rfl), rfl, tyX11_ok 7 (by decide), fun _ => rfl⟩
theorem fn_X11_61 : jFn RX11 61 1 2 [.null, .null] := ⟨RX1, TX1, tyX1, rfl, wsX10_tb, tyX1_ok, (jw_2 56 rfl rfl), (jw_2 57 rfl rfl), (jw_1 10 rfl rfl), by decide⟩
theorem fg_X11_26_9 : jFg RX11 26 9 2 := ⟨RX11, TX11, 13, _, rfl, wsX110_tb, by decide, (jw_2 102 rfl rfl), Or.inl rfl⟩
theorem sy_X1_init : jSY mX1_init 2 := ⟨(jw_2 60 rfl rfl), (jw_1 10 rfl rfl), by decide +kernel, by decide⟩
theorem ci_X11_63_X1_init : jSi RX11 63 mX1_init 2 := ⟨(jw_2 58 rfl rfl), (jw_2 59 rfl rfl), rfl, sy_X1_init⟩
theorem fp_X11_66_9 : jFp RX11 66 9 8 true (.object "RodRings$Clock") := ⟨RX11, TX11, 13, tyX11, rfl, wsX110_tb, tyX11_ok, nmX11, by decide, (jw_2 108 rfl rfl), rfl, tyX11_ok 8 (by decide), fun _ => rfl⟩
theorem fn_X11_70 : jFn RX11 70 5 7 [.null, .null, .null, .null, .int 0, .int 0, .int 0] := ⟨RX7, TX7, tyX7, rfl, wsX70_tb, tyX7_ok, (jw_2 69 rfl rfl), (jw_2 70 rfl rfl), (jw_1 11 rfl rfl), by decide⟩
theorem sy_X7_init : jSY mX7_init 2 := ⟨(jw_2 73 rfl rfl), (jw_1 11 rfl rfl), by decide +kernel, by decide⟩
theorem ci_X11_72_X7_init : jSi RX11 72 mX7_init 2 := ⟨(jw_2 71 rfl rfl), (jw_2 72 rfl rfl), rfl, sy_X7_init⟩
theorem fp_X11_73_9 : jFp RX11 73 9 9 true (.object "RodRings$Pulls") := ⟨RX11, TX11, 13, tyX11, rfl, wsX110_tb, tyX11_ok, nmX11, by decide, (jw_2 109 rfl rfl), rfl, tyX11_ok 9 (by decide), fun _ => rfl⟩
theorem fp_X11_77_9 : jFp RX11 77 9 12 false .int := ⟨RX11, TX11, 13, tyX11, rfl, wsX110_tb, tyX11_ok, nmX11, by decide, (jw_2 112 rfl rfl), rfl, tyX11_ok 12 (by decide), fun q => by cases q⟩
abbrev mX11_feed : jM := (yX11_feed, cX11_feed, 6, (some .int), [])
theorem sy_X10_hasRoom : jSY mX10_hasRoom 0 := ⟨(jw_2 147 rfl rfl), (jw_1 2 rfl rfl), by decide +kernel, by decide⟩
theorem cv_X11_81_X10_hasRoom : jSv RX11 81 mX10_hasRoom 0 := ⟨(jw_2 144 rfl rfl), (jw_2 145 rfl rfl), (jw_2 146 rfl rfl), sy_X10_hasRoom⟩
theorem sy_X10_put : jSY mX10_put 1 := ⟨(jw_2 151 rfl rfl), (jw_1 2 rfl rfl), by decide +kernel, by decide⟩
theorem cv_X11_85_X10_put : jSv RX11 85 mX10_put 1 := ⟨(jw_2 148 rfl rfl), (jw_2 149 rfl rfl), (jw_2 150 rfl rfl), sy_X10_put⟩
theorem fg_X11_89_8 : jFg RX11 89 8 6 := ⟨RX10, TX10, 7, _, rfl, wsX100_tb, by decide, (jw_1 50 rfl rfl), Or.inl rfl⟩
abbrev mX11_end : jM := (yX11_end, cX11_end, 2, (some .boolean), [])
theorem fp_X11_89_8 : jFp RX11 89 8 6 false .int := ⟨RX10, TX10, 7, tyX10, rfl, wsX100_tb, tyX10_ok, nmX10, by decide, (jw_1 50 rfl rfl), rfl, tyX10_ok 6 (by decide), fun q => by cases q⟩
abbrev mX11_pole : jM := (yX11_pole, cX11_pole, 1, (some .int), [])
theorem fg_X11_19_9 : jFg RX11 19 9 1 := ⟨RX11, TX11, 13, _, rfl, wsX110_tb, by decide, (jw_2 101 rfl rfl), Or.inl rfl⟩
theorem cv_X11_92_X8_copyFrom : jSv RX11 92 mX8_copyFrom 1 := ⟨(jw_3 177 rfl rfl), (jw_2 199 rfl rfl), (jw_2 200 rfl rfl), sy_X8_copyFrom⟩
theorem fg_X11_48_9 : jFg RX11 48 9 6 := ⟨RX11, TX11, 13, _, rfl, wsX110_tb, by decide, (jw_2 106 rfl rfl), Or.inl rfl⟩
abbrev mX4_read : jM := (yX4_read, cX4_read, 2, (some .int), [])
theorem sy_X4_read : jSY mX4_read 0 := ⟨(jw_3 209 rfl rfl), (jw_1 7 rfl rfl), by decide +kernel, by decide⟩
theorem cu_X11_96_RodRings_RodReader_X4_read : jSu RX11 96 "RodRings$RodReader" "RodRings$LineReader" ⟨"RodRings$RodReader", "read", "()I"⟩ mX4_read 0 := ⟨(jw_3 204 rfl rfl), (jw_3 205 rfl rfl), (jw_3 207 rfl rfl), (jw_3 208 rfl rfl), (jn_3 206 rfl rfl), by decide +kernel, sy_X4_read⟩
theorem fg_X11_77_9 : jFg RX11 77 9 12 := ⟨RX11, TX11, 13, _, rfl, wsX110_tb, by decide, (jw_2 112 rfl rfl), Or.inl rfl⟩
theorem fg_X11_107_6 : jFg RX11 107 6 17 := ⟨RX8, TX8, 18, _, rfl, wsX80_tb, by decide, (jw_1 168 rfl rfl), Or.inl rfl⟩
theorem fp_X11_107_6 : jFp RX11 107 6 17 false .int := ⟨RX8, TX8, 18, tyX8, rfl, wsX80_tb, tyX8_ok, nmX8, by decide, (jw_1 168 rfl rfl), rfl, tyX8_ok 17 (by decide), fun q => by cases q⟩
theorem fg_X11_33_9 : jFg RX11 33 9 3 := ⟨RX11, TX11, 13, _, rfl, wsX110_tb, by decide, (jw_2 103 rfl rfl), Or.inl rfl⟩
theorem sy_X0_forget : jSY mX0_forget 0 := ⟨(jw_3 190 rfl rfl), (jw_1 6 rfl rfl), by decide +kernel, by decide⟩
theorem cv_X11_115_X0_forget : jSv RX11 115 mX0_forget 0 := ⟨(jw_3 187 rfl rfl), (jw_3 188 rfl rfl), (jw_3 189 rfl rfl), sy_X0_forget⟩
theorem th_X11_3 : jTh RX11 110 114 "java/lang/UnsupportedOperationException" := jTh_of (js := [(1, 19), (4, 161), (4, 170), (4, 176), (4, 179), (4, 181), (4, 162), (4, 163), (1, 35), (1, 36), (4, 164), (4, 169), (4, 177), (4, 197), (4, 151), (4, 198), (4, 153), (4, 199), (4, 155), (4, 165), (4, 167), (4, 157), (4, 193), (4, 194), (4, 196), (4, 157), (4, 219), (4, 220), (4, 221), (4, 187), (4, 143), (4, 187), (4, 188), (4, 189), (4, 190), (4, 145), (4, 190), (4, 191), (4, 192), (4, 193), (4, 147), (4, 218), (4, 209), (4, 210), (4, 211), (4, 174), (4, 212), (4, 213), (4, 214), (4, 215), (4, 160), (4, 159), (4, 216)]) (by decide +kernel) (jw_4 208 rfl rfl) (jw_1 23 rfl rfl) (by decide +kernel) (by decide +kernel)
theorem th_X11_0 : jTh RX11 100 104 "java/lang/IllegalArgumentException" := jTh_of (js := [(1, 19), (4, 161), (4, 170), (4, 176), (4, 179), (4, 181), (4, 162), (4, 163), (1, 35), (1, 36), (4, 164), (4, 169), (4, 177), (4, 197), (4, 151), (4, 198), (4, 153), (4, 199), (4, 155), (4, 165), (4, 167), (4, 157), (4, 193), (4, 194), (4, 196), (4, 157), (4, 184), (4, 185), (4, 186), (4, 187), (4, 143), (4, 187), (4, 188), (4, 189), (4, 190), (4, 145), (4, 190), (4, 191), (4, 192), (4, 193), (4, 147), (4, 183), (4, 140), (4, 141), (4, 148), (4, 149), (4, 150), (4, 152), (4, 154), (4, 156), (4, 160), (4, 159), (4, 158)]) (by decide +kernel) (jw_4 139 rfl rfl) (jw_1 22 rfl rfl) (by decide +kernel) (by decide +kernel)
abbrev mX11_law : jM := (yX11_law, cX11_law, 1, (some .int), [])
theorem sy_X2_begin : jSY mX2_begin 0 := ⟨(jw_4 234 rfl rfl), (jw_1 5 rfl rfl), by decide +kernel, by decide⟩
theorem cv_X11_118_X2_begin : jSv RX11 118 mX2_begin 0 := ⟨(jw_4 231 rfl rfl), (jw_4 232 rfl rfl), (jw_4 233 rfl rfl), sy_X2_begin⟩
theorem fg_X11_57_9 : jFg RX11 57 9 7 := ⟨RX11, TX11, 13, _, rfl, wsX110_tb, by decide, (jw_2 107 rfl rfl), Or.inl rfl⟩
theorem cu_X11_121_RodRings_LawReader_X4_read : jSu RX11 121 "RodRings$LawReader" "RodRings$LineReader" ⟨"RodRings$LawReader", "read", "()I"⟩ mX4_read 0 := ⟨(jw_4 235 rfl rfl), (jw_4 236 rfl rfl), (jw_4 237 rfl rfl), (jw_3 208 rfl rfl), (jn_3 206 rfl rfl), by decide +kernel, sy_X4_read⟩
theorem sy_X2_copyFrom : jSY mX2_copyFrom 1 := ⟨(jw_3 181 rfl rfl), (jw_1 5 rfl rfl), by decide +kernel, by decide⟩
theorem cv_X11_122_X2_copyFrom : jSv RX11 122 mX2_copyFrom 1 := ⟨(jw_3 178 rfl rfl), (jw_3 179 rfl rfl), (jw_3 180 rfl rfl), sy_X2_copyFrom⟩
theorem fg_X11_125_2 : jFg RX11 125 2 8 := ⟨RX2, TX2, 9, _, rfl, wsX20_tb, by decide, (jw_1 222 rfl rfl), Or.inl rfl⟩
abbrev mX11_fault : jM := (yX11_fault, cX11_fault, 1, (some .int), [])
abbrev mX11_ring : jM := (yX11_ring, cX11_ring, 3, (some .int), [])
abbrev mX11_requireRing : jM := (yX11_requireRing, cX11_requireRing, 2, none, [])
theorem sy_X11_requireRing : jSY mX11_requireRing 1 := ⟨(jw_5 10 rfl rfl), (jw_1 1 rfl rfl), by decide +kernel, by decide⟩
theorem cv_X11_128_X11_requireRing : jSv RX11 128 mX11_requireRing 1 := ⟨(jw_5 7 rfl rfl), (jw_5 9 rfl rfl), (js_2 5 rfl), sy_X11_requireRing⟩
theorem fg_X11_131_6 : jFg RX11 131 6 0 := ⟨RX8, TX8, 18, _, rfl, wsX80_tb, by decide, (jw_1 95 rfl rfl), Or.inl rfl⟩
theorem fg_X11_135_6 : jFg RX11 135 6 1 := ⟨RX8, TX8, 18, _, rfl, wsX80_tb, by decide, (jw_1 99 rfl rfl), Or.inl rfl⟩
theorem fg_X11_138_6 : jFg RX11 138 6 6 := ⟨RX8, TX8, 18, _, rfl, wsX80_tb, by decide, (jw_1 122 rfl rfl), Or.inl rfl⟩
theorem cs_X11_141_X11_bit : jSs RX11 141 mX11_bit 2 := ⟨(jw_5 27 rfl rfl), (jw_2 169 rfl rfl), sy_X11_bit⟩
theorem fg_X11_145_6 : jFg RX11 145 6 7 := ⟨RX8, TX8, 18, _, rfl, wsX80_tb, by decide, (jw_1 127 rfl rfl), Or.inl rfl⟩
theorem fg_X11_148_6 : jFg RX11 148 6 2 := ⟨RX8, TX8, 18, _, rfl, wsX80_tb, by decide, (jw_1 104 rfl rfl), Or.inl rfl⟩
theorem fg_X11_151_6 : jFg RX11 151 6 3 := ⟨RX8, TX8, 18, _, rfl, wsX80_tb, by decide, (jw_1 108 rfl rfl), Or.inl rfl⟩
theorem fg_X11_153_6 : jFg RX11 153 6 8 := ⟨RX8, TX8, 18, _, rfl, wsX80_tb, by decide, (jw_1 131 rfl rfl), Or.inl rfl⟩
theorem fg_X11_156_6 : jFg RX11 156 6 9 := ⟨RX8, TX8, 18, _, rfl, wsX80_tb, by decide, (jw_1 137 rfl rfl), Or.inl rfl⟩
theorem cv_X11_159_X8_gap : jSv RX11 159 mX8_gap 2 := ⟨(jw_5 28 rfl rfl), (jw_3 35 rfl rfl), (jw_3 36 rfl rfl), sy_X8_gap⟩
theorem cv_X11_162_X2_amount : jSv RX11 162 mX2_amount 3 := ⟨(jw_5 29 rfl rfl), (jw_3 79 rfl rfl), (jw_3 80 rfl rfl), sy_X2_amount⟩
theorem sy_X6_hangsBy : jSY mX6_hangsBy 2 := ⟨(jw_5 32 rfl rfl), (jw_1 25 rfl rfl), by decide +kernel, by decide⟩
theorem cs_X11_166_X6_hangsBy : jSs RX11 166 mX6_hangsBy 2 := ⟨(jw_5 30 rfl rfl), (jw_5 31 rfl rfl), sy_X6_hangsBy⟩
theorem sy_X6_share : jSY mX6_share 2 := ⟨(jw_5 35 rfl rfl), (jw_1 25 rfl rfl), by decide +kernel, by decide⟩
theorem cs_X11_172_X6_share : jSs RX11 172 mX6_share 2 := ⟨(jw_5 33 rfl rfl), (jw_5 34 rfl rfl), sy_X6_share⟩
theorem th_X11_4 : jThN RX11 175 179 "java/util/NoSuchElementException" := jThN_of (js := [(1, 19), (4, 161), (4, 170), (4, 176), (4, 179), (4, 181), (4, 162), (4, 163), (1, 35), (1, 36), (4, 164), (4, 169), (4, 177), (4, 197), (4, 151), (4, 198), (4, 153), (4, 199), (4, 155), (4, 165), (4, 167), (4, 157), (4, 193), (4, 194), (4, 196), (4, 157), (5, 51), (5, 52), (5, 53), (4, 187), (4, 143), (4, 187), (4, 188), (4, 189), (4, 190), (4, 145), (4, 190), (4, 191), (4, 192), (4, 193), (4, 147), (5, 50), (5, 41), (5, 42), (5, 43), (4, 175), (5, 44), (5, 45), (5, 46), (5, 47), (4, 160), (4, 159), (5, 48)]) (by decide +kernel) (jw_5 40 rfl rfl) (jw_1 26 rfl rfl) (by decide +kernel) (by decide +kernel)
abbrev mX11_pull : jM := (yX11_pull, cX11_pull, 5, (some .int), [])
abbrev mX11_requireNumber : jM := (yX11_requireNumber, cX11_requireNumber, 4, none, [])
theorem sy_X11_requireNumber : jSY mX11_requireNumber 3 := ⟨(jw_5 66 rfl rfl), (jw_1 1 rfl rfl), by decide +kernel, by decide⟩
theorem cv_X11_180_X11_requireNumber : jSv RX11 180 mX11_requireNumber 3 := ⟨(jw_5 63 rfl rfl), (jw_5 65 rfl rfl), (js_2 6 rfl), sy_X11_requireNumber⟩
theorem sy_X0_remember : jSY mX0_remember 1 := ⟨(jw_5 71 rfl rfl), (jw_1 6 rfl rfl), by decide +kernel, by decide⟩
theorem cv_X11_184_X0_remember : jSv RX11 184 mX0_remember 1 := ⟨(jw_5 68 rfl rfl), (jw_5 69 rfl rfl), (jw_5 70 rfl rfl), sy_X0_remember⟩
theorem cv_X11_187_X8_move : jSv RX11 187 mX8_move 3 := ⟨(jw_5 74 rfl rfl), (jw_2 217 rfl rfl), (jw_2 218 rfl rfl), sy_X8_move⟩
theorem fg_X11_191_6 : jFg RX11 191 6 4 := ⟨RX8, TX8, 18, _, rfl, wsX80_tb, by decide, (jw_1 112 rfl rfl), Or.inl rfl⟩
theorem cv_X11_195_X5_add : jSv RX11 195 mX5_add 4 := ⟨(jw_5 75 rfl rfl), (jw_5 76 rfl rfl), (jw_5 77 rfl rfl), sy_X5_add⟩
abbrev mX11_free : jM := (yX11_free, cX11_free, 2, (some .int), [])
theorem cs_X11_206_X11_withBit : jSs RX11 206 mX11_withBit 3 := ⟨(jw_5 106 rfl rfl), (jw_3 46 rfl rfl), sy_X11_withBit⟩
theorem fp_X11_156_6 : jFp RX11 156 6 9 false .int := ⟨RX8, TX8, 18, tyX8, rfl, wsX80_tb, tyX8_ok, nmX8, by decide, (jw_1 137 rfl rfl), rfl, tyX8_ok 9 (by decide), fun q => by cases q⟩
theorem th_X11_1 : jTh RX11 201 205 "java/lang/IllegalStateException" := jTh_of (js := [(1, 19), (4, 161), (4, 170), (4, 176), (4, 179), (4, 181), (4, 162), (4, 163), (1, 35), (1, 36), (4, 164), (4, 169), (4, 177), (4, 197), (4, 151), (4, 198), (4, 153), (4, 199), (4, 155), (4, 165), (4, 167), (4, 157), (4, 193), (4, 194), (4, 196), (4, 157), (5, 101), (5, 102), (5, 103), (4, 187), (4, 143), (4, 187), (4, 188), (4, 189), (4, 190), (4, 145), (4, 190), (4, 191), (4, 192), (4, 193), (4, 147), (5, 100), (5, 91), (5, 92), (5, 93), (4, 172), (5, 94), (5, 95), (5, 96), (5, 97), (4, 160), (4, 159), (5, 98)]) (by decide +kernel) (jw_5 90 rfl rfl) (jw_1 28 rfl rfl) (by decide +kernel) (by decide +kernel)
abbrev mX11_snag : jM := (yX11_snag, cX11_snag, 2, (some .int), [])
theorem fg_X11_210_6 : jFg RX11 210 6 5 := ⟨RX8, TX8, 18, _, rfl, wsX80_tb, by decide, (jw_1 119 rfl rfl), Or.inl rfl⟩
abbrev mX11_hook : jM := (yX11_hook, cX11_hook, 4, (some .boolean), [])
theorem fp_X11_153_6 : jFp RX11 153 6 8 false .int := ⟨RX8, TX8, 18, tyX8, rfl, wsX80_tb, tyX8_ok, nmX8, by decide, (jw_1 131 rfl rfl), rfl, tyX8_ok 8 (by decide), fun q => by cases q⟩
abbrev mX11_sew : jM := (yX11_sew, cX11_sew, 3, (some .int), [])
abbrev mX11_requirePlace : jM := (yX11_requirePlace, cX11_requirePlace, 2, none, [])
theorem sy_X11_requirePlace : jSY mX11_requirePlace 1 := ⟨(jw_5 132 rfl rfl), (jw_1 1 rfl rfl), by decide +kernel, by decide⟩
theorem cv_X11_215_X11_requirePlace : jSv RX11 215 mX11_requirePlace 1 := ⟨(jw_5 129 rfl rfl), (jw_5 131 rfl rfl), (js_2 7 rfl), sy_X11_requirePlace⟩
theorem cv_X11_218_X8_nearestNew : jSv RX11 218 mX8_nearestNew 0 := ⟨(jw_5 134 rfl rfl), (jw_4 108 rfl rfl), (jw_4 109 rfl rfl), sy_X8_nearestNew⟩
theorem cv_X11_221_X8_farthestNew : jSv RX11 221 mX8_farthestNew 0 := ⟨(jw_5 135 rfl rfl), (jw_4 112 rfl rfl), (jw_4 113 rfl rfl), sy_X8_farthestNew⟩
theorem cv_X11_226_X8_add : jSv RX11 226 mX8_add 2 := ⟨(jw_5 137 rfl rfl), (jw_4 117 rfl rfl), (jw_4 118 rfl rfl), sy_X8_add⟩
abbrev mX11_let : jM := (yX11_let, cX11_let, 4, (some .int), [])
abbrev mX11_chair : jM := (yX11_chair, cX11_chair, 4, (some .boolean), [])
theorem fg_X11_229_6 : jFg RX11 229 6 10 := ⟨RX8, TX8, 18, _, rfl, wsX80_tb, by decide, (jw_1 142 rfl rfl), Or.inl rfl⟩
theorem fp_X11_229_6 : jFp RX11 229 6 10 false .int := ⟨RX8, TX8, 18, tyX8, rfl, wsX80_tb, tyX8_ok, nmX8, by decide, (jw_1 142 rfl rfl), rfl, tyX8_ok 10 (by decide), fun q => by cases q⟩
abbrev mX11_hours : jM := (yX11_hours, cX11_hours, 2, (some .int), [])
theorem fg_X11_66_9 : jFg RX11 66 9 8 := ⟨RX11, TX11, 13, _, rfl, wsX110_tb, by decide, (jw_2 108 rfl rfl), Or.inl rfl⟩
theorem cv_X11_232_X1_run : jSv RX11 232 mX1_run 2 := ⟨(jw_5 159 rfl rfl), (jw_5 160 rfl rfl), (jw_5 161 rfl rfl), sy_X1_run⟩
abbrev mX11_shade : jM := (yX11_shade, cX11_shade, 1, (some .int), [])
theorem cv_X11_235_X8_shadow : jSv RX11 235 mX8_shadow 0 := ⟨(jw_2 164 rfl rfl), (jw_2 165 rfl rfl), (jw_2 166 rfl rfl), sy_X8_shadow⟩
abbrev mX11_dark : jM := (yX11_dark, cX11_dark, 1, (some .int), [])
theorem cv_X11_238_X8_shadedChairs : jSv RX11 238 mX8_shadedChairs 0 := ⟨(jw_2 175 rfl rfl), (jw_2 176 rfl rfl), (jw_2 177 rfl rfl), sy_X8_shadedChairs⟩
abbrev mX11_bare : jM := (yX11_bare, cX11_bare, 1, (some .int), [])
abbrev mX11_goes : jM := (yX11_goes, cX11_goes, 3, (some .int), [])
abbrev mX11_with : jM := (yX11_with, cX11_with, 3, (some .int), [])
theorem cv_X11_241_X8_goers : jSv RX11 241 mX8_goers 2 := ⟨(jw_5 193 rfl rfl), (jw_2 221 rfl rfl), (jw_2 222 rfl rfl), sy_X8_goers⟩
abbrev mX11_would : jM := (yX11_would, cX11_would, 5, (some .int), [])
theorem fg_X11_245_6 : jFg RX11 245 6 15 := ⟨RX8, TX8, 18, _, rfl, wsX80_tb, by decide, (jw_1 163 rfl rfl), Or.inl rfl⟩
abbrev mX11_best : jM := (yX11_best, cX11_best, 1, (some .int), [])
theorem fg_X11_73_9 : jFg RX11 73 9 9 := ⟨RX11, TX11, 13, _, rfl, wsX110_tb, by decide, (jw_2 109 rfl rfl), Or.inl rfl⟩
theorem sy_X7_shadiest : jSY mX7_shadiest 1 := ⟨(jw_2 197 rfl rfl), (jw_1 11 rfl rfl), by decide +kernel, by decide⟩
theorem cv_X11_248_X7_shadiest : jSv RX11 248 mX7_shadiest 1 := ⟨(jw_2 194 rfl rfl), (jw_2 195 rfl rfl), (jw_2 196 rfl rfl), sy_X7_shadiest⟩
abbrev mX11_fewest : jM := (yX11_fewest, cX11_fewest, 2, (some .int), [])
theorem sy_X7_seekShade : jSY mX7_seekShade 2 := ⟨(jw_3 2 rfl rfl), (jw_1 11 rfl rfl), by decide +kernel, by decide⟩
theorem cv_X11_252_X7_seekShade : jSv RX11 252 mX7_seekShade 2 := ⟨(jw_2 239 rfl rfl), (jw_3 0 rfl rfl), (jw_3 1 rfl rfl), sy_X7_seekShade⟩
theorem fg_X11_256_5 : jFg RX11 256 5 5 := ⟨RX7, TX7, 7, _, rfl, wsX70_tb, by decide, (jw_2 82 rfl rfl), Or.inl rfl⟩
abbrev mX11_first : jM := (yX11_first, cX11_first, 2, (some .int), [])
theorem fg_X11_259_5 : jFg RX11 259 5 6 := ⟨RX7, TX7, 7, _, rfl, wsX70_tb, by decide, (jw_2 84 rfl rfl), Or.inl rfl⟩
abbrev mX11_snags : jM := (yX11_snags, cX11_snags, 2, (some .int), [])
abbrev mX11_readSnags : jM := (yX11_readSnags, cX11_readSnags, 2, none, [])
theorem sy_X11_readSnags : jSY mX11_readSnags 0 := ⟨(jw_5 211 rfl rfl), (jw_1 1 rfl rfl), by decide +kernel, by decide⟩
theorem cv_X11_262_X11_readSnags : jSv RX11 262 mX11_readSnags 0 := ⟨(jw_5 208 rfl rfl), (jw_5 210 rfl rfl), (js_2 10 rfl), sy_X11_readSnags⟩
theorem fg_X11_268_5 : jFg RX11 268 5 4 := ⟨RX7, TX7, 7, _, rfl, wsX70_tb, by decide, (jw_2 80 rfl rfl), Or.inl rfl⟩
theorem sy_X7_inAllFitting : jSY mX7_inAllFitting 0 := ⟨(jw_5 233 rfl rfl), (jw_1 11 rfl rfl), by decide +kernel, by decide⟩
theorem cv_X11_265_X7_inAllFitting : jSv RX11 265 mX7_inAllFitting 0 := ⟨(jw_5 230 rfl rfl), (jw_5 231 rfl rfl), (jw_5 232 rfl rfl), sy_X7_inAllFitting⟩
abbrev mX11_tries : jM := (yX11_tries, cX11_tries, 1, (some .int), [])
theorem sy_X7_partingPull : jSY mX7_partingPull 1 := ⟨(jw_6 4 rfl rfl), (jw_1 11 rfl rfl), by decide +kernel, by decide⟩
theorem cv_X11_271_X7_partingPull : jSv RX11 271 mX7_partingPull 1 := ⟨(jw_6 1 rfl rfl), (jw_6 2 rfl rfl), (jw_6 3 rfl rfl), sy_X7_partingPull⟩
abbrev mX11_loosen : jM := (yX11_loosen, cX11_loosen, 4, (some .int), [])
theorem sy_X7_fewestFreed : jSY mX7_fewestFreed 4 := ⟨(jw_6 20 rfl rfl), (jw_1 11 rfl rfl), by decide +kernel, by decide⟩
theorem cv_X11_274_X7_fewestFreed : jSv RX11 274 mX7_fewestFreed 4 := ⟨(jw_6 17 rfl rfl), (jw_6 18 rfl rfl), (jw_6 19 rfl rfl), sy_X7_fewestFreed⟩
abbrev mX11_order : jM := (yX11_order, cX11_order, 1, (some .int), [])
theorem sy_X6_outOfOrder : jSY mX6_outOfOrder 1 := ⟨(jw_3 18 rfl rfl), (jw_1 25 rfl rfl), by decide +kernel, by decide⟩
theorem cs_X11_278_X6_outOfOrder : jSs RX11 278 mX6_outOfOrder 1 := ⟨(jw_3 16 rfl rfl), (jw_3 17 rfl rfl), sy_X6_outOfOrder⟩
abbrev mX11_tight : jM := (yX11_tight, cX11_tight, 2, (some .int), [])
theorem sy_X6_tightest : jSY mX6_tightest 2 := ⟨(jw_6 31 rfl rfl), (jw_1 25 rfl rfl), by decide +kernel, by decide⟩
theorem cs_X11_281_X6_tightest : jSs RX11 281 mX6_tightest 2 := ⟨(jw_6 29 rfl rfl), (jw_6 30 rfl rfl), sy_X6_tightest⟩
abbrev mX11_slack : jM := (yX11_slack, cX11_slack, 1, (some .int), [])
theorem sy_X6_spareCloth : jSY mX6_spareCloth 1 := ⟨(jw_3 33 rfl rfl), (jw_1 25 rfl rfl), by decide +kernel, by decide⟩
theorem cs_X11_284_X6_spareCloth : jSs RX11 284 mX6_spareCloth 1 := ⟨(jw_3 31 rfl rfl), (jw_3 32 rfl rfl), sy_X6_spareCloth⟩
abbrev mX11_taut : jM := (yX11_taut, cX11_taut, 1, (some .int), [])
theorem sy_X6_tautRings : jSY mX6_tautRings 1 := ⟨(jw_3 44 rfl rfl), (jw_1 25 rfl rfl), by decide +kernel, by decide⟩
theorem cs_X11_287_X6_tautRings : jSs RX11 287 mX6_tautRings 1 := ⟨(jw_3 42 rfl rfl), (jw_3 43 rfl rfl), sy_X6_tautRings⟩
abbrev mX11_lit : jM := (yX11_lit, cX11_lit, 2, (some .int), [])
theorem th_X11_2 : jTh RX11 290 294 "java/lang/IndexOutOfBoundsException" := jTh_of (js := [(1, 19), (4, 161), (4, 170), (4, 176), (4, 179), (4, 181), (4, 162), (4, 163), (1, 35), (1, 36), (4, 164), (4, 169), (4, 177), (4, 197), (4, 151), (4, 198), (4, 153), (4, 199), (4, 155), (4, 165), (4, 167), (4, 157), (4, 193), (4, 194), (4, 196), (4, 157), (5, 22), (5, 23), (5, 24), (4, 187), (4, 143), (4, 187), (4, 188), (4, 189), (4, 190), (4, 145), (4, 190), (4, 191), (4, 192), (4, 193), (4, 147), (5, 21), (5, 12), (5, 13), (5, 14), (4, 173), (5, 15), (5, 16), (5, 17), (5, 18), (4, 160), (4, 159), (5, 19)]) (by decide +kernel) (jw_5 11 rfl rfl) (jw_1 24 rfl rfl) (by decide +kernel) (by decide +kernel)
theorem sy_X6_litRings : jSY mX6_litRings 2 := ⟨(jw_6 42 rfl rfl), (jw_1 25 rfl rfl), by decide +kernel, by decide⟩
theorem cs_X11_295_X6_litRings : jSs RX11 295 mX6_litRings 2 := ⟨(jw_6 40 rfl rfl), (jw_6 41 rfl rfl), sy_X6_litRings⟩
abbrev mX11_sunny : jM := (yX11_sunny, cX11_sunny, 1, (some .int), [])
theorem sy_X6_sunniest : jSY mX6_sunniest 1 := ⟨(jw_3 54 rfl rfl), (jw_1 25 rfl rfl), by decide +kernel, by decide⟩
theorem cs_X11_298_X6_sunniest : jSs RX11 298 mX6_sunniest 1 := ⟨(jw_3 52 rfl rfl), (jw_3 53 rfl rfl), sy_X6_sunniest⟩
abbrev mX11_faded : jM := (yX11_faded, cX11_faded, 2, (some .int), [])
theorem sy_X1_goAhead : jSY mX1_goAhead 2 := ⟨(jw_6 53 rfl rfl), (jw_1 10 rfl rfl), by decide +kernel, by decide⟩
theorem cv_X11_301_X1_goAhead : jSv RX11 301 mX1_goAhead 2 := ⟨(jw_6 50 rfl rfl), (jw_6 51 rfl rfl), (jw_6 52 rfl rfl), sy_X1_goAhead⟩
theorem cv_X11_304_X8_allFades : jSv RX11 304 mX8_allFades 0 := ⟨(jw_6 54 rfl rfl), (jw_5 37 rfl rfl), (jw_5 38 rfl rfl), sy_X8_allFades⟩
abbrev mX11_pale : jM := (yX11_pale, cX11_pale, 1, (some .int), [])
theorem sy_X1_firstPale : jSY mX1_firstPale 1 := ⟨(jw_3 69 rfl rfl), (jw_1 10 rfl rfl), by decide +kernel, by decide⟩
theorem cv_X11_307_X1_firstPale : jSv RX11 307 mX1_firstPale 1 := ⟨(jw_3 66 rfl rfl), (jw_3 67 rfl rfl), (jw_3 68 rfl rfl), sy_X1_firstPale⟩
abbrev mX11_lets : jM := (yX11_lets, cX11_lets, 3, (some .int), [])
theorem sy_X6_evenLength : jSY mX6_evenLength 3 := ⟨(jw_6 64 rfl rfl), (jw_1 25 rfl rfl), by decide +kernel, by decide⟩
theorem cs_X11_310_X6_evenLength : jSs RX11 310 mX6_evenLength 3 := ⟨(jw_6 62 rfl rfl), (jw_6 63 rfl rfl), sy_X6_evenLength⟩
abbrev mX11_envy : jM := (yX11_envy, cX11_envy, 1, (some .int), [])
theorem sy_X6_enviousPairs : jSY mX6_enviousPairs 1 := ⟨(jw_3 119 rfl rfl), (jw_1 25 rfl rfl), by decide +kernel, by decide⟩
theorem cs_X11_314_X6_enviousPairs : jSs RX11 314 mX6_enviousPairs 1 := ⟨(jw_3 117 rfl rfl), (jw_3 118 rfl rfl), sy_X6_enviousPairs⟩
abbrev mX11_rests : jM := (yX11_rests, cX11_rests, 2, (some .int), [])
theorem sy_X6_restingChoices : jSY mX6_restingChoices 2 := ⟨(jw_6 74 rfl rfl), (jw_1 25 rfl rfl), by decide +kernel, by decide⟩
theorem cs_X11_317_X6_restingChoices : jSs RX11 317 mX6_restingChoices 2 := ⟨(jw_6 72 rfl rfl), (jw_6 73 rfl rfl), sy_X6_restingChoices⟩
abbrev mX11_bunch : jM := (yX11_bunch, cX11_bunch, 1, (some .int), [])
theorem sy_X6_largestBunch : jSY mX6_largestBunch 1 := ⟨(jw_3 129 rfl rfl), (jw_1 25 rfl rfl), by decide +kernel, by decide⟩
theorem cs_X11_320_X6_largestBunch : jSs RX11 320 mX6_largestBunch 1 := ⟨(jw_3 127 rfl rfl), (jw_3 128 rfl rfl), sy_X6_largestBunch⟩
abbrev mX11_wooden : jM := (yX11_wooden, cX11_wooden, 1, (some .int), [])
abbrev mX11_caught : jM := (yX11_caught, cX11_caught, 1, (some .int), [])
abbrev mX11_loose : jM := (yX11_loose, cX11_loose, 1, (some .int), [])
theorem sy_X8_unhooked : jSY mX8_unhooked 0 := ⟨(jw_3 145 rfl rfl), (jw_1 3 rfl rfl), by decide +kernel, by decide⟩
theorem cv_X11_323_X8_unhooked : jSv RX11 323 mX8_unhooked 0 := ⟨(jw_3 142 rfl rfl), (jw_3 143 rfl rfl), (jw_3 144 rfl rfl), sy_X8_unhooked⟩
abbrev mX11_beyond : jM := (yX11_beyond, cX11_beyond, 1, (some .int), [])
theorem sy_X6_thickBeyondJoin : jSY mX6_thickBeyondJoin 1 := ⟨(jw_3 152 rfl rfl), (jw_1 25 rfl rfl), by decide +kernel, by decide⟩
theorem cs_X11_326_X6_thickBeyondJoin : jSs RX11 326 mX6_thickBeyondJoin 1 := ⟨(jw_3 150 rfl rfl), (jw_3 151 rfl rfl), sy_X6_thickBeyondJoin⟩
abbrev mX11_odds : jM := (yX11_odds, cX11_odds, 3, (some .int), [])
theorem sy_X1_oddsToStay : jSY mX1_oddsToStay 3 := ⟨(jw_6 88 rfl rfl), (jw_1 10 rfl rfl), by decide +kernel, by decide⟩
theorem cv_X11_329_X1_oddsToStay : jSv RX11 329 mX1_oddsToStay 3 := ⟨(jw_6 85 rfl rfl), (jw_6 86 rfl rfl), (jw_6 87 rfl rfl), sy_X1_oddsToStay⟩
abbrev mX11_twins : jM := (yX11_twins, cX11_twins, 1, (some .int), [])
theorem sy_X6_likePairs : jSY mX6_likePairs 1 := ⟨(jw_3 159 rfl rfl), (jw_1 25 rfl rfl), by decide +kernel, by decide⟩
theorem cs_X11_332_X6_likePairs : jSs RX11 332 mX6_likePairs 1 := ⟨(jw_3 157 rfl rfl), (jw_3 158 rfl rfl), sy_X6_likePairs⟩
abbrev mX11_ahead : jM := (yX11_ahead, cX11_ahead, 3, (some .int), [])
abbrev mX11_trial : jM := (yX11_trial, cX11_trial, 3, (some .int), [])
theorem fg_X11_335_6 : jFg RX11 335 6 16 := ⟨RX8, TX8, 18, _, rfl, wsX80_tb, by decide, (jw_1 166 rfl rfl), Or.inl rfl⟩
theorem sy_X1_tryHours : jSY mX1_tryHours 3 := ⟨(jw_6 106 rfl rfl), (jw_1 10 rfl rfl), by decide +kernel, by decide⟩
theorem cv_X11_338_X1_tryHours : jSv RX11 338 mX1_tryHours 3 := ⟨(jw_6 103 rfl rfl), (jw_6 104 rfl rfl), (jw_6 105 rfl rfl), sy_X1_tryHours⟩
abbrev mX11_span : jM := (yX11_span, cX11_span, 6, (some .int), [])
theorem cs_X11_342_J6_bitCount_0f7a4 : jSs RX11 342 mJ6_bitCount_0f7a4 1 := ⟨(jw_6 115 rfl rfl), (jw_2 181 rfl rfl), sy_J6_bitCount_0f7a4⟩
abbrev mX11_led : jM := (yX11_led, cX11_led, 3, (some .int), [])
theorem sy_X5_rowsOf : jSY mX5_rowsOf 1 := ⟨(jw_6 139 rfl rfl), (jw_1 4 rfl rfl), by decide +kernel, by decide⟩
theorem cv_X11_351_X5_rowsOf : jSv RX11 351 mX5_rowsOf 1 := ⟨(jw_6 136 rfl rfl), (jw_6 137 rfl rfl), (jw_6 138 rfl rfl), sy_X5_rowsOf⟩
theorem sy_X5_latestPlace : jSY mX5_latestPlace 1 := ⟨(jw_6 126 rfl rfl), (jw_1 4 rfl rfl), by decide +kernel, by decide⟩
theorem cv_X11_348_X5_latestPlace : jSv RX11 348 mX5_latestPlace 1 := ⟨(jw_6 123 rfl rfl), (jw_6 124 rfl rfl), (jw_6 125 rfl rfl), sy_X5_latestPlace⟩
abbrev mX11_log : jM := (yX11_log, cX11_log, 3, (some .int), [])
theorem cv_X11_356_X5_read : jSv RX11 356 mX5_read 2 := ⟨(jw_6 148 rfl rfl), (jw_6 128 rfl rfl), (jw_6 129 rfl rfl), sy_X5_read⟩
abbrev mX11_seed : jM := (yX11_seed, cX11_seed, 3, (some .int), [])
theorem fp_X11_335_6 : jFp RX11 335 6 16 false .int := ⟨RX8, TX8, 18, tyX8, rfl, wsX80_tb, tyX8_ok, nmX8, by decide, (jw_1 166 rfl rfl), rfl, tyX8_ok 16 (by decide), fun q => by cases q⟩
abbrev mX11_undo : jM := (yX11_undo, cX11_undo, 1, (some .boolean), [])
theorem sy_X0_takeBack : jSY mX0_takeBack 1 := ⟨(jw_3 171 rfl rfl), (jw_1 6 rfl rfl), by decide +kernel, by decide⟩
theorem cv_X11_358_X0_takeBack : jSv RX11 358 mX0_takeBack 1 := ⟨(jw_3 168 rfl rfl), (jw_3 169 rfl rfl), (jw_3 170 rfl rfl), sy_X0_takeBack⟩
abbrev mX11_image : jM := (yX11_image, cX11_image, 1, none, [])
theorem fg_X11_362_9 : jFg RX11 362 9 10 := ⟨RX11, TX11, 13, _, rfl, wsX110_tb, by decide, (jw_2 110 rfl rfl), Or.inl rfl⟩
theorem fp_X11_362_9 : jFp RX11 362 9 10 false (.object "RodRings$Rod") := ⟨RX11, TX11, 13, tyX11, rfl, wsX110_tb, tyX11_ok, nmX11, by decide, (jw_2 110 rfl rfl), rfl, tyX11_ok 10 (by decide), fun q => by cases q⟩
theorem fg_X11_365_9 : jFg RX11 365 9 11 := ⟨RX11, TX11, 13, _, rfl, wsX110_tb, by decide, (jw_2 111 rfl rfl), Or.inl rfl⟩
theorem fp_X11_365_9 : jFp RX11 365 9 11 false (.object "RodRings$Law") := ⟨RX11, TX11, 13, tyX11, rfl, wsX110_tb, tyX11_ok, nmX11, by decide, (jw_2 111 rfl rfl), rfl, tyX11_ok 11 (by decide), fun q => by cases q⟩
abbrev mX11_back : jM := (yX11_back, cX11_back, 1, (some .boolean), [])
abbrev mX11_count : jM := (yX11_count, cX11_count, 2, (some .int), [])
theorem fg_X11_368_2 : jFg RX11 368 2 7 := ⟨RX2, TX2, 9, _, rfl, wsX20_tb, by decide, (jw_1 220 rfl rfl), Or.inl rfl⟩
theorem fg_X11_372_6 : jFg RX11 372 6 13 := ⟨RX8, TX8, 18, _, rfl, wsX80_tb, by decide, (jw_1 155 rfl rfl), Or.inl rfl⟩
theorem fg_X11_375_6 : jFg RX11 375 6 14 := ⟨RX8, TX8, 18, _, rfl, wsX80_tb, by decide, (jw_1 161 rfl rfl), Or.inl rfl⟩
theorem fg_X11_378_6 : jFg RX11 378 6 11 := ⟨RX8, TX8, 18, _, rfl, wsX80_tb, by decide, (jw_1 146 rfl rfl), Or.inl rfl⟩
theorem fg_X11_381_6 : jFg RX11 381 6 12 := ⟨RX8, TX8, 18, _, rfl, wsX80_tb, by decide, (jw_1 149 rfl rfl), Or.inl rfl⟩
theorem fg_X11_384_4 : jFg RX11 384 4 1 := ⟨RX5, TX5, 3, _, rfl, wsX50_tb, by decide, (jw_1 83 rfl rfl), Or.inl rfl⟩
theorem fg_X11_387_0 : jFg RX11 387 0 2 := ⟨RX0, TX0, 3, _, rfl, wsX00_tb, by decide, (jw_2 13 rfl rfl), Or.inl rfl⟩
theorem sy_X7_areRows : jSY mX7_areRows 1 := ⟨(jw_5 215 rfl rfl), (jw_1 11 rfl rfl), by decide +kernel, by decide⟩
theorem cv_X11_394_X7_areRows : jSv RX11 394 mX7_areRows 1 := ⟨(jw_5 212 rfl rfl), (jw_5 213 rfl rfl), (jw_5 214 rfl rfl), sy_X7_areRows⟩
theorem sy_X7_seekSnags : jSY mX7_seekSnags 1 := ⟨(jw_5 220 rfl rfl), (jw_1 11 rfl rfl), by decide +kernel, by decide⟩
theorem cv_X11_398_X7_seekSnags : jSv RX11 398 mX7_seekSnags 1 := ⟨(jw_5 217 rfl rfl), (jw_5 218 rfl rfl), (jw_5 219 rfl rfl), sy_X7_seekSnags⟩
abbrev mX12_throwsIf : jM := (yX12_throwsIf, cX12_throwsIf, 3, (some .boolean), [])
theorem fp_X12_3_10 : jFp RX12 3 10 0 false .int := ⟨RX12, TX12, 22, tyX12, rfl, wsX120_tb, tyX12_ok, nmX12, by decide, (jw_6 155 rfl rfl), rfl, tyX12_ok 0 (by decide), fun q => by cases q⟩
abbrev mX12_in : jM := (yX12_in, cX12_in, 3, (some .boolean), [])
abbrev mX12_has : jM := (yX12_has, cX12_has, 2, (some .boolean), [])
abbrev mX12_init : jM := (yX12_init, cX12_init, 1, none, [])
theorem oi_X12_7 : Cond.methodLink RX12 7 Lib.objectInit ∈ jall ∧ Cond.instanceMethod Lib.objectInit ∈ jall ∧ Cond.code Lib.objectInit ⟨#[0xb1]⟩ 1 none ∈ jall := ⟨(jw_6 154 rfl rfl), (jw_1 35 rfl rfl), (jw_1 36 rfl rfl)⟩
theorem fp_X12_13_10 : jFp RX12 13 10 1 true (.array .int) := ⟨RX12, TX12, 22, tyX12, rfl, wsX120_tb, tyX12_ok, nmX12, by decide, (jw_6 156 rfl rfl), rfl, tyX12_ok 1 (by decide), fun _ => rfl⟩
theorem fp_X12_17_10 : jFp RX12 17 10 2 true (.array .int) := ⟨RX12, TX12, 22, tyX12, rfl, wsX120_tb, tyX12_ok, nmX12, by decide, (jw_6 157 rfl rfl), rfl, tyX12_ok 2 (by decide), fun _ => rfl⟩
theorem fp_X12_20_10 : jFp RX12 20 10 3 true (.array .int) := ⟨RX12, TX12, 22, tyX12, rfl, wsX120_tb, tyX12_ok, nmX12, by decide, (jw_6 158 rfl rfl), rfl, tyX12_ok 3 (by decide), fun _ => rfl⟩
theorem fp_X12_23_10 : jFp RX12 23 10 4 true (.array .int) := ⟨RX12, TX12, 22, tyX12, rfl, wsX120_tb, tyX12_ok, nmX12, by decide, (jw_6 159 rfl rfl), rfl, tyX12_ok 4 (by decide), fun _ => rfl⟩
theorem fp_X12_26_10 : jFp RX12 26 10 5 true (.array .int) := ⟨RX12, TX12, 22, tyX12, rfl, wsX120_tb, tyX12_ok, nmX12, by decide, (jw_6 160 rfl rfl), rfl, tyX12_ok 5 (by decide), fun _ => rfl⟩
theorem fp_X12_29_10 : jFp RX12 29 10 8 true (.array .byte) := ⟨RX12, TX12, 22, tyX12, rfl, wsX120_tb, tyX12_ok, nmX12, by decide, (jw_6 163 rfl rfl), rfl, tyX12_ok 8 (by decide), fun _ => rfl⟩
theorem fp_X12_33_10 : jFp RX12 33 10 14 false .int := ⟨RX12, TX12, 22, tyX12, rfl, wsX120_tb, tyX12_ok, nmX12, by decide, (jw_6 169 rfl rfl), rfl, tyX12_ok 14 (by decide), fun q => by cases q⟩
theorem fp_X12_36_10 : jFp RX12 36 10 15 true (.array .int) := ⟨RX12, TX12, 22, tyX12, rfl, wsX120_tb, tyX12_ok, nmX12, by decide, (jw_6 170 rfl rfl), rfl, tyX12_ok 15 (by decide), fun _ => rfl⟩
theorem fp_X12_39_10 : jFp RX12 39 10 17 true (.array .int) := ⟨RX12, TX12, 22, tyX12, rfl, wsX120_tb, tyX12_ok, nmX12, by decide, (jw_6 172 rfl rfl), rfl, tyX12_ok 17 (by decide), fun _ => rfl⟩
theorem ac_boolean : Cond.arrayClass .boolean ∈ jall := (jw_6 222 rfl rfl)
theorem fp_X12_42_10 : jFp RX12 42 10 19 true (.array .boolean) := ⟨RX12, TX12, 22, tyX12, rfl, wsX120_tb, tyX12_ok, nmX12, by decide, (jw_6 174 rfl rfl), rfl, tyX12_ok 19 (by decide), fun _ => rfl⟩
theorem fp_X12_46_10 : jFp RX12 46 10 20 true (.array .int) := ⟨RX12, TX12, 22, tyX12, rfl, wsX120_tb, tyX12_ok, nmX12, by decide, (jw_6 175 rfl rfl), rfl, tyX12_ok 20 (by decide), fun _ => rfl⟩
theorem fp_X12_49_10 : jFp RX12 49 10 21 true (.array .int) := ⟨RX12, TX12, 22, tyX12, rfl, wsX120_tb, tyX12_ok, nmX12, by decide, (jw_6 176 rfl rfl), rfl, tyX12_ok 21 (by decide), fun _ => rfl⟩
theorem fg_X12_13_10 : jFg RX12 13 10 1 := ⟨RX12, TX12, 22, _, rfl, wsX120_tb, by decide, (jw_6 156 rfl rfl), Or.inl rfl⟩
abbrev mX12_image : jM := (yX12_image, cX12_image, 2, none, [])
theorem fp_X12_52_10 : jFp RX12 52 10 6 false .boolean := ⟨RX12, TX12, 22, tyX12, rfl, wsX120_tb, tyX12_ok, nmX12, by decide, (jw_6 161 rfl rfl), rfl, tyX12_ok 6 (by decide), fun q => by cases q⟩
theorem fg_X12_17_10 : jFg RX12 17 10 2 := ⟨RX12, TX12, 22, _, rfl, wsX120_tb, by decide, (jw_6 157 rfl rfl), Or.inl rfl⟩
abbrev mX12_back : jM := (yX12_back, cX12_back, 2, (some .boolean), [])
theorem fg_X12_52_10 : jFg RX12 52 10 6 := ⟨RX12, TX12, 22, _, rfl, wsX120_tb, by decide, (jw_6 161 rfl rfl), Or.inl rfl⟩
theorem fp_X12_56_10 : jFp RX12 56 10 7 false .int := ⟨RX12, TX12, 22, tyX12, rfl, wsX120_tb, tyX12_ok, nmX12, by decide, (jw_6 162 rfl rfl), rfl, tyX12_ok 7 (by decide), fun q => by cases q⟩
abbrev mX12_remembers : jM := (yX12_remembers, cX12_remembers, 2, none, [])
theorem fg_X12_56_10 : jFg RX12 56 10 7 := ⟨RX12, TX12, 22, _, rfl, wsX120_tb, by decide, (jw_6 162 rfl rfl), Or.inl rfl⟩
theorem fg_X12_26_10 : jFg RX12 26 10 5 := ⟨RX12, TX12, 22, _, rfl, wsX120_tb, by decide, (jw_6 160 rfl rfl), Or.inl rfl⟩
abbrev mX12_undo : jM := (yX12_undo, cX12_undo, 2, (some .boolean), [])
abbrev mX12_rings : jM := (yX12_rings, cX12_rings, 1, (some .int), [])
abbrev mX12_lastRing : jM := (yX12_lastRing, cX12_lastRing, 1, (some .int), [])
theorem sy_X12_rings : jSY mX12_rings 0 := ⟨(jw_7 53 rfl rfl), (jw_1 12 rfl rfl), by decide +kernel, by decide⟩
theorem cv_X12_59_X12_rings : jSv RX12 59 mX12_rings 0 := ⟨(jw_7 50 rfl rfl), (jw_7 52 rfl rfl), (js_3 7 rfl), sy_X12_rings⟩
abbrev mX12_at : jM := (yX12_at, cX12_at, 2, (some .int), [])
abbrev mX12_of : jM := (yX12_of, cX12_of, 3, (some .int), [])
theorem sy_X12_at : jSY mX12_at 2 := ⟨(jw_7 69 rfl rfl), (jw_1 12 rfl rfl), by decide +kernel, by decide⟩
theorem cs_X12_63_X12_at : jSs RX12 63 mX12_at 2 := ⟨(jw_7 67 rfl rfl), (jw_7 68 rfl rfl), sy_X12_at⟩
abbrev mX12_is : jM := (yX12_is, cX12_is, 3, (some .boolean), [])
theorem sy_X12_of : jSY mX12_of 2 := ⟨(jw_7 66 rfl rfl), (jw_1 12 rfl rfl), by decide +kernel, by decide⟩
theorem cv_X12_67_X12_of : jSv RX12 67 mX12_of 2 := ⟨(jw_7 63 rfl rfl), (jw_7 65 rfl rfl), (js_3 10 rfl), sy_X12_of⟩
abbrev mX12_gapOf : jM := (yX12_gapOf, cX12_gapOf, 2, (some .int), [])
theorem sy_X12_lastRing : jSY mX12_lastRing 0 := ⟨(jw_7 62 rfl rfl), (jw_1 12 rfl rfl), by decide +kernel, by decide⟩
theorem cv_X12_70_X12_lastRing : jSv RX12 70 mX12_lastRing 0 := ⟨(jw_7 59 rfl rfl), (jw_7 61 rfl rfl), (js_3 9 rfl), sy_X12_lastRing⟩
abbrev mX12_ringsThat : jM := (yX12_ringsThat, cX12_ringsThat, 4, (some .int), [])
theorem sy_X12_is : jSY mX12_is 2 := ⟨(jw_7 214 rfl rfl), (jw_1 12 rfl rfl), by decide +kernel, by decide⟩
theorem cv_X12_73_X12_is : jSv RX12 73 mX12_is 2 := ⟨(jw_7 211 rfl rfl), (jw_7 213 rfl rfl), (js_5 6 rfl), sy_X12_is⟩
abbrev mX12_noRing : jM := (yX12_noRing, cX12_noRing, 2, (some .boolean), [])
theorem sy_X12_in : jSY mX12_in 3 := ⟨(jw_7 182 rfl rfl), (jw_1 12 rfl rfl), by decide +kernel, by decide⟩
theorem cs_X12_77_X12_in : jSs RX12 77 mX12_in 3 := ⟨(jw_7 180 rfl rfl), (jw_7 181 rfl rfl), sy_X12_in⟩
abbrev mX12_noPlace : jM := (yX12_noPlace, cX12_noPlace, 1, (some .boolean), [])
abbrev mX12_noSteps : jM := (yX12_noSteps, cX12_noSteps, 1, (some .boolean), [])
abbrev mX12_drawn : jM := (yX12_drawn, cX12_drawn, 2, (some .int), [])
theorem kc_X12_81 : Cond.constant RX12 81 (1103515245 : Int32) ∈ jall := (jw_8 74 rfl rfl)
abbrev mX12_feed : jM := (yX12_feed, cX12_feed, 7, (some .int), [])
theorem fg_X12_82_10 : jFg RX12 82 10 9 := ⟨RX12, TX12, 22, _, rfl, wsX120_tb, by decide, (jw_6 164 rfl rfl), Or.inl rfl⟩
theorem fg_X12_36_10 : jFg RX12 36 10 15 := ⟨RX12, TX12, 22, _, rfl, wsX120_tb, by decide, (jw_6 170 rfl rfl), Or.inl rfl⟩
theorem fp_X12_82_10 : jFp RX12 82 10 9 false .int := ⟨RX12, TX12, 22, tyX12, rfl, wsX120_tb, tyX12_ok, nmX12, by decide, (jw_6 164 rfl rfl), rfl, tyX12_ok 9 (by decide), fun q => by cases q⟩
theorem fg_X12_29_10 : jFg RX12 29 10 8 := ⟨RX12, TX12, 22, _, rfl, wsX120_tb, by decide, (jw_6 163 rfl rfl), Or.inl rfl⟩
abbrev mX12_end : jM := (yX12_end, cX12_end, 2, (some .boolean), [])
abbrev mX12_isAt : jM := (yX12_isAt, cX12_isAt, 3, (some .boolean), [])
theorem fg_X12_85_10 : jFg RX12 85 10 10 := ⟨RX12, TX12, 22, _, rfl, wsX120_tb, by decide, (jw_6 165 rfl rfl), Or.inl rfl⟩
theorem fg_X12_88_10 : jFg RX12 88 10 11 := ⟨RX12, TX12, 22, _, rfl, wsX120_tb, by decide, (jw_6 166 rfl rfl), Or.inl rfl⟩
abbrev mX12_blanks : jM := (yX12_blanks, cX12_blanks, 1, none, [])
theorem sy_X12_isAt : jSY mX12_isAt 2 := ⟨(jw_7 26 rfl rfl), (jw_1 12 rfl rfl), by decide +kernel, by decide⟩
theorem cv_X12_91_X12_isAt : jSv RX12 91 mX12_isAt 2 := ⟨(jw_7 23 rfl rfl), (jw_7 25 rfl rfl), (js_3 1 rfl), sy_X12_isAt⟩
theorem fp_X12_94_10 : jFp RX12 94 10 12 false .int := ⟨RX12, TX12, 22, tyX12, rfl, wsX120_tb, tyX12_ok, nmX12, by decide, (jw_6 167 rfl rfl), rfl, tyX12_ok 12 (by decide), fun q => by cases q⟩
theorem fp_X12_85_10 : jFp RX12 85 10 10 false .int := ⟨RX12, TX12, 22, tyX12, rfl, wsX120_tb, tyX12_ok, nmX12, by decide, (jw_6 165 rfl rfl), rfl, tyX12_ok 10 (by decide), fun q => by cases q⟩
abbrev mX12_letters : jM := (yX12_letters, cX12_letters, 1, none, [])
theorem sy_X12_blanks : jSY mX12_blanks 0 := ⟨(jw_7 22 rfl rfl), (jw_1 12 rfl rfl), by decide +kernel, by decide⟩
theorem cv_X12_97_X12_blanks : jSv RX12 97 mX12_blanks 0 := ⟨(jw_7 19 rfl rfl), (jw_7 21 rfl rfl), (js_3 0 rfl), sy_X12_blanks⟩
abbrev mX12_isWord : jM := (yX12_isWord, cX12_isWord, 4, (some .boolean), [])
theorem fg_X12_94_10 : jFg RX12 94 10 12 := ⟨RX12, TX12, 22, _, rfl, wsX120_tb, by decide, (jw_6 167 rfl rfl), Or.inl rfl⟩
theorem ss_X12_100 : jSv RX12 100 mJ0_length_8abf5 0 := ⟨(jw_7 44 rfl rfl), (jw_3 232 rfl rfl), (jw_3 233 rfl rfl), sy_J0_length_8abf5⟩
theorem ss_X12_105 : jSv RX12 105 mJ0_charAt_5068e 1 := ⟨(jw_7 45 rfl rfl), (jw_4 2 rfl rfl), (jw_4 3 rfl rfl), sy_J0_charAt_5068e⟩
abbrev mX12_passes : jM := (yX12_passes, cX12_passes, 2, (some .boolean), [])
theorem sy_X12_letters : jSY mX12_letters 0 := ⟨(jw_7 34 rfl rfl), (jw_1 12 rfl rfl), by decide +kernel, by decide⟩
theorem cv_X12_109_X12_letters : jSv RX12 109 mX12_letters 0 := ⟨(jw_7 31 rfl rfl), (jw_7 33 rfl rfl), (js_3 3 rfl), sy_X12_letters⟩
theorem sy_X12_isWord : jSY mX12_isWord 1 := ⟨(jw_7 43 rfl rfl), (jw_1 12 rfl rfl), by decide +kernel, by decide⟩
theorem cv_X12_112_X12_isWord : jSv RX12 112 mX12_isWord 1 := ⟨(jw_7 40 rfl rfl), (jw_7 42 rfl rfl), (js_3 5 rfl), sy_X12_isWord⟩
abbrev mX12_sign : jM := (yX12_sign, cX12_sign, 2, (some .boolean), [])
abbrev mX12_number : jM := (yX12_number, cX12_number, 4, (some .int), [])
abbrev mX12_after : jM := (yX12_after, cX12_after, 4, (some .int), [])
theorem sy_X12_number : jSY mX12_number 2 := ⟨(jw_7 82 rfl rfl), (jw_1 12 rfl rfl), by decide +kernel, by decide⟩
theorem cv_X12_116_X12_number : jSv RX12 116 mX12_number 2 := ⟨(jw_7 79 rfl rfl), (jw_7 81 rfl rfl), (js_3 13 rfl), sy_X12_number⟩
abbrev mX12_fault : jM := (yX12_fault, cX12_fault, 1, (some .int), [])
theorem fg_X12_33_10 : jFg RX12 33 10 14 := ⟨RX12, TX12, 22, _, rfl, wsX120_tb, by decide, (jw_6 169 rfl rfl), Or.inl rfl⟩
abbrev mX12_uses : jM := (yX12_uses, cX12_uses, 1, none, [])
theorem fp_X12_88_10 : jFp RX12 88 10 11 false .int := ⟨RX12, TX12, 22, tyX12, rfl, wsX120_tb, tyX12_ok, nmX12, by decide, (jw_6 166 rfl rfl), rfl, tyX12_ok 11 (by decide), fun q => by cases q⟩
abbrev mX12_readNumber : jM := (yX12_readNumber, cX12_readNumber, 5, (some .boolean), [])
abbrev mX12_leastPlace : jM := (yX12_leastPlace, cX12_leastPlace, 1, (some .int), [])
abbrev mX12_mostPlace : jM := (yX12_mostPlace, cX12_mostPlace, 1, (some .int), [])
theorem mm_X12_119 : Cond.methodLink RX12 119 Lib.Math.min.name ∈ jall ∧ Cond.static Lib.Math.min.name ∈ jall ∧ Cond.initialized "java/lang/Math" ∈ jall ∧ Cond.code Lib.Math.min.name Lib.Math.min.code 2 (some .int) ∈ jall := ⟨(jw_7 74 rfl rfl), (jw_2 233 rfl rfl), (jw_1 18 rfl rfl), (jw_2 234 rfl rfl)⟩
abbrev mX12_hangs : jM := (yX12_hangs, cX12_hangs, 5, none, [])
abbrev mX12_readRing : jM := (yX12_readRing, cX12_readRing, 8, (some .boolean), [])
theorem sy_X12_leastPlace : jSY mX12_leastPlace 0 := ⟨(jw_7 58 rfl rfl), (jw_1 12 rfl rfl), by decide +kernel, by decide⟩
theorem cv_X12_125_X12_leastPlace : jSv RX12 125 mX12_leastPlace 0 := ⟨(jw_7 55 rfl rfl), (jw_7 57 rfl rfl), (js_3 8 rfl), sy_X12_leastPlace⟩
theorem sy_X12_mostPlace : jSY mX12_mostPlace 0 := ⟨(jw_7 73 rfl rfl), (jw_1 12 rfl rfl), by decide +kernel, by decide⟩
theorem cv_X12_128_X12_mostPlace : jSv RX12 128 mX12_mostPlace 0 := ⟨(jw_7 70 rfl rfl), (jw_7 72 rfl rfl), (js_3 11 rfl), sy_X12_mostPlace⟩
theorem sy_X12_after : jSY mX12_after 3 := ⟨(jw_7 78 rfl rfl), (jw_1 12 rfl rfl), by decide +kernel, by decide⟩
theorem cv_X12_131_X12_after : jSv RX12 131 mX12_after 3 := ⟨(jw_7 75 rfl rfl), (jw_7 77 rfl rfl), (js_3 12 rfl), sy_X12_after⟩
theorem sy_X12_passes : jSY mX12_passes 1 := ⟨(jw_7 88 rfl rfl), (jw_1 12 rfl rfl), by decide +kernel, by decide⟩
theorem cv_X12_139_X12_passes : jSv RX12 139 mX12_passes 1 := ⟨(jw_7 85 rfl rfl), (jw_7 87 rfl rfl), (js_3 14 rfl), sy_X12_passes⟩
theorem sy_X12_hangs : jSY mX12_hangs 2 := ⟨(jw_7 95 rfl rfl), (jw_1 12 rfl rfl), by decide +kernel, by decide⟩
theorem cv_X12_148_X12_hangs : jSv RX12 148 mX12_hangs 2 := ⟨(jw_7 92 rfl rfl), (jw_7 94 rfl rfl), (js_3 15 rfl), sy_X12_hangs⟩
abbrev mX12_readCaught : jM := (yX12_readCaught, cX12_readCaught, 2, (some .boolean), [])
abbrev mX12_readChair : jM := (yX12_readChair, cX12_readChair, 2, (some .boolean), [])
abbrev mX12_readPoleLine : jM := (yX12_readPoleLine, cX12_readPoleLine, 1, (some .boolean), [])
theorem sy_X12_readNumber : jSY mX12_readNumber 3 := ⟨(jw_7 110 rfl rfl), (jw_1 12 rfl rfl), by decide +kernel, by decide⟩
theorem cv_X12_170_X12_readNumber : jSv RX12 170 mX12_readNumber 3 := ⟨(jw_7 107 rfl rfl), (jw_7 109 rfl rfl), (js_4 2 rfl), sy_X12_readNumber⟩
theorem sy_X12_readChair : jSY mX12_readChair 0 := ⟨(jw_7 105 rfl rfl), (jw_1 12 rfl rfl), by decide +kernel, by decide⟩
theorem cv_X12_165_X12_readChair : jSv RX12 165 mX12_readChair 0 := ⟨(jw_7 102 rfl rfl), (jw_7 104 rfl rfl), (js_4 1 rfl), sy_X12_readChair⟩
theorem sy_X12_readCaught : jSY mX12_readCaught 0 := ⟨(jw_7 100 rfl rfl), (jw_1 12 rfl rfl), by decide +kernel, by decide⟩
theorem cv_X12_160_X12_readCaught : jSv RX12 160 mX12_readCaught 0 := ⟨(jw_7 97 rfl rfl), (jw_7 99 rfl rfl), (js_4 0 rfl), sy_X12_readCaught⟩
theorem sy_X12_readRing : jSY mX12_readRing 0 := ⟨(jw_7 49 rfl rfl), (jw_1 12 rfl rfl), by decide +kernel, by decide⟩
theorem cv_X12_154_X12_readRing : jSv RX12 154 mX12_readRing 0 := ⟨(jw_7 46 rfl rfl), (jw_7 48 rfl rfl), (js_3 6 rfl), sy_X12_readRing⟩
abbrev mX12_emits : jM := (yX12_emits, cX12_emits, 3, none, [])
theorem fg_X12_179_10 : jFg RX12 179 10 16 := ⟨RX12, TX12, 22, _, rfl, wsX120_tb, by decide, (jw_6 171 rfl rfl), Or.inl rfl⟩
theorem fp_X12_179_10 : jFp RX12 179 10 16 false .int := ⟨RX12, TX12, 22, tyX12, rfl, wsX120_tb, tyX12_ok, nmX12, by decide, (jw_6 171 rfl rfl), rfl, tyX12_ok 16 (by decide), fun q => by cases q⟩
abbrev mX12_wordOfPart : jM := (yX12_wordOfPart, cX12_wordOfPart, 1, (some .int), [])
abbrev mX12_readPart : jM := (yX12_readPart, cX12_readPart, 3, (some .boolean), [])
theorem sy_X12_wordOfPart : jSY mX12_wordOfPart 0 := ⟨(jw_7 159 rfl rfl), (jw_1 12 rfl rfl), by decide +kernel, by decide⟩
theorem cv_X12_186_X12_wordOfPart : jSv RX12 186 mX12_wordOfPart 0 := ⟨(jw_7 156 rfl rfl), (jw_7 158 rfl rfl), (js_4 12 rfl), sy_X12_wordOfPart⟩
theorem sy_X12_emits : jSY mX12_emits 2 := ⟨(jw_7 141 rfl rfl), (jw_1 12 rfl rfl), by decide +kernel, by decide⟩
theorem cv_X12_189_X12_emits : jSv RX12 189 mX12_emits 2 := ⟨(jw_7 138 rfl rfl), (jw_7 140 rfl rfl), (js_4 8 rfl), sy_X12_emits⟩
abbrev mX12_readSum : jM := (yX12_readSum, cX12_readSum, 1, (some .boolean), [])
theorem sy_X12_readPart : jSY mX12_readPart 0 := ⟨(jw_7 155 rfl rfl), (jw_1 12 rfl rfl), by decide +kernel, by decide⟩
theorem cv_X12_192_X12_readPart : jSv RX12 192 mX12_readPart 0 := ⟨(jw_7 152 rfl rfl), (jw_7 154 rfl rfl), (js_4 11 rfl), sy_X12_readPart⟩
theorem sy_X12_sign : jSY mX12_sign 1 := ⟨(jw_7 136 rfl rfl), (jw_1 12 rfl rfl), by decide +kernel, by decide⟩
theorem cv_X12_195_X12_sign : jSv RX12 195 mX12_sign 1 := ⟨(jw_7 133 rfl rfl), (jw_7 135 rfl rfl), (js_4 7 rfl), sy_X12_sign⟩
abbrev mX12_readTag : jM := (yX12_readTag, cX12_readTag, 2, (some .boolean), [])
abbrev mX12_readAtom : jM := (yX12_readAtom, cX12_readAtom, 2, (some .boolean), [])
theorem sy_X12_readTag : jSY mX12_readTag 0 := ⟨(jw_7 145 rfl rfl), (jw_1 12 rfl rfl), by decide +kernel, by decide⟩
theorem cv_X12_214_X12_readTag : jSv RX12 214 mX12_readTag 0 := ⟨(jw_7 142 rfl rfl), (jw_7 144 rfl rfl), (js_4 9 rfl), sy_X12_readTag⟩
theorem sy_X12_readSum : jSY mX12_readSum 0 := ⟨(jw_7 151 rfl rfl), (jw_1 12 rfl rfl), by decide +kernel, by decide⟩
theorem cv_X12_217_X12_readSum : jSv RX12 217 mX12_readSum 0 := ⟨(jw_7 148 rfl rfl), (jw_7 150 rfl rfl), (js_4 10 rfl), sy_X12_readSum⟩
theorem fg_X12_203_10 : jFg RX12 203 10 13 := ⟨RX12, TX12, 22, _, rfl, wsX120_tb, by decide, (jw_6 168 rfl rfl), Or.inl rfl⟩
theorem fp_X12_203_10 : jFp RX12 203 10 13 false .int := ⟨RX12, TX12, 22, tyX12, rfl, wsX120_tb, tyX12_ok, nmX12, by decide, (jw_6 168 rfl rfl), rfl, tyX12_ok 13 (by decide), fun q => by cases q⟩
theorem sy_X12_readAtom : jSY mX12_readAtom 0 := ⟨(jw_7 132 rfl rfl), (jw_1 12 rfl rfl), by decide +kernel, by decide⟩
theorem cv_X12_211_X12_readAtom : jSv RX12 211 mX12_readAtom 0 := ⟨(jw_7 129 rfl rfl), (jw_7 131 rfl rfl), (js_4 6 rfl), sy_X12_readAtom⟩
abbrev mX12_readCond : jM := (yX12_readCond, cX12_readCond, 1, (some .boolean), [])
theorem sy_X12_readCond : jSY mX12_readCond 0 := ⟨(jw_7 124 rfl rfl), (jw_1 12 rfl rfl), by decide +kernel, by decide⟩
theorem cv_X12_206_X12_readCond : jSv RX12 206 mX12_readCond 0 := ⟨(jw_7 121 rfl rfl), (jw_7 123 rfl rfl), (js_4 4 rfl), sy_X12_readCond⟩
abbrev mX12_readAllOf : jM := (yX12_readAllOf, cX12_readAllOf, 1, (some .boolean), [])
theorem sy_X12_readAllOf : jSY mX12_readAllOf 0 := ⟨(jw_7 128 rfl rfl), (jw_1 12 rfl rfl), by decide +kernel, by decide⟩
theorem cv_X12_222_X12_readAllOf : jSv RX12 222 mX12_readAllOf 0 := ⟨(jw_7 125 rfl rfl), (jw_7 127 rfl rfl), (js_4 5 rfl), sy_X12_readAllOf⟩
abbrev mX12_readLawLine : jM := (yX12_readLawLine, cX12_readLawLine, 3, (some .boolean), [])
abbrev mX12_readLine : jM := (yX12_readLine, cX12_readLine, 3, (some .boolean), [])
theorem sy_X12_readLawLine : jSY mX12_readLawLine 1 := ⟨(jw_7 117 rfl rfl), (jw_1 12 rfl rfl), by decide +kernel, by decide⟩
theorem cv_X12_236_X12_readLawLine : jSv RX12 236 mX12_readLawLine 1 := ⟨(jw_7 114 rfl rfl), (jw_7 116 rfl rfl), (js_4 3 rfl), sy_X12_readLawLine⟩
theorem sy_X12_readPoleLine : jSY mX12_readPoleLine 0 := ⟨(jw_7 38 rfl rfl), (jw_1 12 rfl rfl), by decide +kernel, by decide⟩
theorem cv_X12_233_X12_readPoleLine : jSv RX12 233 mX12_readPoleLine 0 := ⟨(jw_7 35 rfl rfl), (jw_7 37 rfl rfl), (js_3 4 rfl), sy_X12_readPoleLine⟩
abbrev mX12_readAll : jM := (yX12_readAll, cX12_readAll, 3, (some .int), [])
theorem sy_X12_uses : jSY mX12_uses 0 := ⟨(jw_7 18 rfl rfl), (jw_1 12 rfl rfl), by decide +kernel, by decide⟩
theorem cv_X12_239_X12_uses : jSv RX12 239 mX12_uses 0 := ⟨(jw_7 15 rfl rfl), (jw_7 17 rfl rfl), (js_2 15 rfl), sy_X12_uses⟩
theorem sy_X12_readLine : jSY mX12_readLine 2 := ⟨(jw_7 30 rfl rfl), (jw_1 12 rfl rfl), by decide +kernel, by decide⟩
theorem cv_X12_242_X12_readLine : jSv RX12 242 mX12_readLine 2 := ⟨(jw_7 27 rfl rfl), (jw_7 29 rfl rfl), (js_3 2 rfl), sy_X12_readLine⟩
abbrev mX12_pole : jM := (yX12_pole, cX12_pole, 3, (some .int), [])
theorem sy_X12_readAll : jSY mX12_readAll 1 := ⟨(jw_7 14 rfl rfl), (jw_1 12 rfl rfl), by decide +kernel, by decide⟩
theorem cv_X12_246_X12_readAll : jSv RX12 246 mX12_readAll 1 := ⟨(jw_7 11 rfl rfl), (jw_7 13 rfl rfl), (js_2 14 rfl), sy_X12_readAll⟩
theorem sy_X12_throwsIf : jSY mX12_throwsIf 2 := ⟨(jw_7 167 rfl rfl), (jw_1 12 rfl rfl), by decide +kernel, by decide⟩
theorem cv_X12_250_X12_throwsIf : jSv RX12 250 mX12_throwsIf 2 := ⟨(jw_7 164 rfl rfl), (jw_7 166 rfl rfl), (js_4 13 rfl), sy_X12_throwsIf⟩
theorem fg_X12_20_10 : jFg RX12 20 10 3 := ⟨RX12, TX12, 22, _, rfl, wsX120_tb, by decide, (jw_6 158 rfl rfl), Or.inl rfl⟩
abbrev mX12_law : jM := (yX12_law, cX12_law, 3, (some .int), [])
abbrev mX12_isLit : jM := (yX12_isLit, cX12_isLit, 3, (some .boolean), [])
abbrev mX12_factOf : jM := (yX12_factOf, cX12_factOf, 4, (some .int), [])
theorem sy_X12_gapOf : jSY mX12_gapOf 1 := ⟨(jw_7 186 rfl rfl), (jw_1 12 rfl rfl), by decide +kernel, by decide⟩
theorem cv_X12_253_X12_gapOf : jSv RX12 253 mX12_gapOf 1 := ⟨(jw_7 183 rfl rfl), (jw_7 185 rfl rfl), (js_4 15 rfl), sy_X12_gapOf⟩
theorem sy_X12_isLit : jSY mX12_isLit 2 := ⟨(jw_7 206 rfl rfl), (jw_1 12 rfl rfl), by decide +kernel, by decide⟩
theorem cv_X12_257_X12_isLit : jSv RX12 257 mX12_isLit 2 := ⟨(jw_7 203 rfl rfl), (jw_7 205 rfl rfl), (js_5 4 rfl), sy_X12_isLit⟩
abbrev mX12_holdsLine : jM := (yX12_holdsLine, cX12_holdsLine, 10, (some .boolean), [])
theorem fg_X12_39_10 : jFg RX12 39 10 17 := ⟨RX12, TX12, 22, _, rfl, wsX120_tb, by decide, (jw_6 172 rfl rfl), Or.inl rfl⟩
theorem sy_X12_factOf : jSY mX12_factOf 3 := ⟨(jw_7 202 rfl rfl), (jw_1 12 rfl rfl), by decide +kernel, by decide⟩
theorem cv_X12_260_X12_factOf : jSv RX12 260 mX12_factOf 3 := ⟨(jw_7 199 rfl rfl), (jw_7 201 rfl rfl), (js_5 3 rfl), sy_X12_factOf⟩
abbrev mX12_sumOf : jM := (yX12_sumOf, cX12_sumOf, 5, (some .int), [])
theorem sy_X12_holdsLine : jSY mX12_holdsLine 2 := ⟨(jw_7 198 rfl rfl), (jw_1 12 rfl rfl), by decide +kernel, by decide⟩
theorem cv_X12_264_X12_holdsLine : jSv RX12 264 mX12_holdsLine 2 := ⟨(jw_7 195 rfl rfl), (jw_7 197 rfl rfl), (js_5 2 rfl), sy_X12_holdsLine⟩
abbrev mX12_byLaw : jM := (yX12_byLaw, cX12_byLaw, 3, (some .int), [])
theorem sy_X12_sumOf : jSY mX12_sumOf 2 := ⟨(jw_7 194 rfl rfl), (jw_1 12 rfl rfl), by decide +kernel, by decide⟩
theorem cv_X12_267_X12_sumOf : jSv RX12 267 mX12_sumOf 2 := ⟨(jw_7 191 rfl rfl), (jw_7 193 rfl rfl), (js_5 1 rfl), sy_X12_sumOf⟩
abbrev mX12_fadesOfAll : jM := (yX12_fadesOfAll, cX12_fadesOfAll, 3, (some .int), [])
abbrev mX12_shareOf : jM := (yX12_shareOf, cX12_shareOf, 3, (some .int), [])
theorem sy_X12_fadesOfAll : jSY mX12_fadesOfAll 0 := ⟨(jw_7 224 rfl rfl), (jw_1 12 rfl rfl), by decide +kernel, by decide⟩
theorem cv_X12_270_X12_fadesOfAll : jSv RX12 270 mX12_fadesOfAll 0 := ⟨(jw_7 221 rfl rfl), (jw_7 223 rfl rfl), (js_5 8 rfl), sy_X12_fadesOfAll⟩
abbrev mX12_hangsOn : jM := (yX12_hangsOn, cX12_hangsOn, 6, (some .int), [])
theorem kc_X12_273 : Cond.constant RX12 273 (1000000 : Int32) ∈ jall := (jw_7 215 rfl rfl)
theorem mm_X12_274 : Cond.methodLink RX12 274 Lib.Math.abs.name ∈ jall ∧ Cond.static Lib.Math.abs.name ∈ jall ∧ Cond.initialized "java/lang/Math" ∈ jall ∧ Cond.code Lib.Math.abs.name Lib.Math.abs.code 1 (some .int) ∈ jall := ⟨(jw_7 216 rfl rfl), (jw_3 121 rfl rfl), (jw_1 18 rfl rfl), (jw_3 122 rfl rfl)⟩
abbrev mX12_ring : jM := (yX12_ring, cX12_ring, 3, (some .int), [])
theorem sy_X12_noRing : jSY mX12_noRing 1 := ⟨(jw_7 179 rfl rfl), (jw_1 12 rfl rfl), by decide +kernel, by decide⟩
theorem cv_X12_277_X12_noRing : jSv RX12 277 mX12_noRing 1 := ⟨(jw_7 176 rfl rfl), (jw_7 178 rfl rfl), (js_4 14 rfl), sy_X12_noRing⟩
theorem sy_X12_byLaw : jSY mX12_byLaw 2 := ⟨(jw_7 190 rfl rfl), (jw_1 12 rfl rfl), by decide +kernel, by decide⟩
theorem cv_X12_280_X12_byLaw : jSv RX12 280 mX12_byLaw 2 := ⟨(jw_7 187 rfl rfl), (jw_7 189 rfl rfl), (js_5 0 rfl), sy_X12_byLaw⟩
theorem sy_X12_hangsOn : jSY mX12_hangsOn 1 := ⟨(jw_7 210 rfl rfl), (jw_1 12 rfl rfl), by decide +kernel, by decide⟩
theorem cv_X12_283_X12_hangsOn : jSv RX12 283 mX12_hangsOn 1 := ⟨(jw_7 207 rfl rfl), (jw_7 209 rfl rfl), (js_5 5 rfl), sy_X12_hangsOn⟩
theorem sy_X12_shareOf : jSY mX12_shareOf 1 := ⟨(jw_7 220 rfl rfl), (jw_1 12 rfl rfl), by decide +kernel, by decide⟩
theorem cv_X12_286_X12_shareOf : jSv RX12 286 mX12_shareOf 1 := ⟨(jw_7 217 rfl rfl), (jw_7 219 rfl rfl), (js_5 7 rfl), sy_X12_shareOf⟩
abbrev mX12_takesAlong : jM := (yX12_takesAlong, cX12_takesAlong, 5, (some .boolean), [])
abbrev mX12_allWith : jM := (yX12_allWith, cX12_allWith, 6, (some .int), [])
theorem sy_X12_has : jSY mX12_has 2 := ⟨(jw_8 14 rfl rfl), (jw_1 12 rfl rfl), by decide +kernel, by decide⟩
theorem cs_X12_289_X12_has : jSs RX12 289 mX12_has 2 := ⟨(jw_8 12 rfl rfl), (jw_8 13 rfl rfl), sy_X12_has⟩
theorem sy_X12_takesAlong : jSY mX12_takesAlong 3 := ⟨(jw_8 18 rfl rfl), (jw_1 12 rfl rfl), by decide +kernel, by decide⟩
theorem cv_X12_292_X12_takesAlong : jSv RX12 292 mX12_takesAlong 3 := ⟨(jw_8 15 rfl rfl), (jw_8 17 rfl rfl), (js_5 14 rfl), sy_X12_takesAlong⟩
abbrev mX12_mayGo : jM := (yX12_mayGo, cX12_mayGo, 4, (some .boolean), [])
theorem sy_X12_noPlace : jSY mX12_noPlace 1 := ⟨(jw_8 25 rfl rfl), (jw_1 12 rfl rfl), by decide +kernel, by decide⟩
theorem cs_X12_296_X12_noPlace : jSs RX12 296 mX12_noPlace 1 := ⟨(jw_8 23 rfl rfl), (jw_8 24 rfl rfl), sy_X12_noPlace⟩
abbrev mX12_goingBy : jM := (yX12_goingBy, cX12_goingBy, 6, (some .int), [])
theorem sy_X12_allWith : jSY mX12_allWith 2 := ⟨(jw_8 11 rfl rfl), (jw_1 12 rfl rfl), by decide +kernel, by decide⟩
theorem cv_X12_299_X12_allWith : jSv RX12 299 mX12_allWith 2 := ⟨(jw_8 8 rfl rfl), (jw_8 10 rfl rfl), (js_5 13 rfl), sy_X12_allWith⟩
theorem sy_X12_mayGo : jSY mX12_mayGo 2 := ⟨(jw_8 22 rfl rfl), (jw_1 12 rfl rfl), by decide +kernel, by decide⟩
theorem cv_X12_303_X12_mayGo : jSv RX12 303 mX12_mayGo 2 := ⟨(jw_8 19 rfl rfl), (jw_8 21 rfl rfl), (js_5 15 rfl), sy_X12_mayGo⟩
abbrev mX12_goesOne : jM := (yX12_goesOne, cX12_goesOne, 5, (some .boolean), [])
theorem sy_X12_goingBy : jSY mX12_goingBy 2 := ⟨(jw_8 7 rfl rfl), (jw_1 12 rfl rfl), by decide +kernel, by decide⟩
theorem cv_X12_307_X12_goingBy : jSv RX12 307 mX12_goingBy 2 := ⟨(jw_8 4 rfl rfl), (jw_8 6 rfl rfl), (js_5 12 rfl), sy_X12_goingBy⟩
theorem fg_X12_310_10 : jFg RX12 310 10 18 := ⟨RX12, TX12, 22, _, rfl, wsX120_tb, by decide, (jw_6 173 rfl rfl), Or.inl rfl⟩
theorem fp_X12_310_10 : jFp RX12 310 10 18 false .int := ⟨RX12, TX12, 22, tyX12, rfl, wsX120_tb, tyX12_ok, nmX12, by decide, (jw_6 173 rfl rfl), rfl, tyX12_ok 18 (by decide), fun q => by cases q⟩
abbrev mX12_pulls : jM := (yX12_pulls, cX12_pulls, 5, (some .int), [])
theorem sy_X12_goesOne : jSY mX12_goesOne 2 := ⟨(jw_8 3 rfl rfl), (jw_1 12 rfl rfl), by decide +kernel, by decide⟩
theorem cv_X12_313_X12_goesOne : jSv RX12 313 mX12_goesOne 2 := ⟨(jw_8 0 rfl rfl), (jw_8 2 rfl rfl), (js_5 11 rfl), sy_X12_goesOne⟩
abbrev mX12_tells : jM := (yX12_tells, cX12_tells, 5, none, [])
abbrev mX12_pull : jM := (yX12_pull, cX12_pull, 5, (some .int), [])
theorem sy_X12_noSteps : jSY mX12_noSteps 1 := ⟨(jw_7 231 rfl rfl), (jw_1 12 rfl rfl), by decide +kernel, by decide⟩
theorem cs_X12_316_X12_noSteps : jSs RX12 316 mX12_noSteps 1 := ⟨(jw_7 229 rfl rfl), (jw_7 230 rfl rfl), sy_X12_noSteps⟩
theorem sy_X12_remembers : jSY mX12_remembers 0 := ⟨(jw_7 235 rfl rfl), (jw_1 12 rfl rfl), by decide +kernel, by decide⟩
theorem cv_X12_319_X12_remembers : jSv RX12 319 mX12_remembers 0 := ⟨(jw_7 232 rfl rfl), (jw_7 234 rfl rfl), (js_5 9 rfl), sy_X12_remembers⟩
theorem sy_X12_pulls : jSY mX12_pulls 3 := ⟨(jw_7 239 rfl rfl), (jw_1 12 rfl rfl), by decide +kernel, by decide⟩
theorem cv_X12_322_X12_pulls : jSv RX12 322 mX12_pulls 3 := ⟨(jw_7 236 rfl rfl), (jw_7 238 rfl rfl), (js_5 10 rfl), sy_X12_pulls⟩
theorem sy_X12_tells : jSY mX12_tells 3 := ⟨(jw_8 29 rfl rfl), (jw_1 12 rfl rfl), by decide +kernel, by decide⟩
theorem cv_X12_326_X12_tells : jSv RX12 326 mX12_tells 3 := ⟨(jw_8 26 rfl rfl), (jw_8 28 rfl rfl), (js_6 0 rfl), sy_X12_tells⟩
abbrev mX12_free : jM := (yX12_free, cX12_free, 2, (some .int), [])
abbrev mX12_snag : jM := (yX12_snag, cX12_snag, 2, (some .int), [])
abbrev mX12_hook : jM := (yX12_hook, cX12_hook, 4, (some .boolean), [])
abbrev mX12_sew : jM := (yX12_sew, cX12_sew, 3, (some .int), [])
abbrev mX12_let : jM := (yX12_let, cX12_let, 4, (some .int), [])
abbrev mX12_chair : jM := (yX12_chair, cX12_chair, 5, (some .boolean), [])
abbrev mX12_catches : jM := (yX12_catches, cX12_catches, 3, (some .int), [])
theorem sy_X12_drawn : jSY mX12_drawn 1 := ⟨(jw_8 73 rfl rfl), (jw_1 12 rfl rfl), by decide +kernel, by decide⟩
theorem cv_X12_330_X12_drawn : jSv RX12 330 mX12_drawn 1 := ⟨(jw_8 70 rfl rfl), (jw_8 72 rfl rfl), (js_6 4 rfl), sy_X12_drawn⟩
abbrev mX12_falls : jM := (yX12_falls, cX12_falls, 3, (some .int), [])
abbrev mX12_oneHour : jM := (yX12_oneHour, cX12_oneHour, 3, (some .int), [])
theorem sy_X12_catches : jSY mX12_catches 0 := ⟨(jw_8 69 rfl rfl), (jw_1 12 rfl rfl), by decide +kernel, by decide⟩
theorem cv_X12_333_X12_catches : jSv RX12 333 mX12_catches 0 := ⟨(jw_8 66 rfl rfl), (jw_8 68 rfl rfl), (js_6 3 rfl), sy_X12_catches⟩
theorem sy_X12_falls : jSY mX12_falls 0 := ⟨(jw_8 78 rfl rfl), (jw_1 12 rfl rfl), by decide +kernel, by decide⟩
theorem cv_X12_336_X12_falls : jSv RX12 336 mX12_falls 0 := ⟨(jw_8 75 rfl rfl), (jw_8 77 rfl rfl), (js_6 5 rfl), sy_X12_falls⟩
abbrev mX12_goesOn : jM := (yX12_goesOn, cX12_goesOn, 5, (some .int), [])
theorem sy_X12_oneHour : jSY mX12_oneHour 1 := ⟨(jw_8 65 rfl rfl), (jw_1 12 rfl rfl), by decide +kernel, by decide⟩
theorem cv_X12_339_X12_oneHour : jSv RX12 339 mX12_oneHour 1 := ⟨(jw_8 62 rfl rfl), (jw_8 64 rfl rfl), (js_6 2 rfl), sy_X12_oneHour⟩
abbrev mX12_keepsAll : jM := (yX12_keepsAll, cX12_keepsAll, 2, none, [])
theorem fg_X12_23_10 : jFg RX12 23 10 4 := ⟨RX12, TX12, 22, _, rfl, wsX120_tb, by decide, (jw_6 159 rfl rfl), Or.inl rfl⟩
abbrev mX12_bringsBack : jM := (yX12_bringsBack, cX12_bringsBack, 2, none, [])
abbrev mX12_hours : jM := (yX12_hours, cX12_hours, 2, (some .int), [])
theorem sy_X12_goesOn : jSY mX12_goesOn 2 := ⟨(jw_8 61 rfl rfl), (jw_1 12 rfl rfl), by decide +kernel, by decide⟩
theorem cv_X12_342_X12_goesOn : jSv RX12 342 mX12_goesOn 2 := ⟨(jw_8 58 rfl rfl), (jw_8 60 rfl rfl), (js_6 1 rfl), sy_X12_goesOn⟩
abbrev mX12_noAhead : jM := (yX12_noAhead, cX12_noAhead, 1, (some .boolean), [])
abbrev mX12_ahead : jM := (yX12_ahead, cX12_ahead, 4, (some .int), [])
theorem sy_X12_noAhead : jSY mX12_noAhead 1 := ⟨(jw_8 85 rfl rfl), (jw_1 12 rfl rfl), by decide +kernel, by decide⟩
theorem cs_X12_345_X12_noAhead : jSs RX12 345 mX12_noAhead 1 := ⟨(jw_8 83 rfl rfl), (jw_8 84 rfl rfl), sy_X12_noAhead⟩
theorem sy_X12_keepsAll : jSY mX12_keepsAll 0 := ⟨(jw_8 89 rfl rfl), (jw_1 12 rfl rfl), by decide +kernel, by decide⟩
theorem cv_X12_348_X12_keepsAll : jSv RX12 348 mX12_keepsAll 0 := ⟨(jw_8 86 rfl rfl), (jw_8 88 rfl rfl), (js_6 6 rfl), sy_X12_keepsAll⟩
theorem sy_X12_bringsBack : jSY mX12_bringsBack 0 := ⟨(jw_8 93 rfl rfl), (jw_1 12 rfl rfl), by decide +kernel, by decide⟩
theorem cv_X12_351_X12_bringsBack : jSv RX12 351 mX12_bringsBack 0 := ⟨(jw_8 90 rfl rfl), (jw_8 92 rfl rfl), (js_6 7 rfl), sy_X12_bringsBack⟩
abbrev mX12_faded : jM := (yX12_faded, cX12_faded, 3, (some .int), [])
abbrev mX12_somePale : jM := (yX12_somePale, cX12_somePale, 3, (some .boolean), [])
abbrev mX12_pale : jM := (yX12_pale, cX12_pale, 3, (some .int), [])
theorem sy_X12_somePale : jSY mX12_somePale 0 := ⟨(jw_8 105 rfl rfl), (jw_1 12 rfl rfl), by decide +kernel, by decide⟩
theorem cv_X12_354_X12_somePale : jSv RX12 354 mX12_somePale 0 := ⟨(jw_8 102 rfl rfl), (jw_8 104 rfl rfl), (js_6 8 rfl), sy_X12_somePale⟩
abbrev mX12_shadeNow : jM := (yX12_shadeNow, cX12_shadeNow, 4, (some .int), [])
abbrev mX12_darkNow : jM := (yX12_darkNow, cX12_darkNow, 1, (some .int), [])
theorem sy_X12_shadeNow : jSY mX12_shadeNow 0 := ⟨(jw_8 113 rfl rfl), (jw_1 12 rfl rfl), by decide +kernel, by decide⟩
theorem cv_X12_357_X12_shadeNow : jSv RX12 357 mX12_shadeNow 0 := ⟨(jw_8 110 rfl rfl), (jw_8 112 rfl rfl), (js_6 9 rfl), sy_X12_shadeNow⟩
theorem cs_X12_360_J6_bitCount_0f7a4 : jSs RX12 360 mJ6_bitCount_0f7a4 1 := ⟨(jw_8 122 rfl rfl), (jw_2 181 rfl rfl), sy_J6_bitCount_0f7a4⟩
abbrev mX12_shade : jM := (yX12_shade, cX12_shade, 1, (some .int), [])
abbrev mX12_dark : jM := (yX12_dark, cX12_dark, 1, (some .int), [])
theorem sy_X12_darkNow : jSY mX12_darkNow 0 := ⟨(jw_8 121 rfl rfl), (jw_1 12 rfl rfl), by decide +kernel, by decide⟩
theorem cv_X12_365_X12_darkNow : jSv RX12 365 mX12_darkNow 0 := ⟨(jw_8 118 rfl rfl), (jw_8 120 rfl rfl), (js_6 10 rfl), sy_X12_darkNow⟩
abbrev mX12_bare : jM := (yX12_bare, cX12_bare, 1, (some .int), [])
abbrev mX12_goes : jM := (yX12_goes, cX12_goes, 4, (some .int), [])
abbrev mX12_with : jM := (yX12_with, cX12_with, 3, (some .int), [])
abbrev mX12_would : jM := (yX12_would, cX12_would, 6, (some .int), [])
abbrev mX12_best : jM := (yX12_best, cX12_best, 7, (some .int), [])
theorem mm_X12_368 : Cond.methodLink RX12 368 Lib.Math.max.name ∈ jall ∧ Cond.static Lib.Math.max.name ∈ jall ∧ Cond.initialized "java/lang/Math" ∈ jall ∧ Cond.code Lib.Math.max.name Lib.Math.max.code 2 (some .int) ∈ jall := ⟨(jw_8 143 rfl rfl), (jw_3 25 rfl rfl), (jw_1 18 rfl rfl), (jw_3 26 rfl rfl)⟩
abbrev mX12_shadesAll : jM := (yX12_shadesAll, cX12_shadesAll, 2, (some .boolean), [])
abbrev mX12_stepsTo : jM := (yX12_stepsTo, cX12_stepsTo, 7, (some .int), [])
theorem sy_X12_shadesAll : jSY mX12_shadesAll 1 := ⟨(jw_8 151 rfl rfl), (jw_1 12 rfl rfl), by decide +kernel, by decide⟩
theorem cv_X12_371_X12_shadesAll : jSv RX12 371 mX12_shadesAll 1 := ⟨(jw_8 148 rfl rfl), (jw_8 150 rfl rfl), (js_6 11 rfl), sy_X12_shadesAll⟩
abbrev mX12_fewestTo : jM := (yX12_fewestTo, cX12_fewestTo, 7, (some .int), [])
theorem sy_X12_stepsTo : jSY mX12_stepsTo 3 := ⟨(jw_8 159 rfl rfl), (jw_1 12 rfl rfl), by decide +kernel, by decide⟩
theorem cv_X12_374_X12_stepsTo : jSv RX12 374 mX12_stepsTo 3 := ⟨(jw_8 156 rfl rfl), (jw_8 158 rfl rfl), (js_6 13 rfl), sy_X12_stepsTo⟩
abbrev mX12_fewest : jM := (yX12_fewest, cX12_fewest, 2, (some .int), [])
theorem sy_X12_fewestTo : jSY mX12_fewestTo 2 := ⟨(jw_8 155 rfl rfl), (jw_1 12 rfl rfl), by decide +kernel, by decide⟩
theorem cv_X12_378_X12_fewestTo : jSv RX12 378 mX12_fewestTo 2 := ⟨(jw_8 152 rfl rfl), (jw_8 154 rfl rfl), (js_6 12 rfl), sy_X12_fewestTo⟩
abbrev mX12_first : jM := (yX12_first, cX12_first, 2, (some .int), [])
abbrev mX12_isTold : jM := (yX12_isTold, cX12_isTold, 3, (some .boolean), [])
abbrev mX12_thatCanCatch : jM := (yX12_thatCanCatch, cX12_thatCanCatch, 1, (some .int), [])
abbrev mX12_areCaught : jM := (yX12_areCaught, cX12_areCaught, 3, none, [])
abbrev mX12_wentWith : jM := (yX12_wentWith, cX12_wentWith, 6, (some .int), [])
theorem sy_X12_areCaught : jSY mX12_areCaught 1 := ⟨(jw_8 187 rfl rfl), (jw_1 12 rfl rfl), by decide +kernel, by decide⟩
theorem cv_X12_381_X12_areCaught : jSv RX12 381 mX12_areCaught 1 := ⟨(jw_8 184 rfl rfl), (jw_8 186 rfl rfl), (js_7 2 rfl), sy_X12_areCaught⟩
abbrev mX12_fits : jM := (yX12_fits, cX12_fits, 4, (some .boolean), [])
theorem sy_X12_wentWith : jSY mX12_wentWith 4 := ⟨(jw_8 183 rfl rfl), (jw_1 12 rfl rfl), by decide +kernel, by decide⟩
theorem cv_X12_385_X12_wentWith : jSv RX12 385 mX12_wentWith 4 := ⟨(jw_8 180 rfl rfl), (jw_8 182 rfl rfl), (js_7 1 rfl), sy_X12_wentWith⟩
abbrev mX12_snags : jM := (yX12_snags, cX12_snags, 5, (some .int), [])
theorem sy_X12_isTold : jSY mX12_isTold 0 := ⟨(jw_8 171 rfl rfl), (jw_1 12 rfl rfl), by decide +kernel, by decide⟩
theorem cv_X12_389_X12_isTold : jSv RX12 389 mX12_isTold 0 := ⟨(jw_8 168 rfl rfl), (jw_8 170 rfl rfl), (js_6 14 rfl), sy_X12_isTold⟩
theorem sy_X12_thatCanCatch : jSY mX12_thatCanCatch 0 := ⟨(jw_8 175 rfl rfl), (jw_1 12 rfl rfl), by decide +kernel, by decide⟩
theorem cv_X12_392_X12_thatCanCatch : jSv RX12 392 mX12_thatCanCatch 0 := ⟨(jw_8 172 rfl rfl), (jw_8 174 rfl rfl), (js_6 15 rfl), sy_X12_thatCanCatch⟩
theorem sy_X12_fits : jSY mX12_fits 1 := ⟨(jw_8 179 rfl rfl), (jw_1 12 rfl rfl), by decide +kernel, by decide⟩
theorem cv_X12_395_X12_fits : jSv RX12 395 mX12_fits 1 := ⟨(jw_8 176 rfl rfl), (jw_8 178 rfl rfl), (js_7 0 rfl), sy_X12_fits⟩
abbrev mX12_partBy : jM := (yX12_partBy, cX12_partBy, 6, (some .int), [])
theorem fg_X12_42_10 : jFg RX12 42 10 19 := ⟨RX12, TX12, 22, _, rfl, wsX120_tb, by decide, (jw_6 174 rfl rfl), Or.inl rfl⟩
theorem fg_X12_46_10 : jFg RX12 46 10 20 := ⟨RX12, TX12, 22, _, rfl, wsX120_tb, by decide, (jw_6 175 rfl rfl), Or.inl rfl⟩
abbrev mX12_tries : jM := (yX12_tries, cX12_tries, 6, (some .int), [])
theorem sy_X12_partBy : jSY mX12_partBy 2 := ⟨(jw_8 195 rfl rfl), (jw_1 12 rfl rfl), by decide +kernel, by decide⟩
theorem cv_X12_398_X12_partBy : jSv RX12 398 mX12_partBy 2 := ⟨(jw_8 192 rfl rfl), (jw_8 194 rfl rfl), (js_7 3 rfl), sy_X12_partBy⟩
abbrev mX12_loosen : jM := (yX12_loosen, cX12_loosen, 8, (some .int), [])
theorem sy_X12_ringsThat : jSY mX12_ringsThat 1 := ⟨(jw_8 203 rfl rfl), (jw_1 12 rfl rfl), by decide +kernel, by decide⟩
theorem cv_X12_401_X12_ringsThat : jSv RX12 401 mX12_ringsThat 1 := ⟨(jw_8 200 rfl rfl), (jw_8 202 rfl rfl), (js_7 4 rfl), sy_X12_ringsThat⟩
abbrev mX12_order : jM := (yX12_order, cX12_order, 4, (some .int), [])
theorem fg_X12_49_10 : jFg RX12 49 10 21 := ⟨RX12, TX12, 22, _, rfl, wsX120_tb, by decide, (jw_6 176 rfl rfl), Or.inl rfl⟩
abbrev mX12_tight : jM := (yX12_tight, cX12_tight, 6, (some .int), [])
abbrev mX12_slack : jM := (yX12_slack, cX12_slack, 3, (some .int), [])
abbrev mX12_taut : jM := (yX12_taut, cX12_taut, 3, (some .int), [])
abbrev mX12_bunch : jM := (yX12_bunch, cX12_bunch, 4, (some .int), [])
abbrev mX12_litIn : jM := (yX12_litIn, cX12_litIn, 4, (some .int), [])
abbrev mX12_lit : jM := (yX12_lit, cX12_lit, 2, (some .int), [])
theorem sy_X12_litIn : jSY mX12_litIn 1 := ⟨(jw_8 231 rfl rfl), (jw_1 12 rfl rfl), by decide +kernel, by decide⟩
theorem cv_X12_404_X12_litIn : jSv RX12 404 mX12_litIn 1 := ⟨(jw_8 228 rfl rfl), (jw_8 230 rfl rfl), (js_7 5 rfl), sy_X12_litIn⟩
abbrev mX12_sunny : jM := (yX12_sunny, cX12_sunny, 6, (some .int), [])
abbrev mX12_lets : jM := (yX12_lets, cX12_lets, 7, (some .int), [])
abbrev mX12_envy : jM := (yX12_envy, cX12_envy, 3, (some .int), [])
abbrev mX12_eachHas : jM := (yX12_eachHas, cX12_eachHas, 4, (some .int), [])
abbrev mX12_rests : jM := (yX12_rests, cX12_rests, 5, (some .int), [])
theorem sy_X12_eachHas : jSY mX12_eachHas 3 := ⟨(jw_9 11 rfl rfl), (jw_1 12 rfl rfl), by decide +kernel, by decide⟩
theorem cv_X12_407_X12_eachHas : jSv RX12 407 mX12_eachHas 3 := ⟨(jw_9 8 rfl rfl), (jw_9 10 rfl rfl), (js_7 6 rfl), sy_X12_eachHas⟩
abbrev mX12_wooden : jM := (yX12_wooden, cX12_wooden, 1, (some .int), [])
abbrev mX12_caught : jM := (yX12_caught, cX12_caught, 1, (some .int), [])
abbrev mX12_looseOnes : jM := (yX12_looseOnes, cX12_looseOnes, 1, (some .int), [])
abbrev mX12_loose : jM := (yX12_loose, cX12_loose, 1, (some .int), [])
theorem sy_X12_looseOnes : jSY mX12_looseOnes 0 := ⟨(jw_9 27 rfl rfl), (jw_1 12 rfl rfl), by decide +kernel, by decide⟩
theorem cv_X12_410_X12_looseOnes : jSv RX12 410 mX12_looseOnes 0 := ⟨(jw_9 24 rfl rfl), (jw_9 26 rfl rfl), (js_7 7 rfl), sy_X12_looseOnes⟩
abbrev mX12_beyond : jM := (yX12_beyond, cX12_beyond, 3, (some .int), [])
abbrev mX12_odds : jM := (yX12_odds, cX12_odds, 6, (some .int), [])
abbrev mX12_likens : jM := (yX12_likens, cX12_likens, 3, (some .boolean), [])
abbrev mX12_twins : jM := (yX12_twins, cX12_twins, 4, (some .int), [])
theorem sy_X12_likens : jSY mX12_likens 2 := ⟨(jw_9 43 rfl rfl), (jw_1 12 rfl rfl), by decide +kernel, by decide⟩
theorem cv_X12_413_X12_likens : jSv RX12 413 mX12_likens 2 := ⟨(jw_9 40 rfl rfl), (jw_9 42 rfl rfl), (js_7 8 rfl), sy_X12_likens⟩
abbrev mX12_trial : jM := (yX12_trial, cX12_trial, 4, (some .int), [])
abbrev mX12_span : jM := (yX12_span, cX12_span, 6, (some .int), [])
abbrev mX12_ofLog : jM := (yX12_ofLog, cX12_ofLog, 3, (some .int), [])
abbrev mX12_led : jM := (yX12_led, cX12_led, 6, (some .int), [])
theorem sy_X12_ofLog : jSY mX12_ofLog 2 := ⟨(jw_9 59 rfl rfl), (jw_1 12 rfl rfl), by decide +kernel, by decide⟩
theorem cv_X12_416_X12_ofLog : jSv RX12 416 mX12_ofLog 2 := ⟨(jw_9 56 rfl rfl), (jw_9 58 rfl rfl), (js_7 9 rfl), sy_X12_ofLog⟩
abbrev mX12_log : jM := (yX12_log, cX12_log, 3, (some .int), [])
abbrev mX12_seed : jM := (yX12_seed, cX12_seed, 3, (some .int), [])
abbrev mX12_count : jM := (yX12_count, cX12_count, 2, (some .int), [])
theorem kc_J6_265 : Cond.constant RJ6 265 (1431655765 : Int32) ∈ jall := (jw_2 183 rfl rfl)
theorem kc_J6_266 : Cond.constant RJ6 266 (858993459 : Int32) ∈ jall := (jw_2 184 rfl rfl)
theorem kc_J6_267 : Cond.constant RJ6 267 (252645135 : Int32) ∈ jall := (jw_2 185 rfl rfl)
theorem oi_X4_3 : Cond.methodLink RX4 3 Lib.objectInit ∈ jall ∧ Cond.instanceMethod Lib.objectInit ∈ jall ∧ Cond.code Lib.objectInit ⟨#[0xb1]⟩ 1 none ∈ jall := ⟨(jw_2 29 rfl rfl), (jw_1 35 rfl rfl), (jw_1 36 rfl rfl)⟩
theorem fp_X4_9_7 : jFp RX4 9 7 0 true (.object "RodRings$Tape") := ⟨RX9, TX9, 3, tyX9, rfl, wsX90_tb, tyX9_ok, nmX9, by decide, (jw_2 31 rfl rfl), rfl, tyX9_ok 0 (by decide), fun _ => rfl⟩
theorem fp_X4_15_7 : jFp RX4 15 7 1 true .int := ⟨RX9, TX9, 3, tyX9, rfl, wsX90_tb, tyX9_ok, nmX9, by decide, (jw_2 36 rfl rfl), rfl, tyX9_ok 1 (by decide), fun _ => rfl⟩
theorem fp_X4_9_3 : jFp RX4 9 3 0 true (.object "RodRings$Tape") := ⟨RX3, TX3, 3, tyX3, rfl, wsX30_tb, tyX3_ok, nmX3, by decide, (jw_2 31 rfl rfl), rfl, tyX3_ok 0 (by decide), fun _ => rfl⟩
theorem fp_X4_15_3 : jFp RX4 15 3 1 true .int := ⟨RX3, TX3, 3, tyX3, rfl, wsX30_tb, tyX3_ok, nmX3, by decide, (jw_2 36 rfl rfl), rfl, tyX3_ok 1 (by decide), fun _ => rfl⟩
theorem fg_X4_9_7 : jFg RX4 9 7 0 := ⟨RX9, TX9, 3, _, rfl, wsX90_tb, by decide, (jw_2 31 rfl rfl), Or.inl rfl⟩
theorem sy_X10_scan : jSY mX10_scan 0 := ⟨(jw_3 213 rfl rfl), (jw_1 2 rfl rfl), by decide +kernel, by decide⟩
theorem cv_X4_19_X10_scan : jSv RX4 19 mX10_scan 0 := ⟨(jw_3 210 rfl rfl), (jw_3 211 rfl rfl), (jw_3 212 rfl rfl), sy_X10_scan⟩
theorem cv_X4_24_X10_kind : jSv RX4 24 mX10_kind 0 := ⟨(jw_4 47 rfl rfl), (jw_4 48 rfl rfl), (jw_4 49 rfl rfl), sy_X10_kind⟩
theorem fg_X4_15_7 : jFg RX4 15 7 1 := ⟨RX9, TX9, 3, _, rfl, wsX90_tb, by decide, (jw_2 36 rfl rfl), Or.inl rfl⟩
theorem sy_X10_start : jSY mX10_start 0 := ⟨(jw_4 137 rfl rfl), (jw_1 2 rfl rfl), by decide +kernel, by decide⟩
theorem cv_X4_32_X10_start : jSv RX4 32 mX10_start 0 := ⟨(jw_4 134 rfl rfl), (jw_4 135 rfl rfl), (jw_4 136 rfl rfl), sy_X10_start⟩
theorem sy_X9_readLine : jSY mX9_readLine 0 := ⟨(jw_4 96 rfl rfl), (jw_1 8 rfl rfl), by decide +kernel, by decide⟩
theorem cu_X4_28_RodRings_RodReader_X9_readLine : jSu RX4 28 "RodRings$RodReader" "RodRings$LineReader" ⟨"RodRings$LineReader", "readLine", "()Z"⟩ mX9_readLine 0 := ⟨(jw_4 51 rfl rfl), (jw_4 53 rfl rfl), (jw_4 94 rfl rfl), (jw_4 95 rfl rfl), (jn_4 52 rfl rfl), by decide +kernel, sy_X9_readLine⟩
theorem cv_X4_35_X10_take : jSv RX4 35 mX10_take 1 := ⟨(jw_4 138 rfl rfl), (jw_4 71 rfl rfl), (jw_4 72 rfl rfl), sy_X10_take⟩
theorem fg_X4_9_3 : jFg RX4 9 3 0 := ⟨RX3, TX3, 3, _, rfl, wsX30_tb, by decide, (jw_2 31 rfl rfl), Or.inl rfl⟩
theorem fg_X4_15_3 : jFg RX4 15 3 1 := ⟨RX3, TX3, 3, _, rfl, wsX30_tb, by decide, (jw_2 36 rfl rfl), Or.inl rfl⟩
theorem sy_X3_readLine : jSY mX3_readLine 0 := ⟨(jw_4 56 rfl rfl), (jw_1 9 rfl rfl), by decide +kernel, by decide⟩
theorem cu_X4_28_RodRings_LawReader_X3_readLine : jSu RX4 28 "RodRings$LawReader" "RodRings$LineReader" ⟨"RodRings$LineReader", "readLine", "()Z"⟩ mX3_readLine 0 := ⟨(jw_4 51 rfl rfl), (jw_4 53 rfl rfl), (jw_4 54 rfl rfl), (jw_4 55 rfl rfl), (jn_4 52 rfl rfl), by decide +kernel, sy_X3_readLine⟩
abbrev mJ0_coder_7d493 : jM := (yJ0_coder_7d493, cJ0_coder_7d493, 1, (some .byte), [])
theorem sy_J0_coder_7d493 : jSY mJ0_coder_7d493 0 := ⟨(jw_3 238 rfl rfl), (jw_1 14 rfl rfl), by decide +kernel, by decide⟩
theorem cv_J0_335_J0_coder_7d493 : jSv RJ0 335 mJ0_coder_7d493 0 := ⟨(jw_3 235 rfl rfl), (jw_3 236 rfl rfl), (jw_3 237 rfl rfl), sy_J0_coder_7d493⟩
abbrev mJ3_checkIndex_8e157 : jM := (yJ3_checkIndex_8e157, cJ3_checkIndex_8e157, 3, (some .int), [])
theorem sy_J3_checkIndex_8e157 : jSY mJ3_checkIndex_8e157 3 := ⟨(jw_4 19 rfl rfl), (jw_1 16 rfl rfl), by decide +kernel, by decide⟩
theorem cs_J0_1059_J3_checkIndex_8e157 : jSs RJ0 1059 mJ3_checkIndex_8e157 3 := ⟨(jw_4 17 rfl rfl), (jw_4 18 rfl rfl), sy_J3_checkIndex_8e157⟩
abbrev mJ0_checkIndex_df160 : jM := (yJ0_checkIndex_df160, cJ0_checkIndex_df160, 2, none, [])
theorem sy_J0_checkIndex_df160 : jSY mJ0_checkIndex_df160 2 := ⟨(jw_4 14 rfl rfl), (jw_1 14 rfl rfl), by decide +kernel, by decide⟩
theorem cs_J1_9_J0_checkIndex_df160 : jSs RJ1 9 mJ0_checkIndex_df160 2 := ⟨(jw_4 12 rfl rfl), (jw_4 13 rfl rfl), sy_J0_checkIndex_df160⟩
abbrev mJ0_isLatin1_aae02 : jM := (yJ0_isLatin1_aae02, cJ0_isLatin1_aae02, 1, (some .boolean), [])
theorem sy_J0_isLatin1_aae02 : jSY mJ0_isLatin1_aae02 0 := ⟨(jw_4 8 rfl rfl), (jw_1 14 rfl rfl), by decide +kernel, by decide⟩
theorem cv_J0_492_J0_isLatin1_aae02 : jSv RJ0 492 mJ0_isLatin1_aae02 0 := ⟨(jw_4 5 rfl rfl), (jw_4 6 rfl rfl), (jw_4 7 rfl rfl), sy_J0_isLatin1_aae02⟩
abbrev mJ1_charAt_3b067 : jM := (yJ1_charAt_3b067, cJ1_charAt_3b067, 2, (some .char), [])
theorem sy_J1_charAt_3b067 : jSY mJ1_charAt_3b067 2 := ⟨(jw_4 11 rfl rfl), (jw_1 15 rfl rfl), by decide +kernel, by decide⟩
theorem cs_J0_495_J1_charAt_3b067 : jSs RJ0 495 mJ1_charAt_3b067 2 := ⟨(jw_4 9 rfl rfl), (jw_4 10 rfl rfl), sy_J1_charAt_3b067⟩
end
