section
def TX10_scan_q0 : List (Nat × Instr × Nat) := [(0, .aload_n 0, 1), (1, .iconst 0, 1), (2, .putfield 29, 3), (5, .aload_n 0, 1), (6, .iconst 0, 1), (7, .putfield 32, 3), (10, .iconst 0, 1), (11, .istore_n 1, 1), (12, .iload_n 1, 1), (13, .aload_n 0, 1), (14, .getfield 25, 3), (17, .if_icmp .ge 58, 3)]
theorem DX10_scan_q0 : ∀ q ∈ TX10_scan_q0, decode cX10_scan q.1 = .ok q.2 := dec_wk _ 0 (by decide +kernel)
def TX10_scan_q1 : List (Nat × Instr × Nat) := [(20, .aload_n 0, 1), (21, .getfield 29, 3), (24, .sipush 400, 3), (27, .if_icmp .ge 48, 3), (30, .iload_n 1, 1), (31, .iconst 1, 1), (32, .iadd, 1), (33, .istore_n 2, 1), (34, .aload_n 0, 1), (35, .iload_n 1, 1), (36, .invokevirtual 35, 3), (39, .bipush 32, 2)]
theorem DX10_scan_q1 : ∀ q ∈ TX10_scan_q1, decode cX10_scan q.1 = .ok q.2 := dec_wk _ 20 (by decide +kernel)
def TX10_scan_q2 : List (Nat × Instr × Nat) := [(41, .if_icmp .eq 29, 3), (44, .aload_n 0, 1), (45, .iload_n 1, 1), (46, .invokevirtual 39, 3), (49, .istore_n 2, 1), (50, .aload_n 0, 1), (51, .getfield 19, 3), (54, .aload_n 0, 1), (55, .getfield 29, 3), (58, .iload_n 1, 1), (59, .iastore, 1), (60, .aload_n 0, 1)]
theorem DX10_scan_q2 : ∀ q ∈ TX10_scan_q2, decode cX10_scan q.1 = .ok q.2 := dec_wk _ 41 (by decide +kernel)
def TX10_scan_q3 : List (Nat × Instr × Nat) := [(61, .dup, 1), (62, .getfield 29, 3), (65, .iconst 1, 1), (66, .iadd, 1), (67, .putfield 29, 3), (70, .iload_n 2, 1), (71, .istore_n 1, 1), (72, .goto (-60), 3), (75, .return_, 1)]
theorem DX10_scan_q3 : ∀ q ∈ TX10_scan_q3, decode cX10_scan q.1 = .ok q.2 := dec_wk _ 61 (by decide +kernel)
def TX10_scanThing_q0 : List (Nat × Instr × Nat) := [(0, .aload_n 0, 1), (1, .iload_n 1, 1), (2, .bipush 97, 2), (4, .bipush 122, 2), (6, .invokevirtual 42, 3), (9, .istore_n 2, 1), (10, .iload_n 2, 1), (11, .iload_n 1, 1), (12, .if_icmp .le 20, 3), (15, .aload_n 0, 1), (16, .getfield 15, 3), (19, .aload_n 0, 1)]
theorem DX10_scanThing_q0 : ∀ q ∈ TX10_scanThing_q0, decode cX10_scanThing q.1 = .ok q.2 := dec_wk _ 0 (by decide +kernel)
def TX10_scanThing_q1 : List (Nat × Instr × Nat) := [(20, .getfield 29, 3), (23, .aload_n 0, 1), (24, .iload_n 1, 1), (25, .iload_n 2, 1), (26, .invokevirtual 46, 3), (29, .iastore, 1), (30, .iload_n 2, 1), (31, .ireturn, 1), (32, .aload_n 0, 1), (33, .iload_n 1, 1), (34, .bipush 48, 2), (36, .bipush 57, 2)]
theorem DX10_scanThing_q1 : ∀ q ∈ TX10_scanThing_q1, decode cX10_scanThing q.1 = .ok q.2 := dec_wk _ 20 (by decide +kernel)
def TX10_scanThing_q2 : List (Nat × Instr × Nat) := [(38, .invokevirtual 42, 3), (41, .istore_n 2, 1), (42, .iload_n 2, 1), (43, .iload_n 1, 1), (44, .if_icmp .le 31, 3), (47, .aload_n 0, 1), (48, .getfield 15, 3), (51, .aload_n 0, 1), (52, .getfield 29, 3), (55, .bipush (-3), 2), (57, .iastore, 1), (58, .aload_n 0, 1)]
theorem DX10_scanThing_q2 : ∀ q ∈ TX10_scanThing_q2, decode cX10_scanThing q.1 = .ok q.2 := dec_wk _ 38 (by decide +kernel)
def TX10_scanThing_q3 : List (Nat × Instr × Nat) := [(59, .getfield 22, 3), (62, .aload_n 0, 1), (63, .getfield 29, 3), (66, .aload_n 0, 1), (67, .iload_n 1, 1), (68, .iload_n 2, 1), (69, .invokevirtual 50, 3), (72, .iastore, 1), (73, .iload_n 2, 1), (74, .ireturn, 1), (75, .aload_n 0, 1), (76, .iload_n 1, 1)]
theorem DX10_scanThing_q3 : ∀ q ∈ TX10_scanThing_q3, decode cX10_scanThing q.1 = .ok q.2 := dec_wk _ 59 (by decide +kernel)
def TX10_scanThing_q4 : List (Nat × Instr × Nat) := [(77, .invokevirtual 35, 3), (80, .istore_n 3, 1), (81, .aload_n 0, 1), (82, .getfield 15, 3), (85, .aload_n 0, 1), (86, .getfield 29, 3), (89, .iload_n 3, 1), (90, .bipush 32, 2), (92, .if_icmp .ge 8, 3), (95, .bipush (-2), 2), (97, .goto 4, 3), (100, .iload_n 3, 1)]
theorem DX10_scanThing_q4 : ∀ q ∈ TX10_scanThing_q4, decode cX10_scanThing q.1 = .ok q.2 := dec_wk _ 77 (by decide +kernel)
def TX10_scanThing_q5 : List (Nat × Instr × Nat) := [(101, .iastore, 1), (102, .iload_n 1, 1), (103, .iconst 1, 1), (104, .iadd, 1)]
theorem DX10_scanThing_q5 : ∀ q ∈ TX10_scanThing_q5, decode cX10_scanThing q.1 = .ok q.2 := dec_wk _ 101 (by decide +kernel)
def TX10_scanThing_1_q0 : List (Nat × Instr × Nat) := [(105, .ireturn, 1)]
theorem DX10_scanThing_1_q0 : ∀ q ∈ TX10_scanThing_1_q0, decode cX10_scanThing q.1 = .ok q.2 := dec_wk _ 105 (by decide +kernel)
def TX10_endOfRow_q0 : List (Nat × Instr × Nat) := [(0, .iload_n 1, 1), (1, .istore 4, 2), (3, .iload 4, 2), (5, .aload_n 0, 1), (6, .getfield 25, 3), (9, .if_icmp .ge 29, 3), (12, .aload_n 0, 1), (13, .iload 4, 2), (15, .invokevirtual 35, 3), (18, .iload_n 2, 1), (19, .if_icmp .lt 19, 3), (22, .aload_n 0, 1)]
theorem DX10_endOfRow_q0 : ∀ q ∈ TX10_endOfRow_q0, decode cX10_endOfRow q.1 = .ok q.2 := dec_wk _ 0 (by decide +kernel)
def TX10_endOfRow_q1 : List (Nat × Instr × Nat) := [(23, .iload 4, 2), (25, .invokevirtual 35, 3), (28, .iload_n 3, 1), (29, .if_icmp .gt 9, 3), (32, .iinc 4 1, 3), (35, .goto (-32), 3), (38, .iload 4, 2), (40, .ireturn, 1)]
theorem DX10_endOfRow_q1 : ∀ q ∈ TX10_endOfRow_q1, decode cX10_endOfRow q.1 = .ok q.2 := dec_wk _ 23 (by decide +kernel)
def TX10_numberBetween_q0 : List (Nat × Instr × Nat) := [(0, .iload_n 2, 1), (1, .iload_n 1, 1), (2, .isub, 1), (3, .iconst 3, 1), (4, .if_icmp .le 7, 3), (7, .sipush 1000, 3), (10, .ireturn, 1), (11, .iconst 0, 1), (12, .istore_n 3, 1), (13, .iload_n 1, 1), (14, .istore 4, 2), (16, .iload 4, 2)]
theorem DX10_numberBetween_q0 : ∀ q ∈ TX10_numberBetween_q0, decode cX10_numberBetween q.1 = .ok q.2 := dec_wk _ 0 (by decide +kernel)
def TX10_numberBetween_q1 : List (Nat × Instr × Nat) := [(18, .iload_n 2, 1), (19, .if_icmp .ge 24, 3), (22, .bipush 10, 2), (24, .iload_n 3, 1), (25, .imul, 1), (26, .aload_n 0, 1), (27, .iload 4, 2), (29, .invokevirtual 35, 3), (32, .iadd, 1), (33, .bipush 48, 2), (35, .isub, 1), (36, .istore_n 3, 1)]
theorem DX10_numberBetween_q1 : ∀ q ∈ TX10_numberBetween_q1, decode cX10_numberBetween q.1 = .ok q.2 := dec_wk _ 18 (by decide +kernel)
def TX10_numberBetween_q2 : List (Nat × Instr × Nat) := [(37, .iinc 4 1, 3), (40, .goto (-24), 3), (43, .iload_n 3, 1), (44, .ireturn, 1)]
theorem DX10_numberBetween_q2 : ∀ q ∈ TX10_numberBetween_q2, decode cX10_numberBetween q.1 = .ok q.2 := dec_wk _ 37 (by decide +kernel)
def TX10_wordBetween_q0 : List (Nat × Instr × Nat) := [(0, .iconst 0, 1), (1, .istore_n 3, 1), (2, .iconst 0, 1), (3, .istore 4, 2), (5, .iconst 0, 1), (6, .istore 5, 2), (8, .iload 5, 2), (10, .ldc 53, 2), (12, .invokevirtual 55, 3), (15, .if_icmp .ge 55, 3), (18, .ldc 53, 2), (20, .iload 5, 2)]
theorem DX10_wordBetween_q0 : ∀ q ∈ TX10_wordBetween_q0, decode cX10_wordBetween q.1 = .ok q.2 := dec_wk _ 0 (by decide +kernel)
def TX10_wordBetween_q1 : List (Nat × Instr × Nat) := [(22, .invokevirtual 60, 3), (25, .bipush 32, 2), (27, .if_icmp .ne 37, 3), (30, .iload 5, 2), (32, .iload 4, 2), (34, .isub, 1), (35, .iload_n 2, 1), (36, .iload_n 1, 1), (37, .isub, 1), (38, .if_icmp .ne 17, 3), (41, .aload_n 0, 1), (42, .iload_n 1, 1)]
theorem DX10_wordBetween_q1 : ∀ q ∈ TX10_wordBetween_q1, decode cX10_wordBetween q.1 = .ok q.2 := dec_wk _ 22 (by decide +kernel)
def TX10_wordBetween_q2 : List (Nat × Instr × Nat) := [(43, .iload 4, 2), (45, .iload 5, 2), (47, .invokevirtual 64, 3), (50, .ifCond .eq 5, 3), (53, .iload_n 3, 1), (54, .ireturn, 1), (55, .iinc 3 1, 3), (58, .iload 5, 2), (60, .iconst 1, 1), (61, .iadd, 1), (62, .istore 4, 2), (64, .iinc 5 1, 3)]
theorem DX10_wordBetween_q2 : ∀ q ∈ TX10_wordBetween_q2, decode cX10_wordBetween q.1 = .ok q.2 := dec_wk _ 43 (by decide +kernel)
def TX10_wordBetween_q3 : List (Nat × Instr × Nat) := [(67, .goto (-59), 3), (70, .bipush (-2), 2), (72, .ireturn, 1)]
theorem DX10_wordBetween_q3 : ∀ q ∈ TX10_wordBetween_q3, decode cX10_wordBetween q.1 = .ok q.2 := dec_wk _ 67 (by decide +kernel)
def TX10_standsAt_q0 : List (Nat × Instr × Nat) := [(0, .iload_n 2, 1), (1, .istore 4, 2), (3, .iload 4, 2), (5, .iload_n 3, 1), (6, .if_icmp .ge 31, 3), (9, .aload_n 0, 1), (10, .iload_n 1, 1), (11, .iload 4, 2), (13, .iadd, 1), (14, .iload_n 2, 1), (15, .isub, 1), (16, .invokevirtual 35, 3)]
theorem DX10_standsAt_q0 : ∀ q ∈ TX10_standsAt_q0, decode cX10_standsAt q.1 = .ok q.2 := dec_wk _ 0 (by decide +kernel)
def TX10_standsAt_q1 : List (Nat × Instr × Nat) := [(19, .ldc 53, 2), (21, .iload 4, 2), (23, .invokevirtual 60, 3), (26, .if_icmp .eq 5, 3), (29, .iconst 0, 1), (30, .ireturn, 1), (31, .iinc 4 1, 3), (34, .goto (-31), 3), (37, .iconst 1, 1), (38, .ireturn, 1)]
theorem DX10_standsAt_q1 : ∀ q ∈ TX10_standsAt_q1, decode cX10_standsAt q.1 = .ok q.2 := dec_wk _ 19 (by decide +kernel)
def TX10_kind_q0 : List (Nat × Instr × Nat) := [(0, .aload_n 0, 1), (1, .getfield 32, 3), (4, .aload_n 0, 1), (5, .getfield 29, 3), (8, .if_icmp .ge 15, 3), (11, .aload_n 0, 1), (12, .getfield 15, 3), (15, .aload_n 0, 1), (16, .getfield 32, 3), (19, .iaload, 1), (20, .goto 4, 3), (23, .iconst (-1), 1)]
theorem DX10_kind_q0 : ∀ q ∈ TX10_kind_q0, decode cX10_kind q.1 = .ok q.2 := dec_wk _ 0 (by decide +kernel)
def TX10_kind_q1 : List (Nat × Instr × Nat) := [(24, .ireturn, 1)]
theorem DX10_kind_q1 : ∀ q ∈ TX10_kind_q1, decode cX10_kind q.1 = .ok q.2 := dec_wk _ 24 (by decide +kernel)
def TX10_start_q0 : List (Nat × Instr × Nat) := [(0, .aload_n 0, 1), (1, .getfield 32, 3), (4, .aload_n 0, 1), (5, .getfield 29, 3), (8, .if_icmp .ge 15, 3), (11, .aload_n 0, 1), (12, .getfield 19, 3), (15, .aload_n 0, 1), (16, .getfield 32, 3), (19, .iaload, 1), (20, .goto 7, 3), (23, .aload_n 0, 1)]
theorem DX10_start_q0 : ∀ q ∈ TX10_start_q0, decode cX10_start q.1 = .ok q.2 := dec_wk _ 0 (by decide +kernel)
def TX10_start_q1 : List (Nat × Instr × Nat) := [(24, .getfield 25, 3), (27, .ireturn, 1)]
theorem DX10_start_q1 : ∀ q ∈ TX10_start_q1, decode cX10_start q.1 = .ok q.2 := dec_wk _ 24 (by decide +kernel)
def TX10_skip_q0 : List (Nat × Instr × Nat) := [(0, .aload_n 0, 1), (1, .getfield 32, 3), (4, .aload_n 0, 1), (5, .getfield 29, 3), (8, .if_icmp .ge 13, 3), (11, .aload_n 0, 1), (12, .dup, 1), (13, .getfield 32, 3), (16, .iconst 1, 1), (17, .iadd, 1), (18, .putfield 32, 3), (21, .return_, 1)]
theorem DX10_skip_q0 : ∀ q ∈ TX10_skip_q0, decode cX10_skip q.1 = .ok q.2 := dec_wk _ 0 (by decide +kernel)
def TX10_take_q0 : List (Nat × Instr × Nat) := [(0, .aload_n 0, 1), (1, .getfield 32, 3), (4, .aload_n 0, 1), (5, .getfield 29, 3), (8, .if_icmp .ge 16, 3), (11, .aload_n 0, 1), (12, .getfield 15, 3), (15, .aload_n 0, 1), (16, .getfield 32, 3), (19, .iaload, 1), (20, .iload_n 1, 1), (21, .if_icmp .eq 5, 3)]
theorem DX10_take_q0 : ∀ q ∈ TX10_take_q0, decode cX10_take q.1 = .ok q.2 := dec_wk _ 0 (by decide +kernel)
def TX10_take_q1 : List (Nat × Instr × Nat) := [(24, .iconst 0, 1), (25, .ireturn, 1), (26, .aload_n 0, 1), (27, .dup, 1), (28, .getfield 32, 3), (31, .iconst 1, 1), (32, .iadd, 1), (33, .putfield 32, 3), (36, .iconst 1, 1), (37, .ireturn, 1)]
theorem DX10_take_q1 : ∀ q ∈ TX10_take_q1, decode cX10_take q.1 = .ok q.2 := dec_wk _ 24 (by decide +kernel)
def TX10_takeNumber_q0 : List (Nat × Instr × Nat) := [(0, .aload_n 0, 1), (1, .getfield 32, 3), (4, .aload_n 0, 1), (5, .getfield 29, 3), (8, .if_icmp .ge 43, 3), (11, .aload_n 0, 1), (12, .getfield 15, 3), (15, .aload_n 0, 1), (16, .getfield 32, 3), (19, .iaload, 1), (20, .bipush (-3), 2), (22, .if_icmp .ne 29, 3)]
theorem DX10_takeNumber_q0 : ∀ q ∈ TX10_takeNumber_q0, decode cX10_takeNumber q.1 = .ok q.2 := dec_wk _ 0 (by decide +kernel)
def TX10_takeNumber_q1 : List (Nat × Instr × Nat) := [(25, .aload_n 0, 1), (26, .getfield 22, 3), (29, .aload_n 0, 1), (30, .getfield 32, 3), (33, .iaload, 1), (34, .iload_n 1, 1), (35, .if_icmp .lt 16, 3), (38, .aload_n 0, 1), (39, .getfield 22, 3), (42, .aload_n 0, 1), (43, .getfield 32, 3), (46, .iaload, 1)]
theorem DX10_takeNumber_q1 : ∀ q ∈ TX10_takeNumber_q1, decode cX10_takeNumber q.1 = .ok q.2 := dec_wk _ 25 (by decide +kernel)
def TX10_takeNumber_q2 : List (Nat × Instr × Nat) := [(47, .iload_n 2, 1), (48, .if_icmp .le 5, 3), (51, .iconst (-1), 1), (52, .ireturn, 1), (53, .aload_n 0, 1), (54, .dup, 1), (55, .getfield 32, 3), (58, .iconst 1, 1), (59, .iadd, 1), (60, .putfield 32, 3), (63, .aload_n 0, 1), (64, .getfield 22, 3)]
theorem DX10_takeNumber_q2 : ∀ q ∈ TX10_takeNumber_q2, decode cX10_takeNumber q.1 = .ok q.2 := dec_wk _ 47 (by decide +kernel)
def TX10_takeNumber_q3 : List (Nat × Instr × Nat) := [(67, .aload_n 0, 1), (68, .getfield 32, 3), (71, .iconst 1, 1), (72, .isub, 1), (73, .iaload, 1), (74, .ireturn, 1)]
theorem DX10_takeNumber_q3 : ∀ q ∈ TX10_takeNumber_q3, decode cX10_takeNumber q.1 = .ok q.2 := dec_wk _ 67 (by decide +kernel)
def TX11_init_q0 : List (Nat × Instr × Nat) := [(0, .aload_n 0, 1), (1, .invokespecial 1, 3), (4, .aload_n 0, 1), (5, .new 7, 3), (8, .dup, 1), (9, .invokespecial 9, 3), (12, .putfield 10, 3), (15, .aload_n 0, 1), (16, .new 16, 3), (19, .dup, 1), (20, .invokespecial 18, 3), (23, .putfield 19, 3)]
theorem DX11_init_q0 : ∀ q ∈ TX11_init_q0, decode cX11_init q.1 = .ok q.2 := dec_wk _ 0 (by decide +kernel)
def TX11_init_q1 : List (Nat × Instr × Nat) := [(26, .aload_n 0, 1), (27, .new 23, 3), (30, .dup, 1), (31, .invokespecial 25, 3), (34, .putfield 26, 3), (37, .aload_n 0, 1), (38, .new 30, 3), (41, .dup, 1), (42, .invokespecial 32, 3), (45, .putfield 33, 3), (48, .aload_n 0, 1), (49, .new 16, 3)]
theorem DX11_init_q1 : ∀ q ∈ TX11_init_q1, decode cX11_init q.1 = .ok q.2 := dec_wk _ 26 (by decide +kernel)
def TX11_init_q2 : List (Nat × Instr × Nat) := [(52, .dup, 1), (53, .invokespecial 18, 3), (56, .putfield 37, 3), (59, .aload_n 0, 1), (60, .new 23, 3), (63, .dup, 1), (64, .invokespecial 25, 3), (67, .putfield 40, 3), (70, .aload_n 0, 1), (71, .new 43, 3), (74, .dup, 1), (75, .aload_n 0, 1)]
theorem DX11_init_q2 : ∀ q ∈ TX11_init_q2, decode cX11_init q.1 = .ok q.2 := dec_wk _ 52 (by decide +kernel)
def TX11_init_q3 : List (Nat × Instr × Nat) := [(76, .getfield 10, 3), (79, .aload_n 0, 1), (80, .getfield 37, 3), (83, .invokespecial 45, 3), (86, .putfield 48, 3), (89, .aload_n 0, 1), (90, .new 52, 3), (93, .dup, 1), (94, .aload_n 0, 1), (95, .getfield 10, 3), (98, .aload_n 0, 1), (99, .getfield 40, 3)]
theorem DX11_init_q3 : ∀ q ∈ TX11_init_q3, decode cX11_init q.1 = .ok q.2 := dec_wk _ 76 (by decide +kernel)
def TX11_init_q4 : List (Nat × Instr × Nat) := [(102, .invokespecial 54, 3), (105, .putfield 57, 3), (108, .aload_n 0, 1), (109, .new 61, 3), (112, .dup, 1), (113, .aload_n 0, 1), (114, .getfield 26, 3), (117, .aload_n 0, 1), (118, .getfield 37, 3), (121, .invokespecial 63, 3), (124, .putfield 66, 3), (127, .aload_n 0, 1)]
theorem DX11_init_q4 : ∀ q ∈ TX11_init_q4, decode cX11_init q.1 = .ok q.2 := dec_wk _ 102 (by decide +kernel)
def TX11_init_q5 : List (Nat × Instr × Nat) := [(128, .new 70, 3), (131, .dup, 1), (132, .aload_n 0, 1), (133, .getfield 10, 3)]
theorem DX11_init_q5 : ∀ q ∈ TX11_init_q5, decode cX11_init q.1 = .ok q.2 := dec_wk _ 128 (by decide +kernel)
def TX11_init_1_q0 : List (Nat × Instr × Nat) := [(136, .aload_n 0, 1), (137, .getfield 37, 3), (140, .invokespecial 72, 3), (143, .putfield 73, 3), (146, .aload_n 0, 1), (147, .iconst (-1), 1), (148, .putfield 77, 3), (151, .return_, 1)]
theorem DX11_init_1_q0 : ∀ q ∈ TX11_init_1_q0, decode cX11_init q.1 = .ok q.2 := dec_wk _ 136 (by decide +kernel)
def TX11_feed_q0 : List (Nat × Instr × Nat) := [(0, .aload_n 0, 1), (1, .getfield 10, 3), (4, .invokevirtual 81, 3), (7, .ifCond .ne 5, 3), (10, .iconst (-1), 1), (11, .ireturn, 1), (12, .aload_n 0, 1), (13, .getfield 10, 3), (16, .iload_n 1, 1), (17, .invokevirtual 85, 3), (20, .aload_n 0, 1), (21, .getfield 10, 3)]
theorem DX11_feed_q0 : ∀ q ∈ TX11_feed_q0, decode cX11_feed q.1 = .ok q.2 := dec_wk _ 0 (by decide +kernel)
def TX11_feed_q1 : List (Nat × Instr × Nat) := [(24, .iload_n 2, 1), (25, .invokevirtual 85, 3), (28, .aload_n 0, 1), (29, .getfield 10, 3), (32, .iload_n 3, 1), (33, .invokevirtual 85, 3), (36, .aload_n 0, 1), (37, .getfield 10, 3), (40, .iload 4, 2), (42, .invokevirtual 85, 3), (45, .aload_n 0, 1), (46, .getfield 10, 3)]
theorem DX11_feed_q1 : ∀ q ∈ TX11_feed_q1, decode cX11_feed q.1 = .ok q.2 := dec_wk _ 24 (by decide +kernel)
def TX11_feed_q2 : List (Nat × Instr × Nat) := [(49, .iload 5, 2), (51, .invokevirtual 85, 3), (54, .aload_n 0, 1), (55, .getfield 10, 3), (58, .getfield 89, 3), (61, .ireturn, 1)]
theorem DX11_feed_q2 : ∀ q ∈ TX11_feed_q2, decode cX11_feed q.1 = .ok q.2 := dec_wk _ 49 (by decide +kernel)
def TX11_end_q0 : List (Nat × Instr × Nat) := [(0, .iload_n 1, 1), (1, .ifCond .lt 14, 3), (4, .iload_n 1, 1), (5, .aload_n 0, 1), (6, .getfield 10, 3), (9, .getfield 89, 3), (12, .if_icmp .le 5, 3), (15, .iconst 0, 1), (16, .ireturn, 1), (17, .aload_n 0, 1), (18, .getfield 10, 3), (21, .iload_n 1, 1)]
theorem DX11_end_q0 : ∀ q ∈ TX11_end_q0, decode cX11_end q.1 = .ok q.2 := dec_wk _ 0 (by decide +kernel)
def TX11_end_q1 : List (Nat × Instr × Nat) := [(22, .putfield 89, 3), (25, .iconst 1, 1), (26, .ireturn, 1)]
theorem DX11_end_q1 : ∀ q ∈ TX11_end_q1, decode cX11_end q.1 = .ok q.2 := dec_wk _ 22 (by decide +kernel)
def TX11_pole_q0 : List (Nat × Instr × Nat) := [(0, .aload_n 0, 1), (1, .getfield 37, 3), (4, .aload_n 0, 1), (5, .getfield 19, 3), (8, .invokevirtual 92, 3), (11, .aload_n 0, 1), (12, .aload_n 0, 1), (13, .getfield 48, 3), (16, .invokevirtual 96, 3), (19, .putfield 77, 3), (22, .aload_n 0, 1), (23, .getfield 10, 3)]
theorem DX11_pole_q0 : ∀ q ∈ TX11_pole_q0, decode cX11_pole q.1 = .ok q.2 := dec_wk _ 0 (by decide +kernel)
def TX11_pole_q1 : List (Nat × Instr × Nat) := [(26, .iconst 0, 1), (27, .putfield 89, 3), (30, .aload_n 0, 1), (31, .getfield 77, 3), (34, .iconst (-1), 1), (35, .if_icmp .eq 13, 3), (38, .new 100, 3), (41, .dup, 1), (42, .ldc 102, 2), (44, .invokespecial 104, 3), (47, .athrow, 1), (48, .aload_n 0, 1)]
theorem DX11_pole_q1 : ∀ q ∈ TX11_pole_q1, decode cX11_pole q.1 = .ok q.2 := dec_wk _ 26 (by decide +kernel)
def TX11_pole_q2 : List (Nat × Instr × Nat) := [(49, .getfield 19, 3), (52, .getfield 107, 3), (55, .bipush 12, 2), (57, .if_icmp .lt 13, 3), (60, .new 110, 3), (63, .dup, 1), (64, .ldc 112, 2), (66, .invokespecial 114, 3), (69, .athrow, 1), (70, .aload_n 0, 1), (71, .getfield 37, 3), (74, .dup, 1)]
theorem DX11_pole_q2 : ∀ q ∈ TX11_pole_q2, decode cX11_pole q.1 = .ok q.2 := dec_wk _ 49 (by decide +kernel)
def TX11_pole_q3 : List (Nat × Instr × Nat) := [(75, .getfield 107, 3), (78, .iconst 1, 1), (79, .iadd, 1), (80, .putfield 107, 3), (83, .aload_n 0, 1), (84, .getfield 19, 3), (87, .aload_n 0, 1), (88, .getfield 37, 3), (91, .invokevirtual 92, 3), (94, .aload_n 0, 1), (95, .getfield 33, 3), (98, .invokevirtual 115, 3)]
theorem DX11_pole_q3 : ∀ q ∈ TX11_pole_q3, decode cX11_pole q.1 = .ok q.2 := dec_wk _ 75 (by decide +kernel)
def TX11_pole_q4 : List (Nat × Instr × Nat) := [(101, .aload_n 0, 1), (102, .getfield 19, 3), (105, .getfield 107, 3), (108, .ireturn, 1)]
theorem DX11_pole_q4 : ∀ q ∈ TX11_pole_q4, decode cX11_pole q.1 = .ok q.2 := dec_wk _ 101 (by decide +kernel)
def TX11_law_q0 : List (Nat × Instr × Nat) := [(0, .aload_n 0, 1), (1, .getfield 40, 3), (4, .invokevirtual 118, 3), (7, .aload_n 0, 1), (8, .aload_n 0, 1), (9, .getfield 57, 3), (12, .invokevirtual 121, 3), (15, .putfield 77, 3), (18, .aload_n 0, 1), (19, .getfield 10, 3), (22, .iconst 0, 1), (23, .putfield 89, 3)]
theorem DX11_law_q0 : ∀ q ∈ TX11_law_q0, decode cX11_law q.1 = .ok q.2 := dec_wk _ 0 (by decide +kernel)
def TX11_law_q1 : List (Nat × Instr × Nat) := [(26, .aload_n 0, 1), (27, .getfield 77, 3), (30, .iconst (-1), 1), (31, .if_icmp .eq 13, 3), (34, .new 100, 3), (37, .dup, 1), (38, .ldc 102, 2), (40, .invokespecial 104, 3), (43, .athrow, 1), (44, .aload_n 0, 1), (45, .getfield 26, 3), (48, .aload_n 0, 1)]
theorem DX11_law_q1 : ∀ q ∈ TX11_law_q1, decode cX11_law q.1 = .ok q.2 := dec_wk _ 26 (by decide +kernel)
def TX11_law_q2 : List (Nat × Instr × Nat) := [(49, .getfield 40, 3), (52, .invokevirtual 122, 3), (55, .aload_n 0, 1), (56, .getfield 33, 3), (59, .invokevirtual 115, 3), (62, .aload_n 0, 1), (63, .getfield 26, 3), (66, .getfield 125, 3), (69, .ireturn, 1)]
theorem DX11_law_q2 : ∀ q ∈ TX11_law_q2, decode cX11_law q.1 = .ok q.2 := dec_wk _ 49 (by decide +kernel)
def TX11_fault_q0 : List (Nat × Instr × Nat) := [(0, .aload_n 0, 1), (1, .getfield 77, 3), (4, .ireturn, 1)]
theorem DX11_fault_q0 : ∀ q ∈ TX11_fault_q0, decode cX11_fault q.1 = .ok q.2 := dec_wk _ 0 (by decide +kernel)
def TX11_ring_q0 : List (Nat × Instr × Nat) := [(0, .aload_n 0, 1), (1, .iload_n 1, 1), (2, .invokevirtual 128, 3), (5, .iload_n 2, 1)]
theorem DX11_ring_q0 : ∀ q ∈ TX11_ring_q0, decode cX11_ring q.1 = .ok q.2 := dec_wk _ 0 (by decide +kernel)
def TX11_ring_q1 : List (Nat × Instr × Nat) := [(6, .tableswitch 228 0 13 #[70, 80, 90, 102, 114, 124, 134, 146, 158, 168, 182, 196, 210, 219], 70)]
theorem DX11_ring_q1 : ∀ q ∈ TX11_ring_q1, decode cX11_ring q.1 = .ok q.2 := by decide +kernel
def TX11_ring_q2 : List (Nat × Instr × Nat) := [(76, .aload_n 0, 1), (77, .getfield 19, 3), (80, .getfield 131, 3), (83, .iload_n 1, 1), (84, .iaload, 1), (85, .ireturn, 1), (86, .aload_n 0, 1), (87, .getfield 19, 3), (90, .getfield 135, 3), (93, .iload_n 1, 1), (94, .iaload, 1), (95, .ireturn, 1)]
theorem DX11_ring_q2 : ∀ q ∈ TX11_ring_q2, decode cX11_ring q.1 = .ok q.2 := dec_wk _ 76 (by decide +kernel)
def TX11_ring_q3 : List (Nat × Instr × Nat) := [(96, .aload_n 0, 1), (97, .getfield 19, 3), (100, .getfield 138, 3), (103, .iload_n 1, 1), (104, .invokestatic 141, 3), (107, .ireturn, 1), (108, .aload_n 0, 1), (109, .getfield 19, 3), (112, .getfield 145, 3), (115, .iload_n 1, 1), (116, .invokestatic 141, 3), (119, .ireturn, 1)]
theorem DX11_ring_q3 : ∀ q ∈ TX11_ring_q3, decode cX11_ring q.1 = .ok q.2 := dec_wk _ 96 (by decide +kernel)
def TX11_ring_q4 : List (Nat × Instr × Nat) := [(120, .aload_n 0, 1), (121, .getfield 19, 3), (124, .getfield 148, 3), (127, .iload_n 1, 1), (128, .iaload, 1), (129, .ireturn, 1), (130, .aload_n 0, 1), (131, .getfield 19, 3), (134, .getfield 151, 3), (137, .iload_n 1, 1), (138, .iaload, 1), (139, .ireturn, 1)]
theorem DX11_ring_q4 : ∀ q ∈ TX11_ring_q4, decode cX11_ring q.1 = .ok q.2 := dec_wk _ 120 (by decide +kernel)
def TX11_ring_q5 : List (Nat × Instr × Nat) := [(140, .aload_n 0, 1), (141, .getfield 19, 3), (144, .getfield 153, 3), (147, .iload_n 1, 1), (148, .invokestatic 141, 3), (151, .ireturn, 1), (152, .aload_n 0, 1), (153, .getfield 19, 3), (156, .getfield 156, 3), (159, .iload_n 1, 1), (160, .invokestatic 141, 3), (163, .ireturn, 1)]
theorem DX11_ring_q5 : ∀ q ∈ TX11_ring_q5, decode cX11_ring q.1 = .ok q.2 := dec_wk _ 140 (by decide +kernel)
def TX11_ring_q6 : List (Nat × Instr × Nat) := [(164, .aload_n 0, 1), (165, .getfield 19, 3), (168, .iload_n 1, 1), (169, .iconst (-1), 1), (170, .invokevirtual 159, 3), (173, .ireturn, 1), (174, .aload_n 0, 1), (175, .getfield 26, 3), (178, .iconst 0, 1), (179, .aload_n 0, 1), (180, .getfield 19, 3)]
theorem DX11_ring_q6 : ∀ q ∈ TX11_ring_q6, decode cX11_ring q.1 = .ok q.2 := dec_wk _ 164 (by decide +kernel)
def TX11_ring_1_q0 : List (Nat × Instr × Nat) := [(183, .iload_n 1, 1), (184, .invokevirtual 162, 3), (187, .ireturn, 1), (188, .aload_n 0, 1), (189, .getfield 26, 3), (192, .iconst 1, 1), (193, .aload_n 0, 1), (194, .getfield 19, 3), (197, .iload_n 1, 1), (198, .invokevirtual 162, 3), (201, .ireturn, 1), (202, .aload_n 0, 1)]
theorem DX11_ring_1_q0 : ∀ q ∈ TX11_ring_1_q0, decode cX11_ring q.1 = .ok q.2 := dec_wk _ 183 (by decide +kernel)
def TX11_ring_1_q1 : List (Nat × Instr × Nat) := [(203, .getfield 26, 3), (206, .iconst 2, 1), (207, .aload_n 0, 1), (208, .getfield 19, 3), (211, .iload_n 1, 1), (212, .invokevirtual 162, 3), (215, .ireturn, 1), (216, .aload_n 0, 1), (217, .getfield 19, 3), (220, .iload_n 1, 1), (221, .invokestatic 166, 3), (224, .ireturn, 1)]
theorem DX11_ring_1_q1 : ∀ q ∈ TX11_ring_1_q1, decode cX11_ring q.1 = .ok q.2 := dec_wk _ 203 (by decide +kernel)
def TX11_ring_1_q2 : List (Nat × Instr × Nat) := [(225, .aload_n 0, 1), (226, .getfield 19, 3), (229, .iload_n 1, 1), (230, .invokestatic 172, 3), (233, .ireturn, 1), (234, .new 175, 3), (237, .dup, 1), (238, .ldc 177, 2), (240, .invokespecial 179, 3), (243, .athrow, 1)]
theorem DX11_ring_1_q2 : ∀ q ∈ TX11_ring_1_q2, decode cX11_ring q.1 = .ok q.2 := dec_wk _ 225 (by decide +kernel)
def TX11_pull_q0 : List (Nat × Instr × Nat) := [(0, .aload_n 0, 1), (1, .iload_n 1, 1), (2, .invokevirtual 128, 3), (5, .aload_n 0, 1), (6, .iload_n 3, 1), (7, .iconst 1, 1), (8, .bipush 31, 2), (10, .invokevirtual 180, 3), (13, .aload_n 0, 1), (14, .getfield 33, 3), (17, .aload_n 0, 1), (18, .getfield 19, 3)]
theorem DX11_pull_q0 : ∀ q ∈ TX11_pull_q0, decode cX11_pull q.1 = .ok q.2 := dec_wk _ 0 (by decide +kernel)
def TX11_pull_q1 : List (Nat × Instr × Nat) := [(21, .invokevirtual 184, 3), (24, .aload_n 0, 1), (25, .getfield 19, 3), (28, .iload_n 1, 1), (29, .iload_n 2, 1), (30, .iload_n 3, 1), (31, .invokevirtual 187, 3), (34, .istore 4, 2), (36, .aload_n 0, 1), (37, .getfield 19, 3), (40, .getfield 191, 3), (43, .aload_n 0, 1)]
theorem DX11_pull_q1 : ∀ q ∈ TX11_pull_q1, decode cX11_pull q.1 = .ok q.2 := dec_wk _ 21 (by decide +kernel)
def TX11_pull_q2 : List (Nat × Instr × Nat) := [(44, .getfield 19, 3), (47, .iload_n 1, 1), (48, .iconst 0, 1), (49, .iload 4, 2), (51, .invokevirtual 195, 3), (54, .iload 4, 2), (56, .ireturn, 1)]
theorem DX11_pull_q2 : ∀ q ∈ TX11_pull_q2, decode cX11_pull q.1 = .ok q.2 := dec_wk _ 44 (by decide +kernel)
def TX11_free_q0 : List (Nat × Instr × Nat) := [(0, .aload_n 0, 1), (1, .iload_n 1, 1), (2, .invokevirtual 128, 3), (5, .aload_n 0, 1), (6, .getfield 19, 3), (9, .getfield 156, 3), (12, .iload_n 1, 1), (13, .invokestatic 141, 3), (16, .ifCond .ne 13, 3), (19, .new 201, 3), (22, .dup, 1), (23, .ldc 203, 2)]
theorem DX11_free_q0 : ∀ q ∈ TX11_free_q0, decode cX11_free q.1 = .ok q.2 := dec_wk _ 0 (by decide +kernel)
def TX11_free_q1 : List (Nat × Instr × Nat) := [(25, .invokespecial 205, 3), (28, .athrow, 1), (29, .aload_n 0, 1), (30, .getfield 33, 3), (33, .aload_n 0, 1), (34, .getfield 19, 3), (37, .invokevirtual 184, 3), (40, .aload_n 0, 1), (41, .getfield 19, 3), (44, .aload_n 0, 1), (45, .getfield 19, 3), (48, .getfield 156, 3)]
theorem DX11_free_q1 : ∀ q ∈ TX11_free_q1, decode cX11_free q.1 = .ok q.2 := dec_wk _ 25 (by decide +kernel)
def TX11_free_q2 : List (Nat × Instr × Nat) := [(51, .iload_n 1, 1), (52, .iconst 0, 1), (53, .invokestatic 206, 3), (56, .putfield 156, 3), (59, .aload_n 0, 1), (60, .getfield 19, 3), (63, .iload_n 1, 1), (64, .iconst (-1), 1), (65, .invokevirtual 159, 3), (68, .ireturn, 1)]
theorem DX11_free_q2 : ∀ q ∈ TX11_free_q2, decode cX11_free q.1 = .ok q.2 := dec_wk _ 51 (by decide +kernel)
def TX11_snag_q0 : List (Nat × Instr × Nat) := [(0, .aload_n 0, 1), (1, .iload_n 1, 1), (2, .invokevirtual 128, 3), (5, .iload_n 1, 1), (6, .aload_n 0, 1), (7, .getfield 19, 3), (10, .getfield 210, 3), (13, .iconst 1, 1), (14, .isub, 1), (15, .if_icmp .eq 18, 3), (18, .aload_n 0, 1), (19, .getfield 19, 3)]
theorem DX11_snag_q0 : ∀ q ∈ TX11_snag_q0, decode cX11_snag q.1 = .ok q.2 := dec_wk _ 0 (by decide +kernel)
def TX11_snag_q1 : List (Nat × Instr × Nat) := [(22, .getfield 156, 3), (25, .iload_n 1, 1), (26, .invokestatic 141, 3), (29, .iconst 1, 1), (30, .if_icmp .ne 13, 3), (33, .new 201, 3), (36, .dup, 1), (37, .ldc 213, 2), (39, .invokespecial 205, 3), (42, .athrow, 1), (43, .aload_n 0, 1), (44, .getfield 33, 3)]
theorem DX11_snag_q1 : ∀ q ∈ TX11_snag_q1, decode cX11_snag q.1 = .ok q.2 := dec_wk _ 22 (by decide +kernel)
def TX11_snag_q2 : List (Nat × Instr × Nat) := [(47, .aload_n 0, 1), (48, .getfield 19, 3), (51, .invokevirtual 184, 3), (54, .aload_n 0, 1), (55, .getfield 19, 3), (58, .aload_n 0, 1), (59, .getfield 19, 3), (62, .getfield 156, 3), (65, .iload_n 1, 1), (66, .iconst 1, 1), (67, .invokestatic 206, 3), (70, .putfield 156, 3)]
theorem DX11_snag_q2 : ∀ q ∈ TX11_snag_q2, decode cX11_snag q.1 = .ok q.2 := dec_wk _ 47 (by decide +kernel)
def TX11_snag_q3 : List (Nat × Instr × Nat) := [(73, .aload_n 0, 1), (74, .getfield 19, 3), (77, .iload_n 1, 1), (78, .iconst (-1), 1), (79, .invokevirtual 159, 3), (82, .ireturn, 1)]
theorem DX11_snag_q3 : ∀ q ∈ TX11_snag_q3, decode cX11_snag q.1 = .ok q.2 := dec_wk _ 73 (by decide +kernel)
def TX11_hook_q0 : List (Nat × Instr × Nat) := [(0, .aload_n 0, 1), (1, .iload_n 1, 1), (2, .invokevirtual 128, 3), (5, .aload_n 0, 1), (6, .getfield 33, 3), (9, .aload_n 0, 1), (10, .getfield 19, 3), (13, .invokevirtual 184, 3), (16, .aload_n 0, 1), (17, .getfield 19, 3), (20, .getfield 153, 3), (23, .istore_n 3, 1)]
theorem DX11_hook_q0 : ∀ q ∈ TX11_hook_q0, decode cX11_hook q.1 = .ok q.2 := dec_wk _ 0 (by decide +kernel)
def TX11_hook_q1 : List (Nat × Instr × Nat) := [(24, .aload_n 0, 1), (25, .getfield 19, 3), (28, .iload_n 3, 1), (29, .iload_n 1, 1), (30, .iload_n 2, 1), (31, .invokestatic 206, 3), (34, .putfield 153, 3), (37, .aload_n 0, 1), (38, .getfield 19, 3), (41, .getfield 153, 3), (44, .iload_n 3, 1), (45, .if_icmp .eq 7, 3)]
theorem DX11_hook_q1 : ∀ q ∈ TX11_hook_q1, decode cX11_hook q.1 = .ok q.2 := dec_wk _ 24 (by decide +kernel)
def TX11_hook_q2 : List (Nat × Instr × Nat) := [(48, .iconst 1, 1), (49, .goto 4, 3), (52, .iconst 0, 1), (53, .ireturn, 1)]
theorem DX11_hook_q2 : ∀ q ∈ TX11_hook_q2, decode cX11_hook q.1 = .ok q.2 := dec_wk _ 48 (by decide +kernel)
def TX11_sew_q0 : List (Nat × Instr × Nat) := [(0, .aload_n 0, 1), (1, .iload_n 1, 1), (2, .invokevirtual 215, 3), (5, .aload_n 0, 1), (6, .iload_n 2, 1), (7, .iconst 1, 1), (8, .bipush 9, 2), (10, .invokevirtual 180, 3), (13, .aload_n 0, 1), (14, .getfield 19, 3), (17, .getfield 210, 3), (20, .bipush 8, 2)]
theorem DX11_sew_q0 : ∀ q ∈ TX11_sew_q0, decode cX11_sew q.1 = .ok q.2 := dec_wk _ 0 (by decide +kernel)
def TX11_sew_q1 : List (Nat × Instr × Nat) := [(22, .if_icmp .ge 25, 3), (25, .iload_n 1, 1), (26, .aload_n 0, 1), (27, .getfield 19, 3), (30, .invokevirtual 218, 3), (33, .if_icmp .lt 14, 3), (36, .iload_n 1, 1), (37, .aload_n 0, 1), (38, .getfield 19, 3), (41, .invokevirtual 221, 3), (44, .if_icmp .le 13, 3), (47, .new 201, 3)]
theorem DX11_sew_q1 : ∀ q ∈ TX11_sew_q1, decode cX11_sew q.1 = .ok q.2 := dec_wk _ 22 (by decide +kernel)
def TX11_sew_q2 : List (Nat × Instr × Nat) := [(50, .dup, 1), (51, .ldc 224, 2), (53, .invokespecial 205, 3), (56, .athrow, 1), (57, .aload_n 0, 1), (58, .getfield 33, 3), (61, .aload_n 0, 1), (62, .getfield 19, 3), (65, .invokevirtual 184, 3), (68, .aload_n 0, 1), (69, .getfield 19, 3), (72, .iload_n 1, 1)]
theorem DX11_sew_q2 : ∀ q ∈ TX11_sew_q2, decode cX11_sew q.1 = .ok q.2 := dec_wk _ 50 (by decide +kernel)
def TX11_sew_q3 : List (Nat × Instr × Nat) := [(73, .iload_n 2, 1), (74, .invokevirtual 226, 3), (77, .aload_n 0, 1), (78, .getfield 19, 3), (81, .getfield 210, 3), (84, .iconst 1, 1), (85, .isub, 1), (86, .ireturn, 1)]
theorem DX11_sew_q3 : ∀ q ∈ TX11_sew_q3, decode cX11_sew q.1 = .ok q.2 := dec_wk _ 73 (by decide +kernel)
def TX11_let_q0 : List (Nat × Instr × Nat) := [(0, .aload_n 0, 1), (1, .iload_n 1, 1), (2, .invokevirtual 128, 3), (5, .aload_n 0, 1), (6, .iload_n 2, 1), (7, .iconst 0, 1), (8, .bipush 9, 2), (10, .invokevirtual 180, 3), (13, .aload_n 0, 1), (14, .getfield 33, 3), (17, .aload_n 0, 1), (18, .getfield 19, 3)]
theorem DX11_let_q0 : ∀ q ∈ TX11_let_q0, decode cX11_let q.1 = .ok q.2 := dec_wk _ 0 (by decide +kernel)
def TX11_let_q1 : List (Nat × Instr × Nat) := [(21, .invokevirtual 184, 3), (24, .aload_n 0, 1), (25, .getfield 19, 3), (28, .getfield 151, 3), (31, .iload_n 1, 1), (32, .iaload, 1), (33, .istore_n 3, 1), (34, .aload_n 0, 1), (35, .getfield 19, 3), (38, .getfield 151, 3), (41, .iload_n 1, 1), (42, .iload_n 2, 1)]
theorem DX11_let_q1 : ∀ q ∈ TX11_let_q1, decode cX11_let q.1 = .ok q.2 := dec_wk _ 21 (by decide +kernel)
def TX11_let_q2 : List (Nat × Instr × Nat) := [(43, .iastore, 1), (44, .iload_n 3, 1), (45, .ireturn, 1)]
theorem DX11_let_q2 : ∀ q ∈ TX11_let_q2, decode cX11_let q.1 = .ok q.2 := dec_wk _ 43 (by decide +kernel)
def TX11_chair_q0 : List (Nat × Instr × Nat) := [(0, .aload_n 0, 1), (1, .iload_n 1, 1), (2, .invokevirtual 215, 3), (5, .aload_n 0, 1), (6, .getfield 33, 3), (9, .aload_n 0, 1), (10, .getfield 19, 3), (13, .invokevirtual 184, 3), (16, .aload_n 0, 1), (17, .getfield 19, 3), (20, .getfield 229, 3), (23, .istore_n 3, 1)]
theorem DX11_chair_q0 : ∀ q ∈ TX11_chair_q0, decode cX11_chair q.1 = .ok q.2 := dec_wk _ 0 (by decide +kernel)
def TX11_chair_q1 : List (Nat × Instr × Nat) := [(24, .aload_n 0, 1), (25, .getfield 19, 3), (28, .iload_n 3, 1), (29, .iload_n 1, 1), (30, .iload_n 2, 1), (31, .invokestatic 206, 3), (34, .putfield 229, 3), (37, .aload_n 0, 1), (38, .getfield 19, 3), (41, .getfield 229, 3), (44, .iload_n 3, 1), (45, .if_icmp .eq 7, 3)]
theorem DX11_chair_q1 : ∀ q ∈ TX11_chair_q1, decode cX11_chair q.1 = .ok q.2 := dec_wk _ 24 (by decide +kernel)
def TX11_chair_q2 : List (Nat × Instr × Nat) := [(48, .iconst 1, 1), (49, .goto 4, 3), (52, .iconst 0, 1), (53, .ireturn, 1)]
theorem DX11_chair_q2 : ∀ q ∈ TX11_chair_q2, decode cX11_chair q.1 = .ok q.2 := dec_wk _ 48 (by decide +kernel)
def TX11_hours_q0 : List (Nat × Instr × Nat) := [(0, .aload_n 0, 1), (1, .iload_n 1, 1), (2, .iconst 1, 1), (3, .bipush 80, 2), (5, .invokevirtual 180, 3), (8, .aload_n 0, 1), (9, .getfield 33, 3), (12, .aload_n 0, 1), (13, .getfield 19, 3), (16, .invokevirtual 184, 3), (19, .aload_n 0, 1), (20, .getfield 66, 3)]
theorem DX11_hours_q0 : ∀ q ∈ TX11_hours_q0, decode cX11_hours q.1 = .ok q.2 := dec_wk _ 0 (by decide +kernel)
def TX11_hours_q1 : List (Nat × Instr × Nat) := [(23, .aload_n 0, 1), (24, .getfield 19, 3), (27, .iload_n 1, 1), (28, .invokevirtual 232, 3), (31, .ireturn, 1)]
theorem DX11_hours_q1 : ∀ q ∈ TX11_hours_q1, decode cX11_hours q.1 = .ok q.2 := dec_wk _ 23 (by decide +kernel)
def TX11_shade_q0 : List (Nat × Instr × Nat) := [(0, .aload_n 0, 1), (1, .getfield 19, 3), (4, .invokevirtual 235, 3), (7, .ireturn, 1)]
theorem DX11_shade_q0 : ∀ q ∈ TX11_shade_q0, decode cX11_shade q.1 = .ok q.2 := dec_wk _ 0 (by decide +kernel)
def TX11_dark_q0 : List (Nat × Instr × Nat) := [(0, .aload_n 0, 1), (1, .getfield 19, 3), (4, .invokevirtual 238, 3), (7, .ireturn, 1)]
theorem DX11_dark_q0 : ∀ q ∈ TX11_dark_q0, decode cX11_dark q.1 = .ok q.2 := dec_wk _ 0 (by decide +kernel)
def TX11_bare_q0 : List (Nat × Instr × Nat) := [(0, .aload_n 0, 1), (1, .getfield 19, 3), (4, .getfield 229, 3), (7, .aload_n 0, 1), (8, .getfield 19, 3), (11, .invokevirtual 235, 3), (14, .iconst (-1), 1), (15, .ixor, 1), (16, .iand, 1), (17, .ireturn, 1)]
theorem DX11_bare_q0 : ∀ q ∈ TX11_bare_q0, decode cX11_bare q.1 = .ok q.2 := dec_wk _ 0 (by decide +kernel)
def TX11_goes_q0 : List (Nat × Instr × Nat) := [(0, .aload_n 0, 1), (1, .iload_n 1, 1), (2, .invokevirtual 128, 3), (5, .aload_n 0, 1), (6, .getfield 37, 3), (9, .aload_n 0, 1), (10, .getfield 19, 3), (13, .invokevirtual 92, 3), (16, .aload_n 0, 1), (17, .getfield 37, 3), (20, .iload_n 1, 1), (21, .iload_n 2, 1)]
theorem DX11_goes_q0 : ∀ q ∈ TX11_goes_q0, decode cX11_goes q.1 = .ok q.2 := dec_wk _ 0 (by decide +kernel)
def TX11_goes_q1 : List (Nat × Instr × Nat) := [(22, .bipush 31, 2), (24, .invokevirtual 187, 3), (27, .ireturn, 1)]
theorem DX11_goes_q1 : ∀ q ∈ TX11_goes_q1, decode cX11_goes q.1 = .ok q.2 := dec_wk _ 22 (by decide +kernel)
def TX11_with_q0 : List (Nat × Instr × Nat) := [(0, .aload_n 0, 1), (1, .iload_n 1, 1), (2, .invokevirtual 128, 3), (5, .aload_n 0, 1), (6, .getfield 19, 3), (9, .iload_n 1, 1), (10, .iload_n 2, 1), (11, .invokevirtual 241, 3), (14, .ireturn, 1)]
theorem DX11_with_q0 : ∀ q ∈ TX11_with_q0, decode cX11_with q.1 = .ok q.2 := dec_wk _ 0 (by decide +kernel)
def TX11_would_q0 : List (Nat × Instr × Nat) := [(0, .aload_n 0, 1), (1, .iload_n 1, 1), (2, .invokevirtual 128, 3), (5, .aload_n 0, 1), (6, .iload_n 3, 1), (7, .iconst 1, 1), (8, .bipush 31, 2), (10, .invokevirtual 180, 3), (13, .aload_n 0, 1), (14, .getfield 37, 3), (17, .aload_n 0, 1), (18, .getfield 19, 3)]
theorem DX11_would_q0 : ∀ q ∈ TX11_would_q0, decode cX11_would q.1 = .ok q.2 := dec_wk _ 0 (by decide +kernel)
def TX11_would_q1 : List (Nat × Instr × Nat) := [(21, .invokevirtual 92, 3), (24, .aload_n 0, 1), (25, .getfield 37, 3), (28, .iload_n 1, 1), (29, .iload_n 2, 1), (30, .iload_n 3, 1), (31, .invokevirtual 187, 3), (34, .pop, 1), (35, .iload 4, 2), (37, .ifCond .eq 21, 3), (40, .aload_n 0, 1), (41, .getfield 37, 3)]
theorem DX11_would_q1 : ∀ q ∈ TX11_would_q1, decode cX11_would q.1 = .ok q.2 := dec_wk _ 21 (by decide +kernel)
def TX11_would_q2 : List (Nat × Instr × Nat) := [(44, .getfield 245, 3), (47, .aload_n 0, 1), (48, .getfield 19, 3), (51, .getfield 245, 3), (54, .isub, 1), (55, .goto 10, 3), (58, .aload_n 0, 1), (59, .getfield 37, 3), (62, .invokevirtual 238, 3), (65, .ireturn, 1)]
theorem DX11_would_q2 : ∀ q ∈ TX11_would_q2, decode cX11_would q.1 = .ok q.2 := dec_wk _ 44 (by decide +kernel)
def TX11_best_q0 : List (Nat × Instr × Nat) := [(0, .aload_n 0, 1), (1, .getfield 73, 3), (4, .aload_n 0, 1), (5, .getfield 19, 3), (8, .invokevirtual 248, 3), (11, .ireturn, 1)]
theorem DX11_best_q0 : ∀ q ∈ TX11_best_q0, decode cX11_best q.1 = .ok q.2 := dec_wk _ 0 (by decide +kernel)
def TX11_fewest_q0 : List (Nat × Instr × Nat) := [(0, .aload_n 0, 1), (1, .getfield 73, 3), (4, .aload_n 0, 1), (5, .getfield 19, 3), (8, .iload_n 1, 1), (9, .invokevirtual 252, 3), (12, .aload_n 0, 1), (13, .getfield 73, 3), (16, .getfield 256, 3), (19, .ireturn, 1)]
theorem DX11_fewest_q0 : ∀ q ∈ TX11_fewest_q0, decode cX11_fewest q.1 = .ok q.2 := dec_wk _ 0 (by decide +kernel)
def TX11_first_q0 : List (Nat × Instr × Nat) := [(0, .aload_n 0, 1), (1, .getfield 73, 3), (4, .aload_n 0, 1), (5, .getfield 19, 3), (8, .iload_n 1, 1), (9, .invokevirtual 252, 3), (12, .aload_n 0, 1), (13, .getfield 73, 3), (16, .getfield 259, 3), (19, .ireturn, 1)]
theorem DX11_first_q0 : ∀ q ∈ TX11_first_q0, decode cX11_first q.1 = .ok q.2 := dec_wk _ 0 (by decide +kernel)
def TX11_snags_q0 : List (Nat × Instr × Nat) := [(0, .aload_n 0, 1), (1, .invokevirtual 262, 3), (4, .iload_n 1, 1), (5, .ifCond .eq 13, 3), (8, .aload_n 0, 1), (9, .getfield 73, 3), (12, .invokevirtual 265, 3), (15, .goto 10, 3), (18, .aload_n 0, 1), (19, .getfield 73, 3), (22, .getfield 268, 3), (25, .ireturn, 1)]
theorem DX11_snags_q0 : ∀ q ∈ TX11_snags_q0, decode cX11_snags q.1 = .ok q.2 := dec_wk _ 0 (by decide +kernel)
def TX11_tries_q0 : List (Nat × Instr × Nat) := [(0, .aload_n 0, 1), (1, .invokevirtual 262, 3), (4, .aload_n 0, 1), (5, .getfield 73, 3), (8, .aload_n 0, 1), (9, .getfield 19, 3), (12, .invokevirtual 271, 3), (15, .ireturn, 1)]
theorem DX11_tries_q0 : ∀ q ∈ TX11_tries_q0, decode cX11_tries q.1 = .ok q.2 := dec_wk _ 0 (by decide +kernel)
def TX11_loosen_q0 : List (Nat × Instr × Nat) := [(0, .aload_n 0, 1), (1, .iload_n 1, 1), (2, .invokevirtual 128, 3), (5, .aload_n 0, 1), (6, .iload_n 3, 1), (7, .iconst 1, 1), (8, .bipush 31, 2), (10, .invokevirtual 180, 3), (13, .aload_n 0, 1), (14, .getfield 73, 3), (17, .aload_n 0, 1), (18, .getfield 19, 3)]
theorem DX11_loosen_q0 : ∀ q ∈ TX11_loosen_q0, decode cX11_loosen q.1 = .ok q.2 := dec_wk _ 0 (by decide +kernel)
def TX11_loosen_q1 : List (Nat × Instr × Nat) := [(21, .iload_n 1, 1), (22, .iload_n 2, 1), (23, .iload_n 3, 1), (24, .invokevirtual 274, 3), (27, .ireturn, 1)]
theorem DX11_loosen_q1 : ∀ q ∈ TX11_loosen_q1, decode cX11_loosen q.1 = .ok q.2 := dec_wk _ 21 (by decide +kernel)
def TX11_order_q0 : List (Nat × Instr × Nat) := [(0, .aload_n 0, 1), (1, .getfield 19, 3), (4, .invokestatic 278, 3), (7, .ireturn, 1)]
theorem DX11_order_q0 : ∀ q ∈ TX11_order_q0, decode cX11_order q.1 = .ok q.2 := dec_wk _ 0 (by decide +kernel)
def TX11_tight_q0 : List (Nat × Instr × Nat) := [(0, .aload_n 0, 1), (1, .iload_n 1, 1), (2, .iconst 2, 1), (3, .bipush 8, 2), (5, .invokevirtual 180, 3), (8, .aload_n 0, 1), (9, .getfield 19, 3), (12, .iload_n 1, 1), (13, .invokestatic 281, 3), (16, .ireturn, 1)]
theorem DX11_tight_q0 : ∀ q ∈ TX11_tight_q0, decode cX11_tight q.1 = .ok q.2 := dec_wk _ 0 (by decide +kernel)
def TX11_slack_q0 : List (Nat × Instr × Nat) := [(0, .aload_n 0, 1), (1, .getfield 19, 3), (4, .invokestatic 284, 3), (7, .ireturn, 1)]
theorem DX11_slack_q0 : ∀ q ∈ TX11_slack_q0, decode cX11_slack q.1 = .ok q.2 := dec_wk _ 0 (by decide +kernel)
def TX11_taut_q0 : List (Nat × Instr × Nat) := [(0, .aload_n 0, 1), (1, .getfield 19, 3), (4, .invokestatic 287, 3), (7, .ireturn, 1)]
theorem DX11_taut_q0 : ∀ q ∈ TX11_taut_q0, decode cX11_taut q.1 = .ok q.2 := dec_wk _ 0 (by decide +kernel)
def TX11_lit_q0 : List (Nat × Instr × Nat) := [(0, .iload_n 1, 1), (1, .ifCond .lt 9, 3), (4, .iload_n 1, 1), (5, .bipush 8, 2), (7, .if_icmp .lt 14, 3), (10, .new 290, 3), (13, .dup, 1), (14, .ldc_w 292, 3), (17, .invokespecial 294, 3), (20, .athrow, 1), (21, .aload_n 0, 1), (22, .getfield 19, 3)]
theorem DX11_lit_q0 : ∀ q ∈ TX11_lit_q0, decode cX11_lit q.1 = .ok q.2 := dec_wk _ 0 (by decide +kernel)
def TX11_lit_q1 : List (Nat × Instr × Nat) := [(25, .iload_n 1, 1), (26, .invokestatic 295, 3), (29, .ireturn, 1)]
theorem DX11_lit_q1 : ∀ q ∈ TX11_lit_q1, decode cX11_lit q.1 = .ok q.2 := dec_wk _ 25 (by decide +kernel)
def TX11_sunny_q0 : List (Nat × Instr × Nat) := [(0, .aload_n 0, 1), (1, .getfield 19, 3), (4, .invokestatic 298, 3), (7, .ireturn, 1)]
theorem DX11_sunny_q0 : ∀ q ∈ TX11_sunny_q0, decode cX11_sunny q.1 = .ok q.2 := dec_wk _ 0 (by decide +kernel)
def TX11_faded_q0 : List (Nat × Instr × Nat) := [(0, .aload_n 0, 1), (1, .iload_n 1, 1), (2, .iconst 0, 1), (3, .bipush 80, 2), (5, .invokevirtual 180, 3), (8, .aload_n 0, 1), (9, .getfield 66, 3), (12, .aload_n 0, 1), (13, .getfield 19, 3), (16, .iload_n 1, 1), (17, .invokevirtual 301, 3), (20, .aload_n 0, 1)]
theorem DX11_faded_q0 : ∀ q ∈ TX11_faded_q0, decode cX11_faded q.1 = .ok q.2 := dec_wk _ 0 (by decide +kernel)
def TX11_faded_q1 : List (Nat × Instr × Nat) := [(21, .getfield 37, 3), (24, .invokevirtual 304, 3), (27, .ireturn, 1)]
theorem DX11_faded_q1 : ∀ q ∈ TX11_faded_q1, decode cX11_faded q.1 = .ok q.2 := dec_wk _ 21 (by decide +kernel)
def TX11_pale_q0 : List (Nat × Instr × Nat) := [(0, .aload_n 0, 1), (1, .getfield 66, 3), (4, .aload_n 0, 1), (5, .getfield 19, 3), (8, .invokevirtual 307, 3), (11, .ireturn, 1)]
theorem DX11_pale_q0 : ∀ q ∈ TX11_pale_q0, decode cX11_pale q.1 = .ok q.2 := dec_wk _ 0 (by decide +kernel)
def TX11_lets_q0 : List (Nat × Instr × Nat) := [(0, .aload_n 0, 1), (1, .iload_n 1, 1), (2, .invokevirtual 128, 3), (5, .aload_n 0, 1), (6, .iload_n 2, 1), (7, .iconst 0, 1), (8, .bipush 9, 2), (10, .invokevirtual 180, 3), (13, .aload_n 0, 1), (14, .getfield 19, 3), (17, .iload_n 1, 1), (18, .iload_n 2, 1)]
theorem DX11_lets_q0 : ∀ q ∈ TX11_lets_q0, decode cX11_lets q.1 = .ok q.2 := dec_wk _ 0 (by decide +kernel)
def TX11_lets_q1 : List (Nat × Instr × Nat) := [(19, .invokestatic 310, 3), (22, .ireturn, 1)]
theorem DX11_lets_q1 : ∀ q ∈ TX11_lets_q1, decode cX11_lets q.1 = .ok q.2 := dec_wk _ 19 (by decide +kernel)
def TX11_envy_q0 : List (Nat × Instr × Nat) := [(0, .aload_n 0, 1), (1, .getfield 19, 3), (4, .invokestatic 314, 3), (7, .ireturn, 1)]
theorem DX11_envy_q0 : ∀ q ∈ TX11_envy_q0, decode cX11_envy q.1 = .ok q.2 := dec_wk _ 0 (by decide +kernel)
def TX11_rests_q0 : List (Nat × Instr × Nat) := [(0, .aload_n 0, 1), (1, .iload_n 1, 1), (2, .invokevirtual 128, 3), (5, .aload_n 0, 1), (6, .getfield 19, 3), (9, .iload_n 1, 1), (10, .invokestatic 317, 3), (13, .ireturn, 1)]
theorem DX11_rests_q0 : ∀ q ∈ TX11_rests_q0, decode cX11_rests q.1 = .ok q.2 := dec_wk _ 0 (by decide +kernel)
def TX11_bunch_q0 : List (Nat × Instr × Nat) := [(0, .aload_n 0, 1), (1, .getfield 19, 3), (4, .invokestatic 320, 3), (7, .ireturn, 1)]
theorem DX11_bunch_q0 : ∀ q ∈ TX11_bunch_q0, decode cX11_bunch q.1 = .ok q.2 := dec_wk _ 0 (by decide +kernel)
def TX11_wooden_q0 : List (Nat × Instr × Nat) := [(0, .aload_n 0, 1), (1, .getfield 19, 3), (4, .getfield 145, 3), (7, .ireturn, 1)]
theorem DX11_wooden_q0 : ∀ q ∈ TX11_wooden_q0, decode cX11_wooden q.1 = .ok q.2 := dec_wk _ 0 (by decide +kernel)
def TX11_caught_q0 : List (Nat × Instr × Nat) := [(0, .aload_n 0, 1), (1, .getfield 19, 3), (4, .getfield 156, 3), (7, .ireturn, 1)]
theorem DX11_caught_q0 : ∀ q ∈ TX11_caught_q0, decode cX11_caught q.1 = .ok q.2 := dec_wk _ 0 (by decide +kernel)
def TX11_loose_q0 : List (Nat × Instr × Nat) := [(0, .aload_n 0, 1), (1, .getfield 19, 3), (4, .invokevirtual 323, 3), (7, .ireturn, 1)]
theorem DX11_loose_q0 : ∀ q ∈ TX11_loose_q0, decode cX11_loose q.1 = .ok q.2 := dec_wk _ 0 (by decide +kernel)
def TX11_beyond_q0 : List (Nat × Instr × Nat) := [(0, .aload_n 0, 1), (1, .getfield 19, 3), (4, .invokestatic 326, 3), (7, .ireturn, 1)]
theorem DX11_beyond_q0 : ∀ q ∈ TX11_beyond_q0, decode cX11_beyond q.1 = .ok q.2 := dec_wk _ 0 (by decide +kernel)
def TX11_odds_q0 : List (Nat × Instr × Nat) := [(0, .aload_n 0, 1), (1, .iload_n 1, 1), (2, .invokevirtual 128, 3), (5, .aload_n 0, 1), (6, .iload_n 2, 1), (7, .iconst 0, 1), (8, .iconst 4, 1), (9, .invokevirtual 180, 3), (12, .aload_n 0, 1), (13, .getfield 66, 3), (16, .aload_n 0, 1), (17, .getfield 19, 3)]
theorem DX11_odds_q0 : ∀ q ∈ TX11_odds_q0, decode cX11_odds q.1 = .ok q.2 := dec_wk _ 0 (by decide +kernel)
def TX11_odds_q1 : List (Nat × Instr × Nat) := [(20, .iload_n 1, 1), (21, .iload_n 2, 1), (22, .invokevirtual 329, 3), (25, .ireturn, 1)]
theorem DX11_odds_q1 : ∀ q ∈ TX11_odds_q1, decode cX11_odds q.1 = .ok q.2 := dec_wk _ 20 (by decide +kernel)
def TX11_twins_q0 : List (Nat × Instr × Nat) := [(0, .aload_n 0, 1), (1, .getfield 19, 3), (4, .invokestatic 332, 3), (7, .ireturn, 1)]
theorem DX11_twins_q0 : ∀ q ∈ TX11_twins_q0, decode cX11_twins q.1 = .ok q.2 := dec_wk _ 0 (by decide +kernel)
def TX11_ahead_q0 : List (Nat × Instr × Nat) := [(0, .aload_n 0, 1), (1, .iload_n 1, 1), (2, .invokevirtual 128, 3), (5, .aload_n 0, 1), (6, .iload_n 2, 1), (7, .iconst 0, 1), (8, .bipush 80, 2), (10, .invokevirtual 180, 3), (13, .aload_n 0, 1), (14, .getfield 66, 3), (17, .aload_n 0, 1), (18, .getfield 19, 3)]
theorem DX11_ahead_q0 : ∀ q ∈ TX11_ahead_q0, decode cX11_ahead q.1 = .ok q.2 := dec_wk _ 0 (by decide +kernel)
def TX11_ahead_q1 : List (Nat × Instr × Nat) := [(21, .iload_n 2, 1), (22, .invokevirtual 301, 3), (25, .aload_n 0, 1), (26, .getfield 37, 3), (29, .getfield 148, 3), (32, .iload_n 1, 1), (33, .iaload, 1), (34, .ireturn, 1)]
theorem DX11_ahead_q1 : ∀ q ∈ TX11_ahead_q1, decode cX11_ahead q.1 = .ok q.2 := dec_wk _ 21 (by decide +kernel)
def TX11_trial_q0 : List (Nat × Instr × Nat) := [(0, .aload_n 0, 1), (1, .iload_n 1, 1), (2, .iconst 0, 1), (3, .bipush 80, 2), (5, .invokevirtual 180, 3), (8, .aload_n 0, 1), (9, .getfield 66, 3), (12, .aload_n 0, 1), (13, .getfield 19, 3), (16, .iload_n 1, 1), (17, .aload_n 0, 1), (18, .getfield 19, 3)]
theorem DX11_trial_q0 : ∀ q ∈ TX11_trial_q0, decode cX11_trial q.1 = .ok q.2 := dec_wk _ 0 (by decide +kernel)
def TX11_trial_q1 : List (Nat × Instr × Nat) := [(21, .getfield 335, 3), (24, .invokevirtual 338, 3), (27, .iload_n 2, 1), (28, .ifCond .eq 13, 3), (31, .aload_n 0, 1), (32, .getfield 37, 3), (35, .invokevirtual 323, 3), (38, .goto 10, 3), (41, .aload_n 0, 1), (42, .getfield 37, 3), (45, .getfield 156, 3), (48, .ireturn, 1)]
theorem DX11_trial_q1 : ∀ q ∈ TX11_trial_q1, decode cX11_trial q.1 = .ok q.2 := dec_wk _ 21 (by decide +kernel)
def TX11_span_q0 : List (Nat × Instr × Nat) := [(0, .aload_n 0, 1), (1, .iload_n 1, 1), (2, .iconst 0, 1), (3, .bipush 80, 2), (5, .invokevirtual 180, 3), (8, .iconst (-1), 1), (9, .istore_n 3, 1), (10, .iconst 1, 1), (11, .istore 4, 2), (13, .iload 4, 2), (15, .bipush 6, 2), (17, .if_icmp .gt 73, 3)]
theorem DX11_span_q0 : ∀ q ∈ TX11_span_q0, decode cX11_span q.1 = .ok q.2 := dec_wk _ 0 (by decide +kernel)
def TX11_span_q1 : List (Nat × Instr × Nat) := [(20, .aload_n 0, 1), (21, .getfield 66, 3), (24, .aload_n 0, 1), (25, .getfield 19, 3), (28, .iload_n 1, 1), (29, .iload 4, 2), (31, .invokevirtual 338, 3), (34, .aload_n 0, 1), (35, .getfield 37, 3), (38, .getfield 156, 3), (41, .invokestatic 342, 3), (44, .aload_n 0, 1)]
theorem DX11_span_q1 : ∀ q ∈ TX11_span_q1, decode cX11_span q.1 = .ok q.2 := dec_wk _ 20 (by decide +kernel)
def TX11_span_q2 : List (Nat × Instr × Nat) := [(45, .getfield 37, 3), (48, .invokevirtual 323, 3), (51, .invokestatic 342, 3), (54, .iadd, 1), (55, .istore 5, 2), (57, .iload_n 3, 1), (58, .iconst (-1), 1), (59, .if_icmp .eq 22, 3), (62, .iload_n 2, 1), (63, .ifCond .eq 12, 3), (66, .iload 5, 2), (68, .iload_n 3, 1)]
theorem DX11_span_q2 : ∀ q ∈ TX11_span_q2, decode cX11_span q.1 = .ok q.2 := dec_wk _ 45 (by decide +kernel)
def TX11_span_q3 : List (Nat × Instr × Nat) := [(69, .if_icmp .le 15, 3), (72, .goto 9, 3), (75, .iload 5, 2), (77, .iload_n 3, 1), (78, .if_icmp .ge 6, 3), (81, .iload 5, 2), (83, .istore_n 3, 1), (84, .iinc 4 1, 3), (87, .goto (-74), 3), (90, .iload_n 3, 1), (91, .ireturn, 1)]
theorem DX11_span_q3 : ∀ q ∈ TX11_span_q3, decode cX11_span q.1 = .ok q.2 := dec_wk _ 69 (by decide +kernel)
def TX11_led_q0 : List (Nat × Instr × Nat) := [(0, .aload_n 0, 1), (1, .iload_n 1, 1), (2, .invokevirtual 128, 3), (5, .iload_n 2, 1), (6, .ifCond .eq 17, 3), (9, .aload_n 0, 1), (10, .getfield 19, 3), (13, .getfield 191, 3), (16, .iload_n 1, 1), (17, .invokevirtual 348, 3), (20, .goto 14, 3), (23, .aload_n 0, 1)]
theorem DX11_led_q0 : ∀ q ∈ TX11_led_q0, decode cX11_led q.1 = .ok q.2 := dec_wk _ 0 (by decide +kernel)
def TX11_led_q1 : List (Nat × Instr × Nat) := [(24, .getfield 19, 3), (27, .getfield 191, 3), (30, .iload_n 1, 1), (31, .invokevirtual 351, 3), (34, .ireturn, 1)]
theorem DX11_led_q1 : ∀ q ∈ TX11_led_q1, decode cX11_led q.1 = .ok q.2 := dec_wk _ 24 (by decide +kernel)
def TX11_log_q0 : List (Nat × Instr × Nat) := [(0, .iload_n 2, 1), (1, .ifCond .lt 9, 3), (4, .iload_n 2, 1), (5, .bipush 6, 2), (7, .if_icmp .lt 14, 3), (10, .new 175, 3), (13, .dup, 1), (14, .ldc_w 354, 3), (17, .invokespecial 179, 3), (20, .athrow, 1), (21, .aload_n 0, 1), (22, .getfield 19, 3)]
theorem DX11_log_q0 : ∀ q ∈ TX11_log_q0, decode cX11_log q.1 = .ok q.2 := dec_wk _ 0 (by decide +kernel)
def TX11_log_q1 : List (Nat × Instr × Nat) := [(25, .getfield 191, 3), (28, .iload_n 1, 1), (29, .iload_n 2, 1), (30, .invokevirtual 356, 3), (33, .ireturn, 1)]
theorem DX11_log_q1 : ∀ q ∈ TX11_log_q1, decode cX11_log q.1 = .ok q.2 := dec_wk _ 25 (by decide +kernel)
def TX11_seed_q0 : List (Nat × Instr × Nat) := [(0, .aload_n 0, 1), (1, .getfield 19, 3), (4, .getfield 335, 3), (7, .istore_n 2, 1), (8, .aload_n 0, 1), (9, .getfield 19, 3), (12, .iload_n 1, 1), (13, .putfield 335, 3), (16, .iload_n 2, 1), (17, .ireturn, 1)]
theorem DX11_seed_q0 : ∀ q ∈ TX11_seed_q0, decode cX11_seed q.1 = .ok q.2 := dec_wk _ 0 (by decide +kernel)
def TX11_undo_q0 : List (Nat × Instr × Nat) := [(0, .aload_n 0, 1), (1, .getfield 33, 3), (4, .aload_n 0, 1), (5, .getfield 19, 3), (8, .invokevirtual 358, 3), (11, .ireturn, 1)]
theorem DX11_undo_q0 : ∀ q ∈ TX11_undo_q0, decode cX11_undo q.1 = .ok q.2 := dec_wk _ 0 (by decide +kernel)
def TX11_image_q0 : List (Nat × Instr × Nat) := [(0, .aload_n 0, 1), (1, .getfield 362, 3), (4, .ifnonnull 14, 3), (7, .aload_n 0, 1), (8, .new 16, 3), (11, .dup, 1), (12, .invokespecial 18, 3), (15, .putfield 362, 3), (18, .aload_n 0, 1), (19, .getfield 365, 3), (22, .ifnonnull 14, 3), (25, .aload_n 0, 1)]
theorem DX11_image_q0 : ∀ q ∈ TX11_image_q0, decode cX11_image q.1 = .ok q.2 := dec_wk _ 0 (by decide +kernel)
def TX11_image_q1 : List (Nat × Instr × Nat) := [(26, .new 23, 3), (29, .dup, 1), (30, .invokespecial 25, 3), (33, .putfield 365, 3), (36, .aload_n 0, 1), (37, .getfield 362, 3), (40, .aload_n 0, 1), (41, .getfield 19, 3), (44, .invokevirtual 92, 3), (47, .aload_n 0, 1), (48, .getfield 365, 3), (51, .aload_n 0, 1)]
theorem DX11_image_q1 : ∀ q ∈ TX11_image_q1, decode cX11_image q.1 = .ok q.2 := dec_wk _ 26 (by decide +kernel)
def TX11_image_q2 : List (Nat × Instr × Nat) := [(52, .getfield 26, 3), (55, .invokevirtual 122, 3), (58, .return_, 1)]
theorem DX11_image_q2 : ∀ q ∈ TX11_image_q2, decode cX11_image q.1 = .ok q.2 := dec_wk _ 52 (by decide +kernel)
def TX11_back_q0 : List (Nat × Instr × Nat) := [(0, .aload_n 0, 1), (1, .getfield 362, 3), (4, .ifnull 10, 3), (7, .aload_n 0, 1), (8, .getfield 365, 3), (11, .ifnonnull 5, 3), (14, .iconst 0, 1), (15, .ireturn, 1), (16, .aload_n 0, 1), (17, .getfield 19, 3), (20, .aload_n 0, 1), (21, .getfield 362, 3)]
theorem DX11_back_q0 : ∀ q ∈ TX11_back_q0, decode cX11_back q.1 = .ok q.2 := dec_wk _ 0 (by decide +kernel)
def TX11_back_q1 : List (Nat × Instr × Nat) := [(24, .invokevirtual 92, 3), (27, .aload_n 0, 1), (28, .getfield 26, 3), (31, .aload_n 0, 1), (32, .getfield 365, 3), (35, .invokevirtual 122, 3), (38, .aload_n 0, 1), (39, .getfield 33, 3), (42, .invokevirtual 115, 3), (45, .iconst 1, 1), (46, .ireturn, 1)]
theorem DX11_back_q1 : ∀ q ∈ TX11_back_q1, decode cX11_back q.1 = .ok q.2 := dec_wk _ 24 (by decide +kernel)
def TX11_count_q0 : List (Nat × Instr × Nat) := [(0, .iload_n 1, 1)]
theorem DX11_count_q0 : ∀ q ∈ TX11_count_q0, decode cX11_count q.1 = .ok q.2 := dec_wk _ 0 (by decide +kernel)
def TX11_count_q1 : List (Nat × Instr × Nat) := [(1, .tableswitch 164 0 10 #[59, 67, 75, 97, 105, 113, 121, 129, 137, 145, 156], 59)]
theorem DX11_count_q1 : ∀ q ∈ TX11_count_q1, decode cX11_count q.1 = .ok q.2 := by decide +kernel
def TX11_count_q2 : List (Nat × Instr × Nat) := [(60, .aload_n 0, 1), (61, .getfield 19, 3), (64, .getfield 210, 3), (67, .ireturn, 1), (68, .aload_n 0, 1), (69, .getfield 19, 3), (72, .getfield 107, 3), (75, .ireturn, 1), (76, .aload_n 0, 1), (77, .getfield 26, 3), (80, .getfield 368, 3), (83, .ifCond .eq 13, 3)]
theorem DX11_count_q2 : ∀ q ∈ TX11_count_q2, decode cX11_count q.1 = .ok q.2 := dec_wk _ 60 (by decide +kernel)
def TX11_count_q3 : List (Nat × Instr × Nat) := [(86, .aload_n 0, 1), (87, .getfield 26, 3), (90, .getfield 125, 3), (93, .goto 4, 3), (96, .iconst (-1), 1), (97, .ireturn, 1), (98, .aload_n 0, 1), (99, .getfield 19, 3), (102, .getfield 372, 3), (105, .ireturn, 1), (106, .aload_n 0, 1), (107, .getfield 19, 3)]
theorem DX11_count_q3 : ∀ q ∈ TX11_count_q3, decode cX11_count q.1 = .ok q.2 := dec_wk _ 86 (by decide +kernel)
def TX11_count_q4 : List (Nat × Instr × Nat) := [(110, .getfield 375, 3), (113, .ireturn, 1), (114, .aload_n 0, 1), (115, .getfield 19, 3), (118, .getfield 378, 3), (121, .ireturn, 1), (122, .aload_n 0, 1), (123, .getfield 19, 3), (126, .getfield 381, 3), (129, .ireturn, 1), (130, .aload_n 0, 1), (131, .getfield 19, 3)]
theorem DX11_count_q4 : ∀ q ∈ TX11_count_q4, decode cX11_count q.1 = .ok q.2 := dec_wk _ 110 (by decide +kernel)
def TX11_count_q5 : List (Nat × Instr × Nat) := [(134, .getfield 229, 3), (137, .ireturn, 1), (138, .aload_n 0, 1), (139, .getfield 19, 3), (142, .getfield 245, 3), (145, .ireturn, 1), (146, .aload_n 0, 1), (147, .getfield 19, 3), (150, .getfield 191, 3), (153, .getfield 384, 3), (156, .ireturn, 1), (157, .aload_n 0, 1)]
theorem DX11_count_q5 : ∀ q ∈ TX11_count_q5, decode cX11_count q.1 = .ok q.2 := dec_wk _ 134 (by decide +kernel)
def TX11_count_q6 : List (Nat × Instr × Nat) := [(158, .getfield 33, 3), (161, .getfield 387, 3), (164, .ireturn, 1), (165, .iconst (-1), 1), (166, .ireturn, 1)]
theorem DX11_count_q6 : ∀ q ∈ TX11_count_q6, decode cX11_count q.1 = .ok q.2 := dec_wk _ 158 (by decide +kernel)
def TX11_requireRing_q0 : List (Nat × Instr × Nat) := [(0, .iload_n 1, 1), (1, .ifCond .lt 14, 3), (4, .iload_n 1, 1), (5, .aload_n 0, 1), (6, .getfield 19, 3), (9, .getfield 210, 3), (12, .if_icmp .lt 14, 3), (15, .new 290, 3), (18, .dup, 1), (19, .ldc_w 388, 3), (22, .invokespecial 294, 3), (25, .athrow, 1)]
theorem DX11_requireRing_q0 : ∀ q ∈ TX11_requireRing_q0, decode cX11_requireRing q.1 = .ok q.2 := dec_wk _ 0 (by decide +kernel)
def TX11_requireRing_q1 : List (Nat × Instr × Nat) := [(26, .return_, 1)]
theorem DX11_requireRing_q1 : ∀ q ∈ TX11_requireRing_q1, decode cX11_requireRing q.1 = .ok q.2 := dec_wk _ 26 (by decide +kernel)
def TX11_requirePlace_q0 : List (Nat × Instr × Nat) := [(0, .iload_n 1, 1), (1, .ifCond .lt 9, 3), (4, .iload_n 1, 1), (5, .bipush 31, 2), (7, .if_icmp .le 14, 3), (10, .new 290, 3), (13, .dup, 1), (14, .ldc_w 390, 3), (17, .invokespecial 294, 3), (20, .athrow, 1), (21, .return_, 1)]
theorem DX11_requirePlace_q0 : ∀ q ∈ TX11_requirePlace_q0, decode cX11_requirePlace q.1 = .ok q.2 := dec_wk _ 0 (by decide +kernel)
def TX11_requireNumber_q0 : List (Nat × Instr × Nat) := [(0, .iload_n 1, 1), (1, .iload_n 2, 1), (2, .if_icmp .lt 8, 3), (5, .iload_n 1, 1), (6, .iload_n 3, 1), (7, .if_icmp .le 14, 3), (10, .new 100, 3), (13, .dup, 1), (14, .ldc_w 392, 3), (17, .invokespecial 104, 3), (20, .athrow, 1), (21, .return_, 1)]
theorem DX11_requireNumber_q0 : ∀ q ∈ TX11_requireNumber_q0, decode cX11_requireNumber q.1 = .ok q.2 := dec_wk _ 0 (by decide +kernel)
def TX11_readSnags_q0 : List (Nat × Instr × Nat) := [(0, .aload_n 0, 1), (1, .getfield 73, 3), (4, .aload_n 0, 1), (5, .getfield 19, 3), (8, .getfield 210, 3), (11, .invokevirtual 394, 3), (14, .istore_n 1, 1), (15, .iload_n 1, 1), (16, .ifCond .eq 14, 3), (19, .aload_n 0, 1), (20, .getfield 73, 3), (23, .aload_n 0, 1)]
theorem DX11_readSnags_q0 : ∀ q ∈ TX11_readSnags_q0, decode cX11_readSnags q.1 = .ok q.2 := dec_wk _ 0 (by decide +kernel)
def TX11_readSnags_q1 : List (Nat × Instr × Nat) := [(24, .getfield 19, 3), (27, .invokevirtual 398, 3), (30, .aload_n 0, 1), (31, .getfield 10, 3), (34, .iconst 0, 1), (35, .putfield 89, 3), (38, .iload_n 1, 1), (39, .ifCond .ne 14, 3), (42, .new 100, 3), (45, .dup, 1), (46, .ldc_w 401, 3), (49, .invokespecial 104, 3)]
theorem DX11_readSnags_q1 : ∀ q ∈ TX11_readSnags_q1, decode cX11_readSnags q.1 = .ok q.2 := dec_wk _ 24 (by decide +kernel)
def TX11_readSnags_q2 : List (Nat × Instr × Nat) := [(52, .athrow, 1), (53, .return_, 1)]
theorem DX11_readSnags_q2 : ∀ q ∈ TX11_readSnags_q2, decode cX11_readSnags q.1 = .ok q.2 := dec_wk _ 52 (by decide +kernel)
def TX11_bit_q0 : List (Nat × Instr × Nat) := [(0, .iload_n 0, 1), (1, .iload_n 1, 1), (2, .iushr, 1), (3, .iconst 1, 1), (4, .iand, 1), (5, .ireturn, 1)]
theorem DX11_bit_q0 : ∀ q ∈ TX11_bit_q0, decode cX11_bit q.1 = .ok q.2 := dec_wk _ 0 (by decide +kernel)
def TX11_withBit_q0 : List (Nat × Instr × Nat) := [(0, .iload_n 2, 1), (1, .ifCond .eq 11, 3), (4, .iload_n 0, 1), (5, .iconst 1, 1), (6, .iload_n 1, 1), (7, .ishl, 1), (8, .ior, 1), (9, .goto 10, 3), (12, .iload_n 0, 1), (13, .iconst 1, 1), (14, .iload_n 1, 1), (15, .ishl, 1)]
theorem DX11_withBit_q0 : ∀ q ∈ TX11_withBit_q0, decode cX11_withBit q.1 = .ok q.2 := dec_wk _ 0 (by decide +kernel)
def TX11_withBit_q1 : List (Nat × Instr × Nat) := [(16, .iconst (-1), 1), (17, .ixor, 1), (18, .iand, 1), (19, .ireturn, 1)]
theorem DX11_withBit_q1 : ∀ q ∈ TX11_withBit_q1, decode cX11_withBit q.1 = .ok q.2 := dec_wk _ 16 (by decide +kernel)
def TX12_thrown_q0 : List (Nat × Instr × Nat) := [(0, .aload_n 0, 1), (1, .getfield 3, 3), (4, .ireturn, 1)]
theorem DX12_thrown_q0 : ∀ q ∈ TX12_thrown_q0, decode cX12_thrown q.1 = .ok q.2 := dec_wk _ 0 (by decide +kernel)
def TX12_throwsIf_q0 : List (Nat × Instr × Nat) := [(0, .iload_n 1, 1), (1, .ifCond .eq 8, 3), (4, .aload_n 0, 1), (5, .iload_n 2, 1), (6, .putfield 3, 3), (9, .iload_n 1, 1), (10, .ireturn, 1)]
theorem DX12_throwsIf_q0 : ∀ q ∈ TX12_throwsIf_q0, decode cX12_throwsIf q.1 = .ok q.2 := dec_wk _ 0 (by decide +kernel)
def TX12_in_q0 : List (Nat × Instr × Nat) := [(0, .iload_n 0, 1), (1, .iload_n 1, 1), (2, .if_icmp .lt 12, 3), (5, .iload_n 0, 1), (6, .iload_n 2, 1), (7, .if_icmp .gt 7, 3), (10, .iconst 1, 1), (11, .goto 4, 3), (14, .iconst 0, 1), (15, .ireturn, 1)]
theorem DX12_in_q0 : ∀ q ∈ TX12_in_q0, decode cX12_in q.1 = .ok q.2 := dec_wk _ 0 (by decide +kernel)
def TX12_has_q0 : List (Nat × Instr × Nat) := [(0, .iload_n 0, 1), (1, .iload_n 1, 1), (2, .ishr, 1), (3, .iconst 1, 1), (4, .iand, 1), (5, .iconst 1, 1), (6, .if_icmp .ne 7, 3), (9, .iconst 1, 1), (10, .goto 4, 3), (13, .iconst 0, 1), (14, .ireturn, 1)]
theorem DX12_has_q0 : ∀ q ∈ TX12_has_q0, decode cX12_has q.1 = .ok q.2 := dec_wk _ 0 (by decide +kernel)
def TX12_init_q0 : List (Nat × Instr × Nat) := [(0, .aload_n 0, 1), (1, .invokespecial 7, 3), (4, .aload_n 0, 1), (5, .sipush 2133, 3), (8, .newarray .int, 2), (10, .putfield 13, 3), (13, .aload_n 0, 1), (14, .sipush 1284, 3), (17, .newarray .int, 2), (19, .putfield 17, 3), (22, .aload_n 0, 1), (23, .sipush 1284, 3)]
theorem DX12_init_q0 : ∀ q ∈ TX12_init_q0, decode cX12_init q.1 = .ok q.2 := dec_wk _ 0 (by decide +kernel)
def TX12_init_q1 : List (Nat × Instr × Nat) := [(26, .newarray .int, 2), (28, .putfield 20, 3), (31, .aload_n 0, 1), (32, .sipush 435, 3), (35, .newarray .int, 2), (37, .putfield 23, 3), (40, .aload_n 0, 1), (41, .sipush 5220, 3), (44, .newarray .int, 2), (46, .putfield 26, 3), (49, .aload_n 0, 1), (50, .sipush 400, 3)]
theorem DX12_init_q1 : ∀ q ∈ TX12_init_q1, decode cX12_init q.1 = .ok q.2 := dec_wk _ 26 (by decide +kernel)
def TX12_init_q2 : List (Nat × Instr × Nat) := [(53, .newarray .byte, 2), (55, .putfield 29, 3), (58, .aload_n 0, 1), (59, .iconst (-1), 1), (60, .putfield 33, 3), (63, .aload_n 0, 1), (64, .iconst 5, 1), (65, .newarray .int, 2), (67, .putfield 36, 3), (70, .aload_n 0, 1), (71, .sipush 400, 3), (74, .newarray .int, 2)]
theorem DX12_init_q2 : ∀ q ∈ TX12_init_q2, decode cX12_init q.1 = .ok q.2 := dec_wk _ 53 (by decide +kernel)
def TX12_init_q3 : List (Nat × Instr × Nat) := [(76, .putfield 39, 3), (79, .aload_n 0, 1), (80, .sipush 256, 3), (83, .newarray .boolean, 2), (85, .putfield 42, 3), (88, .aload_n 0, 1), (89, .bipush 32, 2), (91, .newarray .int, 2), (93, .putfield 46, 3), (96, .aload_n 0, 1), (97, .bipush 8, 2), (99, .newarray .int, 2)]
theorem DX12_init_q3 : ∀ q ∈ TX12_init_q3, decode cX12_init q.1 = .ok q.2 := dec_wk _ 76 (by decide +kernel)
def TX12_init_q4 : List (Nat × Instr × Nat) := [(101, .putfield 49, 3), (104, .aload_n 0, 1), (105, .getfield 13, 3), (108, .iconst 5, 1), (109, .bipush 16, 2), (111, .iastore, 1), (112, .aload_n 0, 1), (113, .getfield 13, 3), (116, .bipush 6, 2), (118, .bipush 8, 2), (120, .iastore, 1), (121, .aload_n 0, 1)]
theorem DX12_init_q4 : ∀ q ∈ TX12_init_q4, decode cX12_init q.1 = .ok q.2 := dec_wk _ 101 (by decide +kernel)
def TX12_init_q5 : List (Nat × Instr × Nat) := [(122, .getfield 13, 3), (125, .bipush 10, 2), (127, .iconst 1, 1), (128, .iastore, 1)]
theorem DX12_init_q5 : ∀ q ∈ TX12_init_q5, decode cX12_init q.1 = .ok q.2 := dec_wk _ 122 (by decide +kernel)
def TX12_init_1_q0 : List (Nat × Instr × Nat) := [(129, .return_, 1)]
theorem DX12_init_1_q0 : ∀ q ∈ TX12_init_1_q0, decode cX12_init q.1 = .ok q.2 := dec_wk _ 129 (by decide +kernel)
def TX12_image_q0 : List (Nat × Instr × Nat) := [(0, .aload_n 0, 1), (1, .iconst 0, 1), (2, .putfield 3, 3), (5, .iconst 0, 1), (6, .istore_n 1, 1), (7, .iload_n 1, 1), (8, .sipush 1284, 3), (11, .if_icmp .ge 21, 3), (14, .aload_n 0, 1), (15, .getfield 17, 3), (18, .iload_n 1, 1), (19, .aload_n 0, 1)]
theorem DX12_image_q0 : ∀ q ∈ TX12_image_q0, decode cX12_image q.1 = .ok q.2 := dec_wk _ 0 (by decide +kernel)
def TX12_image_q1 : List (Nat × Instr × Nat) := [(20, .getfield 13, 3), (23, .iload_n 1, 1), (24, .iaload, 1), (25, .iastore, 1), (26, .iinc 1 1, 3), (29, .goto (-22), 3), (32, .aload_n 0, 1), (33, .iconst 1, 1), (34, .putfield 52, 3), (37, .return_, 1)]
theorem DX12_image_q1 : ∀ q ∈ TX12_image_q1, decode cX12_image q.1 = .ok q.2 := dec_wk _ 20 (by decide +kernel)
def TX12_back_q0 : List (Nat × Instr × Nat) := [(0, .aload_n 0, 1), (1, .iconst 0, 1), (2, .putfield 3, 3), (5, .aload_n 0, 1), (6, .getfield 52, 3), (9, .ifCond .ne 5, 3), (12, .iconst 0, 1), (13, .ireturn, 1), (14, .iconst 0, 1), (15, .istore_n 1, 1), (16, .iload_n 1, 1), (17, .sipush 1284, 3)]
theorem DX12_back_q0 : ∀ q ∈ TX12_back_q0, decode cX12_back q.1 = .ok q.2 := dec_wk _ 0 (by decide +kernel)
def TX12_back_q1 : List (Nat × Instr × Nat) := [(20, .if_icmp .ge 21, 3), (23, .aload_n 0, 1), (24, .getfield 13, 3), (27, .iload_n 1, 1), (28, .aload_n 0, 1), (29, .getfield 17, 3), (32, .iload_n 1, 1), (33, .iaload, 1), (34, .iastore, 1), (35, .iinc 1 1, 3), (38, .goto (-22), 3), (41, .aload_n 0, 1)]
theorem DX12_back_q1 : ∀ q ∈ TX12_back_q1, decode cX12_back q.1 = .ok q.2 := dec_wk _ 20 (by decide +kernel)
def TX12_back_q2 : List (Nat × Instr × Nat) := [(42, .iconst 0, 1), (43, .putfield 56, 3), (46, .iconst 1, 1), (47, .ireturn, 1)]
theorem DX12_back_q2 : ∀ q ∈ TX12_back_q2, decode cX12_back q.1 = .ok q.2 := dec_wk _ 42 (by decide +kernel)
def TX12_remembers_q0 : List (Nat × Instr × Nat) := [(0, .aload_n 0, 1), (1, .getfield 56, 3), (4, .bipush 12, 2), (6, .if_icmp .ne 37, 3), (9, .iconst 0, 1), (10, .istore_n 1, 1), (11, .iload_n 1, 1), (12, .sipush 4785, 3), (15, .if_icmp .ge 25, 3), (18, .aload_n 0, 1), (19, .getfield 26, 3), (22, .iload_n 1, 1)]
theorem DX12_remembers_q0 : ∀ q ∈ TX12_remembers_q0, decode cX12_remembers q.1 = .ok q.2 := dec_wk _ 0 (by decide +kernel)
def TX12_remembers_q1 : List (Nat × Instr × Nat) := [(23, .aload_n 0, 1), (24, .getfield 26, 3), (27, .iload_n 1, 1), (28, .sipush 435, 3), (31, .iadd, 1), (32, .iaload, 1), (33, .iastore, 1), (34, .iinc 1 1, 3), (37, .goto (-26), 3), (40, .goto 13, 3), (43, .aload_n 0, 1), (44, .dup, 1)]
theorem DX12_remembers_q1 : ∀ q ∈ TX12_remembers_q1, decode cX12_remembers q.1 = .ok q.2 := dec_wk _ 23 (by decide +kernel)
def TX12_remembers_q2 : List (Nat × Instr × Nat) := [(45, .getfield 56, 3), (48, .iconst 1, 1), (49, .iadd, 1), (50, .putfield 56, 3), (53, .iconst 0, 1), (54, .istore_n 1, 1), (55, .iload_n 1, 1), (56, .sipush 435, 3), (59, .if_icmp .ge 32, 3), (62, .aload_n 0, 1), (63, .getfield 26, 3), (66, .sipush 435, 3)]
theorem DX12_remembers_q2 : ∀ q ∈ TX12_remembers_q2, decode cX12_remembers q.1 = .ok q.2 := dec_wk _ 45 (by decide +kernel)
def TX12_remembers_q3 : List (Nat × Instr × Nat) := [(69, .aload_n 0, 1), (70, .getfield 56, 3), (73, .iconst 1, 1), (74, .isub, 1), (75, .imul, 1), (76, .iload_n 1, 1), (77, .iadd, 1), (78, .aload_n 0, 1), (79, .getfield 13, 3), (82, .iload_n 1, 1), (83, .iaload, 1), (84, .iastore, 1)]
theorem DX12_remembers_q3 : ∀ q ∈ TX12_remembers_q3, decode cX12_remembers q.1 = .ok q.2 := dec_wk _ 69 (by decide +kernel)
def TX12_remembers_q4 : List (Nat × Instr × Nat) := [(85, .iinc 1 1, 3), (88, .goto (-33), 3), (91, .return_, 1)]
theorem DX12_remembers_q4 : ∀ q ∈ TX12_remembers_q4, decode cX12_remembers q.1 = .ok q.2 := dec_wk _ 85 (by decide +kernel)
def TX12_undo_q0 : List (Nat × Instr × Nat) := [(0, .aload_n 0, 1), (1, .iconst 0, 1), (2, .putfield 3, 3), (5, .aload_n 0, 1), (6, .getfield 56, 3), (9, .ifCond .ne 5, 3), (12, .iconst 0, 1), (13, .ireturn, 1), (14, .aload_n 0, 1), (15, .dup, 1), (16, .getfield 56, 3), (19, .iconst 1, 1)]
theorem DX12_undo_q0 : ∀ q ∈ TX12_undo_q0, decode cX12_undo q.1 = .ok q.2 := dec_wk _ 0 (by decide +kernel)
def TX12_undo_q1 : List (Nat × Instr × Nat) := [(20, .isub, 1), (21, .putfield 56, 3), (24, .iconst 0, 1), (25, .istore_n 1, 1), (26, .iload_n 1, 1), (27, .sipush 435, 3), (30, .if_icmp .ge 30, 3), (33, .aload_n 0, 1), (34, .getfield 13, 3), (37, .iload_n 1, 1), (38, .aload_n 0, 1), (39, .getfield 26, 3)]
theorem DX12_undo_q1 : ∀ q ∈ TX12_undo_q1, decode cX12_undo q.1 = .ok q.2 := dec_wk _ 20 (by decide +kernel)
def TX12_undo_q2 : List (Nat × Instr × Nat) := [(42, .sipush 435, 3), (45, .aload_n 0, 1), (46, .getfield 56, 3), (49, .imul, 1), (50, .iload_n 1, 1), (51, .iadd, 1), (52, .iaload, 1), (53, .iastore, 1), (54, .iinc 1 1, 3), (57, .goto (-31), 3), (60, .iconst 1, 1), (61, .ireturn, 1)]
theorem DX12_undo_q2 : ∀ q ∈ TX12_undo_q2, decode cX12_undo q.1 = .ok q.2 := dec_wk _ 42 (by decide +kernel)
def TX12_rings_q0 : List (Nat × Instr × Nat) := [(0, .aload_n 0, 1), (1, .getfield 13, 3), (4, .iconst 0, 1), (5, .iaload, 1), (6, .ireturn, 1)]
theorem DX12_rings_q0 : ∀ q ∈ TX12_rings_q0, decode cX12_rings q.1 = .ok q.2 := dec_wk _ 0 (by decide +kernel)
def TX12_lastRing_q0 : List (Nat × Instr × Nat) := [(0, .aload_n 0, 1), (1, .invokevirtual 59, 3), (4, .iconst 1, 1), (5, .isub, 1), (6, .ireturn, 1)]
theorem DX12_lastRing_q0 : ∀ q ∈ TX12_lastRing_q0, decode cX12_lastRing q.1 = .ok q.2 := dec_wk _ 0 (by decide +kernel)
def TX12_at_q0 : List (Nat × Instr × Nat) := [(0, .bipush 11, 2), (2, .bipush 8, 2), (4, .iload_n 0, 1), (5, .imul, 1), (6, .iadd, 1), (7, .iload_n 1, 1), (8, .iadd, 1), (9, .ireturn, 1)]
theorem DX12_at_q0 : ∀ q ∈ TX12_at_q0, decode cX12_at q.1 = .ok q.2 := dec_wk _ 0 (by decide +kernel)
def TX12_of_q0 : List (Nat × Instr × Nat) := [(0, .aload_n 0, 1), (1, .getfield 13, 3), (4, .iload_n 1, 1), (5, .iload_n 2, 1), (6, .invokestatic 63, 3), (9, .iaload, 1), (10, .ireturn, 1)]
theorem DX12_of_q0 : ∀ q ∈ TX12_of_q0, decode cX12_of q.1 = .ok q.2 := dec_wk _ 0 (by decide +kernel)
def TX12_is_q0 : List (Nat × Instr × Nat) := [(0, .aload_n 0, 1), (1, .iload_n 1, 1), (2, .iload_n 2, 1), (3, .invokevirtual 67, 3), (6, .iconst 1, 1), (7, .if_icmp .ne 7, 3), (10, .iconst 1, 1), (11, .goto 4, 3), (14, .iconst 0, 1), (15, .ireturn, 1)]
theorem DX12_is_q0 : ∀ q ∈ TX12_is_q0, decode cX12_is q.1 = .ok q.2 := dec_wk _ 0 (by decide +kernel)
def TX12_gapOf_q0 : List (Nat × Instr × Nat) := [(0, .iload_n 1, 1), (1, .aload_n 0, 1), (2, .invokevirtual 70, 3), (5, .if_icmp .ne 8, 3), (8, .bipush 99, 2), (10, .goto 18, 3), (13, .aload_n 0, 1), (14, .iload_n 1, 1), (15, .iconst 1, 1), (16, .iadd, 1), (17, .iconst 0, 1), (18, .invokevirtual 67, 3)]
theorem DX12_gapOf_q0 : ∀ q ∈ TX12_gapOf_q0, decode cX12_gapOf q.1 = .ok q.2 := dec_wk _ 0 (by decide +kernel)
def TX12_gapOf_q1 : List (Nat × Instr × Nat) := [(21, .aload_n 0, 1), (22, .iload_n 1, 1), (23, .iconst 0, 1), (24, .invokevirtual 67, 3), (27, .isub, 1), (28, .ireturn, 1)]
theorem DX12_gapOf_q1 : ∀ q ∈ TX12_gapOf_q1, decode cX12_gapOf q.1 = .ok q.2 := dec_wk _ 21 (by decide +kernel)
def TX12_ringsThat_q0 : List (Nat × Instr × Nat) := [(0, .iconst 0, 1), (1, .istore_n 2, 1), (2, .iconst 0, 1), (3, .istore_n 3, 1), (4, .iload_n 3, 1), (5, .aload_n 0, 1), (6, .invokevirtual 59, 3), (9, .if_icmp .ge 28, 3), (12, .iload_n 2, 1), (13, .aload_n 0, 1), (14, .iload_n 3, 1), (15, .iload_n 1, 1)]
theorem DX12_ringsThat_q0 : ∀ q ∈ TX12_ringsThat_q0, decode cX12_ringsThat q.1 = .ok q.2 := dec_wk _ 0 (by decide +kernel)
def TX12_ringsThat_q1 : List (Nat × Instr × Nat) := [(16, .invokevirtual 73, 3), (19, .ifCond .eq 9, 3), (22, .iconst 1, 1), (23, .iload_n 3, 1), (24, .ishl, 1), (25, .goto 4, 3), (28, .iconst 0, 1), (29, .ior, 1), (30, .istore_n 2, 1), (31, .iinc 3 1, 3), (34, .goto (-30), 3), (37, .iload_n 2, 1)]
theorem DX12_ringsThat_q1 : ∀ q ∈ TX12_ringsThat_q1, decode cX12_ringsThat q.1 = .ok q.2 := dec_wk _ 16 (by decide +kernel)
def TX12_ringsThat_q2 : List (Nat × Instr × Nat) := [(38, .ireturn, 1)]
theorem DX12_ringsThat_q2 : ∀ q ∈ TX12_ringsThat_q2, decode cX12_ringsThat q.1 = .ok q.2 := dec_wk _ 38 (by decide +kernel)
def TX12_noRing_q0 : List (Nat × Instr × Nat) := [(0, .iload_n 1, 1), (1, .iconst 0, 1), (2, .aload_n 0, 1), (3, .invokevirtual 70, 3), (6, .invokestatic 77, 3), (9, .ifCond .ne 7, 3), (12, .iconst 1, 1), (13, .goto 4, 3), (16, .iconst 0, 1), (17, .ireturn, 1)]
theorem DX12_noRing_q0 : ∀ q ∈ TX12_noRing_q0, decode cX12_noRing q.1 = .ok q.2 := dec_wk _ 0 (by decide +kernel)
def TX12_noPlace_q0 : List (Nat × Instr × Nat) := [(0, .iload_n 0, 1), (1, .iconst 0, 1), (2, .bipush 31, 2), (4, .invokestatic 77, 3), (7, .ifCond .ne 7, 3), (10, .iconst 1, 1), (11, .goto 4, 3), (14, .iconst 0, 1), (15, .ireturn, 1)]
theorem DX12_noPlace_q0 : ∀ q ∈ TX12_noPlace_q0, decode cX12_noPlace q.1 = .ok q.2 := dec_wk _ 0 (by decide +kernel)
def TX12_noSteps_q0 : List (Nat × Instr × Nat) := [(0, .iload_n 0, 1), (1, .iconst 1, 1), (2, .bipush 31, 2), (4, .invokestatic 77, 3), (7, .ifCond .ne 7, 3), (10, .iconst 1, 1), (11, .goto 4, 3), (14, .iconst 0, 1), (15, .ireturn, 1)]
theorem DX12_noSteps_q0 : ∀ q ∈ TX12_noSteps_q0, decode cX12_noSteps q.1 = .ok q.2 := dec_wk _ 0 (by decide +kernel)
def TX12_drawn_q0 : List (Nat × Instr × Nat) := [(0, .aload_n 0, 1), (1, .getfield 13, 3), (4, .bipush 10, 2), (6, .ldc 81, 2), (8, .aload_n 0, 1), (9, .getfield 13, 3), (12, .bipush 10, 2), (14, .iaload, 1), (15, .imul, 1), (16, .sipush 12345, 3), (19, .iadd, 1), (20, .iastore, 1)]
theorem DX12_drawn_q0 : ∀ q ∈ TX12_drawn_q0, decode cX12_drawn q.1 = .ok q.2 := dec_wk _ 0 (by decide +kernel)
def TX12_drawn_q1 : List (Nat × Instr × Nat) := [(21, .aload_n 0, 1), (22, .getfield 13, 3), (25, .bipush 10, 2), (27, .iaload, 1), (28, .bipush 16, 2), (30, .ishr, 1), (31, .sipush 32767, 3), (34, .iand, 1), (35, .iload_n 1, 1), (36, .irem, 1), (37, .ireturn, 1)]
theorem DX12_drawn_q1 : ∀ q ∈ TX12_drawn_q1, decode cX12_drawn q.1 = .ok q.2 := dec_wk _ 21 (by decide +kernel)
def TX12_feed_q0 : List (Nat × Instr × Nat) := [(0, .aload_n 0, 1), (1, .iconst 0, 1), (2, .putfield 3, 3), (5, .aload_n 0, 1), (6, .getfield 82, 3), (9, .bipush 20, 2), (11, .iadd, 1), (12, .sipush 400, 3), (15, .if_icmp .le 5, 3), (18, .iconst (-1), 1), (19, .ireturn, 1), (20, .aload_n 0, 1)]
theorem DX12_feed_q0 : ∀ q ∈ TX12_feed_q0, decode cX12_feed q.1 = .ok q.2 := dec_wk _ 0 (by decide +kernel)
def TX12_feed_q1 : List (Nat × Instr × Nat) := [(21, .getfield 36, 3), (24, .iconst 0, 1), (25, .iload_n 1, 1), (26, .iastore, 1), (27, .aload_n 0, 1), (28, .getfield 36, 3), (31, .iconst 1, 1), (32, .iload_n 2, 1), (33, .iastore, 1), (34, .aload_n 0, 1), (35, .getfield 36, 3), (38, .iconst 2, 1)]
theorem DX12_feed_q1 : ∀ q ∈ TX12_feed_q1, decode cX12_feed q.1 = .ok q.2 := dec_wk _ 21 (by decide +kernel)
def TX12_feed_q2 : List (Nat × Instr × Nat) := [(39, .iload_n 3, 1), (40, .iastore, 1), (41, .aload_n 0, 1), (42, .getfield 36, 3), (45, .iconst 3, 1), (46, .iload 4, 2), (48, .iastore, 1), (49, .aload_n 0, 1), (50, .getfield 36, 3), (53, .iconst 4, 1), (54, .iload 5, 2), (56, .iastore, 1)]
theorem DX12_feed_q2 : ∀ q ∈ TX12_feed_q2, decode cX12_feed q.1 = .ok q.2 := dec_wk _ 39 (by decide +kernel)
def TX12_feed_q3 : List (Nat × Instr × Nat) := [(57, .iconst 0, 1), (58, .istore 6, 2), (60, .iload 6, 2), (62, .bipush 20, 2), (64, .if_icmp .ge 42, 3), (67, .aload_n 0, 1), (68, .getfield 29, 3), (71, .aload_n 0, 1), (72, .getfield 82, 3), (75, .iload 6, 2), (77, .iadd, 1), (78, .aload_n 0, 1)]
theorem DX12_feed_q3 : ∀ q ∈ TX12_feed_q3, decode cX12_feed q.1 = .ok q.2 := dec_wk _ 57 (by decide +kernel)
def TX12_feed_q4 : List (Nat × Instr × Nat) := [(79, .getfield 36, 3), (82, .iload 6, 2), (84, .iconst 4, 1), (85, .idiv, 1), (86, .iaload, 1), (87, .bipush 24, 2), (89, .bipush 8, 2), (91, .iload 6, 2), (93, .iconst 4, 1), (94, .irem, 1), (95, .imul, 1), (96, .isub, 1)]
theorem DX12_feed_q4 : ∀ q ∈ TX12_feed_q4, decode cX12_feed q.1 = .ok q.2 := dec_wk _ 79 (by decide +kernel)
def TX12_feed_q5 : List (Nat × Instr × Nat) := [(97, .ishr, 1), (98, .i2b, 1), (99, .bastore, 1), (100, .iinc 6 1, 3)]
theorem DX12_feed_q5 : ∀ q ∈ TX12_feed_q5, decode cX12_feed q.1 = .ok q.2 := dec_wk _ 97 (by decide +kernel)
def TX12_feed_1_q0 : List (Nat × Instr × Nat) := [(103, .goto (-43), 3), (106, .aload_n 0, 1), (107, .dup, 1), (108, .getfield 82, 3), (111, .bipush 20, 2), (113, .iadd, 1), (114, .putfield 82, 3), (117, .aload_n 0, 1), (118, .getfield 82, 3), (121, .ireturn, 1)]
theorem DX12_feed_1_q0 : ∀ q ∈ TX12_feed_1_q0, decode cX12_feed q.1 = .ok q.2 := dec_wk _ 103 (by decide +kernel)
def TX12_end_q0 : List (Nat × Instr × Nat) := [(0, .aload_n 0, 1), (1, .iconst 0, 1), (2, .putfield 3, 3), (5, .iload_n 1, 1), (6, .ifCond .lt 11, 3), (9, .iload_n 1, 1), (10, .aload_n 0, 1), (11, .getfield 82, 3), (14, .if_icmp .le 5, 3), (17, .iconst 0, 1), (18, .ireturn, 1), (19, .aload_n 0, 1)]
theorem DX12_end_q0 : ∀ q ∈ TX12_end_q0, decode cX12_end q.1 = .ok q.2 := dec_wk _ 0 (by decide +kernel)
def TX12_end_q1 : List (Nat × Instr × Nat) := [(20, .iload_n 1, 1), (21, .putfield 82, 3), (24, .iconst 1, 1), (25, .ireturn, 1)]
theorem DX12_end_q1 : ∀ q ∈ TX12_end_q1, decode cX12_end q.1 = .ok q.2 := dec_wk _ 20 (by decide +kernel)
def TX12_isAt_q0 : List (Nat × Instr × Nat) := [(0, .aload_n 0, 1), (1, .getfield 85, 3), (4, .aload_n 0, 1), (5, .getfield 88, 3), (8, .if_icmp .ge 33, 3), (11, .aload_n 0, 1), (12, .getfield 29, 3), (15, .aload_n 0, 1), (16, .getfield 85, 3), (19, .baload, 1), (20, .iload_n 1, 1), (21, .if_icmp .lt 20, 3)]
theorem DX12_isAt_q0 : ∀ q ∈ TX12_isAt_q0, decode cX12_isAt q.1 = .ok q.2 := dec_wk _ 0 (by decide +kernel)
def TX12_isAt_q1 : List (Nat × Instr × Nat) := [(24, .aload_n 0, 1), (25, .getfield 29, 3), (28, .aload_n 0, 1), (29, .getfield 85, 3), (32, .baload, 1), (33, .iload_n 2, 1), (34, .if_icmp .gt 7, 3), (37, .iconst 1, 1), (38, .goto 4, 3), (41, .iconst 0, 1), (42, .ireturn, 1)]
theorem DX12_isAt_q1 : ∀ q ∈ TX12_isAt_q1, decode cX12_isAt q.1 = .ok q.2 := dec_wk _ 24 (by decide +kernel)
def TX12_blanks_q0 : List (Nat × Instr × Nat) := [(0, .aload_n 0, 1), (1, .bipush 32, 2), (3, .bipush 32, 2), (5, .invokevirtual 91, 3), (8, .ifCond .eq 16, 3), (11, .aload_n 0, 1), (12, .dup, 1), (13, .getfield 85, 3), (16, .iconst 1, 1), (17, .iadd, 1), (18, .putfield 85, 3), (21, .goto (-21), 3)]
theorem DX12_blanks_q0 : ∀ q ∈ TX12_blanks_q0, decode cX12_blanks q.1 = .ok q.2 := dec_wk _ 0 (by decide +kernel)
def TX12_blanks_q1 : List (Nat × Instr × Nat) := [(24, .aload_n 0, 1), (25, .aload_n 0, 1), (26, .getfield 85, 3), (29, .putfield 94, 3), (32, .return_, 1)]
theorem DX12_blanks_q1 : ∀ q ∈ TX12_blanks_q1, decode cX12_blanks q.1 = .ok q.2 := dec_wk _ 24 (by decide +kernel)
def TX12_letters_q0 : List (Nat × Instr × Nat) := [(0, .aload_n 0, 1), (1, .invokevirtual 97, 3), (4, .aload_n 0, 1), (5, .bipush 97, 2), (7, .bipush 122, 2), (9, .invokevirtual 91, 3), (12, .ifCond .eq 16, 3), (15, .aload_n 0, 1), (16, .dup, 1), (17, .getfield 85, 3), (20, .iconst 1, 1), (21, .iadd, 1)]
theorem DX12_letters_q0 : ∀ q ∈ TX12_letters_q0, decode cX12_letters q.1 = .ok q.2 := dec_wk _ 0 (by decide +kernel)
def TX12_letters_q1 : List (Nat × Instr × Nat) := [(22, .putfield 85, 3), (25, .goto (-21), 3), (28, .return_, 1)]
theorem DX12_letters_q1 : ∀ q ∈ TX12_letters_q1, decode cX12_letters q.1 = .ok q.2 := dec_wk _ 22 (by decide +kernel)
def TX12_isWord_q0 : List (Nat × Instr × Nat) := [(0, .aload_n 0, 1), (1, .getfield 85, 3), (4, .aload_n 0, 1), (5, .getfield 94, 3), (8, .isub, 1), (9, .aload_n 1, 1), (10, .invokevirtual 100, 3), (13, .if_icmp .ne 7, 3), (16, .iconst 1, 1), (17, .goto 4, 3), (20, .iconst 0, 1), (21, .istore_n 2, 1)]
theorem DX12_isWord_q0 : ∀ q ∈ TX12_isWord_q0, decode cX12_isWord q.1 = .ok q.2 := dec_wk _ 0 (by decide +kernel)
def TX12_isWord_q1 : List (Nat × Instr × Nat) := [(22, .iconst 0, 1), (23, .istore_n 3, 1), (24, .iload_n 2, 1), (25, .ifCond .eq 42, 3), (28, .iload_n 3, 1), (29, .aload_n 1, 1), (30, .invokevirtual 100, 3), (33, .if_icmp .ge 34, 3), (36, .aload_n 0, 1), (37, .getfield 29, 3), (40, .aload_n 0, 1), (41, .getfield 94, 3)]
theorem DX12_isWord_q1 : ∀ q ∈ TX12_isWord_q1, decode cX12_isWord q.1 = .ok q.2 := dec_wk _ 22 (by decide +kernel)
def TX12_isWord_q2 : List (Nat × Instr × Nat) := [(44, .iload_n 3, 1), (45, .iadd, 1), (46, .baload, 1), (47, .aload_n 1, 1), (48, .iload_n 3, 1), (49, .invokevirtual 105, 3), (52, .if_icmp .ne 7, 3), (55, .iconst 1, 1), (56, .goto 4, 3), (59, .iconst 0, 1), (60, .istore_n 2, 1), (61, .iinc 3 1, 3)]
theorem DX12_isWord_q2 : ∀ q ∈ TX12_isWord_q2, decode cX12_isWord q.1 = .ok q.2 := dec_wk _ 44 (by decide +kernel)
def TX12_isWord_q3 : List (Nat × Instr × Nat) := [(64, .goto (-40), 3), (67, .iload_n 2, 1), (68, .ireturn, 1)]
theorem DX12_isWord_q3 : ∀ q ∈ TX12_isWord_q3, decode cX12_isWord q.1 = .ok q.2 := dec_wk _ 64 (by decide +kernel)
def TX12_passes_q0 : List (Nat × Instr × Nat) := [(0, .aload_n 0, 1), (1, .invokevirtual 109, 3), (4, .aload_n 0, 1), (5, .aload_n 1, 1), (6, .invokevirtual 112, 3), (9, .ifCond .eq 5, 3), (12, .iconst 1, 1), (13, .ireturn, 1), (14, .aload_n 0, 1), (15, .aload_n 0, 1), (16, .getfield 94, 3), (19, .putfield 85, 3)]
theorem DX12_passes_q0 : ∀ q ∈ TX12_passes_q0, decode cX12_passes q.1 = .ok q.2 := dec_wk _ 0 (by decide +kernel)
def TX12_passes_q1 : List (Nat × Instr × Nat) := [(22, .iconst 0, 1), (23, .ireturn, 1)]
theorem DX12_passes_q1 : ∀ q ∈ TX12_passes_q1, decode cX12_passes q.1 = .ok q.2 := dec_wk _ 22 (by decide +kernel)
def TX12_sign_q0 : List (Nat × Instr × Nat) := [(0, .aload_n 0, 1), (1, .invokevirtual 97, 3), (4, .aload_n 0, 1), (5, .iload_n 1, 1), (6, .iload_n 1, 1), (7, .invokevirtual 91, 3), (10, .ifCond .ne 5, 3), (13, .iconst 0, 1), (14, .ireturn, 1), (15, .aload_n 0, 1), (16, .dup, 1), (17, .getfield 85, 3)]
theorem DX12_sign_q0 : ∀ q ∈ TX12_sign_q0, decode cX12_sign q.1 = .ok q.2 := dec_wk _ 0 (by decide +kernel)
def TX12_sign_q1 : List (Nat × Instr × Nat) := [(20, .iconst 1, 1), (21, .iadd, 1), (22, .putfield 85, 3), (25, .iconst 1, 1), (26, .ireturn, 1)]
theorem DX12_sign_q1 : ∀ q ∈ TX12_sign_q1, decode cX12_sign q.1 = .ok q.2 := dec_wk _ 20 (by decide +kernel)
def TX12_number_q0 : List (Nat × Instr × Nat) := [(0, .aload_n 0, 1), (1, .invokevirtual 97, 3), (4, .iconst 0, 1), (5, .istore_n 3, 1), (6, .aload_n 0, 1), (7, .bipush 48, 2), (9, .bipush 57, 2), (11, .invokevirtual 91, 3), (14, .ifCond .eq 51, 3), (17, .aload_n 0, 1), (18, .getfield 85, 3), (21, .aload_n 0, 1)]
theorem DX12_number_q0 : ∀ q ∈ TX12_number_q0, decode cX12_number q.1 = .ok q.2 := dec_wk _ 0 (by decide +kernel)
def TX12_number_q1 : List (Nat × Instr × Nat) := [(22, .getfield 94, 3), (25, .isub, 1), (26, .iconst 3, 1), (27, .if_icmp .ge 23, 3), (30, .bipush 10, 2), (32, .iload_n 3, 1), (33, .imul, 1), (34, .aload_n 0, 1), (35, .getfield 29, 3), (38, .aload_n 0, 1), (39, .getfield 85, 3), (42, .baload, 1)]
theorem DX12_number_q1 : ∀ q ∈ TX12_number_q1, decode cX12_number q.1 = .ok q.2 := dec_wk _ 22 (by decide +kernel)
def TX12_number_q2 : List (Nat × Instr × Nat) := [(43, .iadd, 1), (44, .bipush 48, 2), (46, .isub, 1), (47, .goto 4, 3), (50, .iload_n 3, 1), (51, .istore_n 3, 1), (52, .aload_n 0, 1), (53, .dup, 1), (54, .getfield 85, 3), (57, .iconst 1, 1), (58, .iadd, 1), (59, .putfield 85, 3)]
theorem DX12_number_q2 : ∀ q ∈ TX12_number_q2, decode cX12_number q.1 = .ok q.2 := dec_wk _ 43 (by decide +kernel)
def TX12_number_q3 : List (Nat × Instr × Nat) := [(62, .goto (-56), 3), (65, .aload_n 0, 1), (66, .getfield 85, 3), (69, .aload_n 0, 1), (70, .getfield 94, 3), (73, .if_icmp .eq 26, 3), (76, .aload_n 0, 1), (77, .getfield 85, 3), (80, .aload_n 0, 1), (81, .getfield 94, 3), (84, .isub, 1), (85, .iconst 3, 1)]
theorem DX12_number_q3 : ∀ q ∈ TX12_number_q3, decode cX12_number q.1 = .ok q.2 := dec_wk _ 62 (by decide +kernel)
def TX12_number_q4 : List (Nat × Instr × Nat) := [(86, .if_icmp .gt 13, 3), (89, .iload_n 3, 1), (90, .iload_n 1, 1), (91, .if_icmp .lt 8, 3), (94, .iload_n 3, 1), (95, .iload_n 2, 1), (96, .if_icmp .le 7, 3), (99, .iconst (-1), 1), (100, .goto 4, 3), (103, .iload_n 3, 1), (104, .ireturn, 1)]
theorem DX12_number_q4 : ∀ q ∈ TX12_number_q4, decode cX12_number q.1 = .ok q.2 := dec_wk _ 86 (by decide +kernel)
def TX12_after_q0 : List (Nat × Instr × Nat) := [(0, .aload_n 0, 1), (1, .invokevirtual 109, 3), (4, .aload_n 0, 1), (5, .aload_n 1, 1), (6, .invokevirtual 112, 3), (9, .ifCond .eq 12, 3), (12, .aload_n 0, 1), (13, .iload_n 2, 1), (14, .iload_n 3, 1), (15, .invokevirtual 116, 3), (18, .goto 4, 3), (21, .iconst (-1), 1)]
theorem DX12_after_q0 : ∀ q ∈ TX12_after_q0, decode cX12_after q.1 = .ok q.2 := dec_wk _ 0 (by decide +kernel)
def TX12_after_q1 : List (Nat × Instr × Nat) := [(22, .ireturn, 1)]
theorem DX12_after_q1 : ∀ q ∈ TX12_after_q1, decode cX12_after q.1 = .ok q.2 := dec_wk _ 22 (by decide +kernel)
def TX12_fault_q0 : List (Nat × Instr × Nat) := [(0, .aload_n 0, 1), (1, .iconst 0, 1), (2, .putfield 3, 3), (5, .aload_n 0, 1), (6, .getfield 33, 3), (9, .ireturn, 1)]
theorem DX12_fault_q0 : ∀ q ∈ TX12_fault_q0, decode cX12_fault q.1 = .ok q.2 := dec_wk _ 0 (by decide +kernel)
def TX12_uses_q0 : List (Nat × Instr × Nat) := [(0, .aload_n 0, 1), (1, .iconst 0, 1), (2, .putfield 3, 3), (5, .aload_n 0, 1), (6, .aload_n 0, 1), (7, .getfield 82, 3), (10, .putfield 88, 3), (13, .aload_n 0, 1), (14, .iconst 0, 1), (15, .putfield 82, 3), (18, .aload_n 0, 1), (19, .iconst 0, 1)]
theorem DX12_uses_q0 : ∀ q ∈ TX12_uses_q0, decode cX12_uses q.1 = .ok q.2 := dec_wk _ 0 (by decide +kernel)
def TX12_uses_q1 : List (Nat × Instr × Nat) := [(20, .putfield 85, 3), (23, .return_, 1)]
theorem DX12_uses_q1 : ∀ q ∈ TX12_uses_q1, decode cX12_uses q.1 = .ok q.2 := dec_wk _ 20 (by decide +kernel)
def TX12_readNumber_q0 : List (Nat × Instr × Nat) := [(0, .aload_n 0, 1), (1, .iload_n 2, 1), (2, .iload_n 3, 1), (3, .invokevirtual 116, 3), (6, .istore 4, 2), (8, .aload_n 0, 1), (9, .getfield 13, 3), (12, .iload_n 1, 1), (13, .iload 4, 2), (15, .ifCond .ge 12, 3), (18, .aload_n 0, 1), (19, .getfield 13, 3)]
theorem DX12_readNumber_q0 : ∀ q ∈ TX12_readNumber_q0, decode cX12_readNumber q.1 = .ok q.2 := dec_wk _ 0 (by decide +kernel)
def TX12_readNumber_q1 : List (Nat × Instr × Nat) := [(22, .iload_n 1, 1), (23, .iaload, 1), (24, .goto 5, 3), (27, .iload 4, 2), (29, .iastore, 1), (30, .iload 4, 2), (32, .ifCond .lt 7, 3), (35, .iconst 1, 1), (36, .goto 4, 3), (39, .iconst 0, 1), (40, .ireturn, 1)]
theorem DX12_readNumber_q1 : ∀ q ∈ TX12_readNumber_q1, decode cX12_readNumber q.1 = .ok q.2 := dec_wk _ 22 (by decide +kernel)
def TX12_leastPlace_q0 : List (Nat × Instr × Nat) := [(0, .aload_n 0, 1), (1, .invokevirtual 59, 3), (4, .ifCond .ne 7, 3), (7, .iconst 0, 1), (8, .goto 14, 3), (11, .aload_n 0, 1), (12, .aload_n 0, 1), (13, .invokevirtual 70, 3), (16, .iconst 0, 1), (17, .invokevirtual 67, 3), (20, .iconst 1, 1), (21, .iadd, 1)]
theorem DX12_leastPlace_q0 : ∀ q ∈ TX12_leastPlace_q0, decode cX12_leastPlace q.1 = .ok q.2 := dec_wk _ 0 (by decide +kernel)
def TX12_leastPlace_q1 : List (Nat × Instr × Nat) := [(22, .ireturn, 1)]
theorem DX12_leastPlace_q1 : ∀ q ∈ TX12_leastPlace_q1, decode cX12_leastPlace q.1 = .ok q.2 := dec_wk _ 22 (by decide +kernel)
def TX12_mostPlace_q0 : List (Nat × Instr × Nat) := [(0, .aload_n 0, 1), (1, .invokevirtual 59, 3), (4, .ifCond .ne 8, 3), (7, .bipush 31, 2), (9, .goto 27, 3), (12, .bipush 31, 2), (14, .aload_n 0, 1), (15, .aload_n 0, 1), (16, .invokevirtual 70, 3), (19, .iconst 0, 1), (20, .invokevirtual 67, 3), (23, .aload_n 0, 1)]
theorem DX12_mostPlace_q0 : ∀ q ∈ TX12_mostPlace_q0, decode cX12_mostPlace q.1 = .ok q.2 := dec_wk _ 0 (by decide +kernel)
def TX12_mostPlace_q1 : List (Nat × Instr × Nat) := [(24, .aload_n 0, 1), (25, .invokevirtual 70, 3), (28, .iconst 1, 1), (29, .invokevirtual 67, 3), (32, .iadd, 1), (33, .invokestatic 119, 3), (36, .ireturn, 1)]
theorem DX12_mostPlace_q1 : ∀ q ∈ TX12_mostPlace_q1, decode cX12_mostPlace q.1 = .ok q.2 := dec_wk _ 24 (by decide +kernel)
def TX12_hangs_q0 : List (Nat × Instr × Nat) := [(0, .aload_n 0, 1), (1, .invokevirtual 59, 3), (4, .istore_n 3, 1), (5, .iconst 0, 1), (6, .istore 4, 2), (8, .iload 4, 2), (10, .bipush 8, 2), (12, .if_icmp .ge 21, 3), (15, .aload_n 0, 1), (16, .getfield 13, 3), (19, .iload_n 3, 1), (20, .iload 4, 2)]
theorem DX12_hangs_q0 : ∀ q ∈ TX12_hangs_q0, decode cX12_hangs q.1 = .ok q.2 := dec_wk _ 0 (by decide +kernel)
def TX12_hangs_q1 : List (Nat × Instr × Nat) := [(22, .invokestatic 63, 3), (25, .iconst 0, 1), (26, .iastore, 1), (27, .iinc 4 1, 3), (30, .goto (-22), 3), (33, .aload_n 0, 1), (34, .getfield 13, 3), (37, .iload_n 3, 1), (38, .iconst 0, 1), (39, .invokestatic 63, 3), (42, .iload_n 1, 1), (43, .iastore, 1)]
theorem DX12_hangs_q1 : ∀ q ∈ TX12_hangs_q1, decode cX12_hangs q.1 = .ok q.2 := dec_wk _ 22 (by decide +kernel)
def TX12_hangs_q2 : List (Nat × Instr × Nat) := [(44, .aload_n 0, 1), (45, .getfield 13, 3), (48, .iload_n 3, 1), (49, .iconst 1, 1), (50, .invokestatic 63, 3), (53, .iload_n 2, 1), (54, .iastore, 1), (55, .aload_n 0, 1), (56, .getfield 13, 3), (59, .iload_n 3, 1), (60, .bipush 6, 2), (62, .invokestatic 63, 3)]
theorem DX12_hangs_q2 : ∀ q ∈ TX12_hangs_q2, decode cX12_hangs q.1 = .ok q.2 := dec_wk _ 44 (by decide +kernel)
def TX12_hangs_q3 : List (Nat × Instr × Nat) := [(65, .iconst 1, 1), (66, .iastore, 1), (67, .aload_n 0, 1), (68, .getfield 13, 3), (71, .iconst 0, 1), (72, .dup2, 1), (73, .iaload, 1), (74, .iconst 1, 1), (75, .iadd, 1), (76, .iastore, 1), (77, .return_, 1)]
theorem DX12_hangs_q3 : ∀ q ∈ TX12_hangs_q3, decode cX12_hangs q.1 = .ok q.2 := dec_wk _ 65 (by decide +kernel)
def TX12_readRing_q0 : List (Nat × Instr × Nat) := [(0, .aload_n 0, 1), (1, .invokevirtual 59, 3), (4, .istore_n 1, 1), (5, .iload_n 1, 1), (6, .bipush 8, 2), (8, .if_icmp .ne 5, 3), (11, .iconst 0, 1), (12, .ireturn, 1), (13, .aload_n 0, 1), (14, .ldc 124, 2), (16, .aload_n 0, 1), (17, .invokevirtual 125, 3)]
theorem DX12_readRing_q0 : ∀ q ∈ TX12_readRing_q0, decode cX12_readRing q.1 = .ok q.2 := dec_wk _ 0 (by decide +kernel)
def TX12_readRing_q1 : List (Nat × Instr × Nat) := [(20, .aload_n 0, 1), (21, .invokevirtual 128, 3), (24, .invokevirtual 131, 3), (27, .istore_n 2, 1), (28, .iload_n 2, 1), (29, .ifCond .ge 7, 3), (32, .iconst (-1), 1), (33, .goto 12, 3), (36, .aload_n 0, 1), (37, .ldc 135, 2), (39, .iconst 1, 1), (40, .bipush 9, 2)]
theorem DX12_readRing_q1 : ∀ q ∈ TX12_readRing_q1, decode cX12_readRing q.1 = .ok q.2 := dec_wk _ 20 (by decide +kernel)
def TX12_readRing_q2 : List (Nat × Instr × Nat) := [(42, .invokevirtual 131, 3), (45, .istore_n 3, 1), (46, .iload_n 3, 1), (47, .ifCond .ge 5, 3), (50, .iconst 0, 1), (51, .ireturn, 1), (52, .aload_n 0, 1), (53, .ldc 137, 2), (55, .invokevirtual 139, 3), (58, .istore 4, 2), (60, .aload_n 0, 1), (61, .ldc 142, 2)]
theorem DX12_readRing_q2 : ∀ q ∈ TX12_readRing_q2, decode cX12_readRing q.1 = .ok q.2 := dec_wk _ 42 (by decide +kernel)
def TX12_readRing_q3 : List (Nat × Instr × Nat) := [(63, .invokevirtual 139, 3), (66, .istore 5, 2), (68, .aload_n 0, 1), (69, .ldc 144, 2), (71, .invokevirtual 139, 3), (74, .ifCond .eq 13, 3), (77, .aload_n 0, 1), (78, .iconst 0, 1), (79, .bipush 99, 2), (81, .invokevirtual 116, 3), (84, .goto 4, 3), (87, .iconst 0, 1)]
theorem DX12_readRing_q3 : ∀ q ∈ TX12_readRing_q3, decode cX12_readRing q.1 = .ok q.2 := dec_wk _ 63 (by decide +kernel)
def TX12_readRing_q4 : List (Nat × Instr × Nat) := [(88, .istore 6, 2), (90, .iload 6, 2), (92, .ifCond .ge 5, 3), (95, .iconst 0, 1), (96, .ireturn, 1), (97, .aload_n 0, 1), (98, .ldc 146, 2), (100, .invokevirtual 139, 3), (103, .ifCond .eq 13, 3), (106, .aload_n 0, 1), (107, .iconst 0, 1), (108, .bipush 9, 2)]
theorem DX12_readRing_q4 : ∀ q ∈ TX12_readRing_q4, decode cX12_readRing q.1 = .ok q.2 := dec_wk _ 88 (by decide +kernel)
def TX12_readRing_q5 : List (Nat × Instr × Nat) := [(110, .invokevirtual 116, 3), (113, .goto 4, 3), (116, .iconst 0, 1), (117, .istore 7, 2)]
theorem DX12_readRing_q5 : ∀ q ∈ TX12_readRing_q5, decode cX12_readRing q.1 = .ok q.2 := dec_wk _ 110 (by decide +kernel)
def TX12_readRing_1_q0 : List (Nat × Instr × Nat) := [(119, .iload 7, 2), (121, .ifCond .ge 5, 3), (124, .iconst 0, 1), (125, .ireturn, 1), (126, .aload_n 0, 1), (127, .iload_n 2, 1), (128, .iload_n 3, 1), (129, .invokevirtual 148, 3), (132, .aload_n 0, 1), (133, .getfield 13, 3), (136, .iload_n 1, 1), (137, .iconst 2, 1)]
theorem DX12_readRing_1_q0 : ∀ q ∈ TX12_readRing_1_q0, decode cX12_readRing q.1 = .ok q.2 := dec_wk _ 119 (by decide +kernel)
def TX12_readRing_1_q1 : List (Nat × Instr × Nat) := [(138, .invokestatic 63, 3), (141, .iload 4, 2), (143, .ifCond .eq 7, 3), (146, .iconst 1, 1), (147, .goto 4, 3), (150, .iconst 0, 1), (151, .iastore, 1), (152, .aload_n 0, 1), (153, .getfield 13, 3), (156, .iload_n 1, 1), (157, .iconst 3, 1), (158, .invokestatic 63, 3)]
theorem DX12_readRing_1_q1 : ∀ q ∈ TX12_readRing_1_q1, decode cX12_readRing q.1 = .ok q.2 := dec_wk _ 138 (by decide +kernel)
def TX12_readRing_1_q2 : List (Nat × Instr × Nat) := [(161, .iload 5, 2), (163, .ifCond .eq 7, 3), (166, .iconst 1, 1), (167, .goto 4, 3), (170, .iconst 0, 1), (171, .iastore, 1), (172, .aload_n 0, 1), (173, .getfield 13, 3), (176, .iload_n 1, 1), (177, .iconst 4, 1), (178, .invokestatic 63, 3), (181, .iload 6, 2)]
theorem DX12_readRing_1_q2 : ∀ q ∈ TX12_readRing_1_q2, decode cX12_readRing q.1 = .ok q.2 := dec_wk _ 161 (by decide +kernel)
def TX12_readRing_1_q3 : List (Nat × Instr × Nat) := [(183, .iastore, 1), (184, .aload_n 0, 1), (185, .getfield 13, 3), (188, .iload_n 1, 1), (189, .iconst 5, 1), (190, .invokestatic 63, 3), (193, .iload 7, 2), (195, .iastore, 1), (196, .iconst 1, 1), (197, .ireturn, 1)]
theorem DX12_readRing_1_q3 : ∀ q ∈ TX12_readRing_1_q3, decode cX12_readRing q.1 = .ok q.2 := dec_wk _ 183 (by decide +kernel)
def TX12_readCaught_q0 : List (Nat × Instr × Nat) := [(0, .aload_n 0, 1), (1, .iconst 0, 1), (2, .aload_n 0, 1), (3, .invokevirtual 70, 3), (6, .iconst 1, 1), (7, .isub, 1), (8, .invokevirtual 116, 3), (11, .istore_n 1, 1), (12, .iload_n 1, 1), (13, .ifCond .ge 5, 3), (16, .iconst 0, 1), (17, .ireturn, 1)]
theorem DX12_readCaught_q0 : ∀ q ∈ TX12_readCaught_q0, decode cX12_readCaught q.1 = .ok q.2 := dec_wk _ 0 (by decide +kernel)
def TX12_readCaught_q1 : List (Nat × Instr × Nat) := [(18, .aload_n 0, 1), (19, .getfield 13, 3), (22, .iload_n 1, 1), (23, .bipush 7, 2), (25, .invokestatic 63, 3), (28, .iconst 1, 1), (29, .iastore, 1), (30, .iconst 1, 1), (31, .ireturn, 1)]
theorem DX12_readCaught_q1 : ∀ q ∈ TX12_readCaught_q1, decode cX12_readCaught q.1 = .ok q.2 := dec_wk _ 18 (by decide +kernel)
def TX12_readChair_q0 : List (Nat × Instr × Nat) := [(0, .aload_n 0, 1), (1, .iconst 0, 1), (2, .bipush 31, 2), (4, .invokevirtual 116, 3), (7, .istore_n 1, 1), (8, .iload_n 1, 1), (9, .ifCond .ge 5, 3), (12, .iconst 0, 1), (13, .ireturn, 1), (14, .aload_n 0, 1), (15, .getfield 13, 3), (18, .bipush 7, 2)]
theorem DX12_readChair_q0 : ∀ q ∈ TX12_readChair_q0, decode cX12_readChair q.1 = .ok q.2 := dec_wk _ 0 (by decide +kernel)
def TX12_readChair_q1 : List (Nat × Instr × Nat) := [(20, .dup2, 1), (21, .iaload, 1), (22, .iconst 1, 1), (23, .iload_n 1, 1), (24, .ishl, 1), (25, .ior, 1), (26, .iastore, 1), (27, .iconst 1, 1), (28, .ireturn, 1)]
theorem DX12_readChair_q1 : ∀ q ∈ TX12_readChair_q1, decode cX12_readChair q.1 = .ok q.2 := dec_wk _ 20 (by decide +kernel)
def TX12_readPoleLine_q0 : List (Nat × Instr × Nat) := [(0, .aload_n 0, 1), (1, .ldc 152, 2), (3, .invokevirtual 112, 3), (6, .ifCond .eq 8, 3), (9, .aload_n 0, 1), (10, .invokevirtual 154, 3), (13, .ireturn, 1), (14, .aload_n 0, 1), (15, .ldc 158, 2), (17, .invokevirtual 112, 3), (20, .ifCond .eq 8, 3), (23, .aload_n 0, 1)]
theorem DX12_readPoleLine_q0 : ∀ q ∈ TX12_readPoleLine_q0, decode cX12_readPoleLine q.1 = .ok q.2 := dec_wk _ 0 (by decide +kernel)
def TX12_readPoleLine_q1 : List (Nat × Instr × Nat) := [(24, .invokevirtual 160, 3), (27, .ireturn, 1), (28, .aload_n 0, 1), (29, .ldc 163, 2), (31, .invokevirtual 112, 3), (34, .ifCond .eq 8, 3), (37, .aload_n 0, 1), (38, .invokevirtual 165, 3), (41, .ireturn, 1), (42, .aload_n 0, 1), (43, .ldc 168, 2), (45, .invokevirtual 112, 3)]
theorem DX12_readPoleLine_q1 : ∀ q ∈ TX12_readPoleLine_q1, decode cX12_readPoleLine q.1 = .ok q.2 := dec_wk _ 24 (by decide +kernel)
def TX12_readPoleLine_q2 : List (Nat × Instr × Nat) := [(48, .ifCond .eq 12, 3), (51, .aload_n 0, 1), (52, .iconst 5, 1), (53, .iconst 1, 1), (54, .bipush 31, 2), (56, .invokevirtual 170, 3), (59, .ireturn, 1), (60, .aload_n 0, 1), (61, .ldc 173, 2), (63, .invokevirtual 112, 3), (66, .ifCond .eq 13, 3), (69, .aload_n 0, 1)]
theorem DX12_readPoleLine_q2 : ∀ q ∈ TX12_readPoleLine_q2, decode cX12_readPoleLine q.1 = .ok q.2 := dec_wk _ 48 (by decide +kernel)
def TX12_readPoleLine_q3 : List (Nat × Instr × Nat) := [(70, .bipush 6, 2), (72, .iconst 0, 1), (73, .bipush 31, 2), (75, .invokevirtual 170, 3), (78, .ireturn, 1), (79, .aload_n 0, 1), (80, .ldc 175, 2), (82, .invokevirtual 112, 3), (85, .ifCond .eq 12, 3), (88, .aload_n 0, 1), (89, .iconst 3, 1), (90, .iconst 0, 1)]
theorem DX12_readPoleLine_q3 : ∀ q ∈ TX12_readPoleLine_q3, decode cX12_readPoleLine q.1 = .ok q.2 := dec_wk _ 70 (by decide +kernel)
def TX12_readPoleLine_q4 : List (Nat × Instr × Nat) := [(91, .bipush 7, 2), (93, .invokevirtual 170, 3), (96, .ireturn, 1), (97, .aload_n 0, 1), (98, .ldc 177, 2), (100, .invokevirtual 112, 3), (103, .ifCond .eq 19, 3), (106, .aload_n 0, 1), (107, .iconst 4, 1), (108, .iconst 0, 1), (109, .sipush 999, 3), (112, .invokevirtual 170, 3)]
theorem DX12_readPoleLine_q4 : ∀ q ∈ TX12_readPoleLine_q4, decode cX12_readPoleLine q.1 = .ok q.2 := dec_wk _ 91 (by decide +kernel)
def TX12_readPoleLine_q5 : List (Nat × Instr × Nat) := [(115, .ifCond .eq 7, 3), (118, .iconst 1, 1), (119, .goto 4, 3), (122, .iconst 0, 1)]
theorem DX12_readPoleLine_q5 : ∀ q ∈ TX12_readPoleLine_q5, decode cX12_readPoleLine q.1 = .ok q.2 := dec_wk _ 115 (by decide +kernel)
def TX12_readPoleLine_1_q0 : List (Nat × Instr × Nat) := [(123, .ireturn, 1)]
theorem DX12_readPoleLine_1_q0 : ∀ q ∈ TX12_readPoleLine_1_q0, decode cX12_readPoleLine q.1 = .ok q.2 := dec_wk _ 123 (by decide +kernel)
def TX12_emits_q0 : List (Nat × Instr × Nat) := [(0, .aload_n 0, 1), (1, .getfield 13, 3), (4, .sipush 1333, 3), (7, .iconst 2, 1), (8, .aload_n 0, 1), (9, .getfield 179, 3), (12, .imul, 1), (13, .iadd, 1), (14, .iload_n 1, 1), (15, .iastore, 1), (16, .aload_n 0, 1), (17, .getfield 13, 3)]
theorem DX12_emits_q0 : ∀ q ∈ TX12_emits_q0, decode cX12_emits q.1 = .ok q.2 := dec_wk _ 0 (by decide +kernel)
def TX12_emits_q1 : List (Nat × Instr × Nat) := [(20, .sipush 1333, 3), (23, .iconst 2, 1), (24, .aload_n 0, 1), (25, .getfield 179, 3), (28, .imul, 1), (29, .iadd, 1), (30, .iconst 1, 1), (31, .iadd, 1), (32, .iload_n 2, 1), (33, .iastore, 1), (34, .aload_n 0, 1), (35, .dup, 1)]
theorem DX12_emits_q1 : ∀ q ∈ TX12_emits_q1, decode cX12_emits q.1 = .ok q.2 := dec_wk _ 20 (by decide +kernel)
def TX12_emits_q2 : List (Nat × Instr × Nat) := [(36, .getfield 179, 3), (39, .iconst 1, 1), (40, .iadd, 1), (41, .putfield 179, 3), (44, .return_, 1)]
theorem DX12_emits_q2 : ∀ q ∈ TX12_emits_q2, decode cX12_emits q.1 = .ok q.2 := dec_wk _ 36 (by decide +kernel)
def TX12_wordOfPart_q0 : List (Nat × Instr × Nat) := [(0, .aload_n 0, 1), (1, .ldc 152, 2), (3, .invokevirtual 112, 3), (6, .ifCond .eq 5, 3), (9, .iconst 0, 1), (10, .ireturn, 1), (11, .aload_n 0, 1), (12, .ldc 182, 2), (14, .invokevirtual 112, 3), (17, .ifCond .eq 5, 3), (20, .iconst 1, 1), (21, .ireturn, 1)]
theorem DX12_wordOfPart_q0 : ∀ q ∈ TX12_wordOfPart_q0, decode cX12_wordOfPart q.1 = .ok q.2 := dec_wk _ 0 (by decide +kernel)
def TX12_wordOfPart_q1 : List (Nat × Instr × Nat) := [(22, .aload_n 0, 1), (23, .ldc 184, 2), (25, .invokevirtual 112, 3), (28, .ifCond .eq 5, 3), (31, .iconst 2, 1), (32, .ireturn, 1), (33, .aload_n 0, 1), (34, .ldc 144, 2), (36, .invokevirtual 112, 3), (39, .ifCond .eq 5, 3), (42, .iconst 3, 1), (43, .ireturn, 1)]
theorem DX12_wordOfPart_q1 : ∀ q ∈ TX12_wordOfPart_q1, decode cX12_wordOfPart q.1 = .ok q.2 := dec_wk _ 22 (by decide +kernel)
def TX12_wordOfPart_q2 : List (Nat × Instr × Nat) := [(44, .aload_n 0, 1), (45, .ldc 146, 2), (47, .invokevirtual 112, 3), (50, .ifCond .eq 5, 3), (53, .iconst 4, 1), (54, .ireturn, 1), (55, .aload_n 0, 1), (56, .ldc 175, 2), (58, .invokevirtual 112, 3), (61, .ifCond .eq 5, 3), (64, .iconst 5, 1), (65, .ireturn, 1)]
theorem DX12_wordOfPart_q2 : ∀ q ∈ TX12_wordOfPart_q2, decode cX12_wordOfPart q.1 = .ok q.2 := dec_wk _ 44 (by decide +kernel)
def TX12_wordOfPart_q3 : List (Nat × Instr × Nat) := [(66, .aload_n 0, 1), (67, .ldc 177, 2), (69, .invokevirtual 112, 3), (72, .ifCond .eq 8, 3), (75, .bipush 6, 2), (77, .goto 4, 3), (80, .iconst (-1), 1), (81, .ireturn, 1)]
theorem DX12_wordOfPart_q3 : ∀ q ∈ TX12_wordOfPart_q3, decode cX12_wordOfPart q.1 = .ok q.2 := dec_wk _ 66 (by decide +kernel)
def TX12_readPart_q0 : List (Nat × Instr × Nat) := [(0, .aload_n 0, 1), (1, .invokevirtual 109, 3), (4, .aload_n 0, 1), (5, .getfield 85, 3), (8, .aload_n 0, 1), (9, .getfield 94, 3), (12, .if_icmp .ne 7, 3), (15, .iconst 1, 1), (16, .goto 4, 3), (19, .iconst 0, 1), (20, .istore_n 1, 1), (21, .iload_n 1, 1)]
theorem DX12_readPart_q0 : ∀ q ∈ TX12_readPart_q0, decode cX12_readPart q.1 = .ok q.2 := dec_wk _ 0 (by decide +kernel)
def TX12_readPart_q1 : List (Nat × Instr × Nat) := [(22, .ifCond .eq 14, 3), (25, .aload_n 0, 1), (26, .iconst 0, 1), (27, .sipush 999, 3), (30, .invokevirtual 116, 3), (33, .goto 7, 3), (36, .aload_n 0, 1), (37, .invokevirtual 186, 3), (40, .istore_n 2, 1), (41, .aload_n 0, 1), (42, .iload_n 1, 1), (43, .ifCond .eq 8, 3)]
theorem DX12_readPart_q1 : ∀ q ∈ TX12_readPart_q1, decode cX12_readPart q.1 = .ok q.2 := dec_wk _ 22 (by decide +kernel)
def TX12_readPart_q2 : List (Nat × Instr × Nat) := [(46, .bipush 11, 2), (48, .goto 4, 3), (51, .iload_n 2, 1), (52, .iload_n 1, 1), (53, .ifCond .eq 7, 3), (56, .iload_n 2, 1), (57, .goto 4, 3), (60, .iconst 0, 1), (61, .invokevirtual 189, 3), (64, .iload_n 2, 1), (65, .ifCond .lt 7, 3), (68, .iconst 1, 1)]
theorem DX12_readPart_q2 : ∀ q ∈ TX12_readPart_q2, decode cX12_readPart q.1 = .ok q.2 := dec_wk _ 46 (by decide +kernel)
def TX12_readPart_q3 : List (Nat × Instr × Nat) := [(69, .goto 4, 3), (72, .iconst 0, 1), (73, .ireturn, 1)]
theorem DX12_readPart_q3 : ∀ q ∈ TX12_readPart_q3, decode cX12_readPart q.1 = .ok q.2 := dec_wk _ 69 (by decide +kernel)
def TX12_readSum_q0 : List (Nat × Instr × Nat) := [(0, .aload_n 0, 1), (1, .invokevirtual 192, 3), (4, .ifCond .ne 5, 3), (7, .iconst 0, 1), (8, .ireturn, 1), (9, .aload_n 0, 1), (10, .bipush 43, 2), (12, .invokevirtual 195, 3), (15, .ifCond .eq 22, 3), (18, .aload_n 0, 1), (19, .invokevirtual 192, 3), (22, .ifCond .ne 5, 3)]
theorem DX12_readSum_q0 : ∀ q ∈ TX12_readSum_q0, decode cX12_readSum q.1 = .ok q.2 := dec_wk _ 0 (by decide +kernel)
def TX12_readSum_q1 : List (Nat × Instr × Nat) := [(25, .iconst 0, 1), (26, .ireturn, 1), (27, .aload_n 0, 1), (28, .bipush 12, 2), (30, .iconst 0, 1), (31, .invokevirtual 189, 3), (34, .goto (-25), 3), (37, .iconst 1, 1), (38, .ireturn, 1)]
theorem DX12_readSum_q1 : ∀ q ∈ TX12_readSum_q1, decode cX12_readSum q.1 = .ok q.2 := dec_wk _ 25 (by decide +kernel)
def TX12_readTag_q0 : List (Nat × Instr × Nat) := [(0, .aload_n 0, 1), (1, .invokevirtual 109, 3), (4, .aload_n 0, 1), (5, .ldc 142, 2), (7, .invokevirtual 112, 3), (10, .ifCond .eq 8, 3), (13, .bipush 7, 2), (15, .goto 46, 3), (18, .aload_n 0, 1), (19, .ldc 137, 2), (21, .invokevirtual 112, 3), (24, .ifCond .eq 8, 3)]
theorem DX12_readTag_q0 : ∀ q ∈ TX12_readTag_q0, decode cX12_readTag q.1 = .ok q.2 := dec_wk _ 0 (by decide +kernel)
def TX12_readTag_q1 : List (Nat × Instr × Nat) := [(27, .bipush 8, 2), (29, .goto 32, 3), (32, .aload_n 0, 1), (33, .ldc 199, 2), (35, .invokevirtual 112, 3), (38, .ifCond .eq 8, 3), (41, .bipush 9, 2), (43, .goto 18, 3), (46, .aload_n 0, 1), (47, .ldc 201, 2), (49, .invokevirtual 112, 3), (52, .ifCond .eq 8, 3)]
theorem DX12_readTag_q1 : ∀ q ∈ TX12_readTag_q1, decode cX12_readTag q.1 = .ok q.2 := dec_wk _ 27 (by decide +kernel)
def TX12_readTag_q2 : List (Nat × Instr × Nat) := [(55, .bipush 10, 2), (57, .goto 4, 3), (60, .iconst (-1), 1), (61, .istore_n 1, 1), (62, .iload_n 1, 1), (63, .ifCond .lt 12, 3), (66, .aload_n 0, 1), (67, .iload_n 1, 1), (68, .iconst 0, 1), (69, .invokevirtual 189, 3), (72, .goto 11, 3), (75, .aload_n 0, 1)]
theorem DX12_readTag_q2 : ∀ q ∈ TX12_readTag_q2, decode cX12_readTag q.1 = .ok q.2 := dec_wk _ 55 (by decide +kernel)
def TX12_readTag_q3 : List (Nat × Instr × Nat) := [(76, .aload_n 0, 1), (77, .getfield 94, 3), (80, .putfield 85, 3), (83, .iload_n 1, 1), (84, .ifCond .lt 7, 3), (87, .iconst 1, 1), (88, .goto 4, 3), (91, .iconst 0, 1), (92, .ireturn, 1)]
theorem DX12_readTag_q3 : ∀ q ∈ TX12_readTag_q3, decode cX12_readTag q.1 = .ok q.2 := dec_wk _ 76 (by decide +kernel)
def TX12_readAtom_q0 : List (Nat × Instr × Nat) := [(0, .aload_n 0, 1), (1, .bipush 40, 2), (3, .invokevirtual 195, 3), (6, .ifCond .eq 50, 3), (9, .aload_n 0, 1), (10, .getfield 203, 3), (13, .bipush 6, 2), (15, .if_icmp .ne 5, 3), (18, .iconst 0, 1), (19, .ireturn, 1), (20, .aload_n 0, 1), (21, .dup, 1)]
theorem DX12_readAtom_q0 : ∀ q ∈ TX12_readAtom_q0, decode cX12_readAtom q.1 = .ok q.2 := dec_wk _ 0 (by decide +kernel)
def TX12_readAtom_q1 : List (Nat × Instr × Nat) := [(22, .getfield 203, 3), (25, .iconst 1, 1), (26, .iadd, 1), (27, .putfield 203, 3), (30, .aload_n 0, 1), (31, .invokevirtual 206, 3), (34, .ifCond .ne 5, 3), (37, .iconst 0, 1), (38, .ireturn, 1), (39, .aload_n 0, 1), (40, .dup, 1), (41, .getfield 203, 3)]
theorem DX12_readAtom_q1 : ∀ q ∈ TX12_readAtom_q1, decode cX12_readAtom q.1 = .ok q.2 := dec_wk _ 22 (by decide +kernel)
def TX12_readAtom_q2 : List (Nat × Instr × Nat) := [(44, .iconst 1, 1), (45, .isub, 1), (46, .putfield 203, 3), (49, .aload_n 0, 1), (50, .bipush 41, 2), (52, .invokevirtual 195, 3), (55, .ireturn, 1), (56, .aload_n 0, 1), (57, .ldc 209, 2), (59, .invokevirtual 139, 3), (62, .ifCond .eq 52, 3), (65, .aload_n 0, 1)]
theorem DX12_readAtom_q2 : ∀ q ∈ TX12_readAtom_q2, decode cX12_readAtom q.1 = .ok q.2 := dec_wk _ 44 (by decide +kernel)
def TX12_readAtom_q3 : List (Nat × Instr × Nat) := [(66, .getfield 203, 3), (69, .bipush 6, 2), (71, .if_icmp .ne 5, 3), (74, .iconst 0, 1), (75, .ireturn, 1), (76, .aload_n 0, 1), (77, .dup, 1), (78, .getfield 203, 3), (81, .iconst 1, 1), (82, .iadd, 1), (83, .putfield 203, 3), (86, .aload_n 0, 1)]
theorem DX12_readAtom_q3 : ∀ q ∈ TX12_readAtom_q3, decode cX12_readAtom q.1 = .ok q.2 := dec_wk _ 66 (by decide +kernel)
def TX12_readAtom_q4 : List (Nat × Instr × Nat) := [(87, .invokevirtual 211, 3), (90, .ifCond .ne 5, 3), (93, .iconst 0, 1), (94, .ireturn, 1), (95, .aload_n 0, 1), (96, .dup, 1), (97, .getfield 203, 3), (100, .iconst 1, 1), (101, .isub, 1), (102, .putfield 203, 3), (105, .aload_n 0, 1), (106, .bipush 15, 2)]
theorem DX12_readAtom_q4 : ∀ q ∈ TX12_readAtom_q4, decode cX12_readAtom q.1 = .ok q.2 := dec_wk _ 87 (by decide +kernel)
def TX12_readAtom_q5 : List (Nat × Instr × Nat) := [(108, .iconst 0, 1), (109, .invokevirtual 189, 3), (112, .iconst 1, 1), (113, .ireturn, 1)]
theorem DX12_readAtom_q5 : ∀ q ∈ TX12_readAtom_q5, decode cX12_readAtom q.1 = .ok q.2 := dec_wk _ 108 (by decide +kernel)
def TX12_readAtom_1_q0 : List (Nat × Instr × Nat) := [(114, .aload_n 0, 1), (115, .invokevirtual 214, 3), (118, .ifCond .eq 5, 3), (121, .iconst 1, 1), (122, .ireturn, 1), (123, .aload_n 0, 1), (124, .invokevirtual 217, 3), (127, .ifCond .ne 5, 3), (130, .iconst 0, 1), (131, .ireturn, 1), (132, .aload_n 0, 1), (133, .bipush 60, 2)]
theorem DX12_readAtom_1_q0 : ∀ q ∈ TX12_readAtom_1_q0, decode cX12_readAtom q.1 = .ok q.2 := dec_wk _ 114 (by decide +kernel)
def TX12_readAtom_1_q1 : List (Nat × Instr × Nat) := [(135, .invokevirtual 195, 3), (138, .istore_n 1, 1), (139, .iload_n 1, 1), (140, .ifCond .ne 12, 3), (143, .aload_n 0, 1), (144, .bipush 62, 2), (146, .invokevirtual 195, 3), (149, .ifCond .eq 10, 3), (152, .aload_n 0, 1), (153, .invokevirtual 217, 3), (156, .ifCond .ne 5, 3), (159, .iconst 0, 1)]
theorem DX12_readAtom_1_q1 : ∀ q ∈ TX12_readAtom_1_q1, decode cX12_readAtom q.1 = .ok q.2 := dec_wk _ 135 (by decide +kernel)
def TX12_readAtom_1_q2 : List (Nat × Instr × Nat) := [(160, .ireturn, 1), (161, .aload_n 0, 1), (162, .iload_n 1, 1), (163, .ifCond .eq 8, 3), (166, .bipush 13, 2), (168, .goto 5, 3), (171, .bipush 14, 2), (173, .iconst 0, 1), (174, .invokevirtual 189, 3), (177, .iconst 1, 1), (178, .ireturn, 1)]
theorem DX12_readAtom_1_q2 : ∀ q ∈ TX12_readAtom_1_q2, decode cX12_readAtom q.1 = .ok q.2 := dec_wk _ 160 (by decide +kernel)
def TX12_readAllOf_q0 : List (Nat × Instr × Nat) := [(0, .aload_n 0, 1), (1, .invokevirtual 211, 3), (4, .ifCond .ne 5, 3), (7, .iconst 0, 1), (8, .ireturn, 1), (9, .aload_n 0, 1), (10, .ldc 220, 2), (12, .invokevirtual 139, 3), (15, .ifCond .eq 22, 3), (18, .aload_n 0, 1), (19, .invokevirtual 211, 3), (22, .ifCond .ne 5, 3)]
theorem DX12_readAllOf_q0 : ∀ q ∈ TX12_readAllOf_q0, decode cX12_readAllOf q.1 = .ok q.2 := dec_wk _ 0 (by decide +kernel)
def TX12_readAllOf_q1 : List (Nat × Instr × Nat) := [(25, .iconst 0, 1), (26, .ireturn, 1), (27, .aload_n 0, 1), (28, .bipush 16, 2), (30, .iconst 0, 1), (31, .invokevirtual 189, 3), (34, .goto (-25), 3), (37, .iconst 1, 1), (38, .ireturn, 1)]
theorem DX12_readAllOf_q1 : ∀ q ∈ TX12_readAllOf_q1, decode cX12_readAllOf q.1 = .ok q.2 := dec_wk _ 25 (by decide +kernel)
def TX12_readCond_q0 : List (Nat × Instr × Nat) := [(0, .aload_n 0, 1), (1, .invokevirtual 222, 3), (4, .ifCond .ne 5, 3), (7, .iconst 0, 1), (8, .ireturn, 1), (9, .aload_n 0, 1), (10, .ldc 225, 2), (12, .invokevirtual 139, 3), (15, .ifCond .eq 22, 3), (18, .aload_n 0, 1), (19, .invokevirtual 222, 3), (22, .ifCond .ne 5, 3)]
theorem DX12_readCond_q0 : ∀ q ∈ TX12_readCond_q0, decode cX12_readCond q.1 = .ok q.2 := dec_wk _ 0 (by decide +kernel)
def TX12_readCond_q1 : List (Nat × Instr × Nat) := [(25, .iconst 0, 1), (26, .ireturn, 1), (27, .aload_n 0, 1), (28, .bipush 17, 2), (30, .iconst 0, 1), (31, .invokevirtual 189, 3), (34, .goto (-25), 3), (37, .iconst 1, 1), (38, .ireturn, 1)]
theorem DX12_readCond_q1 : ∀ q ∈ TX12_readCond_q1, decode cX12_readCond q.1 = .ok q.2 := dec_wk _ 25 (by decide +kernel)
def TX12_readLawLine_q0 : List (Nat × Instr × Nat) := [(0, .sipush 1285, 3), (3, .iconst 4, 1), (4, .iload_n 1, 1), (5, .imul, 1), (6, .iadd, 1), (7, .istore_n 2, 1), (8, .aload_n 0, 1), (9, .getfield 13, 3), (12, .iload_n 2, 1), (13, .aload_n 0, 1), (14, .ldc 144, 2), (16, .invokevirtual 112, 3)]
theorem DX12_readLawLine_q0 : ∀ q ∈ TX12_readLawLine_q0, decode cX12_readLawLine q.1 = .ok q.2 := dec_wk _ 0 (by decide +kernel)
def TX12_readLawLine_q1 : List (Nat × Instr × Nat) := [(19, .ifCond .eq 7, 3), (22, .iconst 0, 1), (23, .goto 30, 3), (26, .aload_n 0, 1), (27, .ldc 227, 2), (29, .invokevirtual 112, 3), (32, .ifCond .eq 7, 3), (35, .iconst 1, 1), (36, .goto 17, 3), (39, .aload_n 0, 1), (40, .ldc 229, 2), (42, .invokevirtual 112, 3)]
theorem DX12_readLawLine_q1 : ∀ q ∈ TX12_readLawLine_q1, decode cX12_readLawLine q.1 = .ok q.2 := dec_wk _ 19 (by decide +kernel)
def TX12_readLawLine_q2 : List (Nat × Instr × Nat) := [(45, .ifCond .eq 7, 3), (48, .iconst 2, 1), (49, .goto 4, 3), (52, .iconst (-1), 1), (53, .iastore, 1), (54, .aload_n 0, 1), (55, .getfield 13, 3), (58, .iload_n 2, 1), (59, .iaload, 1), (60, .ifCond .ge 5, 3), (63, .iconst 0, 1), (64, .ireturn, 1)]
theorem DX12_readLawLine_q2 : ∀ q ∈ TX12_readLawLine_q2, decode cX12_readLawLine q.1 = .ok q.2 := dec_wk _ 45 (by decide +kernel)
def TX12_readLawLine_q3 : List (Nat × Instr × Nat) := [(65, .aload_n 0, 1), (66, .getfield 13, 3), (69, .iload_n 2, 1), (70, .iconst 1, 1), (71, .iadd, 1), (72, .aload_n 0, 1), (73, .iconst 0, 1), (74, .bipush 100, 2), (76, .invokevirtual 116, 3), (79, .iastore, 1), (80, .aload_n 0, 1), (81, .getfield 13, 3)]
theorem DX12_readLawLine_q3 : ∀ q ∈ TX12_readLawLine_q3, decode cX12_readLawLine q.1 = .ok q.2 := dec_wk _ 65 (by decide +kernel)
def TX12_readLawLine_q4 : List (Nat × Instr × Nat) := [(84, .iload_n 2, 1), (85, .iconst 1, 1), (86, .iadd, 1), (87, .iaload, 1), (88, .ifCond .ge 5, 3), (91, .iconst 0, 1), (92, .ireturn, 1), (93, .aload_n 0, 1), (94, .getfield 13, 3), (97, .iload_n 2, 1), (98, .iconst 2, 1), (99, .iadd, 1)]
theorem DX12_readLawLine_q4 : ∀ q ∈ TX12_readLawLine_q4, decode cX12_readLawLine q.1 = .ok q.2 := dec_wk _ 84 (by decide +kernel)
def TX12_readLawLine_q5 : List (Nat × Instr × Nat) := [(100, .aload_n 0, 1), (101, .getfield 179, 3), (104, .iastore, 1), (105, .aload_n 0, 1)]
theorem DX12_readLawLine_q5 : ∀ q ∈ TX12_readLawLine_q5, decode cX12_readLawLine q.1 = .ok q.2 := dec_wk _ 100 (by decide +kernel)
def TX12_readLawLine_1_q0 : List (Nat × Instr × Nat) := [(106, .iconst 0, 1), (107, .putfield 203, 3), (110, .aload_n 0, 1), (111, .ldc 231, 2), (113, .invokevirtual 139, 3), (116, .ifCond .eq 12, 3), (119, .aload_n 0, 1), (120, .invokevirtual 206, 3), (123, .ifCond .ne 5, 3), (126, .iconst 0, 1), (127, .ireturn, 1), (128, .aload_n 0, 1)]
theorem DX12_readLawLine_1_q0 : ∀ q ∈ TX12_readLawLine_1_q0, decode cX12_readLawLine q.1 = .ok q.2 := dec_wk _ 106 (by decide +kernel)
def TX12_readLawLine_1_q1 : List (Nat × Instr × Nat) := [(129, .getfield 13, 3), (132, .iload_n 2, 1), (133, .iconst 3, 1), (134, .iadd, 1), (135, .aload_n 0, 1), (136, .getfield 179, 3), (139, .iastore, 1), (140, .iconst 1, 1), (141, .ireturn, 1)]
theorem DX12_readLawLine_1_q1 : ∀ q ∈ TX12_readLawLine_1_q1, decode cX12_readLawLine q.1 = .ok q.2 := dec_wk _ 129 (by decide +kernel)
def TX12_readLine_q0 : List (Nat × Instr × Nat) := [(0, .aload_n 0, 1), (1, .invokevirtual 109, 3), (4, .iload_n 2, 1), (5, .iload_n 1, 1), (6, .ifCond .eq 8, 3), (9, .bipush 14, 2), (11, .goto 5, 3), (14, .bipush 12, 2), (16, .if_icmp .ge 29, 3), (19, .iload_n 1, 1), (20, .ifCond .eq 13, 3), (23, .aload_n 0, 1)]
theorem DX12_readLine_q0 : ∀ q ∈ TX12_readLine_q0, decode cX12_readLine q.1 = .ok q.2 := dec_wk _ 0 (by decide +kernel)
def TX12_readLine_q1 : List (Nat × Instr × Nat) := [(24, .invokevirtual 233, 3), (27, .ifCond .eq 18, 3), (30, .goto 11, 3), (33, .aload_n 0, 1), (34, .iload_n 2, 1), (35, .invokevirtual 236, 3), (38, .ifCond .eq 7, 3), (41, .iconst 1, 1), (42, .goto 4, 3), (45, .iconst 0, 1), (46, .ireturn, 1)]
theorem DX12_readLine_q1 : ∀ q ∈ TX12_readLine_q1, decode cX12_readLine q.1 = .ok q.2 := dec_wk _ 24 (by decide +kernel)
def TX12_readAll_q0 : List (Nat × Instr × Nat) := [(0, .aload_n 0, 1), (1, .invokevirtual 239, 3), (4, .aload_n 0, 1), (5, .iconst 0, 1), (6, .putfield 179, 3), (9, .aload_n 0, 1), (10, .invokevirtual 97, 3), (13, .aload_n 0, 1), (14, .getfield 85, 3), (17, .aload_n 0, 1), (18, .getfield 88, 3), (21, .if_icmp .ne 5, 3)]
theorem DX12_readAll_q0 : ∀ q ∈ TX12_readAll_q0, decode cX12_readAll q.1 = .ok q.2 := dec_wk _ 0 (by decide +kernel)
def TX12_readAll_q1 : List (Nat × Instr × Nat) := [(24, .iconst 0, 1), (25, .ireturn, 1), (26, .iconst 0, 1), (27, .istore_n 2, 1), (28, .aload_n 0, 1), (29, .iload_n 1, 1), (30, .iload_n 2, 1), (31, .invokevirtual 242, 3), (34, .ifCond .ne 5, 3), (37, .iconst (-1), 1), (38, .ireturn, 1), (39, .aload_n 0, 1)]
theorem DX12_readAll_q1 : ∀ q ∈ TX12_readAll_q1, decode cX12_readAll q.1 = .ok q.2 := dec_wk _ 24 (by decide +kernel)
def TX12_readAll_q2 : List (Nat × Instr × Nat) := [(40, .invokevirtual 97, 3), (43, .aload_n 0, 1), (44, .getfield 85, 3), (47, .aload_n 0, 1), (48, .getfield 88, 3), (51, .if_icmp .ne 7, 3), (54, .iload_n 2, 1), (55, .iconst 1, 1), (56, .iadd, 1), (57, .ireturn, 1), (58, .aload_n 0, 1), (59, .bipush 59, 2)]
theorem DX12_readAll_q2 : ∀ q ∈ TX12_readAll_q2, decode cX12_readAll q.1 = .ok q.2 := dec_wk _ 40 (by decide +kernel)
def TX12_readAll_q3 : List (Nat × Instr × Nat) := [(61, .bipush 59, 2), (63, .invokevirtual 91, 3), (66, .ifCond .ne 5, 3), (69, .iconst (-1), 1), (70, .ireturn, 1), (71, .aload_n 0, 1), (72, .dup, 1), (73, .getfield 85, 3), (76, .iconst 1, 1), (77, .iadd, 1), (78, .putfield 85, 3), (81, .iinc 2 1, 3)]
theorem DX12_readAll_q3 : ∀ q ∈ TX12_readAll_q3, decode cX12_readAll q.1 = .ok q.2 := dec_wk _ 61 (by decide +kernel)
def TX12_readAll_q4 : List (Nat × Instr × Nat) := [(84, .goto (-56), 3)]
theorem DX12_readAll_q4 : ∀ q ∈ TX12_readAll_q4, decode cX12_readAll q.1 = .ok q.2 := dec_wk _ 84 (by decide +kernel)
def TX12_pole_q0 : List (Nat × Instr × Nat) := [(0, .iconst 0, 1), (1, .istore_n 1, 1), (2, .iload_n 1, 1), (3, .sipush 1284, 3), (6, .if_icmp .ge 21, 3), (9, .aload_n 0, 1), (10, .getfield 20, 3), (13, .iload_n 1, 1), (14, .aload_n 0, 1), (15, .getfield 13, 3), (18, .iload_n 1, 1), (19, .iaload, 1)]
theorem DX12_pole_q0 : ∀ q ∈ TX12_pole_q0, decode cX12_pole q.1 = .ok q.2 := dec_wk _ 0 (by decide +kernel)
def TX12_pole_q1 : List (Nat × Instr × Nat) := [(20, .iastore, 1), (21, .iinc 1 1, 3), (24, .goto (-22), 3), (27, .aload_n 0, 1), (28, .iconst 1, 1), (29, .invokevirtual 246, 3), (32, .istore_n 1, 1), (33, .aload_n 0, 1), (34, .iload_n 1, 1), (35, .ifCond .ge 10, 3), (38, .aload_n 0, 1), (39, .getfield 94, 3)]
theorem DX12_pole_q1 : ∀ q ∈ TX12_pole_q1, decode cX12_pole q.1 = .ok q.2 := dec_wk _ 20 (by decide +kernel)
def TX12_pole_q2 : List (Nat × Instr × Nat) := [(42, .goto 4, 3), (45, .iconst (-1), 1), (46, .putfield 33, 3), (49, .aload_n 0, 1), (50, .iload_n 1, 1), (51, .ifCond .ge 7, 3), (54, .iconst 1, 1), (55, .goto 4, 3), (58, .iconst 0, 1), (59, .iconst 1, 1), (60, .invokevirtual 250, 3), (63, .ifCond .ne 27, 3)]
theorem DX12_pole_q2 : ∀ q ∈ TX12_pole_q2, decode cX12_pole q.1 = .ok q.2 := dec_wk _ 42 (by decide +kernel)
def TX12_pole_q3 : List (Nat × Instr × Nat) := [(66, .aload_n 0, 1), (67, .aload_n 0, 1), (68, .getfield 13, 3), (71, .iconst 1, 1), (72, .iaload, 1), (73, .bipush 12, 2), (75, .if_icmp .ne 7, 3), (78, .iconst 1, 1), (79, .goto 4, 3), (82, .iconst 0, 1), (83, .iconst 2, 1), (84, .invokevirtual 250, 3)]
theorem DX12_pole_q3 : ∀ q ∈ TX12_pole_q3, decode cX12_pole q.1 = .ok q.2 := dec_wk _ 66 (by decide +kernel)
def TX12_pole_q4 : List (Nat × Instr × Nat) := [(87, .ifCond .eq 32, 3), (90, .iconst 0, 1), (91, .istore_n 2, 1), (92, .iload_n 2, 1), (93, .sipush 1284, 3), (96, .if_icmp .ge 21, 3), (99, .aload_n 0, 1), (100, .getfield 13, 3), (103, .iload_n 2, 1), (104, .aload_n 0, 1), (105, .getfield 20, 3), (108, .iload_n 2, 1)]
theorem DX12_pole_q4 : ∀ q ∈ TX12_pole_q4, decode cX12_pole q.1 = .ok q.2 := dec_wk _ 87 (by decide +kernel)
def TX12_pole_q5 : List (Nat × Instr × Nat) := [(109, .iaload, 1), (110, .iastore, 1), (111, .iinc 2 1, 3), (114, .goto (-22), 3)]
theorem DX12_pole_q5 : ∀ q ∈ TX12_pole_q5, decode cX12_pole q.1 = .ok q.2 := dec_wk _ 109 (by decide +kernel)
def TX12_pole_1_q0 : List (Nat × Instr × Nat) := [(117, .iconst 0, 1), (118, .ireturn, 1), (119, .aload_n 0, 1), (120, .getfield 13, 3), (123, .iconst 1, 1), (124, .dup2, 1), (125, .iaload, 1), (126, .iconst 1, 1), (127, .iadd, 1), (128, .iastore, 1), (129, .aload_n 0, 1), (130, .iconst 0, 1)]
theorem DX12_pole_1_q0 : ∀ q ∈ TX12_pole_1_q0, decode cX12_pole q.1 = .ok q.2 := dec_wk _ 117 (by decide +kernel)
def TX12_pole_1_q1 : List (Nat × Instr × Nat) := [(131, .putfield 56, 3), (134, .aload_n 0, 1), (135, .getfield 13, 3), (138, .iconst 1, 1), (139, .iaload, 1), (140, .ireturn, 1)]
theorem DX12_pole_1_q1 : ∀ q ∈ TX12_pole_1_q1, decode cX12_pole q.1 = .ok q.2 := dec_wk _ 131 (by decide +kernel)
def TX12_law_q0 : List (Nat × Instr × Nat) := [(0, .aload_n 0, 1), (1, .iconst 0, 1), (2, .invokevirtual 246, 3), (5, .istore_n 1, 1), (6, .aload_n 0, 1), (7, .iload_n 1, 1), (8, .ifCond .ge 10, 3), (11, .aload_n 0, 1), (12, .getfield 94, 3), (15, .goto 4, 3), (18, .iconst (-1), 1), (19, .putfield 33, 3)]
theorem DX12_law_q0 : ∀ q ∈ TX12_law_q0, decode cX12_law q.1 = .ok q.2 := dec_wk _ 0 (by decide +kernel)
def TX12_law_q1 : List (Nat × Instr × Nat) := [(22, .aload_n 0, 1), (23, .iload_n 1, 1), (24, .ifCond .ge 7, 3), (27, .iconst 1, 1), (28, .goto 4, 3), (31, .iconst 0, 1), (32, .iconst 1, 1), (33, .invokevirtual 250, 3), (36, .ifCond .eq 5, 3), (39, .iconst 0, 1), (40, .ireturn, 1), (41, .aload_n 0, 1)]
theorem DX12_law_q1 : ∀ q ∈ TX12_law_q1, decode cX12_law q.1 = .ok q.2 := dec_wk _ 22 (by decide +kernel)
def TX12_law_q2 : List (Nat × Instr × Nat) := [(42, .getfield 13, 3), (45, .sipush 1284, 3), (48, .iload_n 1, 1), (49, .iastore, 1), (50, .iconst 0, 1), (51, .istore_n 2, 1), (52, .iload_n 2, 1), (53, .sipush 849, 3), (56, .if_icmp .ge 29, 3), (59, .aload_n 0, 1), (60, .getfield 13, 3), (63, .sipush 435, 3)]
theorem DX12_law_q2 : ∀ q ∈ TX12_law_q2, decode cX12_law q.1 = .ok q.2 := dec_wk _ 42 (by decide +kernel)
def TX12_law_q3 : List (Nat × Instr × Nat) := [(66, .iload_n 2, 1), (67, .iadd, 1), (68, .aload_n 0, 1), (69, .getfield 13, 3), (72, .sipush 1284, 3), (75, .iload_n 2, 1), (76, .iadd, 1), (77, .iaload, 1), (78, .iastore, 1), (79, .iinc 2 1, 3), (82, .goto (-30), 3), (85, .aload_n 0, 1)]
theorem DX12_law_q3 : ∀ q ∈ TX12_law_q3, decode cX12_law q.1 = .ok q.2 := dec_wk _ 66 (by decide +kernel)
def TX12_law_q4 : List (Nat × Instr × Nat) := [(86, .getfield 13, 3), (89, .iconst 2, 1), (90, .iconst 1, 1), (91, .iastore, 1), (92, .aload_n 0, 1), (93, .iconst 0, 1), (94, .putfield 56, 3), (97, .iload_n 1, 1), (98, .ireturn, 1)]
theorem DX12_law_q4 : ∀ q ∈ TX12_law_q4, decode cX12_law q.1 = .ok q.2 := dec_wk _ 86 (by decide +kernel)
def TX12_isLit_q0 : List (Nat × Instr × Nat) := [(0, .aload_n 0, 1), (1, .iload_n 1, 1), (2, .iconst 0, 1), (3, .invokevirtual 67, 3), (6, .iconst 4, 1), (7, .iload_n 2, 1), (8, .imul, 1), (9, .iconst 4, 1), (10, .iload_n 2, 1), (11, .imul, 1), (12, .aload_n 0, 1), (13, .getfield 13, 3)]
theorem DX12_isLit_q0 : ∀ q ∈ TX12_isLit_q0, decode cX12_isLit q.1 = .ok q.2 := dec_wk _ 0 (by decide +kernel)
def TX12_isLit_q1 : List (Nat × Instr × Nat) := [(16, .bipush 6, 2), (18, .iaload, 1), (19, .iadd, 1), (20, .invokestatic 77, 3), (23, .ireturn, 1)]
theorem DX12_isLit_q1 : ∀ q ∈ TX12_isLit_q1, decode cX12_isLit q.1 = .ok q.2 := dec_wk _ 16 (by decide +kernel)
def TX12_factOf_q0 : List (Nat × Instr × Nat) := [(0, .iload_n 1, 1)]
theorem DX12_factOf_q0 : ∀ q ∈ TX12_factOf_q0, decode cX12_factOf q.1 = .ok q.2 := dec_wk _ 0 (by decide +kernel)
def TX12_factOf_q1 : List (Nat × Instr × Nat) := [(1, .tableswitch 144 0 10 #[59, 61, 68, 74, 81, 88, 95, 102, 109, 116, 136], 59)]
theorem DX12_factOf_q1 : ∀ q ∈ TX12_factOf_q1, decode cX12_factOf q.1 = .ok q.2 := by decide +kernel
def TX12_factOf_q2 : List (Nat × Instr × Nat) := [(60, .iload_n 3, 1), (61, .ireturn, 1), (62, .aload_n 0, 1), (63, .iload_n 3, 1), (64, .iconst 0, 1), (65, .invokevirtual 67, 3), (68, .ireturn, 1), (69, .aload_n 0, 1), (70, .iload_n 3, 1), (71, .invokevirtual 253, 3), (74, .ireturn, 1), (75, .aload_n 0, 1)]
theorem DX12_factOf_q2 : ∀ q ∈ TX12_factOf_q2, decode cX12_factOf q.1 = .ok q.2 := dec_wk _ 60 (by decide +kernel)
def TX12_factOf_q3 : List (Nat × Instr × Nat) := [(76, .iload_n 3, 1), (77, .iconst 4, 1), (78, .invokevirtual 67, 3), (81, .ireturn, 1), (82, .aload_n 0, 1), (83, .iload_n 3, 1), (84, .iconst 5, 1), (85, .invokevirtual 67, 3), (88, .ireturn, 1), (89, .aload_n 0, 1), (90, .getfield 13, 3), (93, .iconst 3, 1)]
theorem DX12_factOf_q3 : ∀ q ∈ TX12_factOf_q3, decode cX12_factOf q.1 = .ok q.2 := dec_wk _ 76 (by decide +kernel)
def TX12_factOf_q4 : List (Nat × Instr × Nat) := [(94, .iaload, 1), (95, .ireturn, 1), (96, .aload_n 0, 1), (97, .getfield 13, 3), (100, .iconst 4, 1), (101, .iaload, 1), (102, .ireturn, 1), (103, .aload_n 0, 1), (104, .iload_n 3, 1), (105, .iconst 3, 1), (106, .invokevirtual 67, 3), (109, .ireturn, 1)]
theorem DX12_factOf_q4 : ∀ q ∈ TX12_factOf_q4, decode cX12_factOf q.1 = .ok q.2 := dec_wk _ 94 (by decide +kernel)
def TX12_factOf_q5 : List (Nat × Instr × Nat) := [(110, .aload_n 0, 1), (111, .iload_n 3, 1), (112, .iconst 2, 1), (113, .invokevirtual 67, 3), (116, .ireturn, 1), (117, .aload_n 0, 1), (118, .iload_n 3, 1), (119, .aload_n 0, 1), (120, .getfield 13, 3), (123, .iconst 3, 1), (124, .iaload, 1), (125, .invokevirtual 257, 3)]
theorem DX12_factOf_q5 : ∀ q ∈ TX12_factOf_q5, decode cX12_factOf q.1 = .ok q.2 := dec_wk _ 110 (by decide +kernel)
def TX12_factOf_q6 : List (Nat × Instr × Nat) := [(128, .ifCond .eq 7, 3), (131, .iconst 1, 1), (132, .goto 4, 3), (135, .iconst 0, 1), (136, .ireturn, 1), (137, .aload_n 0, 1), (138, .iload_n 3, 1), (139, .bipush 6, 2), (141, .invokevirtual 67, 3), (144, .ireturn, 1), (145, .iload_n 2, 1), (146, .ireturn, 1)]
theorem DX12_factOf_q6 : ∀ q ∈ TX12_factOf_q6, decode cX12_factOf q.1 = .ok q.2 := dec_wk _ 128 (by decide +kernel)
def TX12_holdsLine_q0 : List (Nat × Instr × Nat) := [(0, .iconst 0, 1), (1, .istore_n 3, 1), (2, .sipush 436, 3), (5, .iconst 4, 1), (6, .iload_n 1, 1), (7, .imul, 1), (8, .iadd, 1), (9, .istore 4, 2), (11, .aload_n 0, 1), (12, .getfield 13, 3), (15, .iload 4, 2), (17, .iconst 2, 1)]
theorem DX12_holdsLine_q0 : ∀ q ∈ TX12_holdsLine_q0, decode cX12_holdsLine q.1 = .ok q.2 := dec_wk _ 0 (by decide +kernel)
def TX12_holdsLine_q1 : List (Nat × Instr × Nat) := [(18, .iadd, 1), (19, .iaload, 1), (20, .istore 5, 2), (22, .iload 5, 2), (24, .aload_n 0, 1), (25, .getfield 13, 3), (28, .iload 4, 2), (30, .iconst 3, 1), (31, .iadd, 1), (32, .iaload, 1), (33, .if_icmp .ge 230, 3), (36, .aload_n 0, 1)]
theorem DX12_holdsLine_q1 : ∀ q ∈ TX12_holdsLine_q1, decode cX12_holdsLine q.1 = .ok q.2 := dec_wk _ 18 (by decide +kernel)
def TX12_holdsLine_q2 : List (Nat × Instr × Nat) := [(37, .getfield 13, 3), (40, .sipush 484, 3), (43, .iconst 2, 1), (44, .iload 5, 2), (46, .imul, 1), (47, .iadd, 1), (48, .iaload, 1), (49, .istore 6, 2), (51, .iload 6, 2), (53, .bipush 11, 2), (55, .if_icmp .gt 37, 3), (58, .aload_n 0, 1)]
theorem DX12_holdsLine_q2 : ∀ q ∈ TX12_holdsLine_q2, decode cX12_holdsLine q.1 = .ok q.2 := dec_wk _ 37 (by decide +kernel)
def TX12_holdsLine_q3 : List (Nat × Instr × Nat) := [(59, .getfield 39, 3), (62, .iload_n 3, 1), (63, .aload_n 0, 1), (64, .iload 6, 2), (66, .aload_n 0, 1), (67, .getfield 13, 3), (70, .sipush 484, 3), (73, .iconst 2, 1), (74, .iload 5, 2), (76, .imul, 1), (77, .iadd, 1), (78, .iconst 1, 1)]
theorem DX12_holdsLine_q3 : ∀ q ∈ TX12_holdsLine_q3, decode cX12_holdsLine q.1 = .ok q.2 := dec_wk _ 59 (by decide +kernel)
def TX12_holdsLine_q4 : List (Nat × Instr × Nat) := [(79, .iadd, 1), (80, .iaload, 1), (81, .iload_n 2, 1), (82, .invokevirtual 260, 3), (85, .iastore, 1), (86, .iinc 3 1, 3), (89, .goto 168, 3), (92, .iload 6, 2), (94, .bipush 15, 2), (96, .if_icmp .ne 24, 3), (99, .aload_n 0, 1), (100, .getfield 39, 3)]
theorem DX12_holdsLine_q4 : ∀ q ∈ TX12_holdsLine_q4, decode cX12_holdsLine q.1 = .ok q.2 := dec_wk _ 79 (by decide +kernel)
def TX12_holdsLine_q5 : List (Nat × Instr × Nat) := [(103, .iload_n 3, 1), (104, .iconst 1, 1), (105, .isub, 1), (106, .iconst 1, 1)]
theorem DX12_holdsLine_q5 : ∀ q ∈ TX12_holdsLine_q5, decode cX12_holdsLine q.1 = .ok q.2 := dec_wk _ 103 (by decide +kernel)
def TX12_holdsLine_1_q0 : List (Nat × Instr × Nat) := [(107, .aload_n 0, 1), (108, .getfield 39, 3), (111, .iload_n 3, 1), (112, .iconst 1, 1), (113, .isub, 1), (114, .iaload, 1), (115, .isub, 1), (116, .iastore, 1), (117, .goto 140, 3), (120, .iinc 3 (-1), 3), (123, .aload_n 0, 1), (124, .getfield 39, 3)]
theorem DX12_holdsLine_1_q0 : ∀ q ∈ TX12_holdsLine_1_q0, decode cX12_holdsLine q.1 = .ok q.2 := dec_wk _ 107 (by decide +kernel)
def TX12_holdsLine_1_q1 : List (Nat × Instr × Nat) := [(127, .iload_n 3, 1), (128, .iconst 1, 1), (129, .isub, 1), (130, .iaload, 1), (131, .istore 7, 2), (133, .aload_n 0, 1), (134, .getfield 39, 3), (137, .iload_n 3, 1), (138, .iaload, 1), (139, .istore 8, 2), (141, .iload 6, 2), (143, .bipush 13, 2)]
theorem DX12_holdsLine_1_q1 : ∀ q ∈ TX12_holdsLine_1_q1, decode cX12_holdsLine q.1 = .ok q.2 := dec_wk _ 127 (by decide +kernel)
def TX12_holdsLine_1_q2 : List (Nat × Instr × Nat) := [(145, .if_icmp .ne 18, 3), (148, .iload 7, 2), (150, .iload 8, 2), (152, .if_icmp .ge 7, 3), (155, .iconst 1, 1), (156, .goto 66, 3), (159, .iconst 0, 1), (160, .goto 62, 3), (163, .iload 6, 2), (165, .bipush 14, 2), (167, .if_icmp .ne 18, 3), (170, .iload 7, 2)]
theorem DX12_holdsLine_1_q2 : ∀ q ∈ TX12_holdsLine_1_q2, decode cX12_holdsLine q.1 = .ok q.2 := dec_wk _ 145 (by decide +kernel)
def TX12_holdsLine_1_q3 : List (Nat × Instr × Nat) := [(172, .iload 8, 2), (174, .if_icmp .le 7, 3), (177, .iconst 1, 1), (178, .goto 44, 3), (181, .iconst 0, 1), (182, .goto 40, 3), (185, .iload 6, 2), (187, .bipush 16, 2), (189, .if_icmp .ne 20, 3), (192, .iload 7, 2), (194, .iload 8, 2), (196, .iadd, 1)]
theorem DX12_holdsLine_1_q3 : ∀ q ∈ TX12_holdsLine_1_q3, decode cX12_holdsLine q.1 = .ok q.2 := dec_wk _ 172 (by decide +kernel)
def TX12_holdsLine_1_q4 : List (Nat × Instr × Nat) := [(197, .iconst 2, 1), (198, .if_icmp .ne 7, 3), (201, .iconst 1, 1), (202, .goto 20, 3), (205, .iconst 0, 1), (206, .goto 16, 3), (209, .iload 7, 2), (211, .iload 8, 2), (213, .iadd, 1), (214, .ifCond .le 7, 3), (217, .iconst 1, 1), (218, .goto 4, 3)]
theorem DX12_holdsLine_1_q4 : ∀ q ∈ TX12_holdsLine_1_q4, decode cX12_holdsLine q.1 = .ok q.2 := dec_wk _ 197 (by decide +kernel)
def TX12_holdsLine_1_q5 : List (Nat × Instr × Nat) := [(221, .iconst 0, 1), (222, .istore 9, 2), (224, .aload_n 0, 1), (225, .getfield 39, 3)]
theorem DX12_holdsLine_1_q5 : ∀ q ∈ TX12_holdsLine_1_q5, decode cX12_holdsLine q.1 = .ok q.2 := dec_wk _ 221 (by decide +kernel)
def TX12_holdsLine_2_q0 : List (Nat × Instr × Nat) := [(228, .iload_n 3, 1), (229, .iconst 1, 1), (230, .isub, 1), (231, .iload 6, 2), (233, .bipush 12, 2), (235, .if_icmp .ne 11, 3), (238, .iload 7, 2), (240, .iload 8, 2), (242, .iadd, 1), (243, .goto 13, 3), (246, .iload 9, 2), (248, .ifCond .eq 7, 3)]
theorem DX12_holdsLine_2_q0 : ∀ q ∈ TX12_holdsLine_2_q0, decode cX12_holdsLine q.1 = .ok q.2 := dec_wk _ 228 (by decide +kernel)
def TX12_holdsLine_2_q1 : List (Nat × Instr × Nat) := [(251, .iconst 1, 1), (252, .goto 4, 3), (255, .iconst 0, 1), (256, .iastore, 1), (257, .iinc 5 1, 3), (260, .goto (-238), 3), (263, .iload_n 3, 1), (264, .ifCond .eq 13, 3), (267, .aload_n 0, 1), (268, .getfield 39, 3), (271, .iconst 0, 1), (272, .iaload, 1)]
theorem DX12_holdsLine_2_q1 : ∀ q ∈ TX12_holdsLine_2_q1, decode cX12_holdsLine q.1 = .ok q.2 := dec_wk _ 251 (by decide +kernel)
def TX12_holdsLine_2_q2 : List (Nat × Instr × Nat) := [(273, .iconst 1, 1), (274, .if_icmp .ne 7, 3), (277, .iconst 1, 1), (278, .goto 4, 3), (281, .iconst 0, 1), (282, .ireturn, 1)]
theorem DX12_holdsLine_2_q2 : ∀ q ∈ TX12_holdsLine_2_q2, decode cX12_holdsLine q.1 = .ok q.2 := dec_wk _ 273 (by decide +kernel)
end
