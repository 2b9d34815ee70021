/-! the instructions of each method; and: what the walker says of a method is enough -/
def T0_init : TT := [(0, .aload_n 0, 1), (1, .iload_n 1, 1), (2, .iload_n 2, 1), (3, .invokespecial 1, 3), (6, .return_, 1)]
set_option maxRecDepth 100000 in
theorem T0_init_ok : tabOK m0_init T0_init = true := by decide +kernel
def T0_kind : TT := [(0, .iconst 1, 1), (1, .ireturn, 1)]
set_option maxRecDepth 100000 in
theorem T0_kind_ok : tabOK m0_kind T0_kind = true := by decide +kernel
def T0_together : TT := [(0, .aload_n 0, 1), (1, .iload_n 1, 1), (2, .invokespecial 7, 3), (5, .iconst 1, 1), (6, .iadd, 1), (7, .ireturn, 1)]
set_option maxRecDepth 100000 in
theorem T0_together_ok : tabOK m0_together T0_together = true := by decide +kernel
def T1_init : TT := [(0, .aload_n 0, 1), (1, .iload_n 1, 1), (2, .iload_n 2, 1), (3, .invokespecial 1, 3), (6, .return_, 1)]
set_option maxRecDepth 100000 in
theorem T1_init_ok : tabOK m1_init T1_init = true := by decide +kernel
def T1_kind : TT := [(0, .iconst 4, 1), (1, .ireturn, 1)]
set_option maxRecDepth 100000 in
theorem T1_kind_ok : tabOK m1_kind T1_kind = true := by decide +kernel
def T1_leftOf : TT := [(0, .iconst 0, 1), (1, .aload_n 0, 1), (2, .iload_n 1, 1), (3, .invokespecial 7, 3), (6, .iconst 1, 1), (7, .isub, 1), (8, .invokestatic 11, 3), (11, .ireturn, 1)]
set_option maxRecDepth 100000 in
theorem T1_leftOf_ok : tabOK m1_leftOf T1_leftOf = true := by decide +kernel
def T1_worthOf : TT := [(0, .aload_n 0, 1), (1, .iload_n 1, 1), (2, .invokespecial 17, 3), (5, .aload_n 0, 1), (6, .getfield 20, 3), (9, .iadd, 1), (10, .ireturn, 1)]
set_option maxRecDepth 100000 in
theorem T1_worthOf_ok : tabOK m1_worthOf T1_worthOf = true := by decide +kernel
def T2_init : TT := [(0, .aload_n 0, 1), (1, .invokespecial 3, 3), (4, .aload_n 0, 1), (5, .iconst 5, 1), (6, .anewarray 9, 3), (9, .putfield 11, 3), (12, .iconst 0, 1), (13, .istore_n 1, 1), (14, .iload_n 1, 1), (15, .iconst 5, 1), (16, .if_icmp .ge 22, 3), (19, .aload_n 0, 1), (20, .getfield 11, 3), (23, .iload_n 1, 1), (24, .new 9, 3), (27, .dup, 1), (28, .invokespecial 17, 3), (31, .aastore, 1), (32, .iinc 1 1, 3), (35, .goto (-21), 3), (38, .return_, 1)]
set_option maxRecDepth 100000 in
theorem T2_init_ok : tabOK m2_init T2_init = true := by decide +kernel
def T3_init : TT := [(0, .aload_n 0, 1), (1, .iload_n 1, 1), (2, .iload_n 2, 1), (3, .invokespecial 1, 3), (6, .return_, 1)]
set_option maxRecDepth 100000 in
theorem T3_init_ok : tabOK m3_init T3_init = true := by decide +kernel
def T3_kind : TT := [(0, .iconst 5, 1), (1, .ireturn, 1)]
set_option maxRecDepth 100000 in
theorem T3_kind_ok : tabOK m3_kind T3_kind = true := by decide +kernel
def T3_together : TT := [(0, .iload_n 1, 1), (1, .iconst 5, 1), (2, .if_icmp .le 7, 3), (5, .iconst 0, 1), (6, .goto 8, 3), (9, .aload_n 0, 1), (10, .iload_n 1, 1), (11, .invokespecial 7, 3), (14, .ireturn, 1)]
set_option maxRecDepth 100000 in
theorem T3_together_ok : tabOK m3_together T3_together = true := by decide +kernel
def T3_leftOf : TT := [(0, .aload_n 0, 1), (1, .iload_n 1, 1), (2, .invokespecial 11, 3), (5, .bipush 9, 2), (7, .aload_n 0, 1), (8, .getfield 14, 3), (11, .isub, 1), (12, .imul, 1), (13, .bipush 9, 2), (15, .idiv, 1), (16, .ireturn, 1)]
set_option maxRecDepth 100000 in
theorem T3_leftOf_ok : tabOK m3_leftOf T3_leftOf = true := by decide +kernel
def T4_init : TT := [(0, .aload_n 0, 1), (1, .invokespecial 3, 3), (4, .aload_n 0, 1), (5, .bipush 6, 2), (7, .newarray .int, 2), (9, .putfield 9, 3), (12, .aload_n 0, 1), (13, .bipush 6, 2), (15, .newarray .int, 2), (17, .putfield 15, 3), (20, .aload_n 0, 1), (21, .bipush 6, 2), (23, .newarray .int, 2), (25, .putfield 18, 3), (28, .return_, 1)]
set_option maxRecDepth 100000 in
theorem T4_init_ok : tabOK m4_init T4_init = true := by decide +kernel
def T4_many : TT := [(0, .iload_n 1, 1), (1, .iconst 0, 1), (2, .iconst 5, 1), (3, .invokestatic 21, 3), (6, .ifCond .eq 12, 3), (9, .aload_n 0, 1), (10, .getfield 9, 3), (13, .iload_n 1, 1), (14, .iaload, 1), (15, .goto 4, 3), (18, .iconst 0, 1), (19, .ireturn, 1)]
set_option maxRecDepth 100000 in
theorem T4_many_ok : tabOK m4_many T4_many = true := by decide +kernel
def T4_put : TT := [(0, .iload_n 1, 1), (1, .iconst 0, 1), (2, .iconst 5, 1), (3, .invokestatic 21, 3), (6, .ifCond .eq 10, 3), (9, .aload_n 0, 1), (10, .getfield 9, 3), (13, .iload_n 1, 1), (14, .iload_n 2, 1), (15, .iastore, 1), (16, .return_, 1)]
set_option maxRecDepth 100000 in
theorem T4_put_ok : tabOK m4_put T4_put = true := by decide +kernel
def T4_grow : TT := [(0, .iload_n 1, 1), (1, .iconst 0, 1), (2, .iconst 5, 1), (3, .invokestatic 21, 3), (6, .ifCond .ne 5, 3), (9, .iconst 0, 1), (10, .ireturn, 1), (11, .iload_n 2, 1), (12, .bipush 99, 2), (14, .aload_n 0, 1), (15, .getfield 9, 3), (18, .iload_n 1, 1), (19, .iaload, 1), (20, .isub, 1), (21, .invokestatic 25, 3), (24, .istore_n 3, 1), (25, .aload_n 0, 1), (26, .getfield 9, 3), (29, .iload_n 1, 1), (30, .dup2, 1), (31, .iaload, 1), (32, .iload_n 3, 1), (33, .iadd, 1), (34, .iastore, 1), (35, .iload_n 3, 1), (36, .ireturn, 1)]
set_option maxRecDepth 100000 in
theorem T4_grow_ok : tabOK m4_grow T4_grow = true := by decide +kernel
def T4_lose : TT := [(0, .iload_n 1, 1), (1, .iconst 0, 1), (2, .iconst 5, 1), (3, .invokestatic 21, 3), (6, .ifCond .eq 22, 3), (9, .aload_n 0, 1), (10, .getfield 9, 3), (13, .iload_n 1, 1), (14, .iaload, 1), (15, .ifCond .le 13, 3), (18, .aload_n 0, 1), (19, .getfield 9, 3), (22, .iload_n 1, 1), (23, .dup2, 1), (24, .iaload, 1), (25, .iconst 1, 1), (26, .isub, 1), (27, .iastore, 1), (28, .return_, 1)]
set_option maxRecDepth 100000 in
theorem T4_lose_ok : tabOK m4_lose T4_lose = true := by decide +kernel
def T4_become : TT := [(0, .aload_n 1, 1), (1, .getfield 9, 3), (4, .iconst 0, 1), (5, .aload_n 0, 1), (6, .getfield 9, 3), (9, .iconst 0, 1), (10, .bipush 6, 2), (12, .invokestatic 31, 3), (15, .return_, 1)]
set_option maxRecDepth 100000 in
theorem T4_become_ok : tabOK m4_become T4_become = true := by decide +kernel
def T4_clear : TT := [(0, .aload_n 0, 1), (1, .getfield 9, 3), (4, .iconst 0, 1), (5, .invokestatic 37, 3), (8, .return_, 1)]
set_option maxRecDepth 100000 in
theorem T4_clear_ok : tabOK m4_clear T4_clear = true := by decide +kernel
def T4_coins : TT := [(0, .iconst 0, 1), (1, .istore_n 1, 1), (2, .iconst 0, 1), (3, .istore_n 2, 1), (4, .iload_n 2, 1), (5, .bipush 6, 2), (7, .if_icmp .ge 18, 3), (10, .iload_n 1, 1), (11, .aload_n 0, 1), (12, .getfield 9, 3), (15, .iload_n 2, 1), (16, .iaload, 1), (17, .iadd, 1), (18, .istore_n 1, 1), (19, .iinc 2 1, 3), (22, .goto (-18), 3), (25, .iload_n 1, 1), (26, .ireturn, 1)]
set_option maxRecDepth 100000 in
theorem T4_coins_ok : tabOK m4_coins T4_coins = true := by decide +kernel
def T4_sortBits : TT := [(0, .iconst 0, 1), (1, .istore_n 1, 1), (2, .iconst 0, 1), (3, .istore_n 2, 1), (4, .iload_n 2, 1), (5, .bipush 6, 2), (7, .if_icmp .ge 24, 3), (10, .aload_n 0, 1), (11, .getfield 9, 3), (14, .iload_n 2, 1), (15, .iaload, 1), (16, .ifCond .le 9, 3), (19, .iload_n 1, 1), (20, .iconst 1, 1), (21, .iload_n 2, 1), (22, .ishl, 1), (23, .ior, 1), (24, .istore_n 1, 1), (25, .iinc 2 1, 3), (28, .goto (-24), 3), (31, .iload_n 1, 1), (32, .ireturn, 1)]
set_option maxRecDepth 100000 in
theorem T4_sortBits_ok : tabOK m4_sortBits T4_sortBits = true := by decide +kernel
def T4_worth : TT := [(0, .iconst 0, 1), (1, .istore_n 2, 1), (2, .iconst 0, 1), (3, .istore_n 3, 1), (4, .iload_n 3, 1), (5, .bipush 6, 2), (7, .if_icmp .ge 46, 3), (10, .iload_n 3, 1), (11, .aload_n 1, 1), (12, .arraylength, 1), (13, .if_icmp .ge 40, 3), (16, .aload_n 1, 1), (17, .iload_n 3, 1), (18, .aaload, 1), (19, .astore 4, 2), (21, .aload 4, 2), (23, .ifnull 24, 3), (26, .iload_n 2, 1), (27, .aload_n 0, 1), (28, .getfield 9, 3), (31, .iload_n 3, 1), (32, .iaload, 1), (33, .aload 4, 2), (35, .aload_n 0, 1), (36, .getfield 9, 3), (39, .iload_n 3, 1), (40, .iaload, 1), (41, .invokevirtual 43, 3), (44, .imul, 1), (45, .iadd, 1), (46, .istore_n 2, 1), (47, .iinc 3 1, 3), (50, .goto (-46), 3), (53, .iload_n 2, 1), (54, .ireturn, 1)]
set_option maxRecDepth 100000 in
theorem T4_worth_ok : tabOK m4_worth T4_worth = true := by decide +kernel
def T4_lay : TT := [(0, .iconst 0, 1), (1, .istore_n 3, 1), (2, .iload_n 3, 1), (3, .bipush 6, 2), (5, .if_icmp .ge 58, 3), (8, .iload_n 3, 1), (9, .aload_n 1, 1), (10, .arraylength, 1), (11, .if_icmp .ge 52, 3), (14, .aload_n 1, 1), (15, .iload_n 3, 1), (16, .aaload, 1), (17, .astore 4, 2), (19, .aload_n 0, 1), (20, .getfield 15, 3), (23, .iload_n 3, 1), (24, .aload_n 0, 1), (25, .getfield 9, 3), (28, .iload_n 3, 1), (29, .iaload, 1), (30, .iastore, 1), (31, .aload_n 0, 1), (32, .getfield 18, 3), (35, .iload_n 3, 1), (36, .aload 4, 2), (38, .ifnonnull 7, 3), (41, .iconst 0, 1), (42, .goto 14, 3), (45, .aload 4, 2), (47, .aload_n 0, 1), (48, .getfield 9, 3), (51, .iload_n 3, 1), (52, .iaload, 1), (53, .invokevirtual 49, 3), (56, .iastore, 1), (57, .iinc 3 1, 3), (60, .goto (-58), 3), (63, .iconst 0, 1), (64, .istore_n 3, 1), (65, .iconst 0, 1), (66, .istore 4, 2), (68, .iload 4, 2), (70, .iload_n 2, 1), (71, .if_icmp .ge 51, 3), (74, .aload_n 0, 1), (75, .invokevirtual 52, 3), (78, .istore 5, 2), (80, .iload 5, 2), (82, .ifCond .ge 5, 3), (85, .iconst 0, 1), (86, .ireturn, 1), (87, .aload_n 0, 1), (88, .getfield 15, 3), (91, .iload 5, 2), (93, .dup2, 1), (94, .iaload, 1), (95, .iconst 1, 1), (96, .isub, 1), (97, .iastore, 1), (98, .aload_n 0, 1), (99, .getfield 18, 3), (102, .iload 5, 2), (104, .dup2, 1), (105, .iaload, 1), (106, .iconst 1, 1), (107, .isub, 1), (108, .iastore, 1), (109, .iload_n 3, 1), (110, .iconst 1, 1), (111, .iload 5, 2), (113, .ishl, 1), (114, .ior, 1), (115, .istore_n 3, 1), (116, .iinc 4 1, 3), (119, .goto (-51), 3), (122, .aload_n 0, 1), (123, .getfield 15, 3), (126, .iconst 0, 1), (127, .aload_n 0, 1), (128, .getfield 9, 3), (131, .iconst 0, 1), (132, .bipush 6, 2), (134, .invokestatic 31, 3), (137, .iload_n 3, 1), (138, .ireturn, 1)]
set_option maxRecDepth 100000 in
theorem T4_lay_ok : tabOK m4_lay T4_lay = true := by decide +kernel
def T4_mostPlentiful : TT := [(0, .iconst (-1), 1), (1, .istore_n 1, 1), (2, .iconst 0, 1), (3, .istore_n 2, 1), (4, .iconst 0, 1), (5, .istore_n 3, 1), (6, .iload_n 3, 1), (7, .bipush 6, 2), (9, .if_icmp .ge 37, 3), (12, .aload_n 0, 1), (13, .getfield 18, 3), (16, .iload_n 3, 1), (17, .iaload, 1), (18, .ifCond .le 22, 3), (21, .aload_n 0, 1), (22, .getfield 15, 3), (25, .iload_n 3, 1), (26, .iaload, 1), (27, .iload_n 2, 1), (28, .if_icmp .le 12, 3), (31, .aload_n 0, 1), (32, .getfield 15, 3), (35, .iload_n 3, 1), (36, .iaload, 1), (37, .istore_n 2, 1), (38, .iload_n 3, 1), (39, .istore_n 1, 1), (40, .iinc 3 1, 3), (43, .goto (-37), 3), (46, .iload_n 1, 1), (47, .ireturn, 1)]
set_option maxRecDepth 100000 in
theorem T4_mostPlentiful_ok : tabOK m4_mostPlentiful T4_mostPlentiful = true := by decide +kernel
def T5_init : TT := [(0, .aload_n 0, 1), (1, .invokespecial 3, 3), (4, .aload_n 0, 1), (5, .sipush 160, 3), (8, .newarray .int, 2), (10, .putfield 9, 3), (13, .aload_n 0, 1), (14, .sipush 160, 3), (17, .newarray .int, 2), (19, .putfield 15, 3), (22, .aload_n 0, 1), (23, .iconst 3, 1), (24, .newarray .int, 2), (26, .putfield 18, 3), (29, .return_, 1)]
set_option maxRecDepth 100000 in
theorem T5_init_ok : tabOK m5_init T5_init = true := by decide +kernel
def T5_size : TT := [(0, .aload_n 0, 1), (1, .getfield 21, 3), (4, .ireturn, 1)]
set_option maxRecDepth 100000 in
theorem T5_size_ok : tabOK m5_size T5_size = true := by decide +kernel
def T5_hasRoom : TT := [(0, .aload_n 0, 1), (1, .getfield 21, 3), (4, .iload_n 1, 1), (5, .iadd, 1), (6, .sipush 160, 3), (9, .if_icmp .gt 7, 3), (12, .iconst 1, 1), (13, .goto 4, 3), (16, .iconst 0, 1), (17, .ireturn, 1)]
set_option maxRecDepth 100000 in
theorem T5_hasRoom_ok : tabOK m5_hasRoom T5_hasRoom = true := by decide +kernel
def T5_put : TT := [(0, .aload_n 0, 1), (1, .getfield 21, 3), (4, .sipush 160, 3), (7, .if_icmp .ge 23, 3), (10, .aload_n 0, 1), (11, .getfield 9, 3), (14, .aload_n 0, 1), (15, .getfield 21, 3), (18, .iload_n 1, 1), (19, .iastore, 1), (20, .aload_n 0, 1), (21, .dup, 1), (22, .getfield 21, 3), (25, .iconst 1, 1), (26, .iadd, 1), (27, .putfield 21, 3), (30, .return_, 1)]
set_option maxRecDepth 100000 in
theorem T5_put_ok : tabOK m5_put T5_put = true := by decide +kernel
def T5_clear : TT := [(0, .aload_n 0, 1), (1, .iconst 0, 1), (2, .putfield 21, 3), (5, .return_, 1)]
set_option maxRecDepth 100000 in
theorem T5_clear_ok : tabOK m5_clear T5_clear = true := by decide +kernel
def T5_place : TT := [(0, .aload_n 0, 1), (1, .getfield 25, 3), (4, .ireturn, 1)]
set_option maxRecDepth 100000 in
theorem T5_place_ok : tabOK m5_place T5_place = true := by decide +kernel
def T5_textRead : TT := [(0, .new 28, 3), (3, .dup, 1), (4, .aload_n 0, 1), (5, .getfield 15, 3), (8, .aload_n 0, 1), (9, .getfield 30, 3), (12, .invokestatic 33, 3), (15, .aload_n 0, 1), (16, .getfield 18, 3), (19, .iconst 3, 1), (20, .invokestatic 33, 3), (23, .invokespecial 39, 3), (26, .areturn, 1)]
set_option maxRecDepth 100000 in
theorem T5_textRead_ok : tabOK m5_textRead T5_textRead = true := by decide +kernel
def T5_readText : TT := [(0, .aload_n 0, 1), (1, .iconst 0, 1), (2, .putfield 42, 3), (5, .aload_n 0, 1), (6, .iconst 0, 1), (7, .putfield 45, 3), (10, .aload_n 0, 1), (11, .iconst 0, 1), (12, .putfield 30, 3), (15, .aload_n 0, 1), (16, .invokevirtual 48, 3), (19, .iconst 0, 1), (20, .istore_n 1, 1), (21, .iload_n 1, 1), (22, .iconst 3, 1), (23, .if_icmp .ge 47, 3), (26, .aload_n 0, 1), (27, .iconst 0, 1), (28, .iload_n 1, 1), (29, .iadd, 1), (30, .invokevirtual 51, 3), (33, .ifCond .eq 19, 3), (36, .aload_n 0, 1), (37, .invokevirtual 55, 3), (40, .ifCond .eq 12, 3), (43, .aload_n 0, 1), (44, .bipush 14, 2), (46, .invokevirtual 51, 3), (49, .ifCond .ne 5, 3), (52, .iconst 0, 1), (53, .ireturn, 1), (54, .aload_n 0, 1), (55, .getfield 18, 3), (58, .iload_n 1, 1), (59, .aload_n 0, 1), (60, .getfield 30, 3), (63, .iastore, 1), (64, .iinc 1 1, 3), (67, .goto (-46), 3), (70, .aload_n 0, 1), (71, .getfield 59, 3), (74, .bipush 21, 2), (76, .if_icmp .ne 7, 3), (79, .iconst 1, 1), (80, .goto 4, 3), (83, .iconst 0, 1), (84, .ireturn, 1)]
set_option maxRecDepth 100000 in
theorem T5_readText_ok : tabOK m5_readText T5_readText = true := by decide +kernel
def T5_readToken : TT := [(0, .aload_n 0, 1), (1, .getfield 59, 3), (4, .iload_n 1, 1), (5, .if_icmp .eq 5, 3), (8, .iconst 0, 1), (9, .ireturn, 1), (10, .aload_n 0, 1), (11, .invokevirtual 48, 3), (14, .iconst 1, 1), (15, .ireturn, 1)]
set_option maxRecDepth 100000 in
theorem T5_readToken_ok : tabOK m5_readToken T5_readToken = true := by decide +kernel
def T5_readEither : TT := [(0, .aload_n 0, 1), (1, .invokevirtual 62, 3), (4, .ifCond .ne 5, 3), (7, .iconst 0, 1), (8, .ireturn, 1), (9, .iconst 0, 1), (10, .istore_n 1, 1), (11, .iload_n 1, 1), (12, .sipush 160, 3), (15, .if_icmp .ge 36, 3), (18, .aload_n 0, 1), (19, .getfield 59, 3), (22, .iconst 3, 1), (23, .if_icmp .ne 28, 3), (26, .aload_n 0, 1), (27, .invokevirtual 48, 3), (30, .aload_n 0, 1), (31, .invokevirtual 62, 3), (34, .ifCond .ne 5, 3), (37, .iconst 0, 1), (38, .ireturn, 1), (39, .aload_n 0, 1), (40, .bipush (-4), 2), (42, .invokevirtual 65, 3), (45, .iinc 1 1, 3), (48, .goto (-37), 3), (51, .iconst 1, 1), (52, .ireturn, 1)]
set_option maxRecDepth 100000 in
theorem T5_readEither_ok : tabOK m5_readEither T5_readEither = true := by decide +kernel
def T5_readBoth : TT := [(0, .aload_n 0, 1), (1, .invokevirtual 69, 3), (4, .ifCond .ne 5, 3), (7, .iconst 0, 1), (8, .ireturn, 1), (9, .iconst 0, 1), (10, .istore_n 1, 1), (11, .iload_n 1, 1), (12, .sipush 160, 3), (15, .if_icmp .ge 36, 3), (18, .aload_n 0, 1), (19, .getfield 59, 3), (22, .iconst 4, 1), (23, .if_icmp .ne 28, 3), (26, .aload_n 0, 1), (27, .invokevirtual 48, 3), (30, .aload_n 0, 1), (31, .invokevirtual 69, 3), (34, .ifCond .ne 5, 3), (37, .iconst 0, 1), (38, .ireturn, 1), (39, .aload_n 0, 1), (40, .bipush (-5), 2), (42, .invokevirtual 65, 3), (45, .iinc 1 1, 3), (48, .goto (-37), 3), (51, .iconst 1, 1), (52, .ireturn, 1)]
set_option maxRecDepth 100000 in
theorem T5_readBoth_ok : tabOK m5_readBoth T5_readBoth = true := by decide +kernel
def T5_readDenied : TT := [(0, .aload_n 0, 1), (1, .getfield 59, 3), (4, .iconst 5, 1), (5, .if_icmp .eq 8, 3), (8, .aload_n 0, 1), (9, .invokevirtual 72, 3), (12, .ireturn, 1), (13, .aload_n 0, 1), (14, .getfield 45, 3), (17, .iconst 5, 1), (18, .if_icmp .lt 5, 3), (21, .iconst 0, 1), (22, .ireturn, 1), (23, .aload_n 0, 1), (24, .dup, 1), (25, .getfield 45, 3), (28, .iconst 1, 1), (29, .iadd, 1), (30, .putfield 45, 3), (33, .aload_n 0, 1), (34, .invokevirtual 48, 3), (37, .aload_n 0, 1), (38, .invokevirtual 69, 3), (41, .istore_n 1, 1), (42, .aload_n 0, 1), (43, .dup, 1), (44, .getfield 45, 3), (47, .iconst 1, 1), (48, .isub, 1), (49, .putfield 45, 3), (52, .aload_n 0, 1), (53, .bipush (-6), 2), (55, .invokevirtual 65, 3), (58, .iload_n 1, 1), (59, .ireturn, 1)]
set_option maxRecDepth 100000 in
theorem T5_readDenied_ok : tabOK m5_readDenied T5_readDenied = true := by decide +kernel
def T5_readCompared : TT := [(0, .aload_n 0, 1), (1, .invokevirtual 75, 3), (4, .ifCond .ne 5, 3), (7, .iconst 0, 1), (8, .ireturn, 1), (9, .aload_n 0, 1), (10, .getfield 59, 3), (13, .istore_n 1, 1), (14, .iload_n 1, 1), (15, .bipush 18, 2), (17, .if_icmp .eq 11, 3), (20, .iload_n 1, 1), (21, .bipush 19, 2), (23, .if_icmp .eq 5, 3), (26, .iconst 1, 1), (27, .ireturn, 1), (28, .aload_n 0, 1), (29, .invokevirtual 48, 3), (32, .aload_n 0, 1), (33, .invokevirtual 75, 3), (36, .istore_n 2, 1), (37, .aload_n 0, 1), (38, .iconst (-1), 1), (39, .iload_n 1, 1), (40, .isub, 1), (41, .invokevirtual 65, 3), (44, .iload_n 2, 1), (45, .ireturn, 1)]
set_option maxRecDepth 100000 in
theorem T5_readCompared_ok : tabOK m5_readCompared T5_readCompared = true := by decide +kernel
def T5_readSum : TT := [(0, .aload_n 0, 1), (1, .invokevirtual 78, 3), (4, .ifCond .ne 5, 3), (7, .iconst 0, 1), (8, .ireturn, 1), (9, .iconst 0, 1), (10, .istore_n 1, 1), (11, .iload_n 1, 1), (12, .sipush 160, 3), (15, .if_icmp .ge 52, 3), (18, .aload_n 0, 1), (19, .getfield 59, 3), (22, .bipush 15, 2), (24, .if_icmp .eq 12, 3), (27, .aload_n 0, 1), (28, .getfield 59, 3), (31, .bipush 16, 2), (33, .if_icmp .ne 34, 3), (36, .aload_n 0, 1), (37, .getfield 59, 3), (40, .istore_n 2, 1), (41, .aload_n 0, 1), (42, .invokevirtual 48, 3), (45, .aload_n 0, 1), (46, .invokevirtual 78, 3), (49, .ifCond .ne 5, 3), (52, .iconst 0, 1), (53, .ireturn, 1), (54, .aload_n 0, 1), (55, .iconst (-1), 1), (56, .iload_n 2, 1), (57, .isub, 1), (58, .invokevirtual 65, 3), (61, .iinc 1 1, 3), (64, .goto (-53), 3), (67, .iconst 1, 1), (68, .ireturn, 1)]
set_option maxRecDepth 100000 in
theorem T5_readSum_ok : tabOK m5_readSum T5_readSum = true := by decide +kernel
def T5_readTerm : TT := [(0, .aload_n 0, 1), (1, .invokevirtual 81, 3), (4, .ifCond .ne 5, 3), (7, .iconst 0, 1), (8, .ireturn, 1), (9, .iconst 0, 1), (10, .istore_n 1, 1), (11, .iload_n 1, 1), (12, .sipush 160, 3), (15, .if_icmp .ge 37, 3), (18, .aload_n 0, 1), (19, .getfield 59, 3), (22, .bipush 17, 2), (24, .if_icmp .ne 28, 3), (27, .aload_n 0, 1), (28, .invokevirtual 48, 3), (31, .aload_n 0, 1), (32, .invokevirtual 81, 3), (35, .ifCond .ne 5, 3), (38, .iconst 0, 1), (39, .ireturn, 1), (40, .aload_n 0, 1), (41, .bipush (-18), 2), (43, .invokevirtual 65, 3), (46, .iinc 1 1, 3), (49, .goto (-38), 3), (52, .iconst 1, 1), (53, .ireturn, 1)]
set_option maxRecDepth 100000 in
theorem T5_readTerm_ok : tabOK m5_readTerm T5_readTerm = true := by decide +kernel
def T5_readOne : TT := [(0, .aload_n 0, 1), (1, .getfield 59, 3), (4, .bipush 20, 2), (6, .if_icmp .eq 17, 3), (9, .aload_n 0, 1), (10, .getfield 59, 3), (13, .bipush 6, 2), (15, .bipush 11, 2), (17, .invokestatic 84, 3), (20, .ifCond .eq 35, 3), (23, .aload_n 0, 1), (24, .aload_n 0, 1), (25, .getfield 59, 3), (28, .bipush 20, 2), (30, .if_icmp .ne 10, 3), (33, .aload_n 0, 1), (34, .getfield 88, 3), (37, .goto 9, 3), (40, .iconst (-1), 1), (41, .aload_n 0, 1), (42, .getfield 59, 3), (45, .isub, 1), (46, .invokevirtual 65, 3), (49, .aload_n 0, 1), (50, .invokevirtual 48, 3), (53, .iconst 1, 1), (54, .ireturn, 1), (55, .aload_n 0, 1), (56, .getfield 59, 3), (59, .bipush 12, 2), (61, .if_icmp .eq 12, 3), (64, .aload_n 0, 1), (65, .getfield 59, 3), (68, .bipush 16, 2), (70, .if_icmp .ne 11, 3), (73, .aload_n 0, 1), (74, .getfield 45, 3), (77, .iconst 5, 1), (78, .if_icmp .lt 5, 3), (81, .iconst 0, 1), (82, .ireturn, 1), (83, .aload_n 0, 1), (84, .getfield 59, 3), (87, .bipush 12, 2), (89, .if_icmp .ne 7, 3), (92, .iconst 1, 1), (93, .goto 4, 3), (96, .iconst 0, 1), (97, .istore_n 1, 1), (98, .aload_n 0, 1), (99, .dup, 1), (100, .getfield 45, 3), (103, .iconst 1, 1), (104, .iadd, 1), (105, .putfield 45, 3), (108, .aload_n 0, 1), (109, .invokevirtual 48, 3), (112, .iload_n 1, 1), (113, .ifCond .eq 27, 3), (116, .aload_n 0, 1), (117, .invokevirtual 55, 3), (120, .ifCond .eq 16, 3), (123, .aload_n 0, 1), (124, .bipush 13, 2), (126, .invokevirtual 51, 3), (129, .ifCond .eq 7, 3), (132, .iconst 1, 1), (133, .goto 11, 3), (136, .iconst 0, 1), (137, .goto 7, 3), (140, .aload_n 0, 1), (141, .invokevirtual 81, 3), (144, .istore_n 2, 1), (145, .aload_n 0, 1), (146, .dup, 1), (147, .getfield 45, 3), (150, .iconst 1, 1), (151, .isub, 1), (152, .putfield 45, 3), (155, .iload_n 1, 1), (156, .ifCond .ne 9, 3), (159, .aload_n 0, 1), (160, .bipush (-24), 2), (162, .invokevirtual 65, 3), (165, .iload_n 2, 1), (166, .ireturn, 1)]
set_option maxRecDepth 100000 in
theorem T5_readOne_ok : tabOK m5_readOne T5_readOne = true := by decide +kernel
def T5_emit : TT := [(0, .aload_n 0, 1), (1, .getfield 30, 3), (4, .sipush 160, 3), (7, .if_icmp .ge 23, 3), (10, .aload_n 0, 1), (11, .getfield 15, 3), (14, .aload_n 0, 1), (15, .getfield 30, 3), (18, .iload_n 1, 1), (19, .iastore, 1), (20, .aload_n 0, 1), (21, .dup, 1), (22, .getfield 30, 3), (25, .iconst 1, 1), (26, .iadd, 1), (27, .putfield 30, 3), (30, .return_, 1)]
set_option maxRecDepth 100000 in
theorem T5_emit_ok : tabOK m5_emit T5_emit = true := by decide +kernel
def T5_advance : TT := [(0, .aload_n 0, 1), (1, .getfield 42, 3), (4, .aload_n 0, 1), (5, .getfield 21, 3), (8, .if_icmp .ge 31, 3), (11, .aload_n 0, 1), (12, .getfield 9, 3), (15, .aload_n 0, 1), (16, .getfield 42, 3), (19, .iaload, 1), (20, .invokestatic 91, 3), (23, .ifCond .eq 16, 3), (26, .aload_n 0, 1), (27, .dup, 1), (28, .getfield 42, 3), (31, .iconst 1, 1), (32, .iadd, 1), (33, .putfield 42, 3), (36, .goto (-36), 3), (39, .aload_n 0, 1), (40, .aload_n 0, 1), (41, .getfield 42, 3), (44, .putfield 25, 3), (47, .aload_n 0, 1), (48, .getfield 25, 3), (51, .aload_n 0, 1), (52, .getfield 21, 3), (55, .if_icmp .lt 12, 3), (58, .aload_n 0, 1), (59, .bipush 21, 2), (61, .putfield 59, 3), (64, .goto 90, 3), (67, .aload_n 0, 1), (68, .getfield 9, 3), (71, .aload_n 0, 1), (72, .getfield 25, 3), (75, .iaload, 1), (76, .invokestatic 94, 3), (79, .ifCond .eq 10, 3), (82, .aload_n 0, 1), (83, .invokevirtual 97, 3), (86, .goto 68, 3), (89, .aload_n 0, 1), (90, .getfield 9, 3), (93, .aload_n 0, 1), (94, .getfield 25, 3), (97, .iaload, 1), (98, .invokestatic 100, 3), (101, .ifCond .eq 10, 3), (104, .aload_n 0, 1), (105, .invokevirtual 103, 3), (108, .goto 46, 3), (111, .ldc 106, 2), (113, .aload_n 0, 1), (114, .getfield 9, 3), (117, .aload_n 0, 1), (118, .getfield 25, 3), (121, .iaload, 1), (122, .i2c, 1), (123, .invokevirtual 108, 3), (126, .istore_n 1, 1), (127, .aload_n 0, 1), (128, .iload_n 1, 1), (129, .ifCond .ge 8, 3), (132, .bipush 22, 2), (134, .goto 7, 3), (137, .bipush 12, 2), (139, .iload_n 1, 1), (140, .iadd, 1), (141, .putfield 59, 3), (144, .aload_n 0, 1), (145, .dup, 1), (146, .getfield 42, 3), (149, .iconst 1, 1), (150, .iadd, 1), (151, .putfield 42, 3), (154, .return_, 1)]
set_option maxRecDepth 100000 in
theorem T5_advance_ok : tabOK m5_advance T5_advance = true := by decide +kernel
def T5_readWord : TT := [(0, .aload_n 0, 1), (1, .getfield 42, 3), (4, .aload_n 0, 1), (5, .getfield 21, 3), (8, .if_icmp .ge 31, 3), (11, .aload_n 0, 1), (12, .getfield 9, 3), (15, .aload_n 0, 1), (16, .getfield 42, 3), (19, .iaload, 1), (20, .invokestatic 94, 3), (23, .ifCond .eq 16, 3), (26, .aload_n 0, 1), (27, .dup, 1), (28, .getfield 42, 3), (31, .iconst 1, 1), (32, .iadd, 1), (33, .putfield 42, 3), (36, .goto (-36), 3), (39, .aload_n 0, 1), (40, .bipush 22, 2), (42, .putfield 59, 3), (45, .iconst 0, 1), (46, .istore_n 1, 1), (47, .iload_n 1, 1), (48, .bipush 12, 2), (50, .if_icmp .ge 22, 3), (53, .aload_n 0, 1), (54, .iload_n 1, 1), (55, .invokevirtual 114, 3), (58, .ifCond .eq 8, 3), (61, .aload_n 0, 1), (62, .iload_n 1, 1), (63, .putfield 59, 3), (66, .iinc 1 1, 3), (69, .goto (-22), 3), (72, .return_, 1)]
set_option maxRecDepth 100000 in
theorem T5_readWord_ok : tabOK m5_readWord T5_readWord = true := by decide +kernel
def T5_isWord : TT := [(0, .aload_n 0, 1), (1, .getfield 42, 3), (4, .aload_n 0, 1), (5, .getfield 25, 3), (8, .isub, 1), (9, .bipush 6, 2), (11, .if_icmp .le 5, 3), (14, .iconst 0, 1), (15, .ireturn, 1), (16, .iconst 0, 1), (17, .istore_n 2, 1), (18, .iload_n 2, 1), (19, .bipush 6, 2), (21, .if_icmp .ge 56, 3), (24, .aload_n 0, 1), (25, .getfield 25, 3), (28, .iload_n 2, 1), (29, .iadd, 1), (30, .aload_n 0, 1), (31, .getfield 42, 3), (34, .if_icmp .ge 17, 3), (37, .aload_n 0, 1), (38, .getfield 9, 3), (41, .aload_n 0, 1), (42, .getfield 25, 3), (45, .iload_n 2, 1), (46, .iadd, 1), (47, .iaload, 1), (48, .goto 5, 3), (51, .bipush 32, 2), (53, .istore_n 3, 1), (54, .iload_n 3, 1), (55, .ldc 117, 2), (57, .iload_n 1, 1), (58, .bipush 6, 2), (60, .imul, 1), (61, .iload_n 2, 1), (62, .iadd, 1), (63, .invokevirtual 119, 3), (66, .if_icmp .eq 5, 3), (69, .iconst 0, 1), (70, .ireturn, 1), (71, .iinc 2 1, 3), (74, .goto (-56), 3), (77, .iconst 1, 1), (78, .ireturn, 1)]
set_option maxRecDepth 100000 in
theorem T5_isWord_ok : tabOK m5_isWord T5_isWord = true := by decide +kernel
def T5_readNumber : TT := [(0, .aload_n 0, 1), (1, .iconst 0, 1), (2, .putfield 88, 3), (5, .aload_n 0, 1), (6, .getfield 42, 3), (9, .aload_n 0, 1), (10, .getfield 21, 3), (13, .if_icmp .ge 55, 3), (16, .aload_n 0, 1), (17, .getfield 9, 3), (20, .aload_n 0, 1), (21, .getfield 42, 3), (24, .iaload, 1), (25, .invokestatic 100, 3), (28, .ifCond .eq 40, 3), (31, .aload_n 0, 1), (32, .bipush 10, 2), (34, .aload_n 0, 1), (35, .getfield 88, 3), (38, .imul, 1), (39, .aload_n 0, 1), (40, .getfield 9, 3), (43, .aload_n 0, 1), (44, .getfield 42, 3), (47, .iaload, 1), (48, .iadd, 1), (49, .bipush 48, 2), (51, .isub, 1), (52, .putfield 88, 3), (55, .aload_n 0, 1), (56, .dup, 1), (57, .getfield 42, 3), (60, .iconst 1, 1), (61, .iadd, 1), (62, .putfield 42, 3), (65, .goto (-60), 3), (68, .aload_n 0, 1), (69, .aload_n 0, 1), (70, .getfield 42, 3), (73, .aload_n 0, 1), (74, .getfield 25, 3), (77, .isub, 1), (78, .iconst 4, 1), (79, .if_icmp .le 8, 3), (82, .bipush 22, 2), (84, .goto 5, 3), (87, .bipush 20, 2), (89, .putfield 59, 3), (92, .return_, 1)]
set_option maxRecDepth 100000 in
theorem T5_readNumber_ok : tabOK m5_readNumber T5_readNumber = true := by decide +kernel
def T5_isBlank : TT := [(0, .iload_n 0, 1), (1, .bipush 32, 2), (3, .if_icmp .eq 9, 3), (6, .iload_n 0, 1), (7, .bipush 10, 2), (9, .if_icmp .ne 7, 3), (12, .iconst 1, 1), (13, .goto 4, 3), (16, .iconst 0, 1), (17, .ireturn, 1)]
set_option maxRecDepth 100000 in
theorem T5_isBlank_ok : tabOK m5_isBlank T5_isBlank = true := by decide +kernel
def T5_isLetter : TT := [(0, .iload_n 0, 1), (1, .bipush 97, 2), (3, .bipush 122, 2), (5, .invokestatic 84, 3), (8, .ireturn, 1)]
set_option maxRecDepth 100000 in
theorem T5_isLetter_ok : tabOK m5_isLetter T5_isLetter = true := by decide +kernel
def T5_isDigit : TT := [(0, .iload_n 0, 1), (1, .bipush 48, 2), (3, .bipush 57, 2), (5, .invokestatic 84, 3), (8, .ireturn, 1)]
set_option maxRecDepth 100000 in
theorem T5_isDigit_ok : tabOK m5_isDigit T5_isDigit = true := by decide +kernel
def T6_init : TT := [(0, .aload_n 0, 1), (1, .iload_n 1, 1), (2, .iload_n 2, 1), (3, .invokespecial 1, 3), (6, .return_, 1)]
set_option maxRecDepth 100000 in
theorem T6_init_ok : tabOK m6_init T6_init = true := by decide +kernel
def T6_kind : TT := [(0, .iconst 2, 1), (1, .ireturn, 1)]
set_option maxRecDepth 100000 in
theorem T6_kind_ok : tabOK m6_kind T6_kind = true := by decide +kernel
def T6_worthOf : TT := [(0, .iload_n 1, 1), (1, .iconst 2, 1), (2, .if_icmp .ge 13, 3), (5, .iconst 3, 1), (6, .aload_n 0, 1), (7, .iload_n 1, 1), (8, .invokespecial 7, 3), (11, .imul, 1), (12, .goto 8, 3), (15, .aload_n 0, 1), (16, .iload_n 1, 1), (17, .invokespecial 7, 3), (20, .ireturn, 1)]
set_option maxRecDepth 100000 in
theorem T6_worthOf_ok : tabOK m6_worthOf T6_worthOf = true := by decide +kernel
def T7_init : TT := [(0, .aload_n 0, 1), (1, .invokespecial 3, 3), (4, .aload_n 0, 1), (5, .bipush 40, 2), (7, .newarray .int, 2), (9, .putfield 9, 3), (12, .aload_n 0, 1), (13, .iconst (-1), 1), (14, .putfield 15, 3), (17, .return_, 1)]
set_option maxRecDepth 100000 in
theorem T7_init_ok : tabOK m7_init T7_init = true := by decide +kernel
def T7_isMissing : TT := [(0, .aload_n 0, 1), (1, .getfield 15, 3), (4, .iconst (-1), 1), (5, .if_icmp .ne 7, 3), (8, .iconst 1, 1), (9, .goto 4, 3), (12, .iconst 0, 1), (13, .ireturn, 1)]
set_option maxRecDepth 100000 in
theorem T7_isMissing_ok : tabOK m7_isMissing T7_isMissing = true := by decide +kernel
def T7_cannotTell : TT := [(0, .aload_n 0, 1), (1, .invokevirtual 19, 3), (4, .ifCond .ne 12, 3), (7, .aload_n 0, 1), (8, .getfield 23, 3), (11, .bipush 12, 2), (13, .if_icmp .le 7, 3), (16, .iconst 1, 1), (17, .goto 4, 3), (20, .iconst 0, 1), (21, .ireturn, 1)]
set_option maxRecDepth 100000 in
theorem T7_cannotTell_ok : tabOK m7_cannotTell T7_cannotTell = true := by decide +kernel
def T7_holds : TT := [(0, .iload_n 1, 1), (1, .ifCond .lt 29, 3), (4, .iload_n 2, 1), (5, .ifCond .lt 25, 3), (8, .iload_n 2, 1), (9, .aload_n 0, 1), (10, .getfield 23, 3), (13, .if_icmp .gt 17, 3), (16, .iload_n 1, 1), (17, .aload_n 0, 1), (18, .getfield 23, 3), (21, .iload_n 2, 1), (22, .isub, 1), (23, .if_icmp .gt 7, 3), (26, .iconst 1, 1), (27, .goto 4, 3), (30, .iconst 0, 1), (31, .ireturn, 1)]
set_option maxRecDepth 100000 in
theorem T7_holds_ok : tabOK m7_holds T7_holds = true := by decide +kernel
def T7_become : TT := [(0, .aload_n 0, 1), (1, .iload_n 1, 1), (2, .putfield 15, 3), (5, .aload_n 0, 1), (6, .iload_n 2, 1), (7, .putfield 23, 3), (10, .aload_n 0, 1), (11, .getfield 9, 3), (14, .iconst 0, 1), (15, .invokestatic 26, 3), (18, .return_, 1)]
set_option maxRecDepth 100000 in
theorem T7_become_ok : tabOK m7_become T7_become = true := by decide +kernel
def T7_get : TT := [(0, .aload_n 0, 1), (1, .iload_n 1, 1), (2, .iconst 1, 1), (3, .invokevirtual 32, 3), (6, .ifCond .eq 12, 3), (9, .aload_n 0, 1), (10, .getfield 9, 3), (13, .iload_n 1, 1), (14, .iaload, 1), (15, .goto 4, 3), (18, .iconst 0, 1), (19, .ireturn, 1)]
set_option maxRecDepth 100000 in
theorem T7_get_ok : tabOK m7_get T7_get = true := by decide +kernel
def T7_put : TT := [(0, .aload_n 0, 1), (1, .iload_n 1, 1), (2, .iconst 1, 1), (3, .invokevirtual 32, 3), (6, .ifCond .eq 35, 3), (9, .aload_n 0, 1), (10, .getfield 9, 3), (13, .iload_n 1, 1), (14, .aload_n 0, 1), (15, .getfield 15, 3), (18, .ifCond .ne 8, 3), (21, .iload_n 2, 1), (22, .i2b, 1), (23, .goto 17, 3), (26, .aload_n 0, 1), (27, .getfield 15, 3), (30, .iconst 1, 1), (31, .if_icmp .ne 8, 3), (34, .iload_n 2, 1), (35, .i2s, 1), (36, .goto 4, 3), (39, .iload_n 2, 1), (40, .iastore, 1), (41, .return_, 1)]
set_option maxRecDepth 100000 in
theorem T7_put_ok : tabOK m7_put T7_put = true := by decide +kernel
def T8_init : TT := [(0, .aload_n 0, 1), (1, .invokespecial 1, 3), (4, .aload_n 0, 1), (5, .iload_n 1, 1), (6, .putfield 7, 3), (9, .aload_n 0, 1), (10, .iload_n 2, 1), (11, .putfield 13, 3), (14, .return_, 1)]
set_option maxRecDepth 100000 in
theorem T8_init_ok : tabOK m8_init T8_init = true := by decide +kernel
def T8_kind : TT := [(0, .iconst 0, 1), (1, .ireturn, 1)]
set_option maxRecDepth 100000 in
theorem T8_kind_ok : tabOK m8_kind T8_kind = true := by decide +kernel
def T8_together : TT := [(0, .iconst 1, 1), (1, .ireturn, 1)]
set_option maxRecDepth 100000 in
theorem T8_together_ok : tabOK m8_together T8_together = true := by decide +kernel
def T8_leftOf : TT := [(0, .iload_n 1, 1), (1, .ireturn, 1)]
set_option maxRecDepth 100000 in
theorem T8_leftOf_ok : tabOK m8_leftOf T8_leftOf = true := by decide +kernel
def T8_worthOf : TT := [(0, .aload_n 0, 1), (1, .getfield 7, 3), (4, .ireturn, 1)]
set_option maxRecDepth 100000 in
theorem T8_worthOf_ok : tabOK m8_worthOf T8_worthOf = true := by decide +kernel
def T9_init : TT := [(0, .aload_n 0, 1), (1, .iload_n 1, 1), (2, .iload_n 2, 1), (3, .invokespecial 1, 3), (6, .return_, 1)]
set_option maxRecDepth 100000 in
theorem T9_init_ok : tabOK m9_init T9_init = true := by decide +kernel
def T9_kind : TT := [(0, .iconst 3, 1), (1, .ireturn, 1)]
set_option maxRecDepth 100000 in
theorem T9_kind_ok : tabOK m9_kind T9_kind = true := by decide +kernel
def T9_together : TT := [(0, .iload_n 1, 1), (1, .aload_n 0, 1), (2, .getfield 7, 3), (5, .if_icmp .le 13, 3), (8, .aload_n 0, 1), (9, .iload_n 1, 1), (10, .invokespecial 13, 3), (13, .iconst 1, 1), (14, .iadd, 1), (15, .goto 8, 3), (18, .aload_n 0, 1), (19, .iload_n 1, 1), (20, .invokespecial 13, 3), (23, .ireturn, 1)]
set_option maxRecDepth 100000 in
theorem T9_together_ok : tabOK m9_together T9_together = true := by decide +kernel
def T10_init : TT := [(0, .aload_n 0, 1), (1, .invokespecial 3, 3), (4, .aload_n 0, 1), (5, .bipush 32, 2), (7, .newarray .int, 2), (9, .putfield 11, 3), (12, .aload_n 0, 1), (13, .aload_n 1, 1), (14, .putfield 15, 3), (17, .aload_n 0, 1), (18, .aload_n 2, 1), (19, .putfield 18, 3), (22, .return_, 1)]
set_option maxRecDepth 100000 in
theorem T10_init_ok : tabOK m10_init T10_init = true := by decide +kernel
def T10_value : TT := [(0, .iload_n 1, 1), (1, .iconst 0, 1), (2, .iconst 2, 1), (3, .invokestatic 21, 3), (6, .ifCond .eq 12, 3), (9, .aload_n 0, 1), (10, .getfield 18, 3), (13, .arraylength, 1), (14, .iconst 3, 1), (15, .if_icmp .ge 5, 3), (18, .iconst 0, 1), (19, .ireturn, 1), (20, .aload_n 0, 1), (21, .iconst 0, 1), (22, .putfield 25, 3), (25, .iload_n 1, 1), (26, .ifCond .ne 7, 3), (29, .iconst 0, 1), (30, .goto 11, 3), (33, .aload_n 0, 1), (34, .getfield 18, 3), (37, .iload_n 1, 1), (38, .iconst 1, 1), (39, .isub, 1), (40, .iaload, 1), (41, .istore_n 3, 1), (42, .iconst 0, 1), (43, .iload_n 3, 1), (44, .invokestatic 29, 3), (47, .istore 4, 2), (49, .iload 4, 2), (51, .aload_n 0, 1), (52, .getfield 18, 3), (55, .iload_n 1, 1), (56, .iaload, 1), (57, .if_icmp .ge 31, 3), (60, .iload 4, 2), (62, .aload_n 0, 1), (63, .getfield 15, 3), (66, .arraylength, 1), (67, .if_icmp .ge 21, 3), (70, .aload_n 0, 1), (71, .aload_n 0, 1), (72, .getfield 15, 3), (75, .iload 4, 2), (77, .iaload, 1), (78, .aload_n 2, 1), (79, .invokevirtual 35, 3), (82, .iinc 4 1, 3), (85, .goto (-36), 3), (88, .iconst 0, 1), (89, .iload_n 1, 1), (90, .iconst 2, 1), (91, .if_icmp .ne 8, 3), (94, .bipush 9, 2), (96, .goto 5, 3), (99, .bipush 99, 2), (101, .aload_n 0, 1), (102, .invokevirtual 39, 3), (105, .invokestatic 43, 3), (108, .invokestatic 29, 3), (111, .ireturn, 1)]
set_option maxRecDepth 100000 in
theorem T10_value_ok : tabOK m10_value T10_value = true := by decide +kernel
def T10_step : TT := [(0, .iconst (-1), 1), (1, .iload_n 1, 1), (2, .isub, 1), (3, .istore_n 3, 1), (4, .iload_n 1, 1), (5, .ifCond .lt 11, 3), (8, .aload_n 0, 1), (9, .iload_n 1, 1), (10, .invokevirtual 46, 3), (13, .goto 106, 3), (16, .iload_n 3, 1), (17, .bipush 6, 2), (19, .bipush 11, 2), (21, .invokestatic 21, 3), (24, .ifCond .eq 29, 3), (27, .aload_n 0, 1), (28, .iload_n 3, 1), (29, .bipush 6, 2), (31, .isub, 1), (32, .aload_n 2, 1), (33, .arraylength, 1), (34, .if_icmp .ge 12, 3), (37, .aload_n 2, 1), (38, .iload_n 3, 1), (39, .bipush 6, 2), (41, .isub, 1), (42, .iaload, 1), (43, .goto 4, 3), (46, .iconst 0, 1), (47, .invokevirtual 46, 3), (50, .goto 69, 3), (53, .iload_n 3, 1), (54, .iconst 5, 1), (55, .if_icmp .ne 22, 3), (58, .aload_n 0, 1), (59, .aload_n 0, 1), (60, .invokevirtual 39, 3), (63, .ifCond .ne 7, 3), (66, .iconst 1, 1), (67, .goto 4, 3), (70, .iconst 0, 1), (71, .invokevirtual 46, 3), (74, .goto 45, 3), (77, .iload_n 3, 1), (78, .bipush 23, 2), (80, .if_icmp .ne 15, 3), (83, .aload_n 0, 1), (84, .aload_n 0, 1), (85, .invokevirtual 39, 3), (88, .ineg, 1), (89, .invokevirtual 46, 3), (92, .goto 27, 3), (95, .aload_n 0, 1), (96, .invokevirtual 39, 3), (99, .istore 4, 2), (101, .aload_n 0, 1), (102, .invokevirtual 39, 3), (105, .istore 5, 2), (107, .aload_n 0, 1), (108, .iload_n 3, 1), (109, .iload 5, 2), (111, .iload 4, 2), (113, .invokestatic 50, 3), (116, .invokevirtual 46, 3), (119, .return_, 1)]
set_option maxRecDepth 100000 in
theorem T10_step_ok : tabOK m10_step T10_step = true := by decide +kernel
def T10_reckon : TT := [(0, .iload_n 0, 1), (1, .tableswitch 145 3 19 #[83, 97, 145, 145, 145, 145, 145, 145, 145, 145, 145, 145, 111, 115, 119, 123, 134], 83), (84, .iload_n 1, 1), (85, .ifCond .ne 7, 3), (88, .iload_n 2, 1), (89, .ifCond .eq 7, 3), (92, .iconst 1, 1), (93, .goto 4, 3), (96, .iconst 0, 1), (97, .ireturn, 1), (98, .iload_n 1, 1), (99, .ifCond .eq 11, 3), (102, .iload_n 2, 1), (103, .ifCond .eq 7, 3), (106, .iconst 1, 1), (107, .goto 4, 3), (110, .iconst 0, 1), (111, .ireturn, 1), (112, .iload_n 1, 1), (113, .iload_n 2, 1), (114, .iadd, 1), (115, .ireturn, 1), (116, .iload_n 1, 1), (117, .iload_n 2, 1), (118, .isub, 1), (119, .ireturn, 1), (120, .iload_n 1, 1), (121, .iload_n 2, 1), (122, .imul, 1), (123, .ireturn, 1), (124, .iload_n 1, 1), (125, .iload_n 2, 1), (126, .if_icmp .ge 7, 3), (129, .iconst 1, 1), (130, .goto 4, 3), (133, .iconst 0, 1), (134, .ireturn, 1), (135, .iload_n 1, 1), (136, .iload_n 2, 1), (137, .if_icmp .ne 7, 3), (140, .iconst 1, 1), (141, .goto 4, 3), (144, .iconst 0, 1), (145, .ireturn, 1), (146, .iconst 0, 1), (147, .ireturn, 1)]
set_option maxRecDepth 100000 in
theorem T10_reckon_ok : tabOK m10_reckon T10_reckon = true := by decide +kernel
def T10_push : TT := [(0, .aload_n 0, 1), (1, .getfield 25, 3), (4, .bipush 32, 2), (6, .if_icmp .ge 23, 3), (9, .aload_n 0, 1), (10, .getfield 11, 3), (13, .aload_n 0, 1), (14, .getfield 25, 3), (17, .iload_n 1, 1), (18, .iastore, 1), (19, .aload_n 0, 1), (20, .dup, 1), (21, .getfield 25, 3), (24, .iconst 1, 1), (25, .iadd, 1), (26, .putfield 25, 3), (29, .return_, 1)]
set_option maxRecDepth 100000 in
theorem T10_push_ok : tabOK m10_push T10_push = true := by decide +kernel
def T10_pop : TT := [(0, .aload_n 0, 1), (1, .getfield 25, 3), (4, .iconst 1, 1), (5, .if_icmp .ge 5, 3), (8, .iconst 0, 1), (9, .ireturn, 1), (10, .aload_n 0, 1), (11, .dup, 1), (12, .getfield 25, 3), (15, .iconst 1, 1), (16, .isub, 1), (17, .putfield 25, 3), (20, .aload_n 0, 1), (21, .getfield 11, 3), (24, .aload_n 0, 1), (25, .getfield 25, 3), (28, .iaload, 1), (29, .ireturn, 1)]
set_option maxRecDepth 100000 in
theorem T10_pop_ok : tabOK m10_pop T10_pop = true := by decide +kernel
