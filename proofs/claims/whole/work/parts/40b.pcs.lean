/-! one row an instruction (printed by gen_pc.py) -/
section PCS
variable {xs : Nat → Int32} {Ls d : Nat} {L : mm_L} {st : List Value} {S : mm_St} {o : mm_O}
theorem p22_0 : pd_G xs Ls d pd_m22 (0, L, st, S) o ↔ pd_K xs Ls d pd_m22 (mm_lA L 0 fun v => mm_go 1 L (v :: st) S) o := pd_Gs (i := .aload_n 0) (n := 1) rfl
theorem p22_1 : pd_G xs Ls d pd_m22 (1, L, st, S) o ↔ pd_K xs Ls d pd_m22 (mm_getf pd_ck 1 L st S 2 2) o := pd_Gs (i := .getfield 16) (n := 3) rfl
theorem p22_4 : pd_G xs Ls d pd_m22 (4, L, st, S) o ↔ pd_K xs Ls d pd_m22 (mm_inv (mm_ev xs Ls pd_ck pd_ak pd_mj d) pd_m22 4 L st S 13 0 1) o := pd_Gs (i := .invokevirtual 24) (n := 3) rfl
theorem p22_7 : pd_G xs Ls d pd_m22 (7, L, st, S) o ↔ pd_K xs Ls d pd_m22 (mm_lA L 0 fun v => mm_go 8 L (v :: st) S) o := pd_Gs (i := .aload_n 0) (n := 1) rfl
theorem p22_8 : pd_G xs Ls d pd_m22 (8, L, st, S) o ↔ pd_K xs Ls d pd_m22 (mm_go 9 L (.int 0 :: st) S) o := pd_Gs (i := .iconst 0) (n := 1) rfl
theorem p22_9 : pd_G xs Ls d pd_m22 (9, L, st, S) o ↔ pd_K xs Ls d pd_m22 (mm_putf pd_ck 9 L st S 2 3) o := pd_Gs (i := .putfield 27) (n := 3) rfl
theorem p22_12 : pd_G xs Ls d pd_m22 (12, L, st, S) o ↔ pd_K xs Ls d pd_m22 (mm_lA L 0 fun v => mm_go 13 L (v :: st) S) o := pd_Gs (i := .aload_n 0) (n := 1) rfl
theorem p22_13 : pd_G xs Ls d pd_m22 (13, L, st, S) o ↔ pd_K xs Ls d pd_m22 (mm_go 14 L (.int 0 :: st) S) o := pd_Gs (i := .iconst 0) (n := 1) rfl
theorem p22_14 : pd_G xs Ls d pd_m22 (14, L, st, S) o ↔ pd_K xs Ls d pd_m22 (mm_putf pd_ck 14 L st S 2 4) o := pd_Gs (i := .putfield 30) (n := 3) rfl
theorem p22_17 : pd_G xs Ls d pd_m22 (17, L, st, S) o ↔ pd_K xs Ls d pd_m22 (mm_lA L 0 fun v => mm_go 18 L (v :: st) S) o := pd_Gs (i := .aload_n 0) (n := 1) rfl
theorem p22_18 : pd_G xs Ls d pd_m22 (18, L, st, S) o ↔ pd_K xs Ls d pd_m22 (mm_go 19 L (.int 0 :: st) S) o := pd_Gs (i := .iconst 0) (n := 1) rfl
theorem p22_19 : pd_G xs Ls d pd_m22 (19, L, st, S) o ↔ pd_K xs Ls d pd_m22 (mm_putf pd_ck 19 L st S 2 5) o := pd_Gs (i := .putfield 34) (n := 3) rfl
theorem p22_22 : pd_G xs Ls d pd_m22 (22, L, st, S) o ↔ pd_K xs Ls d pd_m22 (mm_lA L 0 fun v => mm_go 23 L (v :: st) S) o := pd_Gs (i := .aload_n 0) (n := 1) rfl
theorem p22_23 : pd_G xs Ls d pd_m22 (23, L, st, S) o ↔ pd_K xs Ls d pd_m22 (mm_go 24 L (.int 0 :: st) S) o := pd_Gs (i := .iconst 0) (n := 1) rfl
theorem p22_24 : pd_G xs Ls d pd_m22 (24, L, st, S) o ↔ pd_K xs Ls d pd_m22 (mm_inv (mm_ev xs Ls pd_ck pd_ak pd_mj d) pd_m22 24 L st S 23 1 2) o := pd_Gs (i := .invokevirtual 37) (n := 3) rfl
theorem p22_27 : pd_G xs Ls d pd_m22 (27, L, st, S) o ↔ pd_K xs Ls d pd_m22 (mm_lA L 0 fun v => mm_go 28 L (v :: st) S) o := pd_Gs (i := .aload_n 0) (n := 1) rfl
theorem p22_28 : pd_G xs Ls d pd_m22 (28, L, st, S) o ↔ pd_K xs Ls d pd_m22 (mm_getf pd_ck 28 L st S 2 3) o := pd_Gs (i := .getfield 27) (n := 3) rfl
theorem p22_31 : pd_G xs Ls d pd_m22 (31, L, st, S) o ↔ pd_K xs Ls d pd_m22 (mm_lA L 0 fun v => mm_go 32 L (v :: st) S) o := pd_Gs (i := .aload_n 0) (n := 1) rfl
theorem p22_32 : pd_G xs Ls d pd_m22 (32, L, st, S) o ↔ pd_K xs Ls d pd_m22 (mm_getf pd_ck 32 L st S 2 1) o := pd_Gs (i := .getfield 20) (n := 3) rfl
theorem p22_35 : pd_G xs Ls d pd_m22 (35, L, st, S) o ↔ pd_K xs Ls d pd_m22 (mm_ii st fun x y r => mm_icmp .ge x y (mm_go 43 L r S) (mm_go 38 L r S)) o := pd_Gs (i := .if_icmp .ge 8) (n := 3) rfl
theorem p22_38 : pd_G xs Ls d pd_m22 (38, L, st, S) o ↔ pd_K xs Ls d pd_m22 (mm_lA L 0 fun v => mm_go 39 L (v :: st) S) o := pd_Gs (i := .aload_n 0) (n := 1) rfl
theorem p22_39 : pd_G xs Ls d pd_m22 (39, L, st, S) o ↔ pd_K xs Ls d pd_m22 (mm_go 40 L (.int 1 :: st) S) o := pd_Gs (i := .iconst 1) (n := 1) rfl
theorem p22_40 : pd_G xs Ls d pd_m22 (40, L, st, S) o ↔ pd_K xs Ls d pd_m22 (mm_putf pd_ck 40 L st S 2 4) o := pd_Gs (i := .putfield 30) (n := 3) rfl
theorem p22_43 : pd_G xs Ls d pd_m22 (43, L, st, S) o ↔ pd_K xs Ls d pd_m22 (mm_lA L 0 fun v => mm_go 44 L (v :: st) S) o := pd_Gs (i := .aload_n 0) (n := 1) rfl
theorem p22_44 : pd_G xs Ls d pd_m22 (44, L, st, S) o ↔ pd_K xs Ls d pd_m22 (mm_getf pd_ck 44 L st S 2 2) o := pd_Gs (i := .getfield 16) (n := 3) rfl
theorem p22_47 : pd_G xs Ls d pd_m22 (47, L, st, S) o ↔ pd_K xs Ls d pd_m22 (mm_go 48 L (.int 0 :: st) S) o := pd_Gs (i := .iconst 0) (n := 1) rfl
theorem p22_48 : pd_G xs Ls d pd_m22 (48, L, st, S) o ↔ pd_K xs Ls d pd_m22 (mm_go 49 L (.int 0 :: st) S) o := pd_Gs (i := .iconst 0) (n := 1) rfl
theorem p22_49 : pd_G xs Ls d pd_m22 (49, L, st, S) o ↔ pd_K xs Ls d pd_m22 (mm_inv (mm_ev xs Ls pd_ck pd_ak pd_mj d) pd_m22 49 L st S 14 2 1) o := pd_Gs (i := .invokevirtual 43) (n := 3) rfl
theorem p22_52 : pd_G xs Ls d pd_m22 (52, L, st, S) o ↔ pd_K xs Ls d pd_m22 (mm_1 st fun v r => cond (mm_c2 v) none (mm_go 53 L r S)) o := pd_Gs (i := .pop) (n := 1) rfl
theorem p22_53 : pd_G xs Ls d pd_m22 (53, L, st, S) o ↔ pd_K xs Ls d pd_m22 (mm_lA L 0 fun v => mm_go 54 L (v :: st) S) o := pd_Gs (i := .aload_n 0) (n := 1) rfl
theorem p22_54 : pd_G xs Ls d pd_m22 (54, L, st, S) o ↔ pd_K xs Ls d pd_m22 (mm_getf pd_ck 54 L st S 2 1) o := pd_Gs (i := .getfield 20) (n := 3) rfl
theorem p22_57 : pd_G xs Ls d pd_m22 (57, L, st, S) o ↔ pd_K xs Ls d pd_m22 (mm_i st fun x r => mm_go 58 (mm_sto L 0 1 (.int x)) r S) o := pd_Gs (i := .istore_n 1) (n := 1) rfl
theorem p22_58 : pd_G xs Ls d pd_m22 (58, L, st, S) o ↔ pd_K xs Ls d pd_m22 (mm_lA L 0 fun v => mm_go 59 L (v :: st) S) o := pd_Gs (i := .aload_n 0) (n := 1) rfl
theorem p22_59 : pd_G xs Ls d pd_m22 (59, L, st, S) o ↔ pd_K xs Ls d pd_m22 (mm_go 60 L (.int 0 :: st) S) o := pd_Gs (i := .iconst 0) (n := 1) rfl
theorem p22_60 : pd_G xs Ls d pd_m22 (60, L, st, S) o ↔ pd_K xs Ls d pd_m22 (mm_putf pd_ck 60 L st S 2 1) o := pd_Gs (i := .putfield 20) (n := 3) rfl
theorem p22_63 : pd_G xs Ls d pd_m22 (63, L, st, S) o ↔ pd_K xs Ls d pd_m22 (mm_lA L 0 fun v => mm_go 64 L (v :: st) S) o := pd_Gs (i := .aload_n 0) (n := 1) rfl
theorem p22_64 : pd_G xs Ls d pd_m22 (64, L, st, S) o ↔ pd_K xs Ls d pd_m22 (mm_getf pd_ck 64 L st S 2 4) o := pd_Gs (i := .getfield 30) (n := 3) rfl
theorem p22_67 : pd_G xs Ls d pd_m22 (67, L, st, S) o ↔ pd_K xs Ls d pd_m22 (mm_i st fun x r => mm_icmp .eq x 0 (mm_go 75 L r S) (mm_go 70 L r S)) o := pd_Gs (i := .ifCond .eq 8) (n := 3) rfl
theorem p22_70 : pd_G xs Ls d pd_m22 (70, L, st, S) o ↔ pd_K xs Ls d pd_m22 (mm_lA L 0 fun v => mm_go 71 L (v :: st) S) o := pd_Gs (i := .aload_n 0) (n := 1) rfl
theorem p22_71 : pd_G xs Ls d pd_m22 (71, L, st, S) o ↔ pd_K xs Ls d pd_m22 (mm_getf pd_ck 71 L st S 2 3) o := pd_Gs (i := .getfield 27) (n := 3) rfl
theorem p22_74 : pd_G xs Ls d pd_m22 (74, L, st, S) o ↔ pd_K xs Ls d pd_m22 (mm_e0 S st) o := pd_Gs (i := .ireturn) (n := 1) rfl
theorem p22_75 : pd_G xs Ls d pd_m22 (75, L, st, S) o ↔ pd_K xs Ls d pd_m22 (mm_lA L 0 fun v => mm_go 76 L (v :: st) S) o := pd_Gs (i := .aload_n 0) (n := 1) rfl
theorem p22_76 : pd_G xs Ls d pd_m22 (76, L, st, S) o ↔ pd_K xs Ls d pd_m22 (mm_getf pd_ck 76 L st S 2 5) o := pd_Gs (i := .getfield 34) (n := 3) rfl
theorem p22_79 : pd_G xs Ls d pd_m22 (79, L, st, S) o ↔ pd_K xs Ls d pd_m22 (mm_i st fun x r => mm_icmp .eq x 0 (mm_go 84 L r S) (mm_go 82 L r S)) o := pd_Gs (i := .ifCond .eq 5) (n := 3) rfl
theorem p22_82 : pd_G xs Ls d pd_m22 (82, L, st, S) o ↔ pd_K xs Ls d pd_m22 (mm_lI L 1 fun x => mm_go 83 L (.int x :: st) S) o := pd_Gs (i := .iload_n 1) (n := 1) rfl
theorem p22_83 : pd_G xs Ls d pd_m22 (83, L, st, S) o ↔ pd_K xs Ls d pd_m22 (mm_e0 S st) o := pd_Gs (i := .ireturn) (n := 1) rfl
theorem p22_84 : pd_G xs Ls d pd_m22 (84, L, st, S) o ↔ pd_K xs Ls d pd_m22 (mm_lA L 0 fun v => mm_go 85 L (v :: st) S) o := pd_Gs (i := .aload_n 0) (n := 1) rfl
theorem p22_85 : pd_G xs Ls d pd_m22 (85, L, st, S) o ↔ pd_K xs Ls d pd_m22 (mm_getf pd_ck 85 L st S 2 2) o := pd_Gs (i := .getfield 16) (n := 3) rfl
theorem p22_88 : pd_G xs Ls d pd_m22 (88, L, st, S) o ↔ pd_K xs Ls d pd_m22 (mm_go 89 L (.int 1 :: st) S) o := pd_Gs (i := .iconst 1) (n := 1) rfl
theorem p22_89 : pd_G xs Ls d pd_m22 (89, L, st, S) o ↔ pd_K xs Ls d pd_m22 (mm_putf pd_ck 89 L st S 1 4) o := pd_Gs (i := .putfield 47) (n := 3) rfl
theorem p22_92 : pd_G xs Ls d pd_m22 (92, L, st, S) o ↔ pd_K xs Ls d pd_m22 (mm_go 93 L (.int (-1) :: st) S) o := pd_Gs (i := .iconst (-1)) (n := 1) rfl
theorem p22_93 : pd_G xs Ls d pd_m22 (93, L, st, S) o ↔ pd_K xs Ls d pd_m22 (mm_e0 S st) o := pd_Gs (i := .ireturn) (n := 1) rfl
theorem p23_0 : pd_G xs Ls d pd_m23 (0, L, st, S) o ↔ pd_K xs Ls d pd_m23 (mm_lA L 0 fun v => mm_go 1 L (v :: st) S) o := pd_Gs (i := .aload_n 0) (n := 1) rfl
theorem p23_1 : pd_G xs Ls d pd_m23 (1, L, st, S) o ↔ pd_K xs Ls d pd_m23 (mm_lI L 1 fun x => mm_go 2 L (.int x :: st) S) o := pd_Gs (i := .iload_n 1) (n := 1) rfl
theorem p23_2 : pd_G xs Ls d pd_m23 (2, L, st, S) o ↔ pd_K xs Ls d pd_m23 (mm_inv (mm_ev xs Ls pd_ck pd_ak pd_mj d) pd_m23 2 L st S 24 1 2) o := pd_Gs (i := .invokevirtual 58) (n := 3) rfl
theorem p23_5 : pd_G xs Ls d pd_m23 (5, L, st, S) o ↔ pd_K xs Ls d pd_m23 (mm_go 6 L (.int 0 :: st) S) o := pd_Gs (i := .iconst 0) (n := 1) rfl
theorem p23_6 : pd_G xs Ls d pd_m23 (6, L, st, S) o ↔ pd_K xs Ls d pd_m23 (mm_i st fun x r => mm_go 7 (mm_sto L 0 2 (.int x)) r S) o := pd_Gs (i := .istore_n 2) (n := 1) rfl
theorem p23_7 : pd_G xs Ls d pd_m23 (7, L, st, S) o ↔ pd_K xs Ls d pd_m23 (mm_lI L 2 fun x => mm_go 8 L (.int x :: st) S) o := pd_Gs (i := .iload_n 2) (n := 1) rfl
theorem p23_8 : pd_G xs Ls d pd_m23 (8, L, st, S) o ↔ pd_K xs Ls d pd_m23 (mm_go 10 L (.int 48 :: st) S) o := pd_Gs (i := .bipush 48) (n := 2) rfl
theorem p23_10 : pd_G xs Ls d pd_m23 (10, L, st, S) o ↔ pd_K xs Ls d pd_m23 (mm_ii st fun x y r => mm_icmp .ge x y (mm_go 33 L r S) (mm_go 13 L r S)) o := pd_Gs (i := .if_icmp .ge 23) (n := 3) rfl
theorem p23_13 : pd_G xs Ls d pd_m23 (13, L, st, S) o ↔ pd_K xs Ls d pd_m23 (mm_lA L 0 fun v => mm_go 14 L (v :: st) S) o := pd_Gs (i := .aload_n 0) (n := 1) rfl
theorem p23_14 : pd_G xs Ls d pd_m23 (14, L, st, S) o ↔ pd_K xs Ls d pd_m23 (mm_go 16 L (.int 59 :: st) S) o := pd_Gs (i := .bipush 59) (n := 2) rfl
theorem p23_16 : pd_G xs Ls d pd_m23 (16, L, st, S) o ↔ pd_K xs Ls d pd_m23 (mm_inv (mm_ev xs Ls pd_ck pd_ak pd_mj d) pd_m23 16 L st S 29 1 2) o := pd_Gs (i := .invokevirtual 61) (n := 3) rfl
theorem p23_19 : pd_G xs Ls d pd_m23 (19, L, st, S) o ↔ pd_K xs Ls d pd_m23 (mm_i st fun x r => mm_icmp .eq x 0 (mm_go 33 L r S) (mm_go 22 L r S)) o := pd_Gs (i := .ifCond .eq 14) (n := 3) rfl
theorem p23_22 : pd_G xs Ls d pd_m23 (22, L, st, S) o ↔ pd_K xs Ls d pd_m23 (mm_lA L 0 fun v => mm_go 23 L (v :: st) S) o := pd_Gs (i := .aload_n 0) (n := 1) rfl
theorem p23_23 : pd_G xs Ls d pd_m23 (23, L, st, S) o ↔ pd_K xs Ls d pd_m23 (mm_lI L 1 fun x => mm_go 24 L (.int x :: st) S) o := pd_Gs (i := .iload_n 1) (n := 1) rfl
theorem p23_24 : pd_G xs Ls d pd_m23 (24, L, st, S) o ↔ pd_K xs Ls d pd_m23 (mm_inv (mm_ev xs Ls pd_ck pd_ak pd_mj d) pd_m23 24 L st S 24 1 2) o := pd_Gs (i := .invokevirtual 58) (n := 3) rfl
theorem p23_27 : pd_G xs Ls d pd_m23 (27, L, st, S) o ↔ pd_K xs Ls d pd_m23 (mm_lI L 2 fun x => mm_go 30 (mm_sto L 0 2 (.int (x + 1))) st S) o := pd_Gs (i := .iinc 2 1) (n := 3) rfl
theorem p23_30 : pd_G xs Ls d pd_m23 (30, L, st, S) o ↔ pd_K xs Ls d pd_m23 (mm_go 7 L st S) o := pd_Gs (i := .goto (-23)) (n := 3) rfl
theorem p23_33 : pd_G xs Ls d pd_m23 (33, L, st, S) o ↔ pd_K xs Ls d pd_m23 (mm_rV S st) o := pd_Gs (i := .return_) (n := 1) rfl
theorem p24_0 : pd_G xs Ls d pd_m24 (0, L, st, S) o ↔ pd_K xs Ls d pd_m24 (mm_lA L 0 fun v => mm_go 1 L (v :: st) S) o := pd_Gs (i := .aload_n 0) (n := 1) rfl
theorem p24_1 : pd_G xs Ls d pd_m24 (1, L, st, S) o ↔ pd_K xs Ls d pd_m24 (mm_inv (mm_ev xs Ls pd_ck pd_ak pd_mj d) pd_m24 1 L st S 25 0 2) o := pd_Gs (i := .invokevirtual 50) (n := 3) rfl
theorem p24_4 : pd_G xs Ls d pd_m24 (4, L, st, S) o ↔ pd_K xs Ls d pd_m24 (mm_invS (mm_ev xs Ls pd_ck pd_ak pd_mj d) pd_m24 4 L st S 26 1) o := pd_Gs (i := .invokestatic 64) (n := 3) rfl
theorem p24_7 : pd_G xs Ls d pd_m24 (7, L, st, S) o ↔ pd_K xs Ls d pd_m24 (mm_i st fun x r => mm_go 8 (mm_sto L 0 2 (.int x)) r S) o := pd_Gs (i := .istore_n 2) (n := 1) rfl
theorem p24_8 : pd_G xs Ls d pd_m24 (8, L, st, S) o ↔ pd_K xs Ls d pd_m24 (mm_lA L 0 fun v => mm_go 9 L (v :: st) S) o := pd_Gs (i := .aload_n 0) (n := 1) rfl
theorem p24_9 : pd_G xs Ls d pd_m24 (9, L, st, S) o ↔ pd_K xs Ls d pd_m24 (mm_getf pd_ck 9 L st S 2 2) o := pd_Gs (i := .getfield 16) (n := 3) rfl
theorem p24_12 : pd_G xs Ls d pd_m24 (12, L, st, S) o ↔ pd_K xs Ls d pd_m24 (mm_1 st fun v r => cond (mm_c2 v) none (mm_go 13 L (v :: v :: r) S)) o := pd_Gs (i := .dup) (n := 1) rfl
theorem p24_13 : pd_G xs Ls d pd_m24 (13, L, st, S) o ↔ pd_K xs Ls d pd_m24 (mm_getf pd_ck 13 L st S 1 3) o := pd_Gs (i := .getfield 68) (n := 3) rfl
theorem p24_16 : pd_G xs Ls d pd_m24 (16, L, st, S) o ↔ pd_K xs Ls d pd_m24 (mm_go 17 L (.int 1 :: st) S) o := pd_Gs (i := .iconst 1) (n := 1) rfl
theorem p24_17 : pd_G xs Ls d pd_m24 (17, L, st, S) o ↔ pd_K xs Ls d pd_m24 (mm_ii st fun x y r => mm_go 18 L (.int (x + y) :: r) S) o := pd_Gs (i := .iadd) (n := 1) rfl
theorem p24_18 : pd_G xs Ls d pd_m24 (18, L, st, S) o ↔ pd_K xs Ls d pd_m24 (mm_putf pd_ck 18 L st S 1 3) o := pd_Gs (i := .putfield 68) (n := 3) rfl
theorem p24_21 : pd_G xs Ls d pd_m24 (21, L, st, S) o ↔ pd_K xs Ls d pd_m24 (mm_lI L 2 fun x => mm_go 22 L (.int x :: st) S) o := pd_Gs (i := .iload_n 2) (n := 1) rfl
theorem p24_22 : pd_G xs Ls d pd_m24 (22, L, st, S) o ↔ pd_K xs Ls d pd_m24 (mm_i st fun x r => mm_icmp .lt x 0 (mm_go 34 L r S) (mm_go 25 L r S)) o := pd_Gs (i := .ifCond .lt 12) (n := 3) rfl
theorem p24_25 : pd_G xs Ls d pd_m24 (25, L, st, S) o ↔ pd_K xs Ls d pd_m24 (mm_lA L 0 fun v => mm_go 26 L (v :: st) S) o := pd_Gs (i := .aload_n 0) (n := 1) rfl
theorem p24_26 : pd_G xs Ls d pd_m24 (26, L, st, S) o ↔ pd_K xs Ls d pd_m24 (mm_lI L 2 fun x => mm_go 27 L (.int x :: st) S) o := pd_Gs (i := .iload_n 2) (n := 1) rfl
theorem p24_27 : pd_G xs Ls d pd_m24 (27, L, st, S) o ↔ pd_K xs Ls d pd_m24 (mm_lI L 1 fun x => mm_go 28 L (.int x :: st) S) o := pd_Gs (i := .iload_n 1) (n := 1) rfl
theorem p24_28 : pd_G xs Ls d pd_m24 (28, L, st, S) o ↔ pd_K xs Ls d pd_m24 (mm_inv (mm_ev xs Ls pd_ck pd_ak pd_mj d) pd_m24 28 L st S 27 2 2) o := pd_Gs (i := .invokevirtual 71) (n := 3) rfl
theorem p24_31 : pd_G xs Ls d pd_m24 (31, L, st, S) o ↔ pd_K xs Ls d pd_m24 (mm_go 220 L st S) o := pd_Gs (i := .goto 189) (n := 3) rfl
theorem p24_34 : pd_G xs Ls d pd_m24 (34, L, st, S) o ↔ pd_K xs Ls d pd_m24 (mm_lA L 0 fun v => mm_go 35 L (v :: st) S) o := pd_Gs (i := .aload_n 0) (n := 1) rfl
theorem p24_35 : pd_G xs Ls d pd_m24 (35, L, st, S) o ↔ pd_K xs Ls d pd_m24 (mm_go 37 L (.int 118 :: st) S) o := pd_Gs (i := .bipush 118) (n := 2) rfl
theorem p24_37 : pd_G xs Ls d pd_m24 (37, L, st, S) o ↔ pd_K xs Ls d pd_m24 (mm_inv (mm_ev xs Ls pd_ck pd_ak pd_mj d) pd_m24 37 L st S 29 1 2) o := pd_Gs (i := .invokevirtual 61) (n := 3) rfl
theorem p24_40 : pd_G xs Ls d pd_m24 (40, L, st, S) o ↔ pd_K xs Ls d pd_m24 (mm_i st fun x r => mm_icmp .eq x 0 (mm_go 51 L r S) (mm_go 43 L r S)) o := pd_Gs (i := .ifCond .eq 11) (n := 3) rfl
theorem p24_43 : pd_G xs Ls d pd_m24 (43, L, st, S) o ↔ pd_K xs Ls d pd_m24 (mm_lA L 0 fun v => mm_go 44 L (v :: st) S) o := pd_Gs (i := .aload_n 0) (n := 1) rfl
theorem p24_44 : pd_G xs Ls d pd_m24 (44, L, st, S) o ↔ pd_K xs Ls d pd_m24 (mm_lI L 1 fun x => mm_go 45 L (.int x :: st) S) o := pd_Gs (i := .iload_n 1) (n := 1) rfl
theorem p24_45 : pd_G xs Ls d pd_m24 (45, L, st, S) o ↔ pd_K xs Ls d pd_m24 (mm_inv (mm_ev xs Ls pd_ck pd_ak pd_mj d) pd_m24 45 L st S 42 1 2) o := pd_Gs (i := .invokevirtual 75) (n := 3) rfl
theorem p24_48 : pd_G xs Ls d pd_m24 (48, L, st, S) o ↔ pd_K xs Ls d pd_m24 (mm_go 220 L st S) o := pd_Gs (i := .goto 172) (n := 3) rfl
theorem p24_51 : pd_G xs Ls d pd_m24 (51, L, st, S) o ↔ pd_K xs Ls d pd_m24 (mm_lA L 0 fun v => mm_go 52 L (v :: st) S) o := pd_Gs (i := .aload_n 0) (n := 1) rfl
theorem p24_52 : pd_G xs Ls d pd_m24 (52, L, st, S) o ↔ pd_K xs Ls d pd_m24 (mm_go 54 L (.int 63 :: st) S) o := pd_Gs (i := .bipush 63) (n := 2) rfl
theorem p24_54 : pd_G xs Ls d pd_m24 (54, L, st, S) o ↔ pd_K xs Ls d pd_m24 (mm_inv (mm_ev xs Ls pd_ck pd_ak pd_mj d) pd_m24 54 L st S 29 1 2) o := pd_Gs (i := .invokevirtual 61) (n := 3) rfl
theorem p24_57 : pd_G xs Ls d pd_m24 (57, L, st, S) o ↔ pd_K xs Ls d pd_m24 (mm_i st fun x r => mm_icmp .eq x 0 (mm_go 68 L r S) (mm_go 60 L r S)) o := pd_Gs (i := .ifCond .eq 11) (n := 3) rfl
theorem p24_60 : pd_G xs Ls d pd_m24 (60, L, st, S) o ↔ pd_K xs Ls d pd_m24 (mm_lA L 0 fun v => mm_go 61 L (v :: st) S) o := pd_Gs (i := .aload_n 0) (n := 1) rfl
theorem p24_61 : pd_G xs Ls d pd_m24 (61, L, st, S) o ↔ pd_K xs Ls d pd_m24 (mm_lI L 1 fun x => mm_go 62 L (.int x :: st) S) o := pd_Gs (i := .iload_n 1) (n := 1) rfl
theorem p24_62 : pd_G xs Ls d pd_m24 (62, L, st, S) o ↔ pd_K xs Ls d pd_m24 (mm_inv (mm_ev xs Ls pd_ck pd_ak pd_mj d) pd_m24 62 L st S 43 1 2) o := pd_Gs (i := .invokevirtual 78) (n := 3) rfl
theorem p24_65 : pd_G xs Ls d pd_m24 (65, L, st, S) o ↔ pd_K xs Ls d pd_m24 (mm_go 220 L st S) o := pd_Gs (i := .goto 155) (n := 3) rfl
theorem p24_68 : pd_G xs Ls d pd_m24 (68, L, st, S) o ↔ pd_K xs Ls d pd_m24 (mm_lA L 0 fun v => mm_go 69 L (v :: st) S) o := pd_Gs (i := .aload_n 0) (n := 1) rfl
theorem p24_69 : pd_G xs Ls d pd_m24 (69, L, st, S) o ↔ pd_K xs Ls d pd_m24 (mm_go 71 L (.int 64 :: st) S) o := pd_Gs (i := .bipush 64) (n := 2) rfl
theorem p24_71 : pd_G xs Ls d pd_m24 (71, L, st, S) o ↔ pd_K xs Ls d pd_m24 (mm_inv (mm_ev xs Ls pd_ck pd_ak pd_mj d) pd_m24 71 L st S 29 1 2) o := pd_Gs (i := .invokevirtual 61) (n := 3) rfl
theorem p24_74 : pd_G xs Ls d pd_m24 (74, L, st, S) o ↔ pd_K xs Ls d pd_m24 (mm_i st fun x r => mm_icmp .eq x 0 (mm_go 85 L r S) (mm_go 77 L r S)) o := pd_Gs (i := .ifCond .eq 11) (n := 3) rfl
theorem p24_77 : pd_G xs Ls d pd_m24 (77, L, st, S) o ↔ pd_K xs Ls d pd_m24 (mm_lA L 0 fun v => mm_go 78 L (v :: st) S) o := pd_Gs (i := .aload_n 0) (n := 1) rfl
theorem p24_78 : pd_G xs Ls d pd_m24 (78, L, st, S) o ↔ pd_K xs Ls d pd_m24 (mm_lI L 1 fun x => mm_go 79 L (.int x :: st) S) o := pd_Gs (i := .iload_n 1) (n := 1) rfl
theorem p24_79 : pd_G xs Ls d pd_m24 (79, L, st, S) o ↔ pd_K xs Ls d pd_m24 (mm_inv (mm_ev xs Ls pd_ck pd_ak pd_mj d) pd_m24 79 L st S 45 1 2) o := pd_Gs (i := .invokevirtual 81) (n := 3) rfl
theorem p24_82 : pd_G xs Ls d pd_m24 (82, L, st, S) o ↔ pd_K xs Ls d pd_m24 (mm_go 220 L st S) o := pd_Gs (i := .goto 138) (n := 3) rfl
theorem p24_85 : pd_G xs Ls d pd_m24 (85, L, st, S) o ↔ pd_K xs Ls d pd_m24 (mm_lA L 0 fun v => mm_go 86 L (v :: st) S) o := pd_Gs (i := .aload_n 0) (n := 1) rfl
theorem p24_86 : pd_G xs Ls d pd_m24 (86, L, st, S) o ↔ pd_K xs Ls d pd_m24 (mm_go 88 L (.int 33 :: st) S) o := pd_Gs (i := .bipush 33) (n := 2) rfl
theorem p24_88 : pd_G xs Ls d pd_m24 (88, L, st, S) o ↔ pd_K xs Ls d pd_m24 (mm_inv (mm_ev xs Ls pd_ck pd_ak pd_mj d) pd_m24 88 L st S 29 1 2) o := pd_Gs (i := .invokevirtual 61) (n := 3) rfl
theorem p24_91 : pd_G xs Ls d pd_m24 (91, L, st, S) o ↔ pd_K xs Ls d pd_m24 (mm_i st fun x r => mm_icmp .eq x 0 (mm_go 114 L r S) (mm_go 94 L r S)) o := pd_Gs (i := .ifCond .eq 23) (n := 3) rfl
theorem p24_94 : pd_G xs Ls d pd_m24 (94, L, st, S) o ↔ pd_K xs Ls d pd_m24 (mm_lA L 0 fun v => mm_go 95 L (v :: st) S) o := pd_Gs (i := .aload_n 0) (n := 1) rfl
theorem p24_95 : pd_G xs Ls d pd_m24 (95, L, st, S) o ↔ pd_K xs Ls d pd_m24 (mm_lI L 1 fun x => mm_go 96 L (.int x :: st) S) o := pd_Gs (i := .iload_n 1) (n := 1) rfl
theorem p24_96 : pd_G xs Ls d pd_m24 (96, L, st, S) o ↔ pd_K xs Ls d pd_m24 (mm_inv (mm_ev xs Ls pd_ck pd_ak pd_mj d) pd_m24 96 L st S 30 1 2) o := pd_Gs (i := .invokevirtual 84) (n := 3) rfl
theorem p24_99 : pd_G xs Ls d pd_m24 (99, L, st, S) o ↔ pd_K xs Ls d pd_m24 (mm_1 st fun v r => cond (mm_c2 v) none (mm_go 100 L r S)) o := pd_Gs (i := .pop) (n := 1) rfl
theorem p24_100 : pd_G xs Ls d pd_m24 (100, L, st, S) o ↔ pd_K xs Ls d pd_m24 (mm_lA L 0 fun v => mm_go 101 L (v :: st) S) o := pd_Gs (i := .aload_n 0) (n := 1) rfl
theorem p24_101 : pd_G xs Ls d pd_m24 (101, L, st, S) o ↔ pd_K xs Ls d pd_m24 (mm_getf pd_ck 101 L st S 2 2) o := pd_Gs (i := .getfield 16) (n := 3) rfl
theorem p24_104 : pd_G xs Ls d pd_m24 (104, L, st, S) o ↔ pd_K xs Ls d pd_m24 (mm_go 106 L (.int 20 :: st) S) o := pd_Gs (i := .bipush 20) (n := 2) rfl
theorem p24_106 : pd_G xs Ls d pd_m24 (106, L, st, S) o ↔ pd_K xs Ls d pd_m24 (mm_go 107 L (.int 0 :: st) S) o := pd_Gs (i := .iconst 0) (n := 1) rfl
theorem p24_107 : pd_G xs Ls d pd_m24 (107, L, st, S) o ↔ pd_K xs Ls d pd_m24 (mm_inv (mm_ev xs Ls pd_ck pd_ak pd_mj d) pd_m24 107 L st S 14 2 1) o := pd_Gs (i := .invokevirtual 43) (n := 3) rfl
theorem p24_110 : pd_G xs Ls d pd_m24 (110, L, st, S) o ↔ pd_K xs Ls d pd_m24 (mm_1 st fun v r => cond (mm_c2 v) none (mm_go 111 L r S)) o := pd_Gs (i := .pop) (n := 1) rfl
theorem p24_111 : pd_G xs Ls d pd_m24 (111, L, st, S) o ↔ pd_K xs Ls d pd_m24 (mm_go 220 L st S) o := pd_Gs (i := .goto 109) (n := 3) rfl
theorem p24_114 : pd_G xs Ls d pd_m24 (114, L, st, S) o ↔ pd_K xs Ls d pd_m24 (mm_lA L 0 fun v => mm_go 115 L (v :: st) S) o := pd_Gs (i := .aload_n 0) (n := 1) rfl
theorem p24_115 : pd_G xs Ls d pd_m24 (115, L, st, S) o ↔ pd_K xs Ls d pd_m24 (mm_go 117 L (.int 87 :: st) S) o := pd_Gs (i := .bipush 87) (n := 2) rfl
theorem p24_117 : pd_G xs Ls d pd_m24 (117, L, st, S) o ↔ pd_K xs Ls d pd_m24 (mm_inv (mm_ev xs Ls pd_ck pd_ak pd_mj d) pd_m24 117 L st S 29 1 2) o := pd_Gs (i := .invokevirtual 61) (n := 3) rfl
theorem p24_120 : pd_G xs Ls d pd_m24 (120, L, st, S) o ↔ pd_K xs Ls d pd_m24 (mm_i st fun x r => mm_icmp .eq x 0 (mm_go 142 L r S) (mm_go 123 L r S)) o := pd_Gs (i := .ifCond .eq 22) (n := 3) rfl
theorem p24_123 : pd_G xs Ls d pd_m24 (123, L, st, S) o ↔ pd_K xs Ls d pd_m24 (mm_lA L 0 fun v => mm_go 124 L (v :: st) S) o := pd_Gs (i := .aload_n 0) (n := 1) rfl
theorem p24_124 : pd_G xs Ls d pd_m24 (124, L, st, S) o ↔ pd_K xs Ls d pd_m24 (mm_getf pd_ck 124 L st S 2 2) o := pd_Gs (i := .getfield 16) (n := 3) rfl
theorem p24_127 : pd_G xs Ls d pd_m24 (127, L, st, S) o ↔ pd_K xs Ls d pd_m24 (mm_go 129 L (.int 21 :: st) S) o := pd_Gs (i := .bipush 21) (n := 2) rfl
theorem p24_129 : pd_G xs Ls d pd_m24 (129, L, st, S) o ↔ pd_K xs Ls d pd_m24 (mm_lA L 0 fun v => mm_go 130 L (v :: st) S) o := pd_Gs (i := .aload_n 0) (n := 1) rfl
theorem p24_130 : pd_G xs Ls d pd_m24 (130, L, st, S) o ↔ pd_K xs Ls d pd_m24 (mm_go 132 L (.int 49 :: st) S) o := pd_Gs (i := .bipush 49) (n := 2) rfl
theorem p24_132 : pd_G xs Ls d pd_m24 (132, L, st, S) o ↔ pd_K xs Ls d pd_m24 (mm_inv (mm_ev xs Ls pd_ck pd_ak pd_mj d) pd_m24 132 L st S 36 1 2) o := pd_Gs (i := .invokevirtual 88) (n := 3) rfl
theorem p24_135 : pd_G xs Ls d pd_m24 (135, L, st, S) o ↔ pd_K xs Ls d pd_m24 (mm_inv (mm_ev xs Ls pd_ck pd_ak pd_mj d) pd_m24 135 L st S 14 2 1) o := pd_Gs (i := .invokevirtual 43) (n := 3) rfl
theorem p24_138 : pd_G xs Ls d pd_m24 (138, L, st, S) o ↔ pd_K xs Ls d pd_m24 (mm_1 st fun v r => cond (mm_c2 v) none (mm_go 139 L r S)) o := pd_Gs (i := .pop) (n := 1) rfl
theorem p24_139 : pd_G xs Ls d pd_m24 (139, L, st, S) o ↔ pd_K xs Ls d pd_m24 (mm_go 220 L st S) o := pd_Gs (i := .goto 81) (n := 3) rfl
theorem p24_142 : pd_G xs Ls d pd_m24 (142, L, st, S) o ↔ pd_K xs Ls d pd_m24 (mm_lA L 0 fun v => mm_go 143 L (v :: st) S) o := pd_Gs (i := .aload_n 0) (n := 1) rfl
theorem p24_143 : pd_G xs Ls d pd_m24 (143, L, st, S) o ↔ pd_K xs Ls d pd_m24 (mm_go 145 L (.int 83 :: st) S) o := pd_Gs (i := .bipush 83) (n := 2) rfl
theorem p24_145 : pd_G xs Ls d pd_m24 (145, L, st, S) o ↔ pd_K xs Ls d pd_m24 (mm_inv (mm_ev xs Ls pd_ck pd_ak pd_mj d) pd_m24 145 L st S 29 1 2) o := pd_Gs (i := .invokevirtual 61) (n := 3) rfl
theorem p24_148 : pd_G xs Ls d pd_m24 (148, L, st, S) o ↔ pd_K xs Ls d pd_m24 (mm_i st fun x r => mm_icmp .eq x 0 (mm_go 170 L r S) (mm_go 151 L r S)) o := pd_Gs (i := .ifCond .eq 22) (n := 3) rfl
theorem p24_151 : pd_G xs Ls d pd_m24 (151, L, st, S) o ↔ pd_K xs Ls d pd_m24 (mm_lA L 0 fun v => mm_go 152 L (v :: st) S) o := pd_Gs (i := .aload_n 0) (n := 1) rfl
theorem p24_152 : pd_G xs Ls d pd_m24 (152, L, st, S) o ↔ pd_K xs Ls d pd_m24 (mm_getf pd_ck 152 L st S 2 2) o := pd_Gs (i := .getfield 16) (n := 3) rfl
theorem p24_155 : pd_G xs Ls d pd_m24 (155, L, st, S) o ↔ pd_K xs Ls d pd_m24 (mm_go 157 L (.int 22 :: st) S) o := pd_Gs (i := .bipush 22) (n := 2) rfl
theorem p24_157 : pd_G xs Ls d pd_m24 (157, L, st, S) o ↔ pd_K xs Ls d pd_m24 (mm_lA L 0 fun v => mm_go 158 L (v :: st) S) o := pd_Gs (i := .aload_n 0) (n := 1) rfl
theorem p24_158 : pd_G xs Ls d pd_m24 (158, L, st, S) o ↔ pd_K xs Ls d pd_m24 (mm_go 160 L (.int 49 :: st) S) o := pd_Gs (i := .bipush 49) (n := 2) rfl
theorem p24_160 : pd_G xs Ls d pd_m24 (160, L, st, S) o ↔ pd_K xs Ls d pd_m24 (mm_inv (mm_ev xs Ls pd_ck pd_ak pd_mj d) pd_m24 160 L st S 36 1 2) o := pd_Gs (i := .invokevirtual 88) (n := 3) rfl
theorem p24_163 : pd_G xs Ls d pd_m24 (163, L, st, S) o ↔ pd_K xs Ls d pd_m24 (mm_inv (mm_ev xs Ls pd_ck pd_ak pd_mj d) pd_m24 163 L st S 14 2 1) o := pd_Gs (i := .invokevirtual 43) (n := 3) rfl
theorem p24_166 : pd_G xs Ls d pd_m24 (166, L, st, S) o ↔ pd_K xs Ls d pd_m24 (mm_1 st fun v r => cond (mm_c2 v) none (mm_go 167 L r S)) o := pd_Gs (i := .pop) (n := 1) rfl
theorem p24_167 : pd_G xs Ls d pd_m24 (167, L, st, S) o ↔ pd_K xs Ls d pd_m24 (mm_go 220 L st S) o := pd_Gs (i := .goto 53) (n := 3) rfl
theorem p24_170 : pd_G xs Ls d pd_m24 (170, L, st, S) o ↔ pd_K xs Ls d pd_m24 (mm_lA L 0 fun v => mm_go 171 L (v :: st) S) o := pd_Gs (i := .aload_n 0) (n := 1) rfl
theorem p24_171 : pd_G xs Ls d pd_m24 (171, L, st, S) o ↔ pd_K xs Ls d pd_m24 (mm_go 173 L (.int 80 :: st) S) o := pd_Gs (i := .bipush 80) (n := 2) rfl
theorem p24_173 : pd_G xs Ls d pd_m24 (173, L, st, S) o ↔ pd_K xs Ls d pd_m24 (mm_inv (mm_ev xs Ls pd_ck pd_ak pd_mj d) pd_m24 173 L st S 29 1 2) o := pd_Gs (i := .invokevirtual 61) (n := 3) rfl
theorem p24_176 : pd_G xs Ls d pd_m24 (176, L, st, S) o ↔ pd_K xs Ls d pd_m24 (mm_i st fun x r => mm_icmp .eq x 0 (mm_go 198 L r S) (mm_go 179 L r S)) o := pd_Gs (i := .ifCond .eq 22) (n := 3) rfl
theorem p24_179 : pd_G xs Ls d pd_m24 (179, L, st, S) o ↔ pd_K xs Ls d pd_m24 (mm_lA L 0 fun v => mm_go 180 L (v :: st) S) o := pd_Gs (i := .aload_n 0) (n := 1) rfl
theorem p24_180 : pd_G xs Ls d pd_m24 (180, L, st, S) o ↔ pd_K xs Ls d pd_m24 (mm_getf pd_ck 180 L st S 2 2) o := pd_Gs (i := .getfield 16) (n := 3) rfl
theorem p24_183 : pd_G xs Ls d pd_m24 (183, L, st, S) o ↔ pd_K xs Ls d pd_m24 (mm_go 185 L (.int 23 :: st) S) o := pd_Gs (i := .bipush 23) (n := 2) rfl
theorem p24_185 : pd_G xs Ls d pd_m24 (185, L, st, S) o ↔ pd_K xs Ls d pd_m24 (mm_lA L 0 fun v => mm_go 186 L (v :: st) S) o := pd_Gs (i := .aload_n 0) (n := 1) rfl
theorem p24_186 : pd_G xs Ls d pd_m24 (186, L, st, S) o ↔ pd_K xs Ls d pd_m24 (mm_go 188 L (.int 51 :: st) S) o := pd_Gs (i := .bipush 51) (n := 2) rfl
theorem p24_188 : pd_G xs Ls d pd_m24 (188, L, st, S) o ↔ pd_K xs Ls d pd_m24 (mm_inv (mm_ev xs Ls pd_ck pd_ak pd_mj d) pd_m24 188 L st S 36 1 2) o := pd_Gs (i := .invokevirtual 88) (n := 3) rfl
theorem p24_191 : pd_G xs Ls d pd_m24 (191, L, st, S) o ↔ pd_K xs Ls d pd_m24 (mm_inv (mm_ev xs Ls pd_ck pd_ak pd_mj d) pd_m24 191 L st S 14 2 1) o := pd_Gs (i := .invokevirtual 43) (n := 3) rfl
theorem p24_194 : pd_G xs Ls d pd_m24 (194, L, st, S) o ↔ pd_K xs Ls d pd_m24 (mm_1 st fun v r => cond (mm_c2 v) none (mm_go 195 L r S)) o := pd_Gs (i := .pop) (n := 1) rfl
theorem p24_195 : pd_G xs Ls d pd_m24 (195, L, st, S) o ↔ pd_K xs Ls d pd_m24 (mm_go 220 L st S) o := pd_Gs (i := .goto 25) (n := 3) rfl
theorem p24_198 : pd_G xs Ls d pd_m24 (198, L, st, S) o ↔ pd_K xs Ls d pd_m24 (mm_lA L 0 fun v => mm_go 199 L (v :: st) S) o := pd_Gs (i := .aload_n 0) (n := 1) rfl
theorem p24_199 : pd_G xs Ls d pd_m24 (199, L, st, S) o ↔ pd_K xs Ls d pd_m24 (mm_go 201 L (.int 38 :: st) S) o := pd_Gs (i := .bipush 38) (n := 2) rfl
theorem p24_201 : pd_G xs Ls d pd_m24 (201, L, st, S) o ↔ pd_K xs Ls d pd_m24 (mm_inv (mm_ev xs Ls pd_ck pd_ak pd_mj d) pd_m24 201 L st S 29 1 2) o := pd_Gs (i := .invokevirtual 61) (n := 3) rfl
theorem p24_204 : pd_G xs Ls d pd_m24 (204, L, st, S) o ↔ pd_K xs Ls d pd_m24 (mm_i st fun x r => mm_icmp .eq x 0 (mm_go 215 L r S) (mm_go 207 L r S)) o := pd_Gs (i := .ifCond .eq 11) (n := 3) rfl
theorem p24_207 : pd_G xs Ls d pd_m24 (207, L, st, S) o ↔ pd_K xs Ls d pd_m24 (mm_lA L 0 fun v => mm_go 208 L (v :: st) S) o := pd_Gs (i := .aload_n 0) (n := 1) rfl
theorem p24_208 : pd_G xs Ls d pd_m24 (208, L, st, S) o ↔ pd_K xs Ls d pd_m24 (mm_lI L 1 fun x => mm_go 209 L (.int x :: st) S) o := pd_Gs (i := .iload_n 1) (n := 1) rfl
theorem p24_209 : pd_G xs Ls d pd_m24 (209, L, st, S) o ↔ pd_K xs Ls d pd_m24 (mm_inv (mm_ev xs Ls pd_ck pd_ak pd_mj d) pd_m24 209 L st S 46 1 2) o := pd_Gs (i := .invokevirtual 91) (n := 3) rfl
theorem p24_212 : pd_G xs Ls d pd_m24 (212, L, st, S) o ↔ pd_K xs Ls d pd_m24 (mm_go 220 L st S) o := pd_Gs (i := .goto 8) (n := 3) rfl
theorem p24_215 : pd_G xs Ls d pd_m24 (215, L, st, S) o ↔ pd_K xs Ls d pd_m24 (mm_lA L 0 fun v => mm_go 216 L (v :: st) S) o := pd_Gs (i := .aload_n 0) (n := 1) rfl
theorem p24_216 : pd_G xs Ls d pd_m24 (216, L, st, S) o ↔ pd_K xs Ls d pd_m24 (mm_go 217 L (.int 1 :: st) S) o := pd_Gs (i := .iconst 1) (n := 1) rfl
theorem p24_217 : pd_G xs Ls d pd_m24 (217, L, st, S) o ↔ pd_K xs Ls d pd_m24 (mm_putf pd_ck 217 L st S 2 4) o := pd_Gs (i := .putfield 30) (n := 3) rfl
theorem p24_220 : pd_G xs Ls d pd_m24 (220, L, st, S) o ↔ pd_K xs Ls d pd_m24 (mm_rV S st) o := pd_Gs (i := .return_) (n := 1) rfl
theorem p25_0 : pd_G xs Ls d pd_m25 (0, L, st, S) o ↔ pd_K xs Ls d pd_m25 (mm_lA L 0 fun v => mm_go 1 L (v :: st) S) o := pd_Gs (i := .aload_n 0) (n := 1) rfl
theorem p25_1 : pd_G xs Ls d pd_m25 (1, L, st, S) o ↔ pd_K xs Ls d pd_m25 (mm_getf pd_ck 1 L st S 2 4) o := pd_Gs (i := .getfield 30) (n := 3) rfl
theorem p25_4 : pd_G xs Ls d pd_m25 (4, L, st, S) o ↔ pd_K xs Ls d pd_m25 (mm_i st fun x r => mm_icmp .ne x 0 (mm_go 30 L r S) (mm_go 7 L r S)) o := pd_Gs (i := .ifCond .ne 26) (n := 3) rfl
theorem p25_7 : pd_G xs Ls d pd_m25 (7, L, st, S) o ↔ pd_K xs Ls d pd_m25 (mm_lA L 0 fun v => mm_go 8 L (v :: st) S) o := pd_Gs (i := .aload_n 0) (n := 1) rfl
theorem p25_8 : pd_G xs Ls d pd_m25 (8, L, st, S) o ↔ pd_K xs Ls d pd_m25 (mm_getf pd_ck 8 L st S 2 3) o := pd_Gs (i := .getfield 27) (n := 3) rfl
theorem p25_11 : pd_G xs Ls d pd_m25 (11, L, st, S) o ↔ pd_K xs Ls d pd_m25 (mm_lA L 0 fun v => mm_go 12 L (v :: st) S) o := pd_Gs (i := .aload_n 0) (n := 1) rfl
theorem p25_12 : pd_G xs Ls d pd_m25 (12, L, st, S) o ↔ pd_K xs Ls d pd_m25 (mm_getf pd_ck 12 L st S 2 1) o := pd_Gs (i := .getfield 20) (n := 3) rfl
theorem p25_15 : pd_G xs Ls d pd_m25 (15, L, st, S) o ↔ pd_K xs Ls d pd_m25 (mm_ii st fun x y r => mm_icmp .ge x y (mm_go 30 L r S) (mm_go 18 L r S)) o := pd_Gs (i := .if_icmp .ge 15) (n := 3) rfl
theorem p25_18 : pd_G xs Ls d pd_m25 (18, L, st, S) o ↔ pd_K xs Ls d pd_m25 (mm_lA L 0 fun v => mm_go 19 L (v :: st) S) o := pd_Gs (i := .aload_n 0) (n := 1) rfl
theorem p25_19 : pd_G xs Ls d pd_m25 (19, L, st, S) o ↔ pd_K xs Ls d pd_m25 (mm_getf pd_ck 19 L st S 2 0) o := pd_Gs (i := .getfield 9) (n := 3) rfl
theorem p25_22 : pd_G xs Ls d pd_m25 (22, L, st, S) o ↔ pd_K xs Ls d pd_m25 (mm_lA L 0 fun v => mm_go 23 L (v :: st) S) o := pd_Gs (i := .aload_n 0) (n := 1) rfl
theorem p25_23 : pd_G xs Ls d pd_m25 (23, L, st, S) o ↔ pd_K xs Ls d pd_m25 (mm_getf pd_ck 23 L st S 2 3) o := pd_Gs (i := .getfield 27) (n := 3) rfl
theorem p25_26 : pd_G xs Ls d pd_m25 (26, L, st, S) o ↔ pd_K xs Ls d pd_m25 (mm_ai pd_ak S st 1 fun i a r => mm_go 27 L (.int (S.2.1.1 a i.toNatClampNeg) :: r) S) o := pd_Gs (i := .caload) (n := 1) rfl
theorem p25_27 : pd_G xs Ls d pd_m25 (27, L, st, S) o ↔ pd_K xs Ls d pd_m25 (mm_go 31 L st S) o := pd_Gs (i := .goto 4) (n := 3) rfl
theorem p25_30 : pd_G xs Ls d pd_m25 (30, L, st, S) o ↔ pd_K xs Ls d pd_m25 (mm_go 31 L (.int 0 :: st) S) o := pd_Gs (i := .iconst 0) (n := 1) rfl
theorem p25_31 : pd_G xs Ls d pd_m25 (31, L, st, S) o ↔ pd_K xs Ls d pd_m25 (mm_e1 S st) o := pd_Gs (i := .ireturn) (n := 1) rfl
theorem p26_0 : pd_G xs Ls d pd_m26 (0, L, st, S) o ↔ pd_K xs Ls d pd_m26 (mm_lI L 0 fun x => mm_go 1 L (.int x :: st) S) o := pd_Gs (i := .iload_n 0) (n := 1) rfl
theorem p26_1 : pd_G xs Ls d pd_m26 (1, L, st, S) o ↔ pd_K xs Ls d pd_m26 (mm_go 3 L (.int 97 :: st) S) o := pd_Gs (i := .bipush 97) (n := 2) rfl
theorem p26_3 : pd_G xs Ls d pd_m26 (3, L, st, S) o ↔ pd_K xs Ls d pd_m26 (mm_ii st fun x y r => mm_icmp .lt x y (mm_go 17 L r S) (mm_go 6 L r S)) o := pd_Gs (i := .if_icmp .lt 14) (n := 3) rfl
theorem p26_6 : pd_G xs Ls d pd_m26 (6, L, st, S) o ↔ pd_K xs Ls d pd_m26 (mm_lI L 0 fun x => mm_go 7 L (.int x :: st) S) o := pd_Gs (i := .iload_n 0) (n := 1) rfl
theorem p26_7 : pd_G xs Ls d pd_m26 (7, L, st, S) o ↔ pd_K xs Ls d pd_m26 (mm_go 9 L (.int 100 :: st) S) o := pd_Gs (i := .bipush 100) (n := 2) rfl
theorem p26_9 : pd_G xs Ls d pd_m26 (9, L, st, S) o ↔ pd_K xs Ls d pd_m26 (mm_ii st fun x y r => mm_icmp .gt x y (mm_go 17 L r S) (mm_go 12 L r S)) o := pd_Gs (i := .if_icmp .gt 8) (n := 3) rfl
theorem p26_12 : pd_G xs Ls d pd_m26 (12, L, st, S) o ↔ pd_K xs Ls d pd_m26 (mm_lI L 0 fun x => mm_go 13 L (.int x :: st) S) o := pd_Gs (i := .iload_n 0) (n := 1) rfl
theorem p26_13 : pd_G xs Ls d pd_m26 (13, L, st, S) o ↔ pd_K xs Ls d pd_m26 (mm_go 15 L (.int 97 :: st) S) o := pd_Gs (i := .bipush 97) (n := 2) rfl
theorem p26_15 : pd_G xs Ls d pd_m26 (15, L, st, S) o ↔ pd_K xs Ls d pd_m26 (mm_ii st fun x y r => mm_go 16 L (.int (x - y) :: r) S) o := pd_Gs (i := .isub) (n := 1) rfl
theorem p26_16 : pd_G xs Ls d pd_m26 (16, L, st, S) o ↔ pd_K xs Ls d pd_m26 (mm_e0 S st) o := pd_Gs (i := .ireturn) (n := 1) rfl
theorem p26_17 : pd_G xs Ls d pd_m26 (17, L, st, S) o ↔ pd_K xs Ls d pd_m26 (mm_lI L 0 fun x => mm_go 18 L (.int x :: st) S) o := pd_Gs (i := .iload_n 0) (n := 1) rfl
theorem p26_18 : pd_G xs Ls d pd_m26 (18, L, st, S) o ↔ pd_K xs Ls d pd_m26 (mm_go 20 L (.int 114 :: st) S) o := pd_Gs (i := .bipush 114) (n := 2) rfl
theorem p26_20 : pd_G xs Ls d pd_m26 (20, L, st, S) o ↔ pd_K xs Ls d pd_m26 (mm_ii st fun x y r => mm_icmp .lt x y (mm_go 36 L r S) (mm_go 23 L r S)) o := pd_Gs (i := .if_icmp .lt 16) (n := 3) rfl
theorem p26_23 : pd_G xs Ls d pd_m26 (23, L, st, S) o ↔ pd_K xs Ls d pd_m26 (mm_lI L 0 fun x => mm_go 24 L (.int x :: st) S) o := pd_Gs (i := .iload_n 0) (n := 1) rfl
theorem p26_24 : pd_G xs Ls d pd_m26 (24, L, st, S) o ↔ pd_K xs Ls d pd_m26 (mm_go 26 L (.int 116 :: st) S) o := pd_Gs (i := .bipush 116) (n := 2) rfl
theorem p26_26 : pd_G xs Ls d pd_m26 (26, L, st, S) o ↔ pd_K xs Ls d pd_m26 (mm_ii st fun x y r => mm_icmp .gt x y (mm_go 36 L r S) (mm_go 29 L r S)) o := pd_Gs (i := .if_icmp .gt 10) (n := 3) rfl
theorem p26_29 : pd_G xs Ls d pd_m26 (29, L, st, S) o ↔ pd_K xs Ls d pd_m26 (mm_lI L 0 fun x => mm_go 30 L (.int x :: st) S) o := pd_Gs (i := .iload_n 0) (n := 1) rfl
theorem p26_30 : pd_G xs Ls d pd_m26 (30, L, st, S) o ↔ pd_K xs Ls d pd_m26 (mm_go 32 L (.int 114 :: st) S) o := pd_Gs (i := .bipush 114) (n := 2) rfl
theorem p26_32 : pd_G xs Ls d pd_m26 (32, L, st, S) o ↔ pd_K xs Ls d pd_m26 (mm_ii st fun x y r => mm_go 33 L (.int (x - y) :: r) S) o := pd_Gs (i := .isub) (n := 1) rfl
theorem p26_33 : pd_G xs Ls d pd_m26 (33, L, st, S) o ↔ pd_K xs Ls d pd_m26 (mm_go 34 L (.int 4 :: st) S) o := pd_Gs (i := .iconst 4) (n := 1) rfl
theorem p26_34 : pd_G xs Ls d pd_m26 (34, L, st, S) o ↔ pd_K xs Ls d pd_m26 (mm_ii st fun x y r => mm_go 35 L (.int (x + y) :: r) S) o := pd_Gs (i := .iadd) (n := 1) rfl
theorem p26_35 : pd_G xs Ls d pd_m26 (35, L, st, S) o ↔ pd_K xs Ls d pd_m26 (mm_e0 S st) o := pd_Gs (i := .ireturn) (n := 1) rfl
theorem p26_36 : pd_G xs Ls d pd_m26 (36, L, st, S) o ↔ pd_K xs Ls d pd_m26 (mm_go 37 L (.int (-1) :: st) S) o := pd_Gs (i := .iconst (-1)) (n := 1) rfl
theorem p26_37 : pd_G xs Ls d pd_m26 (37, L, st, S) o ↔ pd_K xs Ls d pd_m26 (mm_e0 S st) o := pd_Gs (i := .ireturn) (n := 1) rfl
theorem p27_0 : pd_G xs Ls d pd_m27 (0, L, st, S) o ↔ pd_K xs Ls d pd_m27 (mm_lA L 0 fun v => mm_go 1 L (v :: st) S) o := pd_Gs (i := .aload_n 0) (n := 1) rfl
theorem p27_1 : pd_G xs Ls d pd_m27 (1, L, st, S) o ↔ pd_K xs Ls d pd_m27 (mm_1 st fun v r => cond (mm_c2 v) none (mm_go 2 L (v :: v :: r) S)) o := pd_Gs (i := .dup) (n := 1) rfl
theorem p27_2 : pd_G xs Ls d pd_m27 (2, L, st, S) o ↔ pd_K xs Ls d pd_m27 (mm_getf pd_ck 2 L st S 2 3) o := pd_Gs (i := .getfield 27) (n := 3) rfl
theorem p27_5 : pd_G xs Ls d pd_m27 (5, L, st, S) o ↔ pd_K xs Ls d pd_m27 (mm_go 6 L (.int 1 :: st) S) o := pd_Gs (i := .iconst 1) (n := 1) rfl
theorem p27_6 : pd_G xs Ls d pd_m27 (6, L, st, S) o ↔ pd_K xs Ls d pd_m27 (mm_ii st fun x y r => mm_go 7 L (.int (x + y) :: r) S) o := pd_Gs (i := .iadd) (n := 1) rfl
theorem p27_7 : pd_G xs Ls d pd_m27 (7, L, st, S) o ↔ pd_K xs Ls d pd_m27 (mm_putf pd_ck 7 L st S 2 3) o := pd_Gs (i := .putfield 27) (n := 3) rfl
theorem p27_10 : pd_G xs Ls d pd_m27 (10, L, st, S) o ↔ pd_K xs Ls d pd_m27 (mm_lA L 0 fun v => mm_go 11 L (v :: st) S) o := pd_Gs (i := .aload_n 0) (n := 1) rfl
theorem p27_11 : pd_G xs Ls d pd_m27 (11, L, st, S) o ↔ pd_K xs Ls d pd_m27 (mm_go 13 L (.int 61 :: st) S) o := pd_Gs (i := .bipush 61) (n := 2) rfl
theorem p27_13 : pd_G xs Ls d pd_m27 (13, L, st, S) o ↔ pd_K xs Ls d pd_m27 (mm_inv (mm_ev xs Ls pd_ck pd_ak pd_mj d) pd_m27 13 L st S 28 1 2) o := pd_Gs (i := .invokevirtual 54) (n := 3) rfl
theorem p27_16 : pd_G xs Ls d pd_m27 (16, L, st, S) o ↔ pd_K xs Ls d pd_m27 (mm_i st fun x r => mm_icmp .ne x 0 (mm_go 20 L r S) (mm_go 19 L r S)) o := pd_Gs (i := .ifCond .ne 4) (n := 3) rfl
theorem p27_19 : pd_G xs Ls d pd_m27 (19, L, st, S) o ↔ pd_K xs Ls d pd_m27 (mm_rV S st) o := pd_Gs (i := .return_) (n := 1) rfl
theorem p27_20 : pd_G xs Ls d pd_m27 (20, L, st, S) o ↔ pd_K xs Ls d pd_m27 (mm_lA L 0 fun v => mm_go 21 L (v :: st) S) o := pd_Gs (i := .aload_n 0) (n := 1) rfl
theorem p27_21 : pd_G xs Ls d pd_m27 (21, L, st, S) o ↔ pd_K xs Ls d pd_m27 (mm_lI L 2 fun x => mm_go 22 L (.int x :: st) S) o := pd_Gs (i := .iload_n 2) (n := 1) rfl
theorem p27_22 : pd_G xs Ls d pd_m27 (22, L, st, S) o ↔ pd_K xs Ls d pd_m27 (mm_inv (mm_ev xs Ls pd_ck pd_ak pd_mj d) pd_m27 22 L st S 30 1 2) o := pd_Gs (i := .invokevirtual 84) (n := 3) rfl
theorem p27_25 : pd_G xs Ls d pd_m27 (25, L, st, S) o ↔ pd_K xs Ls d pd_m27 (mm_i st fun x r => mm_go 26 (mm_sto L 0 3 (.int x)) r S) o := pd_Gs (i := .istore_n 3) (n := 1) rfl
theorem p27_26 : pd_G xs Ls d pd_m27 (26, L, st, S) o ↔ pd_K xs Ls d pd_m27 (mm_lI L 1 fun x => mm_go 27 L (.int x :: st) S) o := pd_Gs (i := .iload_n 1) (n := 1) rfl
theorem p27_27 : pd_G xs Ls d pd_m27 (27, L, st, S) o ↔ pd_K xs Ls d pd_m27 (mm_invS (mm_ev xs Ls pd_ck pd_ak pd_mj d) pd_m27 27 L st S 67 1) o := pd_Gs (i := .invokestatic 94) (n := 3) rfl
theorem p27_30 : pd_G xs Ls d pd_m27 (30, L, st, S) o ↔ pd_K xs Ls d pd_m27 (mm_i st fun x r => mm_icmp .ne x 0 (mm_go 38 L r S) (mm_go 33 L r S)) o := pd_Gs (i := .ifCond .ne 8) (n := 3) rfl
theorem p27_33 : pd_G xs Ls d pd_m27 (33, L, st, S) o ↔ pd_K xs Ls d pd_m27 (mm_lA L 0 fun v => mm_go 34 L (v :: st) S) o := pd_Gs (i := .aload_n 0) (n := 1) rfl
theorem p27_34 : pd_G xs Ls d pd_m27 (34, L, st, S) o ↔ pd_K xs Ls d pd_m27 (mm_lI L 3 fun x => mm_go 35 L (.int x :: st) S) o := pd_Gs (i := .iload_n 3) (n := 1) rfl
theorem p27_35 : pd_G xs Ls d pd_m27 (35, L, st, S) o ↔ pd_K xs Ls d pd_m27 (mm_inv (mm_ev xs Ls pd_ck pd_ak pd_mj d) pd_m27 35 L st S 39 1 2) o := pd_Gs (i := .invokevirtual 99) (n := 3) rfl
theorem p27_38 : pd_G xs Ls d pd_m27 (38, L, st, S) o ↔ pd_K xs Ls d pd_m27 (mm_lA L 0 fun v => mm_go 39 L (v :: st) S) o := pd_Gs (i := .aload_n 0) (n := 1) rfl
theorem p27_39 : pd_G xs Ls d pd_m27 (39, L, st, S) o ↔ pd_K xs Ls d pd_m27 (mm_getf pd_ck 39 L st S 2 2) o := pd_Gs (i := .getfield 16) (n := 3) rfl
theorem p27_42 : pd_G xs Ls d pd_m27 (42, L, st, S) o ↔ pd_K xs Ls d pd_m27 (mm_go 44 L (.int 17 :: st) S) o := pd_Gs (i := .bipush 17) (n := 2) rfl
theorem p27_44 : pd_G xs Ls d pd_m27 (44, L, st, S) o ↔ pd_K xs Ls d pd_m27 (mm_lI L 1 fun x => mm_go 45 L (.int x :: st) S) o := pd_Gs (i := .iload_n 1) (n := 1) rfl
theorem p27_45 : pd_G xs Ls d pd_m27 (45, L, st, S) o ↔ pd_K xs Ls d pd_m27 (mm_inv (mm_ev xs Ls pd_ck pd_ak pd_mj d) pd_m27 45 L st S 14 2 1) o := pd_Gs (i := .invokevirtual 43) (n := 3) rfl
theorem p27_48 : pd_G xs Ls d pd_m27 (48, L, st, S) o ↔ pd_K xs Ls d pd_m27 (mm_1 st fun v r => cond (mm_c2 v) none (mm_go 49 L r S)) o := pd_Gs (i := .pop) (n := 1) rfl
theorem p27_49 : pd_G xs Ls d pd_m27 (49, L, st, S) o ↔ pd_K xs Ls d pd_m27 (mm_rV S st) o := pd_Gs (i := .return_) (n := 1) rfl
theorem p28_0 : pd_G xs Ls d pd_m28 (0, L, st, S) o ↔ pd_K xs Ls d pd_m28 (mm_lA L 0 fun v => mm_go 1 L (v :: st) S) o := pd_Gs (i := .aload_n 0) (n := 1) rfl
theorem p28_1 : pd_G xs Ls d pd_m28 (1, L, st, S) o ↔ pd_K xs Ls d pd_m28 (mm_inv (mm_ev xs Ls pd_ck pd_ak pd_mj d) pd_m28 1 L st S 25 0 2) o := pd_Gs (i := .invokevirtual 50) (n := 3) rfl
theorem p28_4 : pd_G xs Ls d pd_m28 (4, L, st, S) o ↔ pd_K xs Ls d pd_m28 (mm_lI L 1 fun x => mm_go 5 L (.int x :: st) S) o := pd_Gs (i := .iload_n 1) (n := 1) rfl
theorem p28_5 : pd_G xs Ls d pd_m28 (5, L, st, S) o ↔ pd_K xs Ls d pd_m28 (mm_ii st fun x y r => mm_icmp .eq x y (mm_go 15 L r S) (mm_go 8 L r S)) o := pd_Gs (i := .if_icmp .eq 10) (n := 3) rfl
theorem p28_8 : pd_G xs Ls d pd_m28 (8, L, st, S) o ↔ pd_K xs Ls d pd_m28 (mm_lA L 0 fun v => mm_go 9 L (v :: st) S) o := pd_Gs (i := .aload_n 0) (n := 1) rfl
theorem p28_9 : pd_G xs Ls d pd_m28 (9, L, st, S) o ↔ pd_K xs Ls d pd_m28 (mm_go 10 L (.int 1 :: st) S) o := pd_Gs (i := .iconst 1) (n := 1) rfl
theorem p28_10 : pd_G xs Ls d pd_m28 (10, L, st, S) o ↔ pd_K xs Ls d pd_m28 (mm_putf pd_ck 10 L st S 2 4) o := pd_Gs (i := .putfield 30) (n := 3) rfl
theorem p28_13 : pd_G xs Ls d pd_m28 (13, L, st, S) o ↔ pd_K xs Ls d pd_m28 (mm_go 14 L (.int 0 :: st) S) o := pd_Gs (i := .iconst 0) (n := 1) rfl
theorem p28_14 : pd_G xs Ls d pd_m28 (14, L, st, S) o ↔ pd_K xs Ls d pd_m28 (mm_e4 S st) o := pd_Gs (i := .ireturn) (n := 1) rfl
theorem p28_15 : pd_G xs Ls d pd_m28 (15, L, st, S) o ↔ pd_K xs Ls d pd_m28 (mm_lA L 0 fun v => mm_go 16 L (v :: st) S) o := pd_Gs (i := .aload_n 0) (n := 1) rfl
theorem p28_16 : pd_G xs Ls d pd_m28 (16, L, st, S) o ↔ pd_K xs Ls d pd_m28 (mm_1 st fun v r => cond (mm_c2 v) none (mm_go 17 L (v :: v :: r) S)) o := pd_Gs (i := .dup) (n := 1) rfl
theorem p28_17 : pd_G xs Ls d pd_m28 (17, L, st, S) o ↔ pd_K xs Ls d pd_m28 (mm_getf pd_ck 17 L st S 2 3) o := pd_Gs (i := .getfield 27) (n := 3) rfl
theorem p28_20 : pd_G xs Ls d pd_m28 (20, L, st, S) o ↔ pd_K xs Ls d pd_m28 (mm_go 21 L (.int 1 :: st) S) o := pd_Gs (i := .iconst 1) (n := 1) rfl
theorem p28_21 : pd_G xs Ls d pd_m28 (21, L, st, S) o ↔ pd_K xs Ls d pd_m28 (mm_ii st fun x y r => mm_go 22 L (.int (x + y) :: r) S) o := pd_Gs (i := .iadd) (n := 1) rfl
theorem p28_22 : pd_G xs Ls d pd_m28 (22, L, st, S) o ↔ pd_K xs Ls d pd_m28 (mm_putf pd_ck 22 L st S 2 3) o := pd_Gs (i := .putfield 27) (n := 3) rfl
theorem p28_25 : pd_G xs Ls d pd_m28 (25, L, st, S) o ↔ pd_K xs Ls d pd_m28 (mm_go 26 L (.int 1 :: st) S) o := pd_Gs (i := .iconst 1) (n := 1) rfl
theorem p28_26 : pd_G xs Ls d pd_m28 (26, L, st, S) o ↔ pd_K xs Ls d pd_m28 (mm_e4 S st) o := pd_Gs (i := .ireturn) (n := 1) rfl
theorem p29_0 : pd_G xs Ls d pd_m29 (0, L, st, S) o ↔ pd_K xs Ls d pd_m29 (mm_lA L 0 fun v => mm_go 1 L (v :: st) S) o := pd_Gs (i := .aload_n 0) (n := 1) rfl
theorem p29_1 : pd_G xs Ls d pd_m29 (1, L, st, S) o ↔ pd_K xs Ls d pd_m29 (mm_inv (mm_ev xs Ls pd_ck pd_ak pd_mj d) pd_m29 1 L st S 25 0 2) o := pd_Gs (i := .invokevirtual 50) (n := 3) rfl
theorem p29_4 : pd_G xs Ls d pd_m29 (4, L, st, S) o ↔ pd_K xs Ls d pd_m29 (mm_lI L 1 fun x => mm_go 5 L (.int x :: st) S) o := pd_Gs (i := .iload_n 1) (n := 1) rfl
theorem p29_5 : pd_G xs Ls d pd_m29 (5, L, st, S) o ↔ pd_K xs Ls d pd_m29 (mm_ii st fun x y r => mm_icmp .eq x y (mm_go 10 L r S) (mm_go 8 L r S)) o := pd_Gs (i := .if_icmp .eq 5) (n := 3) rfl
theorem p29_8 : pd_G xs Ls d pd_m29 (8, L, st, S) o ↔ pd_K xs Ls d pd_m29 (mm_go 9 L (.int 0 :: st) S) o := pd_Gs (i := .iconst 0) (n := 1) rfl
theorem p29_9 : pd_G xs Ls d pd_m29 (9, L, st, S) o ↔ pd_K xs Ls d pd_m29 (mm_e4 S st) o := pd_Gs (i := .ireturn) (n := 1) rfl
theorem p29_10 : pd_G xs Ls d pd_m29 (10, L, st, S) o ↔ pd_K xs Ls d pd_m29 (mm_lA L 0 fun v => mm_go 11 L (v :: st) S) o := pd_Gs (i := .aload_n 0) (n := 1) rfl
theorem p29_11 : pd_G xs Ls d pd_m29 (11, L, st, S) o ↔ pd_K xs Ls d pd_m29 (mm_1 st fun v r => cond (mm_c2 v) none (mm_go 12 L (v :: v :: r) S)) o := pd_Gs (i := .dup) (n := 1) rfl
theorem p29_12 : pd_G xs Ls d pd_m29 (12, L, st, S) o ↔ pd_K xs Ls d pd_m29 (mm_getf pd_ck 12 L st S 2 3) o := pd_Gs (i := .getfield 27) (n := 3) rfl
theorem p29_15 : pd_G xs Ls d pd_m29 (15, L, st, S) o ↔ pd_K xs Ls d pd_m29 (mm_go 16 L (.int 1 :: st) S) o := pd_Gs (i := .iconst 1) (n := 1) rfl
theorem p29_16 : pd_G xs Ls d pd_m29 (16, L, st, S) o ↔ pd_K xs Ls d pd_m29 (mm_ii st fun x y r => mm_go 17 L (.int (x + y) :: r) S) o := pd_Gs (i := .iadd) (n := 1) rfl
theorem p29_17 : pd_G xs Ls d pd_m29 (17, L, st, S) o ↔ pd_K xs Ls d pd_m29 (mm_putf pd_ck 17 L st S 2 3) o := pd_Gs (i := .putfield 27) (n := 3) rfl
theorem p29_20 : pd_G xs Ls d pd_m29 (20, L, st, S) o ↔ pd_K xs Ls d pd_m29 (mm_go 21 L (.int 1 :: st) S) o := pd_Gs (i := .iconst 1) (n := 1) rfl
theorem p29_21 : pd_G xs Ls d pd_m29 (21, L, st, S) o ↔ pd_K xs Ls d pd_m29 (mm_e4 S st) o := pd_Gs (i := .ireturn) (n := 1) rfl
theorem p30_0 : pd_G xs Ls d pd_m30 (0, L, st, S) o ↔ pd_K xs Ls d pd_m30 (mm_lA L 0 fun v => mm_go 1 L (v :: st) S) o := pd_Gs (i := .aload_n 0) (n := 1) rfl
theorem p30_1 : pd_G xs Ls d pd_m30 (1, L, st, S) o ↔ pd_K xs Ls d pd_m30 (mm_lI L 1 fun x => mm_go 2 L (.int x :: st) S) o := pd_Gs (i := .iload_n 1) (n := 1) rfl
theorem p30_2 : pd_G xs Ls d pd_m30 (2, L, st, S) o ↔ pd_K xs Ls d pd_m30 (mm_inv (mm_ev xs Ls pd_ck pd_ak pd_mj d) pd_m30 2 L st S 31 1 2) o := pd_Gs (i := .invokevirtual 120) (n := 3) rfl
theorem p30_5 : pd_G xs Ls d pd_m30 (5, L, st, S) o ↔ pd_K xs Ls d pd_m30 (mm_i st fun x r => mm_go 6 (mm_sto L 0 2 (.int x)) r S) o := pd_Gs (i := .istore_n 2) (n := 1) rfl
theorem p30_6 : pd_G xs Ls d pd_m30 (6, L, st, S) o ↔ pd_K xs Ls d pd_m30 (mm_lA L 0 fun v => mm_go 7 L (v :: st) S) o := pd_Gs (i := .aload_n 0) (n := 1) rfl
theorem p30_7 : pd_G xs Ls d pd_m30 (7, L, st, S) o ↔ pd_K xs Ls d pd_m30 (mm_go 9 L (.int 60 :: st) S) o := pd_Gs (i := .bipush 60) (n := 2) rfl
theorem p30_9 : pd_G xs Ls d pd_m30 (9, L, st, S) o ↔ pd_K xs Ls d pd_m30 (mm_inv (mm_ev xs Ls pd_ck pd_ak pd_mj d) pd_m30 9 L st S 29 1 2) o := pd_Gs (i := .invokevirtual 61) (n := 3) rfl
theorem p30_12 : pd_G xs Ls d pd_m30 (12, L, st, S) o ↔ pd_K xs Ls d pd_m30 (mm_i st fun x r => mm_icmp .eq x 0 (mm_go 34 L r S) (mm_go 15 L r S)) o := pd_Gs (i := .ifCond .eq 22) (n := 3) rfl
theorem p30_15 : pd_G xs Ls d pd_m30 (15, L, st, S) o ↔ pd_K xs Ls d pd_m30 (mm_lA L 0 fun v => mm_go 16 L (v :: st) S) o := pd_Gs (i := .aload_n 0) (n := 1) rfl
theorem p30_16 : pd_G xs Ls d pd_m30 (16, L, st, S) o ↔ pd_K xs Ls d pd_m30 (mm_lI L 1 fun x => mm_go 17 L (.int x :: st) S) o := pd_Gs (i := .iload_n 1) (n := 1) rfl
theorem p30_17 : pd_G xs Ls d pd_m30 (17, L, st, S) o ↔ pd_K xs Ls d pd_m30 (mm_inv (mm_ev xs Ls pd_ck pd_ak pd_mj d) pd_m30 17 L st S 31 1 2) o := pd_Gs (i := .invokevirtual 120) (n := 3) rfl
theorem p30_20 : pd_G xs Ls d pd_m30 (20, L, st, S) o ↔ pd_K xs Ls d pd_m30 (mm_1 st fun v r => cond (mm_c2 v) none (mm_go 21 L r S)) o := pd_Gs (i := .pop) (n := 1) rfl
theorem p30_21 : pd_G xs Ls d pd_m30 (21, L, st, S) o ↔ pd_K xs Ls d pd_m30 (mm_lA L 0 fun v => mm_go 22 L (v :: st) S) o := pd_Gs (i := .aload_n 0) (n := 1) rfl
theorem p30_22 : pd_G xs Ls d pd_m30 (22, L, st, S) o ↔ pd_K xs Ls d pd_m30 (mm_getf pd_ck 22 L st S 2 2) o := pd_Gs (i := .getfield 16) (n := 3) rfl
theorem p30_25 : pd_G xs Ls d pd_m30 (25, L, st, S) o ↔ pd_K xs Ls d pd_m30 (mm_go 27 L (.int 15 :: st) S) o := pd_Gs (i := .bipush 15) (n := 2) rfl
theorem p30_27 : pd_G xs Ls d pd_m30 (27, L, st, S) o ↔ pd_K xs Ls d pd_m30 (mm_go 28 L (.int 0 :: st) S) o := pd_Gs (i := .iconst 0) (n := 1) rfl
theorem p30_28 : pd_G xs Ls d pd_m30 (28, L, st, S) o ↔ pd_K xs Ls d pd_m30 (mm_inv (mm_ev xs Ls pd_ck pd_ak pd_mj d) pd_m30 28 L st S 14 2 1) o := pd_Gs (i := .invokevirtual 43) (n := 3) rfl
theorem p30_31 : pd_G xs Ls d pd_m30 (31, L, st, S) o ↔ pd_K xs Ls d pd_m30 (mm_1 st fun v r => cond (mm_c2 v) none (mm_go 32 L r S)) o := pd_Gs (i := .pop) (n := 1) rfl
theorem p30_32 : pd_G xs Ls d pd_m30 (32, L, st, S) o ↔ pd_K xs Ls d pd_m30 (mm_go 33 L (.int 0 :: st) S) o := pd_Gs (i := .iconst 0) (n := 1) rfl
theorem p30_33 : pd_G xs Ls d pd_m30 (33, L, st, S) o ↔ pd_K xs Ls d pd_m30 (mm_e4 S st) o := pd_Gs (i := .ireturn) (n := 1) rfl
theorem p30_34 : pd_G xs Ls d pd_m30 (34, L, st, S) o ↔ pd_K xs Ls d pd_m30 (mm_lA L 0 fun v => mm_go 35 L (v :: st) S) o := pd_Gs (i := .aload_n 0) (n := 1) rfl
theorem p30_35 : pd_G xs Ls d pd_m30 (35, L, st, S) o ↔ pd_K xs Ls d pd_m30 (mm_go 37 L (.int 61 :: st) S) o := pd_Gs (i := .bipush 61) (n := 2) rfl
theorem p30_37 : pd_G xs Ls d pd_m30 (37, L, st, S) o ↔ pd_K xs Ls d pd_m30 (mm_inv (mm_ev xs Ls pd_ck pd_ak pd_mj d) pd_m30 37 L st S 29 1 2) o := pd_Gs (i := .invokevirtual 61) (n := 3) rfl
theorem p30_40 : pd_G xs Ls d pd_m30 (40, L, st, S) o ↔ pd_K xs Ls d pd_m30 (mm_i st fun x r => mm_icmp .eq x 0 (mm_go 62 L r S) (mm_go 43 L r S)) o := pd_Gs (i := .ifCond .eq 22) (n := 3) rfl
theorem p30_43 : pd_G xs Ls d pd_m30 (43, L, st, S) o ↔ pd_K xs Ls d pd_m30 (mm_lA L 0 fun v => mm_go 44 L (v :: st) S) o := pd_Gs (i := .aload_n 0) (n := 1) rfl
theorem p30_44 : pd_G xs Ls d pd_m30 (44, L, st, S) o ↔ pd_K xs Ls d pd_m30 (mm_lI L 1 fun x => mm_go 45 L (.int x :: st) S) o := pd_Gs (i := .iload_n 1) (n := 1) rfl
theorem p30_45 : pd_G xs Ls d pd_m30 (45, L, st, S) o ↔ pd_K xs Ls d pd_m30 (mm_inv (mm_ev xs Ls pd_ck pd_ak pd_mj d) pd_m30 45 L st S 31 1 2) o := pd_Gs (i := .invokevirtual 120) (n := 3) rfl
theorem p30_48 : pd_G xs Ls d pd_m30 (48, L, st, S) o ↔ pd_K xs Ls d pd_m30 (mm_1 st fun v r => cond (mm_c2 v) none (mm_go 49 L r S)) o := pd_Gs (i := .pop) (n := 1) rfl
theorem p30_49 : pd_G xs Ls d pd_m30 (49, L, st, S) o ↔ pd_K xs Ls d pd_m30 (mm_lA L 0 fun v => mm_go 50 L (v :: st) S) o := pd_Gs (i := .aload_n 0) (n := 1) rfl
theorem p30_50 : pd_G xs Ls d pd_m30 (50, L, st, S) o ↔ pd_K xs Ls d pd_m30 (mm_getf pd_ck 50 L st S 2 2) o := pd_Gs (i := .getfield 16) (n := 3) rfl
theorem p30_53 : pd_G xs Ls d pd_m30 (53, L, st, S) o ↔ pd_K xs Ls d pd_m30 (mm_go 55 L (.int 16 :: st) S) o := pd_Gs (i := .bipush 16) (n := 2) rfl
theorem p30_55 : pd_G xs Ls d pd_m30 (55, L, st, S) o ↔ pd_K xs Ls d pd_m30 (mm_go 56 L (.int 0 :: st) S) o := pd_Gs (i := .iconst 0) (n := 1) rfl
theorem p30_56 : pd_G xs Ls d pd_m30 (56, L, st, S) o ↔ pd_K xs Ls d pd_m30 (mm_inv (mm_ev xs Ls pd_ck pd_ak pd_mj d) pd_m30 56 L st S 14 2 1) o := pd_Gs (i := .invokevirtual 43) (n := 3) rfl
theorem p30_59 : pd_G xs Ls d pd_m30 (59, L, st, S) o ↔ pd_K xs Ls d pd_m30 (mm_1 st fun v r => cond (mm_c2 v) none (mm_go 60 L r S)) o := pd_Gs (i := .pop) (n := 1) rfl
theorem p30_60 : pd_G xs Ls d pd_m30 (60, L, st, S) o ↔ pd_K xs Ls d pd_m30 (mm_go 61 L (.int 0 :: st) S) o := pd_Gs (i := .iconst 0) (n := 1) rfl
theorem p30_61 : pd_G xs Ls d pd_m30 (61, L, st, S) o ↔ pd_K xs Ls d pd_m30 (mm_e4 S st) o := pd_Gs (i := .ireturn) (n := 1) rfl
theorem p30_62 : pd_G xs Ls d pd_m30 (62, L, st, S) o ↔ pd_K xs Ls d pd_m30 (mm_lI L 2 fun x => mm_go 63 L (.int x :: st) S) o := pd_Gs (i := .iload_n 2) (n := 1) rfl
theorem p30_63 : pd_G xs Ls d pd_m30 (63, L, st, S) o ↔ pd_K xs Ls d pd_m30 (mm_e4 S st) o := pd_Gs (i := .ireturn) (n := 1) rfl
theorem p31_0 : pd_G xs Ls d pd_m31 (0, L, st, S) o ↔ pd_K xs Ls d pd_m31 (mm_lA L 0 fun v => mm_go 1 L (v :: st) S) o := pd_Gs (i := .aload_n 0) (n := 1) rfl
theorem p31_1 : pd_G xs Ls d pd_m31 (1, L, st, S) o ↔ pd_K xs Ls d pd_m31 (mm_lI L 1 fun x => mm_go 2 L (.int x :: st) S) o := pd_Gs (i := .iload_n 1) (n := 1) rfl
theorem p31_2 : pd_G xs Ls d pd_m31 (2, L, st, S) o ↔ pd_K xs Ls d pd_m31 (mm_inv (mm_ev xs Ls pd_ck pd_ak pd_mj d) pd_m31 2 L st S 32 1 2) o := pd_Gs (i := .invokevirtual 123) (n := 3) rfl
theorem p31_5 : pd_G xs Ls d pd_m31 (5, L, st, S) o ↔ pd_K xs Ls d pd_m31 (mm_i st fun x r => mm_go 6 (mm_sto L 0 2 (.int x)) r S) o := pd_Gs (i := .istore_n 2) (n := 1) rfl
theorem p31_6 : pd_G xs Ls d pd_m31 (6, L, st, S) o ↔ pd_K xs Ls d pd_m31 (mm_go 7 L (.int 0 :: st) S) o := pd_Gs (i := .iconst 0) (n := 1) rfl
theorem p31_7 : pd_G xs Ls d pd_m31 (7, L, st, S) o ↔ pd_K xs Ls d pd_m31 (mm_i st fun x r => mm_go 8 (mm_sto L 0 3 (.int x)) r S) o := pd_Gs (i := .istore_n 3) (n := 1) rfl
theorem p31_8 : pd_G xs Ls d pd_m31 (8, L, st, S) o ↔ pd_K xs Ls d pd_m31 (mm_lI L 3 fun x => mm_go 9 L (.int x :: st) S) o := pd_Gs (i := .iload_n 3) (n := 1) rfl
theorem p31_9 : pd_G xs Ls d pd_m31 (9, L, st, S) o ↔ pd_K xs Ls d pd_m31 (mm_go 11 L (.int 48 :: st) S) o := pd_Gs (i := .bipush 48) (n := 2) rfl
theorem p31_11 : pd_G xs Ls d pd_m31 (11, L, st, S) o ↔ pd_K xs Ls d pd_m31 (mm_ii st fun x y r => mm_icmp .ge x y (mm_go 102 L r S) (mm_go 14 L r S)) o := pd_Gs (i := .if_icmp .ge 91) (n := 3) rfl
theorem p31_14 : pd_G xs Ls d pd_m31 (14, L, st, S) o ↔ pd_K xs Ls d pd_m31 (mm_lA L 0 fun v => mm_go 15 L (v :: st) S) o := pd_Gs (i := .aload_n 0) (n := 1) rfl
theorem p31_15 : pd_G xs Ls d pd_m31 (15, L, st, S) o ↔ pd_K xs Ls d pd_m31 (mm_go 17 L (.int 43 :: st) S) o := pd_Gs (i := .bipush 43) (n := 2) rfl
theorem p31_17 : pd_G xs Ls d pd_m31 (17, L, st, S) o ↔ pd_K xs Ls d pd_m31 (mm_inv (mm_ev xs Ls pd_ck pd_ak pd_mj d) pd_m31 17 L st S 29 1 2) o := pd_Gs (i := .invokevirtual 61) (n := 3) rfl
theorem p31_20 : pd_G xs Ls d pd_m31 (20, L, st, S) o ↔ pd_K xs Ls d pd_m31 (mm_i st fun x r => mm_icmp .eq x 0 (mm_go 54 L r S) (mm_go 23 L r S)) o := pd_Gs (i := .ifCond .eq 34) (n := 3) rfl
theorem p31_23 : pd_G xs Ls d pd_m31 (23, L, st, S) o ↔ pd_K xs Ls d pd_m31 (mm_lI L 2 fun x => mm_go 24 L (.int x :: st) S) o := pd_Gs (i := .iload_n 2) (n := 1) rfl
theorem p31_24 : pd_G xs Ls d pd_m31 (24, L, st, S) o ↔ pd_K xs Ls d pd_m31 (mm_lA L 0 fun v => mm_go 25 L (v :: st) S) o := pd_Gs (i := .aload_n 0) (n := 1) rfl
theorem p31_25 : pd_G xs Ls d pd_m31 (25, L, st, S) o ↔ pd_K xs Ls d pd_m31 (mm_lI L 1 fun x => mm_go 26 L (.int x :: st) S) o := pd_Gs (i := .iload_n 1) (n := 1) rfl
theorem p31_26 : pd_G xs Ls d pd_m31 (26, L, st, S) o ↔ pd_K xs Ls d pd_m31 (mm_inv (mm_ev xs Ls pd_ck pd_ak pd_mj d) pd_m31 26 L st S 32 1 2) o := pd_Gs (i := .invokevirtual 123) (n := 3) rfl
theorem p31_29 : pd_G xs Ls d pd_m31 (29, L, st, S) o ↔ pd_K xs Ls d pd_m31 (mm_ii st fun x y r => mm_go 30 L (.int (x ||| y) :: r) S) o := pd_Gs (i := .ior) (n := 1) rfl
theorem p31_30 : pd_G xs Ls d pd_m31 (30, L, st, S) o ↔ pd_K xs Ls d pd_m31 (mm_i st fun x r => mm_go 31 (mm_sto L 0 2 (.int x)) r S) o := pd_Gs (i := .istore_n 2) (n := 1) rfl
theorem p31_31 : pd_G xs Ls d pd_m31 (31, L, st, S) o ↔ pd_K xs Ls d pd_m31 (mm_lA L 0 fun v => mm_go 32 L (v :: st) S) o := pd_Gs (i := .aload_n 0) (n := 1) rfl
theorem p31_32 : pd_G xs Ls d pd_m31 (32, L, st, S) o ↔ pd_K xs Ls d pd_m31 (mm_getf pd_ck 32 L st S 2 2) o := pd_Gs (i := .getfield 16) (n := 3) rfl
theorem p31_35 : pd_G xs Ls d pd_m31 (35, L, st, S) o ↔ pd_K xs Ls d pd_m31 (mm_lI L 2 fun x => mm_go 36 L (.int x :: st) S) o := pd_Gs (i := .iload_n 2) (n := 1) rfl
theorem p31_36 : pd_G xs Ls d pd_m31 (36, L, st, S) o ↔ pd_K xs Ls d pd_m31 (mm_i st fun x r => mm_icmp .eq x 0 (mm_go 44 L r S) (mm_go 39 L r S)) o := pd_Gs (i := .ifCond .eq 8) (n := 3) rfl
theorem p31_39 : pd_G xs Ls d pd_m31 (39, L, st, S) o ↔ pd_K xs Ls d pd_m31 (mm_go 41 L (.int 10 :: st) S) o := pd_Gs (i := .bipush 10) (n := 2) rfl
theorem p31_41 : pd_G xs Ls d pd_m31 (41, L, st, S) o ↔ pd_K xs Ls d pd_m31 (mm_go 46 L st S) o := pd_Gs (i := .goto 5) (n := 3) rfl
theorem p31_44 : pd_G xs Ls d pd_m31 (44, L, st, S) o ↔ pd_K xs Ls d pd_m31 (mm_go 46 L (.int 7 :: st) S) o := pd_Gs (i := .bipush 7) (n := 2) rfl
theorem p31_46 : pd_G xs Ls d pd_m31 (46, L, st, S) o ↔ pd_K xs Ls d pd_m31 (mm_go 47 L (.int 0 :: st) S) o := pd_Gs (i := .iconst 0) (n := 1) rfl
theorem p31_47 : pd_G xs Ls d pd_m31 (47, L, st, S) o ↔ pd_K xs Ls d pd_m31 (mm_inv (mm_ev xs Ls pd_ck pd_ak pd_mj d) pd_m31 47 L st S 14 2 1) o := pd_Gs (i := .invokevirtual 43) (n := 3) rfl
theorem p31_50 : pd_G xs Ls d pd_m31 (50, L, st, S) o ↔ pd_K xs Ls d pd_m31 (mm_1 st fun v r => cond (mm_c2 v) none (mm_go 51 L r S)) o := pd_Gs (i := .pop) (n := 1) rfl
theorem p31_51 : pd_G xs Ls d pd_m31 (51, L, st, S) o ↔ pd_K xs Ls d pd_m31 (mm_go 96 L st S) o := pd_Gs (i := .goto 45) (n := 3) rfl
theorem p31_54 : pd_G xs Ls d pd_m31 (54, L, st, S) o ↔ pd_K xs Ls d pd_m31 (mm_lA L 0 fun v => mm_go 55 L (v :: st) S) o := pd_Gs (i := .aload_n 0) (n := 1) rfl
theorem p31_55 : pd_G xs Ls d pd_m31 (55, L, st, S) o ↔ pd_K xs Ls d pd_m31 (mm_go 57 L (.int 45 :: st) S) o := pd_Gs (i := .bipush 45) (n := 2) rfl
theorem p31_57 : pd_G xs Ls d pd_m31 (57, L, st, S) o ↔ pd_K xs Ls d pd_m31 (mm_inv (mm_ev xs Ls pd_ck pd_ak pd_mj d) pd_m31 57 L st S 29 1 2) o := pd_Gs (i := .invokevirtual 61) (n := 3) rfl
theorem p31_60 : pd_G xs Ls d pd_m31 (60, L, st, S) o ↔ pd_K xs Ls d pd_m31 (mm_i st fun x r => mm_icmp .eq x 0 (mm_go 94 L r S) (mm_go 63 L r S)) o := pd_Gs (i := .ifCond .eq 34) (n := 3) rfl
theorem p31_63 : pd_G xs Ls d pd_m31 (63, L, st, S) o ↔ pd_K xs Ls d pd_m31 (mm_lI L 2 fun x => mm_go 64 L (.int x :: st) S) o := pd_Gs (i := .iload_n 2) (n := 1) rfl
theorem p31_64 : pd_G xs Ls d pd_m31 (64, L, st, S) o ↔ pd_K xs Ls d pd_m31 (mm_lA L 0 fun v => mm_go 65 L (v :: st) S) o := pd_Gs (i := .aload_n 0) (n := 1) rfl
theorem p31_65 : pd_G xs Ls d pd_m31 (65, L, st, S) o ↔ pd_K xs Ls d pd_m31 (mm_lI L 1 fun x => mm_go 66 L (.int x :: st) S) o := pd_Gs (i := .iload_n 1) (n := 1) rfl
theorem p31_66 : pd_G xs Ls d pd_m31 (66, L, st, S) o ↔ pd_K xs Ls d pd_m31 (mm_inv (mm_ev xs Ls pd_ck pd_ak pd_mj d) pd_m31 66 L st S 32 1 2) o := pd_Gs (i := .invokevirtual 123) (n := 3) rfl
theorem p31_69 : pd_G xs Ls d pd_m31 (69, L, st, S) o ↔ pd_K xs Ls d pd_m31 (mm_ii st fun x y r => mm_go 70 L (.int (x ||| y) :: r) S) o := pd_Gs (i := .ior) (n := 1) rfl
theorem p31_70 : pd_G xs Ls d pd_m31 (70, L, st, S) o ↔ pd_K xs Ls d pd_m31 (mm_i st fun x r => mm_go 71 (mm_sto L 0 2 (.int x)) r S) o := pd_Gs (i := .istore_n 2) (n := 1) rfl
theorem p31_71 : pd_G xs Ls d pd_m31 (71, L, st, S) o ↔ pd_K xs Ls d pd_m31 (mm_lA L 0 fun v => mm_go 72 L (v :: st) S) o := pd_Gs (i := .aload_n 0) (n := 1) rfl
theorem p31_72 : pd_G xs Ls d pd_m31 (72, L, st, S) o ↔ pd_K xs Ls d pd_m31 (mm_getf pd_ck 72 L st S 2 2) o := pd_Gs (i := .getfield 16) (n := 3) rfl
theorem p31_75 : pd_G xs Ls d pd_m31 (75, L, st, S) o ↔ pd_K xs Ls d pd_m31 (mm_lI L 2 fun x => mm_go 76 L (.int x :: st) S) o := pd_Gs (i := .iload_n 2) (n := 1) rfl
theorem p31_76 : pd_G xs Ls d pd_m31 (76, L, st, S) o ↔ pd_K xs Ls d pd_m31 (mm_i st fun x r => mm_icmp .eq x 0 (mm_go 84 L r S) (mm_go 79 L r S)) o := pd_Gs (i := .ifCond .eq 8) (n := 3) rfl
theorem p31_79 : pd_G xs Ls d pd_m31 (79, L, st, S) o ↔ pd_K xs Ls d pd_m31 (mm_go 81 L (.int 11 :: st) S) o := pd_Gs (i := .bipush 11) (n := 2) rfl
theorem p31_81 : pd_G xs Ls d pd_m31 (81, L, st, S) o ↔ pd_K xs Ls d pd_m31 (mm_go 86 L st S) o := pd_Gs (i := .goto 5) (n := 3) rfl
theorem p31_84 : pd_G xs Ls d pd_m31 (84, L, st, S) o ↔ pd_K xs Ls d pd_m31 (mm_go 86 L (.int 8 :: st) S) o := pd_Gs (i := .bipush 8) (n := 2) rfl
theorem p31_86 : pd_G xs Ls d pd_m31 (86, L, st, S) o ↔ pd_K xs Ls d pd_m31 (mm_go 87 L (.int 0 :: st) S) o := pd_Gs (i := .iconst 0) (n := 1) rfl
theorem p31_87 : pd_G xs Ls d pd_m31 (87, L, st, S) o ↔ pd_K xs Ls d pd_m31 (mm_inv (mm_ev xs Ls pd_ck pd_ak pd_mj d) pd_m31 87 L st S 14 2 1) o := pd_Gs (i := .invokevirtual 43) (n := 3) rfl
theorem p31_90 : pd_G xs Ls d pd_m31 (90, L, st, S) o ↔ pd_K xs Ls d pd_m31 (mm_1 st fun v r => cond (mm_c2 v) none (mm_go 91 L r S)) o := pd_Gs (i := .pop) (n := 1) rfl
theorem p31_91 : pd_G xs Ls d pd_m31 (91, L, st, S) o ↔ pd_K xs Ls d pd_m31 (mm_go 96 L st S) o := pd_Gs (i := .goto 5) (n := 3) rfl
theorem p31_94 : pd_G xs Ls d pd_m31 (94, L, st, S) o ↔ pd_K xs Ls d pd_m31 (mm_lI L 2 fun x => mm_go 95 L (.int x :: st) S) o := pd_Gs (i := .iload_n 2) (n := 1) rfl
theorem p31_95 : pd_G xs Ls d pd_m31 (95, L, st, S) o ↔ pd_K xs Ls d pd_m31 (mm_e4 S st) o := pd_Gs (i := .ireturn) (n := 1) rfl
theorem p31_96 : pd_G xs Ls d pd_m31 (96, L, st, S) o ↔ pd_K xs Ls d pd_m31 (mm_lI L 3 fun x => mm_go 99 (mm_sto L 0 3 (.int (x + 1))) st S) o := pd_Gs (i := .iinc 3 1) (n := 3) rfl
theorem p31_99 : pd_G xs Ls d pd_m31 (99, L, st, S) o ↔ pd_K xs Ls d pd_m31 (mm_go 8 L st S) o := pd_Gs (i := .goto (-91)) (n := 3) rfl
theorem p31_102 : pd_G xs Ls d pd_m31 (102, L, st, S) o ↔ pd_K xs Ls d pd_m31 (mm_lI L 2 fun x => mm_go 103 L (.int x :: st) S) o := pd_Gs (i := .iload_n 2) (n := 1) rfl
theorem p31_103 : pd_G xs Ls d pd_m31 (103, L, st, S) o ↔ pd_K xs Ls d pd_m31 (mm_e4 S st) o := pd_Gs (i := .ireturn) (n := 1) rfl
theorem p32_0 : pd_G xs Ls d pd_m32 (0, L, st, S) o ↔ pd_K xs Ls d pd_m32 (mm_lA L 0 fun v => mm_go 1 L (v :: st) S) o := pd_Gs (i := .aload_n 0) (n := 1) rfl
theorem p32_1 : pd_G xs Ls d pd_m32 (1, L, st, S) o ↔ pd_K xs Ls d pd_m32 (mm_lI L 1 fun x => mm_go 2 L (.int x :: st) S) o := pd_Gs (i := .iload_n 1) (n := 1) rfl
theorem p32_2 : pd_G xs Ls d pd_m32 (2, L, st, S) o ↔ pd_K xs Ls d pd_m32 (mm_inv (mm_ev xs Ls pd_ck pd_ak pd_mj d) pd_m32 2 L st S 33 1 2) o := pd_Gs (i := .invokevirtual 126) (n := 3) rfl
theorem p32_5 : pd_G xs Ls d pd_m32 (5, L, st, S) o ↔ pd_K xs Ls d pd_m32 (mm_i st fun x r => mm_go 6 (mm_sto L 0 2 (.int x)) r S) o := pd_Gs (i := .istore_n 2) (n := 1) rfl
theorem p32_6 : pd_G xs Ls d pd_m32 (6, L, st, S) o ↔ pd_K xs Ls d pd_m32 (mm_go 7 L (.int 0 :: st) S) o := pd_Gs (i := .iconst 0) (n := 1) rfl
theorem p32_7 : pd_G xs Ls d pd_m32 (7, L, st, S) o ↔ pd_K xs Ls d pd_m32 (mm_i st fun x r => mm_go 8 (mm_sto L 0 3 (.int x)) r S) o := pd_Gs (i := .istore_n 3) (n := 1) rfl
theorem p32_8 : pd_G xs Ls d pd_m32 (8, L, st, S) o ↔ pd_K xs Ls d pd_m32 (mm_lI L 3 fun x => mm_go 9 L (.int x :: st) S) o := pd_Gs (i := .iload_n 3) (n := 1) rfl
theorem p32_9 : pd_G xs Ls d pd_m32 (9, L, st, S) o ↔ pd_K xs Ls d pd_m32 (mm_go 11 L (.int 48 :: st) S) o := pd_Gs (i := .bipush 48) (n := 2) rfl
theorem p32_11 : pd_G xs Ls d pd_m32 (11, L, st, S) o ↔ pd_K xs Ls d pd_m32 (mm_ii st fun x y r => mm_icmp .ge x y (mm_go 139 L r S) (mm_go 14 L r S)) o := pd_Gs (i := .if_icmp .ge 128) (n := 3) rfl
theorem p32_14 : pd_G xs Ls d pd_m32 (14, L, st, S) o ↔ pd_K xs Ls d pd_m32 (mm_lA L 0 fun v => mm_go 15 L (v :: st) S) o := pd_Gs (i := .aload_n 0) (n := 1) rfl
theorem p32_15 : pd_G xs Ls d pd_m32 (15, L, st, S) o ↔ pd_K xs Ls d pd_m32 (mm_go 17 L (.int 42 :: st) S) o := pd_Gs (i := .bipush 42) (n := 2) rfl
theorem p32_17 : pd_G xs Ls d pd_m32 (17, L, st, S) o ↔ pd_K xs Ls d pd_m32 (mm_inv (mm_ev xs Ls pd_ck pd_ak pd_mj d) pd_m32 17 L st S 29 1 2) o := pd_Gs (i := .invokevirtual 61) (n := 3) rfl
theorem p32_20 : pd_G xs Ls d pd_m32 (20, L, st, S) o ↔ pd_K xs Ls d pd_m32 (mm_i st fun x r => mm_icmp .eq x 0 (mm_go 54 L r S) (mm_go 23 L r S)) o := pd_Gs (i := .ifCond .eq 34) (n := 3) rfl
theorem p32_23 : pd_G xs Ls d pd_m32 (23, L, st, S) o ↔ pd_K xs Ls d pd_m32 (mm_lI L 2 fun x => mm_go 24 L (.int x :: st) S) o := pd_Gs (i := .iload_n 2) (n := 1) rfl
theorem p32_24 : pd_G xs Ls d pd_m32 (24, L, st, S) o ↔ pd_K xs Ls d pd_m32 (mm_lA L 0 fun v => mm_go 25 L (v :: st) S) o := pd_Gs (i := .aload_n 0) (n := 1) rfl
theorem p32_25 : pd_G xs Ls d pd_m32 (25, L, st, S) o ↔ pd_K xs Ls d pd_m32 (mm_lI L 1 fun x => mm_go 26 L (.int x :: st) S) o := pd_Gs (i := .iload_n 1) (n := 1) rfl
theorem p32_26 : pd_G xs Ls d pd_m32 (26, L, st, S) o ↔ pd_K xs Ls d pd_m32 (mm_inv (mm_ev xs Ls pd_ck pd_ak pd_mj d) pd_m32 26 L st S 33 1 2) o := pd_Gs (i := .invokevirtual 126) (n := 3) rfl
theorem p32_29 : pd_G xs Ls d pd_m32 (29, L, st, S) o ↔ pd_K xs Ls d pd_m32 (mm_ii st fun x y r => mm_go 30 L (.int (x ||| y) :: r) S) o := pd_Gs (i := .ior) (n := 1) rfl
theorem p32_30 : pd_G xs Ls d pd_m32 (30, L, st, S) o ↔ pd_K xs Ls d pd_m32 (mm_i st fun x r => mm_go 31 (mm_sto L 0 2 (.int x)) r S) o := pd_Gs (i := .istore_n 2) (n := 1) rfl
theorem p32_31 : pd_G xs Ls d pd_m32 (31, L, st, S) o ↔ pd_K xs Ls d pd_m32 (mm_lA L 0 fun v => mm_go 32 L (v :: st) S) o := pd_Gs (i := .aload_n 0) (n := 1) rfl
theorem p32_32 : pd_G xs Ls d pd_m32 (32, L, st, S) o ↔ pd_K xs Ls d pd_m32 (mm_getf pd_ck 32 L st S 2 2) o := pd_Gs (i := .getfield 16) (n := 3) rfl
theorem p32_35 : pd_G xs Ls d pd_m32 (35, L, st, S) o ↔ pd_K xs Ls d pd_m32 (mm_lI L 2 fun x => mm_go 36 L (.int x :: st) S) o := pd_Gs (i := .iload_n 2) (n := 1) rfl
theorem p32_36 : pd_G xs Ls d pd_m32 (36, L, st, S) o ↔ pd_K xs Ls d pd_m32 (mm_i st fun x r => mm_icmp .eq x 0 (mm_go 44 L r S) (mm_go 39 L r S)) o := pd_Gs (i := .ifCond .eq 8) (n := 3) rfl
theorem p32_39 : pd_G xs Ls d pd_m32 (39, L, st, S) o ↔ pd_K xs Ls d pd_m32 (mm_go 41 L (.int 12 :: st) S) o := pd_Gs (i := .bipush 12) (n := 2) rfl
theorem p32_41 : pd_G xs Ls d pd_m32 (41, L, st, S) o ↔ pd_K xs Ls d pd_m32 (mm_go 46 L st S) o := pd_Gs (i := .goto 5) (n := 3) rfl
theorem p32_44 : pd_G xs Ls d pd_m32 (44, L, st, S) o ↔ pd_K xs Ls d pd_m32 (mm_go 46 L (.int 9 :: st) S) o := pd_Gs (i := .bipush 9) (n := 2) rfl
theorem p32_46 : pd_G xs Ls d pd_m32 (46, L, st, S) o ↔ pd_K xs Ls d pd_m32 (mm_go 47 L (.int 0 :: st) S) o := pd_Gs (i := .iconst 0) (n := 1) rfl
theorem p32_47 : pd_G xs Ls d pd_m32 (47, L, st, S) o ↔ pd_K xs Ls d pd_m32 (mm_inv (mm_ev xs Ls pd_ck pd_ak pd_mj d) pd_m32 47 L st S 14 2 1) o := pd_Gs (i := .invokevirtual 43) (n := 3) rfl
theorem p32_50 : pd_G xs Ls d pd_m32 (50, L, st, S) o ↔ pd_K xs Ls d pd_m32 (mm_1 st fun v r => cond (mm_c2 v) none (mm_go 51 L r S)) o := pd_Gs (i := .pop) (n := 1) rfl
theorem p32_51 : pd_G xs Ls d pd_m32 (51, L, st, S) o ↔ pd_K xs Ls d pd_m32 (mm_go 133 L st S) o := pd_Gs (i := .goto 82) (n := 3) rfl
theorem p32_54 : pd_G xs Ls d pd_m32 (54, L, st, S) o ↔ pd_K xs Ls d pd_m32 (mm_lA L 0 fun v => mm_go 55 L (v :: st) S) o := pd_Gs (i := .aload_n 0) (n := 1) rfl
theorem p32_55 : pd_G xs Ls d pd_m32 (55, L, st, S) o ↔ pd_K xs Ls d pd_m32 (mm_go 57 L (.int 47 :: st) S) o := pd_Gs (i := .bipush 47) (n := 2) rfl
theorem p32_57 : pd_G xs Ls d pd_m32 (57, L, st, S) o ↔ pd_K xs Ls d pd_m32 (mm_inv (mm_ev xs Ls pd_ck pd_ak pd_mj d) pd_m32 57 L st S 29 1 2) o := pd_Gs (i := .invokevirtual 61) (n := 3) rfl
theorem p32_60 : pd_G xs Ls d pd_m32 (60, L, st, S) o ↔ pd_K xs Ls d pd_m32 (mm_i st fun x r => mm_icmp .eq x 0 (mm_go 85 L r S) (mm_go 63 L r S)) o := pd_Gs (i := .ifCond .eq 25) (n := 3) rfl
theorem p32_63 : pd_G xs Ls d pd_m32 (63, L, st, S) o ↔ pd_K xs Ls d pd_m32 (mm_lA L 0 fun v => mm_go 64 L (v :: st) S) o := pd_Gs (i := .aload_n 0) (n := 1) rfl
theorem p32_64 : pd_G xs Ls d pd_m32 (64, L, st, S) o ↔ pd_K xs Ls d pd_m32 (mm_lI L 1 fun x => mm_go 65 L (.int x :: st) S) o := pd_Gs (i := .iload_n 1) (n := 1) rfl
theorem p32_65 : pd_G xs Ls d pd_m32 (65, L, st, S) o ↔ pd_K xs Ls d pd_m32 (mm_inv (mm_ev xs Ls pd_ck pd_ak pd_mj d) pd_m32 65 L st S 33 1 2) o := pd_Gs (i := .invokevirtual 126) (n := 3) rfl
theorem p32_68 : pd_G xs Ls d pd_m32 (68, L, st, S) o ↔ pd_K xs Ls d pd_m32 (mm_1 st fun v r => cond (mm_c2 v) none (mm_go 69 L r S)) o := pd_Gs (i := .pop) (n := 1) rfl
theorem p32_69 : pd_G xs Ls d pd_m32 (69, L, st, S) o ↔ pd_K xs Ls d pd_m32 (mm_lA L 0 fun v => mm_go 70 L (v :: st) S) o := pd_Gs (i := .aload_n 0) (n := 1) rfl
theorem p32_70 : pd_G xs Ls d pd_m32 (70, L, st, S) o ↔ pd_K xs Ls d pd_m32 (mm_getf pd_ck 70 L st S 2 2) o := pd_Gs (i := .getfield 16) (n := 3) rfl
theorem p32_73 : pd_G xs Ls d pd_m32 (73, L, st, S) o ↔ pd_K xs Ls d pd_m32 (mm_go 75 L (.int 13 :: st) S) o := pd_Gs (i := .bipush 13) (n := 2) rfl
theorem p32_75 : pd_G xs Ls d pd_m32 (75, L, st, S) o ↔ pd_K xs Ls d pd_m32 (mm_go 76 L (.int 0 :: st) S) o := pd_Gs (i := .iconst 0) (n := 1) rfl
theorem p32_76 : pd_G xs Ls d pd_m32 (76, L, st, S) o ↔ pd_K xs Ls d pd_m32 (mm_inv (mm_ev xs Ls pd_ck pd_ak pd_mj d) pd_m32 76 L st S 14 2 1) o := pd_Gs (i := .invokevirtual 43) (n := 3) rfl
theorem p32_79 : pd_G xs Ls d pd_m32 (79, L, st, S) o ↔ pd_K xs Ls d pd_m32 (mm_1 st fun v r => cond (mm_c2 v) none (mm_go 80 L r S)) o := pd_Gs (i := .pop) (n := 1) rfl
theorem p32_80 : pd_G xs Ls d pd_m32 (80, L, st, S) o ↔ pd_K xs Ls d pd_m32 (mm_go 81 L (.int 1 :: st) S) o := pd_Gs (i := .iconst 1) (n := 1) rfl
theorem p32_81 : pd_G xs Ls d pd_m32 (81, L, st, S) o ↔ pd_K xs Ls d pd_m32 (mm_i st fun x r => mm_go 82 (mm_sto L 0 2 (.int x)) r S) o := pd_Gs (i := .istore_n 2) (n := 1) rfl
theorem p32_82 : pd_G xs Ls d pd_m32 (82, L, st, S) o ↔ pd_K xs Ls d pd_m32 (mm_go 133 L st S) o := pd_Gs (i := .goto 51) (n := 3) rfl
theorem p32_85 : pd_G xs Ls d pd_m32 (85, L, st, S) o ↔ pd_K xs Ls d pd_m32 (mm_lA L 0 fun v => mm_go 86 L (v :: st) S) o := pd_Gs (i := .aload_n 0) (n := 1) rfl
theorem p32_86 : pd_G xs Ls d pd_m32 (86, L, st, S) o ↔ pd_K xs Ls d pd_m32 (mm_go 88 L (.int 37 :: st) S) o := pd_Gs (i := .bipush 37) (n := 2) rfl
theorem p32_88 : pd_G xs Ls d pd_m32 (88, L, st, S) o ↔ pd_K xs Ls d pd_m32 (mm_inv (mm_ev xs Ls pd_ck pd_ak pd_mj d) pd_m32 88 L st S 29 1 2) o := pd_Gs (i := .invokevirtual 61) (n := 3) rfl
theorem p32_91 : pd_G xs Ls d pd_m32 (91, L, st, S) o ↔ pd_K xs Ls d pd_m32 (mm_i st fun x r => mm_icmp .eq x 0 (mm_go 131 L r S) (mm_go 94 L r S)) o := pd_Gs (i := .ifCond .eq 40) (n := 3) rfl
theorem p32_94 : pd_G xs Ls d pd_m32 (94, L, st, S) o ↔ pd_K xs Ls d pd_m32 (mm_lA L 0 fun v => mm_go 95 L (v :: st) S) o := pd_Gs (i := .aload_n 0) (n := 1) rfl
theorem p32_95 : pd_G xs Ls d pd_m32 (95, L, st, S) o ↔ pd_K xs Ls d pd_m32 (mm_lA L 0 fun v => mm_go 96 L (v :: st) S) o := pd_Gs (i := .aload_n 0) (n := 1) rfl
theorem p32_96 : pd_G xs Ls d pd_m32 (96, L, st, S) o ↔ pd_K xs Ls d pd_m32 (mm_lI L 1 fun x => mm_go 97 L (.int x :: st) S) o := pd_Gs (i := .iload_n 1) (n := 1) rfl
theorem p32_97 : pd_G xs Ls d pd_m32 (97, L, st, S) o ↔ pd_K xs Ls d pd_m32 (mm_inv (mm_ev xs Ls pd_ck pd_ak pd_mj d) pd_m32 97 L st S 33 1 2) o := pd_Gs (i := .invokevirtual 126) (n := 3) rfl
theorem p32_100 : pd_G xs Ls d pd_m32 (100, L, st, S) o ↔ pd_K xs Ls d pd_m32 (mm_i st fun x r => mm_icmp .ne x 0 (mm_go 107 L r S) (mm_go 103 L r S)) o := pd_Gs (i := .ifCond .ne 7) (n := 3) rfl
theorem p32_103 : pd_G xs Ls d pd_m32 (103, L, st, S) o ↔ pd_K xs Ls d pd_m32 (mm_lI L 2 fun x => mm_go 104 L (.int x :: st) S) o := pd_Gs (i := .iload_n 2) (n := 1) rfl
theorem p32_104 : pd_G xs Ls d pd_m32 (104, L, st, S) o ↔ pd_K xs Ls d pd_m32 (mm_i st fun x r => mm_icmp .eq x 0 (mm_go 111 L r S) (mm_go 107 L r S)) o := pd_Gs (i := .ifCond .eq 7) (n := 3) rfl
theorem p32_107 : pd_G xs Ls d pd_m32 (107, L, st, S) o ↔ pd_K xs Ls d pd_m32 (mm_go 108 L (.int 1 :: st) S) o := pd_Gs (i := .iconst 1) (n := 1) rfl
theorem p32_108 : pd_G xs Ls d pd_m32 (108, L, st, S) o ↔ pd_K xs Ls d pd_m32 (mm_go 112 L st S) o := pd_Gs (i := .goto 4) (n := 3) rfl
theorem p32_111 : pd_G xs Ls d pd_m32 (111, L, st, S) o ↔ pd_K xs Ls d pd_m32 (mm_go 112 L (.int 0 :: st) S) o := pd_Gs (i := .iconst 0) (n := 1) rfl
theorem p32_112 : pd_G xs Ls d pd_m32 (112, L, st, S) o ↔ pd_K xs Ls d pd_m32 (mm_inv (mm_ev xs Ls pd_ck pd_ak pd_mj d) pd_m32 112 L st S 39 1 2) o := pd_Gs (i := .invokevirtual 99) (n := 3) rfl
theorem p32_115 : pd_G xs Ls d pd_m32 (115, L, st, S) o ↔ pd_K xs Ls d pd_m32 (mm_lA L 0 fun v => mm_go 116 L (v :: st) S) o := pd_Gs (i := .aload_n 0) (n := 1) rfl
theorem p32_116 : pd_G xs Ls d pd_m32 (116, L, st, S) o ↔ pd_K xs Ls d pd_m32 (mm_getf pd_ck 116 L st S 2 2) o := pd_Gs (i := .getfield 16) (n := 3) rfl
theorem p32_119 : pd_G xs Ls d pd_m32 (119, L, st, S) o ↔ pd_K xs Ls d pd_m32 (mm_go 121 L (.int 14 :: st) S) o := pd_Gs (i := .bipush 14) (n := 2) rfl
theorem p32_121 : pd_G xs Ls d pd_m32 (121, L, st, S) o ↔ pd_K xs Ls d pd_m32 (mm_go 122 L (.int 0 :: st) S) o := pd_Gs (i := .iconst 0) (n := 1) rfl
theorem p32_122 : pd_G xs Ls d pd_m32 (122, L, st, S) o ↔ pd_K xs Ls d pd_m32 (mm_inv (mm_ev xs Ls pd_ck pd_ak pd_mj d) pd_m32 122 L st S 14 2 1) o := pd_Gs (i := .invokevirtual 43) (n := 3) rfl
theorem p32_125 : pd_G xs Ls d pd_m32 (125, L, st, S) o ↔ pd_K xs Ls d pd_m32 (mm_1 st fun v r => cond (mm_c2 v) none (mm_go 126 L r S)) o := pd_Gs (i := .pop) (n := 1) rfl
theorem p32_126 : pd_G xs Ls d pd_m32 (126, L, st, S) o ↔ pd_K xs Ls d pd_m32 (mm_go 127 L (.int 0 :: st) S) o := pd_Gs (i := .iconst 0) (n := 1) rfl
theorem p32_127 : pd_G xs Ls d pd_m32 (127, L, st, S) o ↔ pd_K xs Ls d pd_m32 (mm_i st fun x r => mm_go 128 (mm_sto L 0 2 (.int x)) r S) o := pd_Gs (i := .istore_n 2) (n := 1) rfl
theorem p32_128 : pd_G xs Ls d pd_m32 (128, L, st, S) o ↔ pd_K xs Ls d pd_m32 (mm_go 133 L st S) o := pd_Gs (i := .goto 5) (n := 3) rfl
theorem p32_131 : pd_G xs Ls d pd_m32 (131, L, st, S) o ↔ pd_K xs Ls d pd_m32 (mm_lI L 2 fun x => mm_go 132 L (.int x :: st) S) o := pd_Gs (i := .iload_n 2) (n := 1) rfl
theorem p32_132 : pd_G xs Ls d pd_m32 (132, L, st, S) o ↔ pd_K xs Ls d pd_m32 (mm_e4 S st) o := pd_Gs (i := .ireturn) (n := 1) rfl
theorem p32_133 : pd_G xs Ls d pd_m32 (133, L, st, S) o ↔ pd_K xs Ls d pd_m32 (mm_lI L 3 fun x => mm_go 136 (mm_sto L 0 3 (.int (x + 1))) st S) o := pd_Gs (i := .iinc 3 1) (n := 3) rfl
theorem p32_136 : pd_G xs Ls d pd_m32 (136, L, st, S) o ↔ pd_K xs Ls d pd_m32 (mm_go 8 L st S) o := pd_Gs (i := .goto (-128)) (n := 3) rfl
theorem p32_139 : pd_G xs Ls d pd_m32 (139, L, st, S) o ↔ pd_K xs Ls d pd_m32 (mm_lI L 2 fun x => mm_go 140 L (.int x :: st) S) o := pd_Gs (i := .iload_n 2) (n := 1) rfl
theorem p32_140 : pd_G xs Ls d pd_m32 (140, L, st, S) o ↔ pd_K xs Ls d pd_m32 (mm_e4 S st) o := pd_Gs (i := .ireturn) (n := 1) rfl
theorem p33_0 : pd_G xs Ls d pd_m33 (0, L, st, S) o ↔ pd_K xs Ls d pd_m33 (mm_lA L 0 fun v => mm_go 1 L (v :: st) S) o := pd_Gs (i := .aload_n 0) (n := 1) rfl
theorem p33_1 : pd_G xs Ls d pd_m33 (1, L, st, S) o ↔ pd_K xs Ls d pd_m33 (mm_inv (mm_ev xs Ls pd_ck pd_ak pd_mj d) pd_m33 1 L st S 25 0 2) o := pd_Gs (i := .invokevirtual 50) (n := 3) rfl
theorem p33_4 : pd_G xs Ls d pd_m33 (4, L, st, S) o ↔ pd_K xs Ls d pd_m33 (mm_i st fun x r => mm_go 5 (mm_sto L 0 2 (.int x)) r S) o := pd_Gs (i := .istore_n 2) (n := 1) rfl
theorem p33_5 : pd_G xs Ls d pd_m33 (5, L, st, S) o ↔ pd_K xs Ls d pd_m33 (mm_lI L 2 fun x => mm_go 6 L (.int x :: st) S) o := pd_Gs (i := .iload_n 2) (n := 1) rfl
theorem p33_6 : pd_G xs Ls d pd_m33 (6, L, st, S) o ↔ pd_K xs Ls d pd_m33 (mm_invS (mm_ev xs Ls pd_ck pd_ak pd_mj d) pd_m33 6 L st S 26 1) o := pd_Gs (i := .invokestatic 64) (n := 3) rfl
theorem p33_9 : pd_G xs Ls d pd_m33 (9, L, st, S) o ↔ pd_K xs Ls d pd_m33 (mm_i st fun x r => mm_go 10 (mm_sto L 0 3 (.int x)) r S) o := pd_Gs (i := .istore_n 3) (n := 1) rfl
theorem p33_10 : pd_G xs Ls d pd_m33 (10, L, st, S) o ↔ pd_K xs Ls d pd_m33 (mm_lI L 3 fun x => mm_go 11 L (.int x :: st) S) o := pd_Gs (i := .iload_n 3) (n := 1) rfl
theorem p33_11 : pd_G xs Ls d pd_m33 (11, L, st, S) o ↔ pd_K xs Ls d pd_m33 (mm_i st fun x r => mm_icmp .lt x 0 (mm_go 39 L r S) (mm_go 14 L r S)) o := pd_Gs (i := .ifCond .lt 28) (n := 3) rfl
theorem p33_14 : pd_G xs Ls d pd_m33 (14, L, st, S) o ↔ pd_K xs Ls d pd_m33 (mm_lA L 0 fun v => mm_go 15 L (v :: st) S) o := pd_Gs (i := .aload_n 0) (n := 1) rfl
theorem p33_15 : pd_G xs Ls d pd_m33 (15, L, st, S) o ↔ pd_K xs Ls d pd_m33 (mm_1 st fun v r => cond (mm_c2 v) none (mm_go 16 L (v :: v :: r) S)) o := pd_Gs (i := .dup) (n := 1) rfl
theorem p33_16 : pd_G xs Ls d pd_m33 (16, L, st, S) o ↔ pd_K xs Ls d pd_m33 (mm_getf pd_ck 16 L st S 2 3) o := pd_Gs (i := .getfield 27) (n := 3) rfl
theorem p33_19 : pd_G xs Ls d pd_m33 (19, L, st, S) o ↔ pd_K xs Ls d pd_m33 (mm_go 20 L (.int 1 :: st) S) o := pd_Gs (i := .iconst 1) (n := 1) rfl
theorem p33_20 : pd_G xs Ls d pd_m33 (20, L, st, S) o ↔ pd_K xs Ls d pd_m33 (mm_ii st fun x y r => mm_go 21 L (.int (x + y) :: r) S) o := pd_Gs (i := .iadd) (n := 1) rfl
theorem p33_21 : pd_G xs Ls d pd_m33 (21, L, st, S) o ↔ pd_K xs Ls d pd_m33 (mm_putf pd_ck 21 L st S 2 3) o := pd_Gs (i := .putfield 27) (n := 3) rfl
theorem p33_24 : pd_G xs Ls d pd_m33 (24, L, st, S) o ↔ pd_K xs Ls d pd_m33 (mm_lA L 0 fun v => mm_go 25 L (v :: st) S) o := pd_Gs (i := .aload_n 0) (n := 1) rfl
theorem p33_25 : pd_G xs Ls d pd_m33 (25, L, st, S) o ↔ pd_K xs Ls d pd_m33 (mm_getf pd_ck 25 L st S 2 2) o := pd_Gs (i := .getfield 16) (n := 3) rfl
theorem p33_28 : pd_G xs Ls d pd_m33 (28, L, st, S) o ↔ pd_K xs Ls d pd_m33 (mm_go 29 L (.int 3 :: st) S) o := pd_Gs (i := .iconst 3) (n := 1) rfl
theorem p33_29 : pd_G xs Ls d pd_m33 (29, L, st, S) o ↔ pd_K xs Ls d pd_m33 (mm_lI L 3 fun x => mm_go 30 L (.int x :: st) S) o := pd_Gs (i := .iload_n 3) (n := 1) rfl
theorem p33_30 : pd_G xs Ls d pd_m33 (30, L, st, S) o ↔ pd_K xs Ls d pd_m33 (mm_inv (mm_ev xs Ls pd_ck pd_ak pd_mj d) pd_m33 30 L st S 14 2 1) o := pd_Gs (i := .invokevirtual 43) (n := 3) rfl
theorem p33_33 : pd_G xs Ls d pd_m33 (33, L, st, S) o ↔ pd_K xs Ls d pd_m33 (mm_1 st fun v r => cond (mm_c2 v) none (mm_go 34 L r S)) o := pd_Gs (i := .pop) (n := 1) rfl
theorem p33_34 : pd_G xs Ls d pd_m33 (34, L, st, S) o ↔ pd_K xs Ls d pd_m33 (mm_lI L 3 fun x => mm_go 35 L (.int x :: st) S) o := pd_Gs (i := .iload_n 3) (n := 1) rfl
theorem p33_35 : pd_G xs Ls d pd_m33 (35, L, st, S) o ↔ pd_K xs Ls d pd_m33 (mm_invS (mm_ev xs Ls pd_ck pd_ak pd_mj d) pd_m33 35 L st S 67 1) o := pd_Gs (i := .invokestatic 94) (n := 3) rfl
theorem p33_38 : pd_G xs Ls d pd_m33 (38, L, st, S) o ↔ pd_K xs Ls d pd_m33 (mm_e4 S st) o := pd_Gs (i := .ireturn) (n := 1) rfl
theorem p33_39 : pd_G xs Ls d pd_m33 (39, L, st, S) o ↔ pd_K xs Ls d pd_m33 (mm_lI L 2 fun x => mm_go 40 L (.int x :: st) S) o := pd_Gs (i := .iload_n 2) (n := 1) rfl
theorem p33_40 : pd_G xs Ls d pd_m33 (40, L, st, S) o ↔ pd_K xs Ls d pd_m33 (mm_invS (mm_ev xs Ls pd_ck pd_ak pd_mj d) pd_m33 40 L st S 34 1) o := pd_Gs (i := .invokestatic 129) (n := 3) rfl
theorem p33_43 : pd_G xs Ls d pd_m33 (43, L, st, S) o ↔ pd_K xs Ls d pd_m33 (mm_i st fun x r => mm_icmp .eq x 0 (mm_go 52 L r S) (mm_go 46 L r S)) o := pd_Gs (i := .ifCond .eq 9) (n := 3) rfl
theorem p33_46 : pd_G xs Ls d pd_m33 (46, L, st, S) o ↔ pd_K xs Ls d pd_m33 (mm_lA L 0 fun v => mm_go 47 L (v :: st) S) o := pd_Gs (i := .aload_n 0) (n := 1) rfl
theorem p33_47 : pd_G xs Ls d pd_m33 (47, L, st, S) o ↔ pd_K xs Ls d pd_m33 (mm_inv (mm_ev xs Ls pd_ck pd_ak pd_mj d) pd_m33 47 L st S 35 0 2) o := pd_Gs (i := .invokevirtual 132) (n := 3) rfl
theorem p33_50 : pd_G xs Ls d pd_m33 (50, L, st, S) o ↔ pd_K xs Ls d pd_m33 (mm_go 51 L (.int 0 :: st) S) o := pd_Gs (i := .iconst 0) (n := 1) rfl
theorem p33_51 : pd_G xs Ls d pd_m33 (51, L, st, S) o ↔ pd_K xs Ls d pd_m33 (mm_e4 S st) o := pd_Gs (i := .ireturn) (n := 1) rfl
theorem p33_52 : pd_G xs Ls d pd_m33 (52, L, st, S) o ↔ pd_K xs Ls d pd_m33 (mm_lA L 0 fun v => mm_go 53 L (v :: st) S) o := pd_Gs (i := .aload_n 0) (n := 1) rfl
theorem p33_53 : pd_G xs Ls d pd_m33 (53, L, st, S) o ↔ pd_K xs Ls d pd_m33 (mm_go 55 L (.int 118 :: st) S) o := pd_Gs (i := .bipush 118) (n := 2) rfl
theorem p33_55 : pd_G xs Ls d pd_m33 (55, L, st, S) o ↔ pd_K xs Ls d pd_m33 (mm_inv (mm_ev xs Ls pd_ck pd_ak pd_mj d) pd_m33 55 L st S 29 1 2) o := pd_Gs (i := .invokevirtual 61) (n := 3) rfl
theorem p33_58 : pd_G xs Ls d pd_m33 (58, L, st, S) o ↔ pd_K xs Ls d pd_m33 (mm_i st fun x r => mm_icmp .eq x 0 (mm_go 78 L r S) (mm_go 61 L r S)) o := pd_Gs (i := .ifCond .eq 20) (n := 3) rfl
theorem p33_61 : pd_G xs Ls d pd_m33 (61, L, st, S) o ↔ pd_K xs Ls d pd_m33 (mm_lA L 0 fun v => mm_go 62 L (v :: st) S) o := pd_Gs (i := .aload_n 0) (n := 1) rfl
theorem p33_62 : pd_G xs Ls d pd_m33 (62, L, st, S) o ↔ pd_K xs Ls d pd_m33 (mm_lI L 1 fun x => mm_go 63 L (.int x :: st) S) o := pd_Gs (i := .iload_n 1) (n := 1) rfl
theorem p33_63 : pd_G xs Ls d pd_m33 (63, L, st, S) o ↔ pd_K xs Ls d pd_m33 (mm_inv (mm_ev xs Ls pd_ck pd_ak pd_mj d) pd_m33 63 L st S 37 1 2) o := pd_Gs (i := .invokevirtual 103) (n := 3) rfl
theorem p33_66 : pd_G xs Ls d pd_m33 (66, L, st, S) o ↔ pd_K xs Ls d pd_m33 (mm_lA L 0 fun v => mm_go 67 L (v :: st) S) o := pd_Gs (i := .aload_n 0) (n := 1) rfl
theorem p33_67 : pd_G xs Ls d pd_m33 (67, L, st, S) o ↔ pd_K xs Ls d pd_m33 (mm_getf pd_ck 67 L st S 2 2) o := pd_Gs (i := .getfield 16) (n := 3) rfl
theorem p33_70 : pd_G xs Ls d pd_m33 (70, L, st, S) o ↔ pd_K xs Ls d pd_m33 (mm_go 71 L (.int 5 :: st) S) o := pd_Gs (i := .iconst 5) (n := 1) rfl
theorem p33_71 : pd_G xs Ls d pd_m33 (71, L, st, S) o ↔ pd_K xs Ls d pd_m33 (mm_go 72 L (.int 0 :: st) S) o := pd_Gs (i := .iconst 0) (n := 1) rfl
theorem p33_72 : pd_G xs Ls d pd_m33 (72, L, st, S) o ↔ pd_K xs Ls d pd_m33 (mm_inv (mm_ev xs Ls pd_ck pd_ak pd_mj d) pd_m33 72 L st S 14 2 1) o := pd_Gs (i := .invokevirtual 43) (n := 3) rfl
theorem p33_75 : pd_G xs Ls d pd_m33 (75, L, st, S) o ↔ pd_K xs Ls d pd_m33 (mm_1 st fun v r => cond (mm_c2 v) none (mm_go 76 L r S)) o := pd_Gs (i := .pop) (n := 1) rfl
theorem p33_76 : pd_G xs Ls d pd_m33 (76, L, st, S) o ↔ pd_K xs Ls d pd_m33 (mm_go 77 L (.int 0 :: st) S) o := pd_Gs (i := .iconst 0) (n := 1) rfl
theorem p33_77 : pd_G xs Ls d pd_m33 (77, L, st, S) o ↔ pd_K xs Ls d pd_m33 (mm_e4 S st) o := pd_Gs (i := .ireturn) (n := 1) rfl
theorem p33_78 : pd_G xs Ls d pd_m33 (78, L, st, S) o ↔ pd_K xs Ls d pd_m33 (mm_lI L 2 fun x => mm_go 79 L (.int x :: st) S) o := pd_Gs (i := .iload_n 2) (n := 1) rfl
theorem p33_79 : pd_G xs Ls d pd_m33 (79, L, st, S) o ↔ pd_K xs Ls d pd_m33 (mm_go 81 L (.int 40 :: st) S) o := pd_Gs (i := .bipush 40) (n := 2) rfl
theorem p33_81 : pd_G xs Ls d pd_m33 (81, L, st, S) o ↔ pd_K xs Ls d pd_m33 (mm_ii st fun x y r => mm_icmp .ne x y (mm_go 90 L r S) (mm_go 84 L r S)) o := pd_Gs (i := .if_icmp .ne 9) (n := 3) rfl
theorem p33_84 : pd_G xs Ls d pd_m33 (84, L, st, S) o ↔ pd_K xs Ls d pd_m33 (mm_lA L 0 fun v => mm_go 85 L (v :: st) S) o := pd_Gs (i := .aload_n 0) (n := 1) rfl
theorem p33_85 : pd_G xs Ls d pd_m33 (85, L, st, S) o ↔ pd_K xs Ls d pd_m33 (mm_lI L 1 fun x => mm_go 86 L (.int x :: st) S) o := pd_Gs (i := .iload_n 1) (n := 1) rfl
theorem p33_86 : pd_G xs Ls d pd_m33 (86, L, st, S) o ↔ pd_K xs Ls d pd_m33 (mm_inv (mm_ev xs Ls pd_ck pd_ak pd_mj d) pd_m33 86 L st S 40 1 2) o := pd_Gs (i := .invokevirtual 135) (n := 3) rfl
theorem p33_89 : pd_G xs Ls d pd_m33 (89, L, st, S) o ↔ pd_K xs Ls d pd_m33 (mm_e4 S st) o := pd_Gs (i := .ireturn) (n := 1) rfl
theorem p33_90 : pd_G xs Ls d pd_m33 (90, L, st, S) o ↔ pd_K xs Ls d pd_m33 (mm_lI L 2 fun x => mm_go 91 L (.int x :: st) S) o := pd_Gs (i := .iload_n 2) (n := 1) rfl
theorem p33_91 : pd_G xs Ls d pd_m33 (91, L, st, S) o ↔ pd_K xs Ls d pd_m33 (mm_go 93 L (.int 35 :: st) S) o := pd_Gs (i := .bipush 35) (n := 2) rfl
theorem p33_93 : pd_G xs Ls d pd_m33 (93, L, st, S) o ↔ pd_K xs Ls d pd_m33 (mm_ii st fun x y r => mm_icmp .ne x y (mm_go 103 L r S) (mm_go 96 L r S)) o := pd_Gs (i := .if_icmp .ne 10) (n := 3) rfl
theorem p33_96 : pd_G xs Ls d pd_m33 (96, L, st, S) o ↔ pd_K xs Ls d pd_m33 (mm_lA L 0 fun v => mm_go 97 L (v :: st) S) o := pd_Gs (i := .aload_n 0) (n := 1) rfl
theorem p33_97 : pd_G xs Ls d pd_m33 (97, L, st, S) o ↔ pd_K xs Ls d pd_m33 (mm_lI L 1 fun x => mm_go 98 L (.int x :: st) S) o := pd_Gs (i := .iload_n 1) (n := 1) rfl
theorem p33_98 : pd_G xs Ls d pd_m33 (98, L, st, S) o ↔ pd_K xs Ls d pd_m33 (mm_inv (mm_ev xs Ls pd_ck pd_ak pd_mj d) pd_m33 98 L st S 41 1 2) o := pd_Gs (i := .invokevirtual 138) (n := 3) rfl
theorem p33_101 : pd_G xs Ls d pd_m33 (101, L, st, S) o ↔ pd_K xs Ls d pd_m33 (mm_go 102 L (.int 0 :: st) S) o := pd_Gs (i := .iconst 0) (n := 1) rfl
theorem p33_102 : pd_G xs Ls d pd_m33 (102, L, st, S) o ↔ pd_K xs Ls d pd_m33 (mm_e4 S st) o := pd_Gs (i := .ireturn) (n := 1) rfl
theorem p33_103 : pd_G xs Ls d pd_m33 (103, L, st, S) o ↔ pd_K xs Ls d pd_m33 (mm_lA L 0 fun v => mm_go 104 L (v :: st) S) o := pd_Gs (i := .aload_n 0) (n := 1) rfl
theorem p33_104 : pd_G xs Ls d pd_m33 (104, L, st, S) o ↔ pd_K xs Ls d pd_m33 (mm_go 105 L (.int 1 :: st) S) o := pd_Gs (i := .iconst 1) (n := 1) rfl
theorem p33_105 : pd_G xs Ls d pd_m33 (105, L, st, S) o ↔ pd_K xs Ls d pd_m33 (mm_putf pd_ck 105 L st S 2 4) o := pd_Gs (i := .putfield 30) (n := 3) rfl
theorem p33_108 : pd_G xs Ls d pd_m33 (108, L, st, S) o ↔ pd_K xs Ls d pd_m33 (mm_go 109 L (.int 0 :: st) S) o := pd_Gs (i := .iconst 0) (n := 1) rfl
theorem p33_109 : pd_G xs Ls d pd_m33 (109, L, st, S) o ↔ pd_K xs Ls d pd_m33 (mm_e4 S st) o := pd_Gs (i := .ireturn) (n := 1) rfl
theorem p34_0 : pd_G xs Ls d pd_m34 (0, L, st, S) o ↔ pd_K xs Ls d pd_m34 (mm_lI L 0 fun x => mm_go 1 L (.int x :: st) S) o := pd_Gs (i := .iload_n 0) (n := 1) rfl
theorem p34_1 : pd_G xs Ls d pd_m34 (1, L, st, S) o ↔ pd_K xs Ls d pd_m34 (mm_go 3 L (.int 48 :: st) S) o := pd_Gs (i := .bipush 48) (n := 2) rfl
theorem p34_3 : pd_G xs Ls d pd_m34 (3, L, st, S) o ↔ pd_K xs Ls d pd_m34 (mm_ii st fun x y r => mm_icmp .lt x y (mm_go 16 L r S) (mm_go 6 L r S)) o := pd_Gs (i := .if_icmp .lt 13) (n := 3) rfl
theorem p34_6 : pd_G xs Ls d pd_m34 (6, L, st, S) o ↔ pd_K xs Ls d pd_m34 (mm_lI L 0 fun x => mm_go 7 L (.int x :: st) S) o := pd_Gs (i := .iload_n 0) (n := 1) rfl
theorem p34_7 : pd_G xs Ls d pd_m34 (7, L, st, S) o ↔ pd_K xs Ls d pd_m34 (mm_go 9 L (.int 57 :: st) S) o := pd_Gs (i := .bipush 57) (n := 2) rfl
theorem p34_9 : pd_G xs Ls d pd_m34 (9, L, st, S) o ↔ pd_K xs Ls d pd_m34 (mm_ii st fun x y r => mm_icmp .gt x y (mm_go 16 L r S) (mm_go 12 L r S)) o := pd_Gs (i := .if_icmp .gt 7) (n := 3) rfl
theorem p34_12 : pd_G xs Ls d pd_m34 (12, L, st, S) o ↔ pd_K xs Ls d pd_m34 (mm_go 13 L (.int 1 :: st) S) o := pd_Gs (i := .iconst 1) (n := 1) rfl
theorem p34_13 : pd_G xs Ls d pd_m34 (13, L, st, S) o ↔ pd_K xs Ls d pd_m34 (mm_go 17 L st S) o := pd_Gs (i := .goto 4) (n := 3) rfl
theorem p34_16 : pd_G xs Ls d pd_m34 (16, L, st, S) o ↔ pd_K xs Ls d pd_m34 (mm_go 17 L (.int 0 :: st) S) o := pd_Gs (i := .iconst 0) (n := 1) rfl
theorem p34_17 : pd_G xs Ls d pd_m34 (17, L, st, S) o ↔ pd_K xs Ls d pd_m34 (mm_e4 S st) o := pd_Gs (i := .ireturn) (n := 1) rfl
theorem p35_0 : pd_G xs Ls d pd_m35 (0, L, st, S) o ↔ pd_K xs Ls d pd_m35 (mm_go 1 L (.int 0 :: st) S) o := pd_Gs (i := .iconst 0) (n := 1) rfl
theorem p35_1 : pd_G xs Ls d pd_m35 (1, L, st, S) o ↔ pd_K xs Ls d pd_m35 (mm_i st fun x r => mm_go 2 (mm_sto L 0 1 (.int x)) r S) o := pd_Gs (i := .istore_n 1) (n := 1) rfl
theorem p35_2 : pd_G xs Ls d pd_m35 (2, L, st, S) o ↔ pd_K xs Ls d pd_m35 (mm_go 3 L (.int 0 :: st) S) o := pd_Gs (i := .iconst 0) (n := 1) rfl
theorem p35_3 : pd_G xs Ls d pd_m35 (3, L, st, S) o ↔ pd_K xs Ls d pd_m35 (mm_i st fun x r => mm_go 4 (mm_sto L 0 2 (.int x)) r S) o := pd_Gs (i := .istore_n 2) (n := 1) rfl
theorem p35_4 : pd_G xs Ls d pd_m35 (4, L, st, S) o ↔ pd_K xs Ls d pd_m35 (mm_lI L 2 fun x => mm_go 5 L (.int x :: st) S) o := pd_Gs (i := .iload_n 2) (n := 1) rfl
theorem p35_5 : pd_G xs Ls d pd_m35 (5, L, st, S) o ↔ pd_K xs Ls d pd_m35 (mm_go 6 L (.int 3 :: st) S) o := pd_Gs (i := .iconst 3) (n := 1) rfl
theorem p35_6 : pd_G xs Ls d pd_m35 (6, L, st, S) o ↔ pd_K xs Ls d pd_m35 (mm_ii st fun x y r => mm_icmp .ge x y (mm_go 37 L r S) (mm_go 9 L r S)) o := pd_Gs (i := .if_icmp .ge 31) (n := 3) rfl
theorem p35_9 : pd_G xs Ls d pd_m35 (9, L, st, S) o ↔ pd_K xs Ls d pd_m35 (mm_lA L 0 fun v => mm_go 10 L (v :: st) S) o := pd_Gs (i := .aload_n 0) (n := 1) rfl
theorem p35_10 : pd_G xs Ls d pd_m35 (10, L, st, S) o ↔ pd_K xs Ls d pd_m35 (mm_inv (mm_ev xs Ls pd_ck pd_ak pd_mj d) pd_m35 10 L st S 25 0 2) o := pd_Gs (i := .invokevirtual 50) (n := 3) rfl
theorem p35_13 : pd_G xs Ls d pd_m35 (13, L, st, S) o ↔ pd_K xs Ls d pd_m35 (mm_invS (mm_ev xs Ls pd_ck pd_ak pd_mj d) pd_m35 13 L st S 34 1) o := pd_Gs (i := .invokestatic 129) (n := 3) rfl
theorem p35_16 : pd_G xs Ls d pd_m35 (16, L, st, S) o ↔ pd_K xs Ls d pd_m35 (mm_i st fun x r => mm_icmp .eq x 0 (mm_go 37 L r S) (mm_go 19 L r S)) o := pd_Gs (i := .ifCond .eq 21) (n := 3) rfl
theorem p35_19 : pd_G xs Ls d pd_m35 (19, L, st, S) o ↔ pd_K xs Ls d pd_m35 (mm_lI L 1 fun x => mm_go 20 L (.int x :: st) S) o := pd_Gs (i := .iload_n 1) (n := 1) rfl
theorem p35_20 : pd_G xs Ls d pd_m35 (20, L, st, S) o ↔ pd_K xs Ls d pd_m35 (mm_go 22 L (.int 10 :: st) S) o := pd_Gs (i := .bipush 10) (n := 2) rfl
theorem p35_22 : pd_G xs Ls d pd_m35 (22, L, st, S) o ↔ pd_K xs Ls d pd_m35 (mm_ii st fun x y r => mm_go 23 L (.int (x * y) :: r) S) o := pd_Gs (i := .imul) (n := 1) rfl
theorem p35_23 : pd_G xs Ls d pd_m35 (23, L, st, S) o ↔ pd_K xs Ls d pd_m35 (mm_lA L 0 fun v => mm_go 24 L (v :: st) S) o := pd_Gs (i := .aload_n 0) (n := 1) rfl
theorem p35_24 : pd_G xs Ls d pd_m35 (24, L, st, S) o ↔ pd_K xs Ls d pd_m35 (mm_go 26 L (.int 57 :: st) S) o := pd_Gs (i := .bipush 57) (n := 2) rfl
theorem p35_26 : pd_G xs Ls d pd_m35 (26, L, st, S) o ↔ pd_K xs Ls d pd_m35 (mm_inv (mm_ev xs Ls pd_ck pd_ak pd_mj d) pd_m35 26 L st S 36 1 2) o := pd_Gs (i := .invokevirtual 88) (n := 3) rfl
theorem p35_29 : pd_G xs Ls d pd_m35 (29, L, st, S) o ↔ pd_K xs Ls d pd_m35 (mm_ii st fun x y r => mm_go 30 L (.int (x + y) :: r) S) o := pd_Gs (i := .iadd) (n := 1) rfl
theorem p35_30 : pd_G xs Ls d pd_m35 (30, L, st, S) o ↔ pd_K xs Ls d pd_m35 (mm_i st fun x r => mm_go 31 (mm_sto L 0 1 (.int x)) r S) o := pd_Gs (i := .istore_n 1) (n := 1) rfl
theorem p35_31 : pd_G xs Ls d pd_m35 (31, L, st, S) o ↔ pd_K xs Ls d pd_m35 (mm_lI L 2 fun x => mm_go 34 (mm_sto L 0 2 (.int (x + 1))) st S) o := pd_Gs (i := .iinc 2 1) (n := 3) rfl
theorem p35_34 : pd_G xs Ls d pd_m35 (34, L, st, S) o ↔ pd_K xs Ls d pd_m35 (mm_go 4 L st S) o := pd_Gs (i := .goto (-30)) (n := 3) rfl
theorem p35_37 : pd_G xs Ls d pd_m35 (37, L, st, S) o ↔ pd_K xs Ls d pd_m35 (mm_lA L 0 fun v => mm_go 38 L (v :: st) S) o := pd_Gs (i := .aload_n 0) (n := 1) rfl
theorem p35_38 : pd_G xs Ls d pd_m35 (38, L, st, S) o ↔ pd_K xs Ls d pd_m35 (mm_getf pd_ck 38 L st S 2 2) o := pd_Gs (i := .getfield 16) (n := 3) rfl
theorem p35_41 : pd_G xs Ls d pd_m35 (41, L, st, S) o ↔ pd_K xs Ls d pd_m35 (mm_go 42 L (.int 2 :: st) S) o := pd_Gs (i := .iconst 2) (n := 1) rfl
theorem p35_42 : pd_G xs Ls d pd_m35 (42, L, st, S) o ↔ pd_K xs Ls d pd_m35 (mm_lI L 1 fun x => mm_go 43 L (.int x :: st) S) o := pd_Gs (i := .iload_n 1) (n := 1) rfl
theorem p35_43 : pd_G xs Ls d pd_m35 (43, L, st, S) o ↔ pd_K xs Ls d pd_m35 (mm_inv (mm_ev xs Ls pd_ck pd_ak pd_mj d) pd_m35 43 L st S 14 2 1) o := pd_Gs (i := .invokevirtual 43) (n := 3) rfl
theorem p35_46 : pd_G xs Ls d pd_m35 (46, L, st, S) o ↔ pd_K xs Ls d pd_m35 (mm_1 st fun v r => cond (mm_c2 v) none (mm_go 47 L r S)) o := pd_Gs (i := .pop) (n := 1) rfl
theorem p35_47 : pd_G xs Ls d pd_m35 (47, L, st, S) o ↔ pd_K xs Ls d pd_m35 (mm_rV S st) o := pd_Gs (i := .return_) (n := 1) rfl
theorem p36_0 : pd_G xs Ls d pd_m36 (0, L, st, S) o ↔ pd_K xs Ls d pd_m36 (mm_lA L 0 fun v => mm_go 1 L (v :: st) S) o := pd_Gs (i := .aload_n 0) (n := 1) rfl
theorem p36_1 : pd_G xs Ls d pd_m36 (1, L, st, S) o ↔ pd_K xs Ls d pd_m36 (mm_inv (mm_ev xs Ls pd_ck pd_ak pd_mj d) pd_m36 1 L st S 25 0 2) o := pd_Gs (i := .invokevirtual 50) (n := 3) rfl
theorem p36_4 : pd_G xs Ls d pd_m36 (4, L, st, S) o ↔ pd_K xs Ls d pd_m36 (mm_i st fun x r => mm_go 5 (mm_sto L 0 2 (.int x)) r S) o := pd_Gs (i := .istore_n 2) (n := 1) rfl
theorem p36_5 : pd_G xs Ls d pd_m36 (5, L, st, S) o ↔ pd_K xs Ls d pd_m36 (mm_lI L 2 fun x => mm_go 6 L (.int x :: st) S) o := pd_Gs (i := .iload_n 2) (n := 1) rfl
theorem p36_6 : pd_G xs Ls d pd_m36 (6, L, st, S) o ↔ pd_K xs Ls d pd_m36 (mm_go 8 L (.int 48 :: st) S) o := pd_Gs (i := .bipush 48) (n := 2) rfl
theorem p36_8 : pd_G xs Ls d pd_m36 (8, L, st, S) o ↔ pd_K xs Ls d pd_m36 (mm_ii st fun x y r => mm_icmp .lt x y (mm_go 16 L r S) (mm_go 11 L r S)) o := pd_Gs (i := .if_icmp .lt 8) (n := 3) rfl
theorem p36_11 : pd_G xs Ls d pd_m36 (11, L, st, S) o ↔ pd_K xs Ls d pd_m36 (mm_lI L 2 fun x => mm_go 12 L (.int x :: st) S) o := pd_Gs (i := .iload_n 2) (n := 1) rfl
theorem p36_12 : pd_G xs Ls d pd_m36 (12, L, st, S) o ↔ pd_K xs Ls d pd_m36 (mm_lI L 1 fun x => mm_go 13 L (.int x :: st) S) o := pd_Gs (i := .iload_n 1) (n := 1) rfl
theorem p36_13 : pd_G xs Ls d pd_m36 (13, L, st, S) o ↔ pd_K xs Ls d pd_m36 (mm_ii st fun x y r => mm_icmp .le x y (mm_go 23 L r S) (mm_go 16 L r S)) o := pd_Gs (i := .if_icmp .le 10) (n := 3) rfl
theorem p36_16 : pd_G xs Ls d pd_m36 (16, L, st, S) o ↔ pd_K xs Ls d pd_m36 (mm_lA L 0 fun v => mm_go 17 L (v :: st) S) o := pd_Gs (i := .aload_n 0) (n := 1) rfl
theorem p36_17 : pd_G xs Ls d pd_m36 (17, L, st, S) o ↔ pd_K xs Ls d pd_m36 (mm_go 18 L (.int 1 :: st) S) o := pd_Gs (i := .iconst 1) (n := 1) rfl
theorem p36_18 : pd_G xs Ls d pd_m36 (18, L, st, S) o ↔ pd_K xs Ls d pd_m36 (mm_putf pd_ck 18 L st S 2 4) o := pd_Gs (i := .putfield 30) (n := 3) rfl
theorem p36_21 : pd_G xs Ls d pd_m36 (21, L, st, S) o ↔ pd_K xs Ls d pd_m36 (mm_go 22 L (.int 0 :: st) S) o := pd_Gs (i := .iconst 0) (n := 1) rfl
theorem p36_22 : pd_G xs Ls d pd_m36 (22, L, st, S) o ↔ pd_K xs Ls d pd_m36 (mm_e0 S st) o := pd_Gs (i := .ireturn) (n := 1) rfl
theorem p36_23 : pd_G xs Ls d pd_m36 (23, L, st, S) o ↔ pd_K xs Ls d pd_m36 (mm_lA L 0 fun v => mm_go 24 L (v :: st) S) o := pd_Gs (i := .aload_n 0) (n := 1) rfl
theorem p36_24 : pd_G xs Ls d pd_m36 (24, L, st, S) o ↔ pd_K xs Ls d pd_m36 (mm_1 st fun v r => cond (mm_c2 v) none (mm_go 25 L (v :: v :: r) S)) o := pd_Gs (i := .dup) (n := 1) rfl
theorem p36_25 : pd_G xs Ls d pd_m36 (25, L, st, S) o ↔ pd_K xs Ls d pd_m36 (mm_getf pd_ck 25 L st S 2 3) o := pd_Gs (i := .getfield 27) (n := 3) rfl
theorem p36_28 : pd_G xs Ls d pd_m36 (28, L, st, S) o ↔ pd_K xs Ls d pd_m36 (mm_go 29 L (.int 1 :: st) S) o := pd_Gs (i := .iconst 1) (n := 1) rfl
theorem p36_29 : pd_G xs Ls d pd_m36 (29, L, st, S) o ↔ pd_K xs Ls d pd_m36 (mm_ii st fun x y r => mm_go 30 L (.int (x + y) :: r) S) o := pd_Gs (i := .iadd) (n := 1) rfl
theorem p36_30 : pd_G xs Ls d pd_m36 (30, L, st, S) o ↔ pd_K xs Ls d pd_m36 (mm_putf pd_ck 30 L st S 2 3) o := pd_Gs (i := .putfield 27) (n := 3) rfl
theorem p36_33 : pd_G xs Ls d pd_m36 (33, L, st, S) o ↔ pd_K xs Ls d pd_m36 (mm_lI L 2 fun x => mm_go 34 L (.int x :: st) S) o := pd_Gs (i := .iload_n 2) (n := 1) rfl
theorem p36_34 : pd_G xs Ls d pd_m36 (34, L, st, S) o ↔ pd_K xs Ls d pd_m36 (mm_go 36 L (.int 48 :: st) S) o := pd_Gs (i := .bipush 48) (n := 2) rfl
theorem p36_36 : pd_G xs Ls d pd_m36 (36, L, st, S) o ↔ pd_K xs Ls d pd_m36 (mm_ii st fun x y r => mm_go 37 L (.int (x - y) :: r) S) o := pd_Gs (i := .isub) (n := 1) rfl
theorem p36_37 : pd_G xs Ls d pd_m36 (37, L, st, S) o ↔ pd_K xs Ls d pd_m36 (mm_e0 S st) o := pd_Gs (i := .ireturn) (n := 1) rfl
theorem p37_0 : pd_G xs Ls d pd_m37 (0, L, st, S) o ↔ pd_K xs Ls d pd_m37 (mm_lA L 0 fun v => mm_go 1 L (v :: st) S) o := pd_Gs (i := .aload_n 0) (n := 1) rfl
theorem p37_1 : pd_G xs Ls d pd_m37 (1, L, st, S) o ↔ pd_K xs Ls d pd_m37 (mm_go 3 L (.int 91 :: st) S) o := pd_Gs (i := .bipush 91) (n := 2) rfl
theorem p37_3 : pd_G xs Ls d pd_m37 (3, L, st, S) o ↔ pd_K xs Ls d pd_m37 (mm_lI L 1 fun x => mm_go 4 L (.int x :: st) S) o := pd_Gs (i := .iload_n 1) (n := 1) rfl
theorem p37_4 : pd_G xs Ls d pd_m37 (4, L, st, S) o ↔ pd_K xs Ls d pd_m37 (mm_inv (mm_ev xs Ls pd_ck pd_ak pd_mj d) pd_m37 4 L st S 38 2 2) o := pd_Gs (i := .invokevirtual 116) (n := 3) rfl
theorem p37_7 : pd_G xs Ls d pd_m37 (7, L, st, S) o ↔ pd_K xs Ls d pd_m37 (mm_i st fun x r => mm_icmp .eq x 0 (mm_go 38 L r S) (mm_go 10 L r S)) o := pd_Gs (i := .ifCond .eq 31) (n := 3) rfl
theorem p37_10 : pd_G xs Ls d pd_m37 (10, L, st, S) o ↔ pd_K xs Ls d pd_m37 (mm_lA L 0 fun v => mm_go 11 L (v :: st) S) o := pd_Gs (i := .aload_n 0) (n := 1) rfl
theorem p37_11 : pd_G xs Ls d pd_m37 (11, L, st, S) o ↔ pd_K xs Ls d pd_m37 (mm_lA L 0 fun v => mm_go 12 L (v :: st) S) o := pd_Gs (i := .aload_n 0) (n := 1) rfl
theorem p37_12 : pd_G xs Ls d pd_m37 (12, L, st, S) o ↔ pd_K xs Ls d pd_m37 (mm_lI L 1 fun x => mm_go 13 L (.int x :: st) S) o := pd_Gs (i := .iload_n 1) (n := 1) rfl
theorem p37_13 : pd_G xs Ls d pd_m37 (13, L, st, S) o ↔ pd_K xs Ls d pd_m37 (mm_go 14 L (.int 1 :: st) S) o := pd_Gs (i := .iconst 1) (n := 1) rfl
theorem p37_14 : pd_G xs Ls d pd_m37 (14, L, st, S) o ↔ pd_K xs Ls d pd_m37 (mm_ii st fun x y r => mm_go 15 L (.int (x + y) :: r) S) o := pd_Gs (i := .iadd) (n := 1) rfl
theorem p37_15 : pd_G xs Ls d pd_m37 (15, L, st, S) o ↔ pd_K xs Ls d pd_m37 (mm_inv (mm_ev xs Ls pd_ck pd_ak pd_mj d) pd_m37 15 L st S 30 1 2) o := pd_Gs (i := .invokevirtual 84) (n := 3) rfl
theorem p37_18 : pd_G xs Ls d pd_m37 (18, L, st, S) o ↔ pd_K xs Ls d pd_m37 (mm_inv (mm_ev xs Ls pd_ck pd_ak pd_mj d) pd_m37 18 L st S 39 1 2) o := pd_Gs (i := .invokevirtual 99) (n := 3) rfl
theorem p37_21 : pd_G xs Ls d pd_m37 (21, L, st, S) o ↔ pd_K xs Ls d pd_m37 (mm_lA L 0 fun v => mm_go 22 L (v :: st) S) o := pd_Gs (i := .aload_n 0) (n := 1) rfl
theorem p37_22 : pd_G xs Ls d pd_m37 (22, L, st, S) o ↔ pd_K xs Ls d pd_m37 (mm_getf pd_ck 22 L st S 2 2) o := pd_Gs (i := .getfield 16) (n := 3) rfl
theorem p37_25 : pd_G xs Ls d pd_m37 (25, L, st, S) o ↔ pd_K xs Ls d pd_m37 (mm_go 26 L (.int 4 :: st) S) o := pd_Gs (i := .iconst 4) (n := 1) rfl
theorem p37_26 : pd_G xs Ls d pd_m37 (26, L, st, S) o ↔ pd_K xs Ls d pd_m37 (mm_go 27 L (.int 0 :: st) S) o := pd_Gs (i := .iconst 0) (n := 1) rfl
theorem p37_27 : pd_G xs Ls d pd_m37 (27, L, st, S) o ↔ pd_K xs Ls d pd_m37 (mm_inv (mm_ev xs Ls pd_ck pd_ak pd_mj d) pd_m37 27 L st S 14 2 1) o := pd_Gs (i := .invokevirtual 43) (n := 3) rfl
theorem p37_30 : pd_G xs Ls d pd_m37 (30, L, st, S) o ↔ pd_K xs Ls d pd_m37 (mm_1 st fun v r => cond (mm_c2 v) none (mm_go 31 L r S)) o := pd_Gs (i := .pop) (n := 1) rfl
theorem p37_31 : pd_G xs Ls d pd_m37 (31, L, st, S) o ↔ pd_K xs Ls d pd_m37 (mm_lA L 0 fun v => mm_go 32 L (v :: st) S) o := pd_Gs (i := .aload_n 0) (n := 1) rfl
theorem p37_32 : pd_G xs Ls d pd_m37 (32, L, st, S) o ↔ pd_K xs Ls d pd_m37 (mm_go 34 L (.int 93 :: st) S) o := pd_Gs (i := .bipush 93) (n := 2) rfl
theorem p37_34 : pd_G xs Ls d pd_m37 (34, L, st, S) o ↔ pd_K xs Ls d pd_m37 (mm_inv (mm_ev xs Ls pd_ck pd_ak pd_mj d) pd_m37 34 L st S 28 1 2) o := pd_Gs (i := .invokevirtual 54) (n := 3) rfl
theorem p37_37 : pd_G xs Ls d pd_m37 (37, L, st, S) o ↔ pd_K xs Ls d pd_m37 (mm_1 st fun v r => cond (mm_c2 v) none (mm_go 38 L r S)) o := pd_Gs (i := .pop) (n := 1) rfl
theorem p37_38 : pd_G xs Ls d pd_m37 (38, L, st, S) o ↔ pd_K xs Ls d pd_m37 (mm_rV S st) o := pd_Gs (i := .return_) (n := 1) rfl
theorem p38_0 : pd_G xs Ls d pd_m38 (0, L, st, S) o ↔ pd_K xs Ls d pd_m38 (mm_lI L 2 fun x => mm_go 1 L (.int x :: st) S) o := pd_Gs (i := .iload_n 2) (n := 1) rfl
theorem p38_1 : pd_G xs Ls d pd_m38 (1, L, st, S) o ↔ pd_K xs Ls d pd_m38 (mm_go 2 L (.int 5 :: st) S) o := pd_Gs (i := .iconst 5) (n := 1) rfl
theorem p38_2 : pd_G xs Ls d pd_m38 (2, L, st, S) o ↔ pd_K xs Ls d pd_m38 (mm_ii st fun x y r => mm_icmp .lt x y (mm_go 10 L r S) (mm_go 5 L r S)) o := pd_Gs (i := .if_icmp .lt 8) (n := 3) rfl
theorem p38_5 : pd_G xs Ls d pd_m38 (5, L, st, S) o ↔ pd_K xs Ls d pd_m38 (mm_lA L 0 fun v => mm_go 6 L (v :: st) S) o := pd_Gs (i := .aload_n 0) (n := 1) rfl
theorem p38_6 : pd_G xs Ls d pd_m38 (6, L, st, S) o ↔ pd_K xs Ls d pd_m38 (mm_go 7 L (.int 1 :: st) S) o := pd_Gs (i := .iconst 1) (n := 1) rfl
theorem p38_7 : pd_G xs Ls d pd_m38 (7, L, st, S) o ↔ pd_K xs Ls d pd_m38 (mm_putf pd_ck 7 L st S 2 4) o := pd_Gs (i := .putfield 30) (n := 3) rfl
theorem p38_10 : pd_G xs Ls d pd_m38 (10, L, st, S) o ↔ pd_K xs Ls d pd_m38 (mm_lA L 0 fun v => mm_go 11 L (v :: st) S) o := pd_Gs (i := .aload_n 0) (n := 1) rfl
theorem p38_11 : pd_G xs Ls d pd_m38 (11, L, st, S) o ↔ pd_K xs Ls d pd_m38 (mm_lI L 1 fun x => mm_go 12 L (.int x :: st) S) o := pd_Gs (i := .iload_n 1) (n := 1) rfl
theorem p38_12 : pd_G xs Ls d pd_m38 (12, L, st, S) o ↔ pd_K xs Ls d pd_m38 (mm_inv (mm_ev xs Ls pd_ck pd_ak pd_mj d) pd_m38 12 L st S 28 1 2) o := pd_Gs (i := .invokevirtual 54) (n := 3) rfl
theorem p38_15 : pd_G xs Ls d pd_m38 (15, L, st, S) o ↔ pd_K xs Ls d pd_m38 (mm_e4 S st) o := pd_Gs (i := .ireturn) (n := 1) rfl
theorem p39_0 : pd_G xs Ls d pd_m39 (0, L, st, S) o ↔ pd_K xs Ls d pd_m39 (mm_lI L 1 fun x => mm_go 1 L (.int x :: st) S) o := pd_Gs (i := .iload_n 1) (n := 1) rfl
theorem p39_1 : pd_G xs Ls d pd_m39 (1, L, st, S) o ↔ pd_K xs Ls d pd_m39 (mm_i st fun x r => mm_icmp .eq x 0 (mm_go 9 L r S) (mm_go 4 L r S)) o := pd_Gs (i := .ifCond .eq 8) (n := 3) rfl
theorem p39_4 : pd_G xs Ls d pd_m39 (4, L, st, S) o ↔ pd_K xs Ls d pd_m39 (mm_lA L 0 fun v => mm_go 5 L (v :: st) S) o := pd_Gs (i := .aload_n 0) (n := 1) rfl
theorem p39_5 : pd_G xs Ls d pd_m39 (5, L, st, S) o ↔ pd_K xs Ls d pd_m39 (mm_go 6 L (.int 1 :: st) S) o := pd_Gs (i := .iconst 1) (n := 1) rfl
theorem p39_6 : pd_G xs Ls d pd_m39 (6, L, st, S) o ↔ pd_K xs Ls d pd_m39 (mm_putf pd_ck 6 L st S 2 5) o := pd_Gs (i := .putfield 34) (n := 3) rfl
theorem p39_9 : pd_G xs Ls d pd_m39 (9, L, st, S) o ↔ pd_K xs Ls d pd_m39 (mm_rV S st) o := pd_Gs (i := .return_) (n := 1) rfl
theorem p40_0 : pd_G xs Ls d pd_m40 (0, L, st, S) o ↔ pd_K xs Ls d pd_m40 (mm_lA L 0 fun v => mm_go 1 L (v :: st) S) o := pd_Gs (i := .aload_n 0) (n := 1) rfl
theorem p40_1 : pd_G xs Ls d pd_m40 (1, L, st, S) o ↔ pd_K xs Ls d pd_m40 (mm_go 3 L (.int 40 :: st) S) o := pd_Gs (i := .bipush 40) (n := 2) rfl
theorem p40_3 : pd_G xs Ls d pd_m40 (3, L, st, S) o ↔ pd_K xs Ls d pd_m40 (mm_lI L 1 fun x => mm_go 4 L (.int x :: st) S) o := pd_Gs (i := .iload_n 1) (n := 1) rfl
theorem p40_4 : pd_G xs Ls d pd_m40 (4, L, st, S) o ↔ pd_K xs Ls d pd_m40 (mm_inv (mm_ev xs Ls pd_ck pd_ak pd_mj d) pd_m40 4 L st S 38 2 2) o := pd_Gs (i := .invokevirtual 116) (n := 3) rfl
theorem p40_7 : pd_G xs Ls d pd_m40 (7, L, st, S) o ↔ pd_K xs Ls d pd_m40 (mm_i st fun x r => mm_icmp .ne x 0 (mm_go 12 L r S) (mm_go 10 L r S)) o := pd_Gs (i := .ifCond .ne 5) (n := 3) rfl
theorem p40_10 : pd_G xs Ls d pd_m40 (10, L, st, S) o ↔ pd_K xs Ls d pd_m40 (mm_go 11 L (.int 0 :: st) S) o := pd_Gs (i := .iconst 0) (n := 1) rfl
theorem p40_11 : pd_G xs Ls d pd_m40 (11, L, st, S) o ↔ pd_K xs Ls d pd_m40 (mm_e4 S st) o := pd_Gs (i := .ireturn) (n := 1) rfl
theorem p40_12 : pd_G xs Ls d pd_m40 (12, L, st, S) o ↔ pd_K xs Ls d pd_m40 (mm_lA L 0 fun v => mm_go 13 L (v :: st) S) o := pd_Gs (i := .aload_n 0) (n := 1) rfl
theorem p40_13 : pd_G xs Ls d pd_m40 (13, L, st, S) o ↔ pd_K xs Ls d pd_m40 (mm_lI L 1 fun x => mm_go 14 L (.int x :: st) S) o := pd_Gs (i := .iload_n 1) (n := 1) rfl
theorem p40_14 : pd_G xs Ls d pd_m40 (14, L, st, S) o ↔ pd_K xs Ls d pd_m40 (mm_go 15 L (.int 1 :: st) S) o := pd_Gs (i := .iconst 1) (n := 1) rfl
theorem p40_15 : pd_G xs Ls d pd_m40 (15, L, st, S) o ↔ pd_K xs Ls d pd_m40 (mm_ii st fun x y r => mm_go 16 L (.int (x + y) :: r) S) o := pd_Gs (i := .iadd) (n := 1) rfl
theorem p40_16 : pd_G xs Ls d pd_m40 (16, L, st, S) o ↔ pd_K xs Ls d pd_m40 (mm_inv (mm_ev xs Ls pd_ck pd_ak pd_mj d) pd_m40 16 L st S 30 1 2) o := pd_Gs (i := .invokevirtual 84) (n := 3) rfl
theorem p40_19 : pd_G xs Ls d pd_m40 (19, L, st, S) o ↔ pd_K xs Ls d pd_m40 (mm_i st fun x r => mm_go 20 (mm_sto L 0 2 (.int x)) r S) o := pd_Gs (i := .istore_n 2) (n := 1) rfl
theorem p40_20 : pd_G xs Ls d pd_m40 (20, L, st, S) o ↔ pd_K xs Ls d pd_m40 (mm_lA L 0 fun v => mm_go 21 L (v :: st) S) o := pd_Gs (i := .aload_n 0) (n := 1) rfl
theorem p40_21 : pd_G xs Ls d pd_m40 (21, L, st, S) o ↔ pd_K xs Ls d pd_m40 (mm_go 23 L (.int 41 :: st) S) o := pd_Gs (i := .bipush 41) (n := 2) rfl
theorem p40_23 : pd_G xs Ls d pd_m40 (23, L, st, S) o ↔ pd_K xs Ls d pd_m40 (mm_inv (mm_ev xs Ls pd_ck pd_ak pd_mj d) pd_m40 23 L st S 28 1 2) o := pd_Gs (i := .invokevirtual 54) (n := 3) rfl
theorem p40_26 : pd_G xs Ls d pd_m40 (26, L, st, S) o ↔ pd_K xs Ls d pd_m40 (mm_1 st fun v r => cond (mm_c2 v) none (mm_go 27 L r S)) o := pd_Gs (i := .pop) (n := 1) rfl
theorem p40_27 : pd_G xs Ls d pd_m40 (27, L, st, S) o ↔ pd_K xs Ls d pd_m40 (mm_lI L 2 fun x => mm_go 28 L (.int x :: st) S) o := pd_Gs (i := .iload_n 2) (n := 1) rfl
theorem p40_28 : pd_G xs Ls d pd_m40 (28, L, st, S) o ↔ pd_K xs Ls d pd_m40 (mm_e4 S st) o := pd_Gs (i := .ireturn) (n := 1) rfl
theorem p41_0 : pd_G xs Ls d pd_m41 (0, L, st, S) o ↔ pd_K xs Ls d pd_m41 (mm_lA L 0 fun v => mm_go 1 L (v :: st) S) o := pd_Gs (i := .aload_n 0) (n := 1) rfl
theorem p41_1 : pd_G xs Ls d pd_m41 (1, L, st, S) o ↔ pd_K xs Ls d pd_m41 (mm_go 3 L (.int 35 :: st) S) o := pd_Gs (i := .bipush 35) (n := 2) rfl
theorem p41_3 : pd_G xs Ls d pd_m41 (3, L, st, S) o ↔ pd_K xs Ls d pd_m41 (mm_lI L 1 fun x => mm_go 4 L (.int x :: st) S) o := pd_Gs (i := .iload_n 1) (n := 1) rfl
theorem p41_4 : pd_G xs Ls d pd_m41 (4, L, st, S) o ↔ pd_K xs Ls d pd_m41 (mm_inv (mm_ev xs Ls pd_ck pd_ak pd_mj d) pd_m41 4 L st S 38 2 2) o := pd_Gs (i := .invokevirtual 116) (n := 3) rfl
theorem p41_7 : pd_G xs Ls d pd_m41 (7, L, st, S) o ↔ pd_K xs Ls d pd_m41 (mm_i st fun x r => mm_icmp .eq x 0 (mm_go 31 L r S) (mm_go 10 L r S)) o := pd_Gs (i := .ifCond .eq 24) (n := 3) rfl
theorem p41_10 : pd_G xs Ls d pd_m41 (10, L, st, S) o ↔ pd_K xs Ls d pd_m41 (mm_lA L 0 fun v => mm_go 11 L (v :: st) S) o := pd_Gs (i := .aload_n 0) (n := 1) rfl
theorem p41_11 : pd_G xs Ls d pd_m41 (11, L, st, S) o ↔ pd_K xs Ls d pd_m41 (mm_lI L 1 fun x => mm_go 12 L (.int x :: st) S) o := pd_Gs (i := .iload_n 1) (n := 1) rfl
theorem p41_12 : pd_G xs Ls d pd_m41 (12, L, st, S) o ↔ pd_K xs Ls d pd_m41 (mm_go 13 L (.int 1 :: st) S) o := pd_Gs (i := .iconst 1) (n := 1) rfl
theorem p41_13 : pd_G xs Ls d pd_m41 (13, L, st, S) o ↔ pd_K xs Ls d pd_m41 (mm_ii st fun x y r => mm_go 14 L (.int (x + y) :: r) S) o := pd_Gs (i := .iadd) (n := 1) rfl
theorem p41_14 : pd_G xs Ls d pd_m41 (14, L, st, S) o ↔ pd_K xs Ls d pd_m41 (mm_inv (mm_ev xs Ls pd_ck pd_ak pd_mj d) pd_m41 14 L st S 33 1 2) o := pd_Gs (i := .invokevirtual 126) (n := 3) rfl
theorem p41_17 : pd_G xs Ls d pd_m41 (17, L, st, S) o ↔ pd_K xs Ls d pd_m41 (mm_i st fun x r => mm_icmp .eq x 0 (mm_go 31 L r S) (mm_go 20 L r S)) o := pd_Gs (i := .ifCond .eq 14) (n := 3) rfl
theorem p41_20 : pd_G xs Ls d pd_m41 (20, L, st, S) o ↔ pd_K xs Ls d pd_m41 (mm_lA L 0 fun v => mm_go 21 L (v :: st) S) o := pd_Gs (i := .aload_n 0) (n := 1) rfl
theorem p41_21 : pd_G xs Ls d pd_m41 (21, L, st, S) o ↔ pd_K xs Ls d pd_m41 (mm_getf pd_ck 21 L st S 2 2) o := pd_Gs (i := .getfield 16) (n := 3) rfl
theorem p41_24 : pd_G xs Ls d pd_m41 (24, L, st, S) o ↔ pd_K xs Ls d pd_m41 (mm_go 26 L (.int 6 :: st) S) o := pd_Gs (i := .bipush 6) (n := 2) rfl
theorem p41_26 : pd_G xs Ls d pd_m41 (26, L, st, S) o ↔ pd_K xs Ls d pd_m41 (mm_go 27 L (.int 0 :: st) S) o := pd_Gs (i := .iconst 0) (n := 1) rfl
theorem p41_27 : pd_G xs Ls d pd_m41 (27, L, st, S) o ↔ pd_K xs Ls d pd_m41 (mm_inv (mm_ev xs Ls pd_ck pd_ak pd_mj d) pd_m41 27 L st S 14 2 1) o := pd_Gs (i := .invokevirtual 43) (n := 3) rfl
theorem p41_30 : pd_G xs Ls d pd_m41 (30, L, st, S) o ↔ pd_K xs Ls d pd_m41 (mm_1 st fun v r => cond (mm_c2 v) none (mm_go 31 L r S)) o := pd_Gs (i := .pop) (n := 1) rfl
theorem p41_31 : pd_G xs Ls d pd_m41 (31, L, st, S) o ↔ pd_K xs Ls d pd_m41 (mm_rV S st) o := pd_Gs (i := .return_) (n := 1) rfl
theorem p42_0 : pd_G xs Ls d pd_m42 (0, L, st, S) o ↔ pd_K xs Ls d pd_m42 (mm_lA L 0 fun v => mm_go 1 L (v :: st) S) o := pd_Gs (i := .aload_n 0) (n := 1) rfl
theorem p42_1 : pd_G xs Ls d pd_m42 (1, L, st, S) o ↔ pd_K xs Ls d pd_m42 (mm_lI L 1 fun x => mm_go 2 L (.int x :: st) S) o := pd_Gs (i := .iload_n 1) (n := 1) rfl
theorem p42_2 : pd_G xs Ls d pd_m42 (2, L, st, S) o ↔ pd_K xs Ls d pd_m42 (mm_inv (mm_ev xs Ls pd_ck pd_ak pd_mj d) pd_m42 2 L st S 37 1 2) o := pd_Gs (i := .invokevirtual 103) (n := 3) rfl
theorem p42_5 : pd_G xs Ls d pd_m42 (5, L, st, S) o ↔ pd_K xs Ls d pd_m42 (mm_lA L 0 fun v => mm_go 6 L (v :: st) S) o := pd_Gs (i := .aload_n 0) (n := 1) rfl
theorem p42_6 : pd_G xs Ls d pd_m42 (6, L, st, S) o ↔ pd_K xs Ls d pd_m42 (mm_go 8 L (.int 61 :: st) S) o := pd_Gs (i := .bipush 61) (n := 2) rfl
theorem p42_8 : pd_G xs Ls d pd_m42 (8, L, st, S) o ↔ pd_K xs Ls d pd_m42 (mm_inv (mm_ev xs Ls pd_ck pd_ak pd_mj d) pd_m42 8 L st S 28 1 2) o := pd_Gs (i := .invokevirtual 54) (n := 3) rfl
theorem p42_11 : pd_G xs Ls d pd_m42 (11, L, st, S) o ↔ pd_K xs Ls d pd_m42 (mm_i st fun x r => mm_icmp .ne x 0 (mm_go 15 L r S) (mm_go 14 L r S)) o := pd_Gs (i := .ifCond .ne 4) (n := 3) rfl
theorem p42_14 : pd_G xs Ls d pd_m42 (14, L, st, S) o ↔ pd_K xs Ls d pd_m42 (mm_rV S st) o := pd_Gs (i := .return_) (n := 1) rfl
theorem p42_15 : pd_G xs Ls d pd_m42 (15, L, st, S) o ↔ pd_K xs Ls d pd_m42 (mm_lA L 0 fun v => mm_go 16 L (v :: st) S) o := pd_Gs (i := .aload_n 0) (n := 1) rfl
theorem p42_16 : pd_G xs Ls d pd_m42 (16, L, st, S) o ↔ pd_K xs Ls d pd_m42 (mm_lA L 0 fun v => mm_go 17 L (v :: st) S) o := pd_Gs (i := .aload_n 0) (n := 1) rfl
theorem p42_17 : pd_G xs Ls d pd_m42 (17, L, st, S) o ↔ pd_K xs Ls d pd_m42 (mm_lI L 1 fun x => mm_go 18 L (.int x :: st) S) o := pd_Gs (i := .iload_n 1) (n := 1) rfl
theorem p42_18 : pd_G xs Ls d pd_m42 (18, L, st, S) o ↔ pd_K xs Ls d pd_m42 (mm_inv (mm_ev xs Ls pd_ck pd_ak pd_mj d) pd_m42 18 L st S 30 1 2) o := pd_Gs (i := .invokevirtual 84) (n := 3) rfl
theorem p42_21 : pd_G xs Ls d pd_m42 (21, L, st, S) o ↔ pd_K xs Ls d pd_m42 (mm_inv (mm_ev xs Ls pd_ck pd_ak pd_mj d) pd_m42 21 L st S 39 1 2) o := pd_Gs (i := .invokevirtual 99) (n := 3) rfl
theorem p42_24 : pd_G xs Ls d pd_m42 (24, L, st, S) o ↔ pd_K xs Ls d pd_m42 (mm_lA L 0 fun v => mm_go 25 L (v :: st) S) o := pd_Gs (i := .aload_n 0) (n := 1) rfl
theorem p42_25 : pd_G xs Ls d pd_m42 (25, L, st, S) o ↔ pd_K xs Ls d pd_m42 (mm_getf pd_ck 25 L st S 2 2) o := pd_Gs (i := .getfield 16) (n := 3) rfl
theorem p42_28 : pd_G xs Ls d pd_m42 (28, L, st, S) o ↔ pd_K xs Ls d pd_m42 (mm_go 30 L (.int 18 :: st) S) o := pd_Gs (i := .bipush 18) (n := 2) rfl
theorem p42_30 : pd_G xs Ls d pd_m42 (30, L, st, S) o ↔ pd_K xs Ls d pd_m42 (mm_go 31 L (.int 0 :: st) S) o := pd_Gs (i := .iconst 0) (n := 1) rfl
theorem p42_31 : pd_G xs Ls d pd_m42 (31, L, st, S) o ↔ pd_K xs Ls d pd_m42 (mm_inv (mm_ev xs Ls pd_ck pd_ak pd_mj d) pd_m42 31 L st S 14 2 1) o := pd_Gs (i := .invokevirtual 43) (n := 3) rfl
theorem p42_34 : pd_G xs Ls d pd_m42 (34, L, st, S) o ↔ pd_K xs Ls d pd_m42 (mm_1 st fun v r => cond (mm_c2 v) none (mm_go 35 L r S)) o := pd_Gs (i := .pop) (n := 1) rfl
theorem p42_35 : pd_G xs Ls d pd_m42 (35, L, st, S) o ↔ pd_K xs Ls d pd_m42 (mm_rV S st) o := pd_Gs (i := .return_) (n := 1) rfl
theorem p43_0 : pd_G xs Ls d pd_m43 (0, L, st, S) o ↔ pd_K xs Ls d pd_m43 (mm_lA L 0 fun v => mm_go 1 L (v :: st) S) o := pd_Gs (i := .aload_n 0) (n := 1) rfl
theorem p43_1 : pd_G xs Ls d pd_m43 (1, L, st, S) o ↔ pd_K xs Ls d pd_m43 (mm_lA L 0 fun v => mm_go 2 L (v :: st) S) o := pd_Gs (i := .aload_n 0) (n := 1) rfl
theorem p43_2 : pd_G xs Ls d pd_m43 (2, L, st, S) o ↔ pd_K xs Ls d pd_m43 (mm_lI L 1 fun x => mm_go 3 L (.int x :: st) S) o := pd_Gs (i := .iload_n 1) (n := 1) rfl
theorem p43_3 : pd_G xs Ls d pd_m43 (3, L, st, S) o ↔ pd_K xs Ls d pd_m43 (mm_inv (mm_ev xs Ls pd_ck pd_ak pd_mj d) pd_m43 3 L st S 30 1 2) o := pd_Gs (i := .invokevirtual 84) (n := 3) rfl
theorem p43_6 : pd_G xs Ls d pd_m43 (6, L, st, S) o ↔ pd_K xs Ls d pd_m43 (mm_inv (mm_ev xs Ls pd_ck pd_ak pd_mj d) pd_m43 6 L st S 39 1 2) o := pd_Gs (i := .invokevirtual 99) (n := 3) rfl
theorem p43_9 : pd_G xs Ls d pd_m43 (9, L, st, S) o ↔ pd_K xs Ls d pd_m43 (mm_lA L 0 fun v => mm_go 10 L (v :: st) S) o := pd_Gs (i := .aload_n 0) (n := 1) rfl
theorem p43_10 : pd_G xs Ls d pd_m43 (10, L, st, S) o ↔ pd_K xs Ls d pd_m43 (mm_getf pd_ck 10 L st S 2 2) o := pd_Gs (i := .getfield 16) (n := 3) rfl
theorem p43_13 : pd_G xs Ls d pd_m43 (13, L, st, S) o ↔ pd_K xs Ls d pd_m43 (mm_go 15 L (.int 19 :: st) S) o := pd_Gs (i := .bipush 19) (n := 2) rfl
theorem p43_15 : pd_G xs Ls d pd_m43 (15, L, st, S) o ↔ pd_K xs Ls d pd_m43 (mm_go 16 L (.int 0 :: st) S) o := pd_Gs (i := .iconst 0) (n := 1) rfl
theorem p43_16 : pd_G xs Ls d pd_m43 (16, L, st, S) o ↔ pd_K xs Ls d pd_m43 (mm_inv (mm_ev xs Ls pd_ck pd_ak pd_mj d) pd_m43 16 L st S 14 2 1) o := pd_Gs (i := .invokevirtual 43) (n := 3) rfl
theorem p43_19 : pd_G xs Ls d pd_m43 (19, L, st, S) o ↔ pd_K xs Ls d pd_m43 (mm_i st fun x r => mm_go 20 (mm_sto L 0 2 (.int x)) r S) o := pd_Gs (i := .istore_n 2) (n := 1) rfl
theorem p43_20 : pd_G xs Ls d pd_m43 (20, L, st, S) o ↔ pd_K xs Ls d pd_m43 (mm_lA L 0 fun v => mm_go 21 L (v :: st) S) o := pd_Gs (i := .aload_n 0) (n := 1) rfl
theorem p43_21 : pd_G xs Ls d pd_m43 (21, L, st, S) o ↔ pd_K xs Ls d pd_m43 (mm_lI L 1 fun x => mm_go 22 L (.int x :: st) S) o := pd_Gs (i := .iload_n 1) (n := 1) rfl
theorem p43_22 : pd_G xs Ls d pd_m43 (22, L, st, S) o ↔ pd_K xs Ls d pd_m43 (mm_inv (mm_ev xs Ls pd_ck pd_ak pd_mj d) pd_m43 22 L st S 44 1 2) o := pd_Gs (i := .invokevirtual 106) (n := 3) rfl
theorem p43_25 : pd_G xs Ls d pd_m43 (25, L, st, S) o ↔ pd_K xs Ls d pd_m43 (mm_lA L 0 fun v => mm_go 26 L (v :: st) S) o := pd_Gs (i := .aload_n 0) (n := 1) rfl
theorem p43_26 : pd_G xs Ls d pd_m43 (26, L, st, S) o ↔ pd_K xs Ls d pd_m43 (mm_getf pd_ck 26 L st S 2 2) o := pd_Gs (i := .getfield 16) (n := 3) rfl
theorem p43_29 : pd_G xs Ls d pd_m43 (29, L, st, S) o ↔ pd_K xs Ls d pd_m43 (mm_lI L 2 fun x => mm_go 30 L (.int x :: st) S) o := pd_Gs (i := .iload_n 2) (n := 1) rfl
theorem p43_30 : pd_G xs Ls d pd_m43 (30, L, st, S) o ↔ pd_K xs Ls d pd_m43 (mm_inv (mm_ev xs Ls pd_ck pd_ak pd_mj d) pd_m43 30 L st S 15 1 1) o := pd_Gs (i := .invokevirtual 109) (n := 3) rfl
theorem p43_33 : pd_G xs Ls d pd_m43 (33, L, st, S) o ↔ pd_K xs Ls d pd_m43 (mm_rV S st) o := pd_Gs (i := .return_) (n := 1) rfl
theorem p44_0 : pd_G xs Ls d pd_m44 (0, L, st, S) o ↔ pd_K xs Ls d pd_m44 (mm_lA L 0 fun v => mm_go 1 L (v :: st) S) o := pd_Gs (i := .aload_n 0) (n := 1) rfl
theorem p44_1 : pd_G xs Ls d pd_m44 (1, L, st, S) o ↔ pd_K xs Ls d pd_m44 (mm_go 3 L (.int 123 :: st) S) o := pd_Gs (i := .bipush 123) (n := 2) rfl
theorem p44_3 : pd_G xs Ls d pd_m44 (3, L, st, S) o ↔ pd_K xs Ls d pd_m44 (mm_lI L 1 fun x => mm_go 4 L (.int x :: st) S) o := pd_Gs (i := .iload_n 1) (n := 1) rfl
theorem p44_4 : pd_G xs Ls d pd_m44 (4, L, st, S) o ↔ pd_K xs Ls d pd_m44 (mm_inv (mm_ev xs Ls pd_ck pd_ak pd_mj d) pd_m44 4 L st S 38 2 2) o := pd_Gs (i := .invokevirtual 116) (n := 3) rfl
theorem p44_7 : pd_G xs Ls d pd_m44 (7, L, st, S) o ↔ pd_K xs Ls d pd_m44 (mm_i st fun x r => mm_icmp .eq x 0 (mm_go 24 L r S) (mm_go 10 L r S)) o := pd_Gs (i := .ifCond .eq 17) (n := 3) rfl
theorem p44_10 : pd_G xs Ls d pd_m44 (10, L, st, S) o ↔ pd_K xs Ls d pd_m44 (mm_lA L 0 fun v => mm_go 11 L (v :: st) S) o := pd_Gs (i := .aload_n 0) (n := 1) rfl
theorem p44_11 : pd_G xs Ls d pd_m44 (11, L, st, S) o ↔ pd_K xs Ls d pd_m44 (mm_lI L 1 fun x => mm_go 12 L (.int x :: st) S) o := pd_Gs (i := .iload_n 1) (n := 1) rfl
theorem p44_12 : pd_G xs Ls d pd_m44 (12, L, st, S) o ↔ pd_K xs Ls d pd_m44 (mm_go 13 L (.int 1 :: st) S) o := pd_Gs (i := .iconst 1) (n := 1) rfl
theorem p44_13 : pd_G xs Ls d pd_m44 (13, L, st, S) o ↔ pd_K xs Ls d pd_m44 (mm_ii st fun x y r => mm_go 14 L (.int (x + y) :: r) S) o := pd_Gs (i := .iadd) (n := 1) rfl
theorem p44_14 : pd_G xs Ls d pd_m44 (14, L, st, S) o ↔ pd_K xs Ls d pd_m44 (mm_inv (mm_ev xs Ls pd_ck pd_ak pd_mj d) pd_m44 14 L st S 23 1 2) o := pd_Gs (i := .invokevirtual 37) (n := 3) rfl
theorem p44_17 : pd_G xs Ls d pd_m44 (17, L, st, S) o ↔ pd_K xs Ls d pd_m44 (mm_lA L 0 fun v => mm_go 18 L (v :: st) S) o := pd_Gs (i := .aload_n 0) (n := 1) rfl
theorem p44_18 : pd_G xs Ls d pd_m44 (18, L, st, S) o ↔ pd_K xs Ls d pd_m44 (mm_go 20 L (.int 125 :: st) S) o := pd_Gs (i := .bipush 125) (n := 2) rfl
theorem p44_20 : pd_G xs Ls d pd_m44 (20, L, st, S) o ↔ pd_K xs Ls d pd_m44 (mm_inv (mm_ev xs Ls pd_ck pd_ak pd_mj d) pd_m44 20 L st S 28 1 2) o := pd_Gs (i := .invokevirtual 54) (n := 3) rfl
theorem p44_23 : pd_G xs Ls d pd_m44 (23, L, st, S) o ↔ pd_K xs Ls d pd_m44 (mm_1 st fun v r => cond (mm_c2 v) none (mm_go 24 L r S)) o := pd_Gs (i := .pop) (n := 1) rfl
theorem p44_24 : pd_G xs Ls d pd_m44 (24, L, st, S) o ↔ pd_K xs Ls d pd_m44 (mm_rV S st) o := pd_Gs (i := .return_) (n := 1) rfl
theorem p45_0 : pd_G xs Ls d pd_m45 (0, L, st, S) o ↔ pd_K xs Ls d pd_m45 (mm_lA L 0 fun v => mm_go 1 L (v :: st) S) o := pd_Gs (i := .aload_n 0) (n := 1) rfl
theorem p45_1 : pd_G xs Ls d pd_m45 (1, L, st, S) o ↔ pd_K xs Ls d pd_m45 (mm_getf pd_ck 1 L st S 2 2) o := pd_Gs (i := .getfield 16) (n := 3) rfl
theorem p45_4 : pd_G xs Ls d pd_m45 (4, L, st, S) o ↔ pd_K xs Ls d pd_m45 (mm_inv (mm_ev xs Ls pd_ck pd_ak pd_mj d) pd_m45 4 L st S 16 0 1) o := pd_Gs (i := .invokevirtual 112) (n := 3) rfl
theorem p45_7 : pd_G xs Ls d pd_m45 (7, L, st, S) o ↔ pd_K xs Ls d pd_m45 (mm_i st fun x r => mm_go 8 (mm_sto L 0 2 (.int x)) r S) o := pd_Gs (i := .istore_n 2) (n := 1) rfl
theorem p45_8 : pd_G xs Ls d pd_m45 (8, L, st, S) o ↔ pd_K xs Ls d pd_m45 (mm_lA L 0 fun v => mm_go 9 L (v :: st) S) o := pd_Gs (i := .aload_n 0) (n := 1) rfl
theorem p45_9 : pd_G xs Ls d pd_m45 (9, L, st, S) o ↔ pd_K xs Ls d pd_m45 (mm_lA L 0 fun v => mm_go 10 L (v :: st) S) o := pd_Gs (i := .aload_n 0) (n := 1) rfl
theorem p45_10 : pd_G xs Ls d pd_m45 (10, L, st, S) o ↔ pd_K xs Ls d pd_m45 (mm_lI L 1 fun x => mm_go 11 L (.int x :: st) S) o := pd_Gs (i := .iload_n 1) (n := 1) rfl
theorem p45_11 : pd_G xs Ls d pd_m45 (11, L, st, S) o ↔ pd_K xs Ls d pd_m45 (mm_inv (mm_ev xs Ls pd_ck pd_ak pd_mj d) pd_m45 11 L st S 30 1 2) o := pd_Gs (i := .invokevirtual 84) (n := 3) rfl
theorem p45_14 : pd_G xs Ls d pd_m45 (14, L, st, S) o ↔ pd_K xs Ls d pd_m45 (mm_inv (mm_ev xs Ls pd_ck pd_ak pd_mj d) pd_m45 14 L st S 39 1 2) o := pd_Gs (i := .invokevirtual 99) (n := 3) rfl
theorem p45_17 : pd_G xs Ls d pd_m45 (17, L, st, S) o ↔ pd_K xs Ls d pd_m45 (mm_lA L 0 fun v => mm_go 18 L (v :: st) S) o := pd_Gs (i := .aload_n 0) (n := 1) rfl
theorem p45_18 : pd_G xs Ls d pd_m45 (18, L, st, S) o ↔ pd_K xs Ls d pd_m45 (mm_getf pd_ck 18 L st S 2 2) o := pd_Gs (i := .getfield 16) (n := 3) rfl
theorem p45_21 : pd_G xs Ls d pd_m45 (21, L, st, S) o ↔ pd_K xs Ls d pd_m45 (mm_go 23 L (.int 19 :: st) S) o := pd_Gs (i := .bipush 19) (n := 2) rfl
theorem p45_23 : pd_G xs Ls d pd_m45 (23, L, st, S) o ↔ pd_K xs Ls d pd_m45 (mm_go 24 L (.int 0 :: st) S) o := pd_Gs (i := .iconst 0) (n := 1) rfl
theorem p45_24 : pd_G xs Ls d pd_m45 (24, L, st, S) o ↔ pd_K xs Ls d pd_m45 (mm_inv (mm_ev xs Ls pd_ck pd_ak pd_mj d) pd_m45 24 L st S 14 2 1) o := pd_Gs (i := .invokevirtual 43) (n := 3) rfl
theorem p45_27 : pd_G xs Ls d pd_m45 (27, L, st, S) o ↔ pd_K xs Ls d pd_m45 (mm_i st fun x r => mm_go 28 (mm_sto L 0 3 (.int x)) r S) o := pd_Gs (i := .istore_n 3) (n := 1) rfl
theorem p45_28 : pd_G xs Ls d pd_m45 (28, L, st, S) o ↔ pd_K xs Ls d pd_m45 (mm_lA L 0 fun v => mm_go 29 L (v :: st) S) o := pd_Gs (i := .aload_n 0) (n := 1) rfl
theorem p45_29 : pd_G xs Ls d pd_m45 (29, L, st, S) o ↔ pd_K xs Ls d pd_m45 (mm_lI L 1 fun x => mm_go 30 L (.int x :: st) S) o := pd_Gs (i := .iload_n 1) (n := 1) rfl
theorem p45_30 : pd_G xs Ls d pd_m45 (30, L, st, S) o ↔ pd_K xs Ls d pd_m45 (mm_inv (mm_ev xs Ls pd_ck pd_ak pd_mj d) pd_m45 30 L st S 44 1 2) o := pd_Gs (i := .invokevirtual 106) (n := 3) rfl
theorem p45_33 : pd_G xs Ls d pd_m45 (33, L, st, S) o ↔ pd_K xs Ls d pd_m45 (mm_lA L 0 fun v => mm_go 34 L (v :: st) S) o := pd_Gs (i := .aload_n 0) (n := 1) rfl
theorem p45_34 : pd_G xs Ls d pd_m45 (34, L, st, S) o ↔ pd_K xs Ls d pd_m45 (mm_getf pd_ck 34 L st S 2 2) o := pd_Gs (i := .getfield 16) (n := 3) rfl
theorem p45_37 : pd_G xs Ls d pd_m45 (37, L, st, S) o ↔ pd_K xs Ls d pd_m45 (mm_go 38 L (.int 1 :: st) S) o := pd_Gs (i := .iconst 1) (n := 1) rfl
theorem p45_38 : pd_G xs Ls d pd_m45 (38, L, st, S) o ↔ pd_K xs Ls d pd_m45 (mm_lI L 2 fun x => mm_go 39 L (.int x :: st) S) o := pd_Gs (i := .iload_n 2) (n := 1) rfl
theorem p45_39 : pd_G xs Ls d pd_m45 (39, L, st, S) o ↔ pd_K xs Ls d pd_m45 (mm_inv (mm_ev xs Ls pd_ck pd_ak pd_mj d) pd_m45 39 L st S 14 2 1) o := pd_Gs (i := .invokevirtual 43) (n := 3) rfl
theorem p45_42 : pd_G xs Ls d pd_m45 (42, L, st, S) o ↔ pd_K xs Ls d pd_m45 (mm_1 st fun v r => cond (mm_c2 v) none (mm_go 43 L r S)) o := pd_Gs (i := .pop) (n := 1) rfl
theorem p45_43 : pd_G xs Ls d pd_m45 (43, L, st, S) o ↔ pd_K xs Ls d pd_m45 (mm_lA L 0 fun v => mm_go 44 L (v :: st) S) o := pd_Gs (i := .aload_n 0) (n := 1) rfl
theorem p45_44 : pd_G xs Ls d pd_m45 (44, L, st, S) o ↔ pd_K xs Ls d pd_m45 (mm_getf pd_ck 44 L st S 2 2) o := pd_Gs (i := .getfield 16) (n := 3) rfl
theorem p45_47 : pd_G xs Ls d pd_m45 (47, L, st, S) o ↔ pd_K xs Ls d pd_m45 (mm_lI L 3 fun x => mm_go 48 L (.int x :: st) S) o := pd_Gs (i := .iload_n 3) (n := 1) rfl
theorem p45_48 : pd_G xs Ls d pd_m45 (48, L, st, S) o ↔ pd_K xs Ls d pd_m45 (mm_inv (mm_ev xs Ls pd_ck pd_ak pd_mj d) pd_m45 48 L st S 15 1 1) o := pd_Gs (i := .invokevirtual 109) (n := 3) rfl
theorem p45_51 : pd_G xs Ls d pd_m45 (51, L, st, S) o ↔ pd_K xs Ls d pd_m45 (mm_rV S st) o := pd_Gs (i := .return_) (n := 1) rfl
theorem p46_0 : pd_G xs Ls d pd_m46 (0, L, st, S) o ↔ pd_K xs Ls d pd_m46 (mm_lA L 0 fun v => mm_go 1 L (v :: st) S) o := pd_Gs (i := .aload_n 0) (n := 1) rfl
theorem p46_1 : pd_G xs Ls d pd_m46 (1, L, st, S) o ↔ pd_K xs Ls d pd_m46 (mm_go 3 L (.int 123 :: st) S) o := pd_Gs (i := .bipush 123) (n := 2) rfl
theorem p46_3 : pd_G xs Ls d pd_m46 (3, L, st, S) o ↔ pd_K xs Ls d pd_m46 (mm_lI L 1 fun x => mm_go 4 L (.int x :: st) S) o := pd_Gs (i := .iload_n 1) (n := 1) rfl
theorem p46_4 : pd_G xs Ls d pd_m46 (4, L, st, S) o ↔ pd_K xs Ls d pd_m46 (mm_inv (mm_ev xs Ls pd_ck pd_ak pd_mj d) pd_m46 4 L st S 38 2 2) o := pd_Gs (i := .invokevirtual 116) (n := 3) rfl
theorem p46_7 : pd_G xs Ls d pd_m46 (7, L, st, S) o ↔ pd_K xs Ls d pd_m46 (mm_i st fun x r => mm_icmp .ne x 0 (mm_go 11 L r S) (mm_go 10 L r S)) o := pd_Gs (i := .ifCond .ne 4) (n := 3) rfl
theorem p46_10 : pd_G xs Ls d pd_m46 (10, L, st, S) o ↔ pd_K xs Ls d pd_m46 (mm_rV S st) o := pd_Gs (i := .return_) (n := 1) rfl
theorem p46_11 : pd_G xs Ls d pd_m46 (11, L, st, S) o ↔ pd_K xs Ls d pd_m46 (mm_lA L 0 fun v => mm_go 12 L (v :: st) S) o := pd_Gs (i := .aload_n 0) (n := 1) rfl
theorem p46_12 : pd_G xs Ls d pd_m46 (12, L, st, S) o ↔ pd_K xs Ls d pd_m46 (mm_getf pd_ck 12 L st S 2 2) o := pd_Gs (i := .getfield 16) (n := 3) rfl
theorem p46_15 : pd_G xs Ls d pd_m46 (15, L, st, S) o ↔ pd_K xs Ls d pd_m46 (mm_go 17 L (.int 24 :: st) S) o := pd_Gs (i := .bipush 24) (n := 2) rfl
theorem p46_17 : pd_G xs Ls d pd_m46 (17, L, st, S) o ↔ pd_K xs Ls d pd_m46 (mm_go 18 L (.int 0 :: st) S) o := pd_Gs (i := .iconst 0) (n := 1) rfl
theorem p46_18 : pd_G xs Ls d pd_m46 (18, L, st, S) o ↔ pd_K xs Ls d pd_m46 (mm_inv (mm_ev xs Ls pd_ck pd_ak pd_mj d) pd_m46 18 L st S 14 2 1) o := pd_Gs (i := .invokevirtual 43) (n := 3) rfl
theorem p46_21 : pd_G xs Ls d pd_m46 (21, L, st, S) o ↔ pd_K xs Ls d pd_m46 (mm_i st fun x r => mm_go 22 (mm_sto L 0 2 (.int x)) r S) o := pd_Gs (i := .istore_n 2) (n := 1) rfl
theorem p46_22 : pd_G xs Ls d pd_m46 (22, L, st, S) o ↔ pd_K xs Ls d pd_m46 (mm_lA L 0 fun v => mm_go 23 L (v :: st) S) o := pd_Gs (i := .aload_n 0) (n := 1) rfl
theorem p46_23 : pd_G xs Ls d pd_m46 (23, L, st, S) o ↔ pd_K xs Ls d pd_m46 (mm_getf pd_ck 23 L st S 2 2) o := pd_Gs (i := .getfield 16) (n := 3) rfl
theorem p46_26 : pd_G xs Ls d pd_m46 (26, L, st, S) o ↔ pd_K xs Ls d pd_m46 (mm_go 27 L (.int 1 :: st) S) o := pd_Gs (i := .iconst 1) (n := 1) rfl
theorem p46_27 : pd_G xs Ls d pd_m46 (27, L, st, S) o ↔ pd_K xs Ls d pd_m46 (mm_go 28 L (.int 0 :: st) S) o := pd_Gs (i := .iconst 0) (n := 1) rfl
theorem p46_28 : pd_G xs Ls d pd_m46 (28, L, st, S) o ↔ pd_K xs Ls d pd_m46 (mm_inv (mm_ev xs Ls pd_ck pd_ak pd_mj d) pd_m46 28 L st S 14 2 1) o := pd_Gs (i := .invokevirtual 43) (n := 3) rfl
theorem p46_31 : pd_G xs Ls d pd_m46 (31, L, st, S) o ↔ pd_K xs Ls d pd_m46 (mm_i st fun x r => mm_go 32 (mm_sto L 0 3 (.int x)) r S) o := pd_Gs (i := .istore_n 3) (n := 1) rfl
theorem p46_32 : pd_G xs Ls d pd_m46 (32, L, st, S) o ↔ pd_K xs Ls d pd_m46 (mm_lA L 0 fun v => mm_go 33 L (v :: st) S) o := pd_Gs (i := .aload_n 0) (n := 1) rfl
theorem p46_33 : pd_G xs Ls d pd_m46 (33, L, st, S) o ↔ pd_K xs Ls d pd_m46 (mm_lI L 1 fun x => mm_go 34 L (.int x :: st) S) o := pd_Gs (i := .iload_n 1) (n := 1) rfl
theorem p46_34 : pd_G xs Ls d pd_m46 (34, L, st, S) o ↔ pd_K xs Ls d pd_m46 (mm_go 35 L (.int 1 :: st) S) o := pd_Gs (i := .iconst 1) (n := 1) rfl
theorem p46_35 : pd_G xs Ls d pd_m46 (35, L, st, S) o ↔ pd_K xs Ls d pd_m46 (mm_ii st fun x y r => mm_go 36 L (.int (x + y) :: r) S) o := pd_Gs (i := .iadd) (n := 1) rfl
theorem p46_36 : pd_G xs Ls d pd_m46 (36, L, st, S) o ↔ pd_K xs Ls d pd_m46 (mm_inv (mm_ev xs Ls pd_ck pd_ak pd_mj d) pd_m46 36 L st S 23 1 2) o := pd_Gs (i := .invokevirtual 37) (n := 3) rfl
theorem p46_39 : pd_G xs Ls d pd_m46 (39, L, st, S) o ↔ pd_K xs Ls d pd_m46 (mm_lA L 0 fun v => mm_go 40 L (v :: st) S) o := pd_Gs (i := .aload_n 0) (n := 1) rfl
theorem p46_40 : pd_G xs Ls d pd_m46 (40, L, st, S) o ↔ pd_K xs Ls d pd_m46 (mm_getf pd_ck 40 L st S 2 2) o := pd_Gs (i := .getfield 16) (n := 3) rfl
theorem p46_43 : pd_G xs Ls d pd_m46 (43, L, st, S) o ↔ pd_K xs Ls d pd_m46 (mm_go 44 L (.int 0 :: st) S) o := pd_Gs (i := .iconst 0) (n := 1) rfl
theorem p46_44 : pd_G xs Ls d pd_m46 (44, L, st, S) o ↔ pd_K xs Ls d pd_m46 (mm_go 45 L (.int 0 :: st) S) o := pd_Gs (i := .iconst 0) (n := 1) rfl
theorem p46_45 : pd_G xs Ls d pd_m46 (45, L, st, S) o ↔ pd_K xs Ls d pd_m46 (mm_inv (mm_ev xs Ls pd_ck pd_ak pd_mj d) pd_m46 45 L st S 14 2 1) o := pd_Gs (i := .invokevirtual 43) (n := 3) rfl
theorem p46_48 : pd_G xs Ls d pd_m46 (48, L, st, S) o ↔ pd_K xs Ls d pd_m46 (mm_1 st fun v r => cond (mm_c2 v) none (mm_go 49 L r S)) o := pd_Gs (i := .pop) (n := 1) rfl
theorem p46_49 : pd_G xs Ls d pd_m46 (49, L, st, S) o ↔ pd_K xs Ls d pd_m46 (mm_lA L 0 fun v => mm_go 50 L (v :: st) S) o := pd_Gs (i := .aload_n 0) (n := 1) rfl
theorem p46_50 : pd_G xs Ls d pd_m46 (50, L, st, S) o ↔ pd_K xs Ls d pd_m46 (mm_go 52 L (.int 124 :: st) S) o := pd_Gs (i := .bipush 124) (n := 2) rfl
theorem p46_52 : pd_G xs Ls d pd_m46 (52, L, st, S) o ↔ pd_K xs Ls d pd_m46 (mm_inv (mm_ev xs Ls pd_ck pd_ak pd_mj d) pd_m46 52 L st S 28 1 2) o := pd_Gs (i := .invokevirtual 54) (n := 3) rfl
theorem p46_55 : pd_G xs Ls d pd_m46 (55, L, st, S) o ↔ pd_K xs Ls d pd_m46 (mm_i st fun x r => mm_icmp .ne x 0 (mm_go 59 L r S) (mm_go 58 L r S)) o := pd_Gs (i := .ifCond .ne 4) (n := 3) rfl
theorem p46_58 : pd_G xs Ls d pd_m46 (58, L, st, S) o ↔ pd_K xs Ls d pd_m46 (mm_rV S st) o := pd_Gs (i := .return_) (n := 1) rfl
theorem p46_59 : pd_G xs Ls d pd_m46 (59, L, st, S) o ↔ pd_K xs Ls d pd_m46 (mm_lA L 0 fun v => mm_go 60 L (v :: st) S) o := pd_Gs (i := .aload_n 0) (n := 1) rfl
theorem p46_60 : pd_G xs Ls d pd_m46 (60, L, st, S) o ↔ pd_K xs Ls d pd_m46 (mm_getf pd_ck 60 L st S 2 2) o := pd_Gs (i := .getfield 16) (n := 3) rfl
theorem p46_63 : pd_G xs Ls d pd_m46 (63, L, st, S) o ↔ pd_K xs Ls d pd_m46 (mm_lI L 2 fun x => mm_go 64 L (.int x :: st) S) o := pd_Gs (i := .iload_n 2) (n := 1) rfl
theorem p46_64 : pd_G xs Ls d pd_m46 (64, L, st, S) o ↔ pd_K xs Ls d pd_m46 (mm_inv (mm_ev xs Ls pd_ck pd_ak pd_mj d) pd_m46 64 L st S 15 1 1) o := pd_Gs (i := .invokevirtual 109) (n := 3) rfl
theorem p46_67 : pd_G xs Ls d pd_m46 (67, L, st, S) o ↔ pd_K xs Ls d pd_m46 (mm_lA L 0 fun v => mm_go 68 L (v :: st) S) o := pd_Gs (i := .aload_n 0) (n := 1) rfl
theorem p46_68 : pd_G xs Ls d pd_m46 (68, L, st, S) o ↔ pd_K xs Ls d pd_m46 (mm_lI L 1 fun x => mm_go 69 L (.int x :: st) S) o := pd_Gs (i := .iload_n 1) (n := 1) rfl
theorem p46_69 : pd_G xs Ls d pd_m46 (69, L, st, S) o ↔ pd_K xs Ls d pd_m46 (mm_go 70 L (.int 1 :: st) S) o := pd_Gs (i := .iconst 1) (n := 1) rfl
theorem p46_70 : pd_G xs Ls d pd_m46 (70, L, st, S) o ↔ pd_K xs Ls d pd_m46 (mm_ii st fun x y r => mm_go 71 L (.int (x + y) :: r) S) o := pd_Gs (i := .iadd) (n := 1) rfl
theorem p46_71 : pd_G xs Ls d pd_m46 (71, L, st, S) o ↔ pd_K xs Ls d pd_m46 (mm_inv (mm_ev xs Ls pd_ck pd_ak pd_mj d) pd_m46 71 L st S 23 1 2) o := pd_Gs (i := .invokevirtual 37) (n := 3) rfl
theorem p46_74 : pd_G xs Ls d pd_m46 (74, L, st, S) o ↔ pd_K xs Ls d pd_m46 (mm_lA L 0 fun v => mm_go 75 L (v :: st) S) o := pd_Gs (i := .aload_n 0) (n := 1) rfl
theorem p46_75 : pd_G xs Ls d pd_m46 (75, L, st, S) o ↔ pd_K xs Ls d pd_m46 (mm_getf pd_ck 75 L st S 2 2) o := pd_Gs (i := .getfield 16) (n := 3) rfl
theorem p46_78 : pd_G xs Ls d pd_m46 (78, L, st, S) o ↔ pd_K xs Ls d pd_m46 (mm_go 79 L (.int 0 :: st) S) o := pd_Gs (i := .iconst 0) (n := 1) rfl
theorem p46_79 : pd_G xs Ls d pd_m46 (79, L, st, S) o ↔ pd_K xs Ls d pd_m46 (mm_go 80 L (.int 0 :: st) S) o := pd_Gs (i := .iconst 0) (n := 1) rfl
theorem p46_80 : pd_G xs Ls d pd_m46 (80, L, st, S) o ↔ pd_K xs Ls d pd_m46 (mm_inv (mm_ev xs Ls pd_ck pd_ak pd_mj d) pd_m46 80 L st S 14 2 1) o := pd_Gs (i := .invokevirtual 43) (n := 3) rfl
theorem p46_83 : pd_G xs Ls d pd_m46 (83, L, st, S) o ↔ pd_K xs Ls d pd_m46 (mm_1 st fun v r => cond (mm_c2 v) none (mm_go 84 L r S)) o := pd_Gs (i := .pop) (n := 1) rfl
theorem p46_84 : pd_G xs Ls d pd_m46 (84, L, st, S) o ↔ pd_K xs Ls d pd_m46 (mm_lA L 0 fun v => mm_go 85 L (v :: st) S) o := pd_Gs (i := .aload_n 0) (n := 1) rfl
theorem p46_85 : pd_G xs Ls d pd_m46 (85, L, st, S) o ↔ pd_K xs Ls d pd_m46 (mm_getf pd_ck 85 L st S 2 2) o := pd_Gs (i := .getfield 16) (n := 3) rfl
theorem p46_88 : pd_G xs Ls d pd_m46 (88, L, st, S) o ↔ pd_K xs Ls d pd_m46 (mm_lI L 3 fun x => mm_go 89 L (.int x :: st) S) o := pd_Gs (i := .iload_n 3) (n := 1) rfl
theorem p46_89 : pd_G xs Ls d pd_m46 (89, L, st, S) o ↔ pd_K xs Ls d pd_m46 (mm_inv (mm_ev xs Ls pd_ck pd_ak pd_mj d) pd_m46 89 L st S 15 1 1) o := pd_Gs (i := .invokevirtual 109) (n := 3) rfl
theorem p46_92 : pd_G xs Ls d pd_m46 (92, L, st, S) o ↔ pd_K xs Ls d pd_m46 (mm_lA L 0 fun v => mm_go 93 L (v :: st) S) o := pd_Gs (i := .aload_n 0) (n := 1) rfl
theorem p46_93 : pd_G xs Ls d pd_m46 (93, L, st, S) o ↔ pd_K xs Ls d pd_m46 (mm_go 95 L (.int 125 :: st) S) o := pd_Gs (i := .bipush 125) (n := 2) rfl
theorem p46_95 : pd_G xs Ls d pd_m46 (95, L, st, S) o ↔ pd_K xs Ls d pd_m46 (mm_inv (mm_ev xs Ls pd_ck pd_ak pd_mj d) pd_m46 95 L st S 28 1 2) o := pd_Gs (i := .invokevirtual 54) (n := 3) rfl
theorem p46_98 : pd_G xs Ls d pd_m46 (98, L, st, S) o ↔ pd_K xs Ls d pd_m46 (mm_1 st fun v r => cond (mm_c2 v) none (mm_go 99 L r S)) o := pd_Gs (i := .pop) (n := 1) rfl
theorem p46_99 : pd_G xs Ls d pd_m46 (99, L, st, S) o ↔ pd_K xs Ls d pd_m46 (mm_rV S st) o := pd_Gs (i := .return_) (n := 1) rfl
end PCS
