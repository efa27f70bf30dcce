/-! one row an instruction (printed by gen_pc.py) -/
section PCS
variable {xs : Nat → Int32} {Ls d : Nat} {L : mm_L} {st : List Value} {S : mm_St} {o : mm_O}
theorem p0_0 : pd_G xs Ls d pd_m0 (0, L, st, S) o ↔ pd_K xs Ls d pd_m0 (mm_lA L 0 fun v => mm_go 1 L (v :: st) S) o := pd_Gs (i := .aload_n 0) (n := 1) rfl
theorem p0_1 : pd_G xs Ls d pd_m0 (1, L, st, S) o ↔ pd_K xs Ls d pd_m0 (mm_r st fun _ r => cond (Nat.ble (mm_wt r) 8) (mm_go 4 L r S) none) o := pd_Gs (i := .invokespecial 1) (n := 3) rfl
theorem p0_4 : pd_G xs Ls d pd_m0 (4, L, st, S) o ↔ pd_K xs Ls d pd_m0 (mm_lA L 0 fun v => mm_go 5 L (v :: st) S) o := pd_Gs (i := .aload_n 0) (n := 1) rfl
theorem p0_5 : pd_G xs Ls d pd_m0 (5, L, st, S) o ↔ pd_K xs Ls d pd_m0 (mm_al S (mm_go 8 L (.ref S.1.length :: st) (mm_new S (.inl 2)))) o := pd_Gs (i := .new 7) (n := 3) rfl
theorem p0_8 : pd_G xs Ls d pd_m0 (8, L, st, S) o ↔ pd_K xs Ls d pd_m0 (mm_1 st fun v r => cond (mm_c2 v) none (mm_go 9 L (v :: v :: r) S)) o := pd_Gs (i := .dup) (n := 1) rfl
theorem p0_9 : pd_G xs Ls d pd_m0 (9, L, st, S) o ↔ pd_K xs Ls d pd_m0 (mm_noT (mm_inv (mm_ev xs Ls pd_ck pd_ak pd_mj d) pd_m0 9 L st S 19 0 2)) o := pd_Gs (i := .invokespecial 9) (n := 3) rfl
theorem p0_12 : pd_G xs Ls d pd_m0 (12, L, st, S) o ↔ pd_K xs Ls d pd_m0 (mm_putf pd_ck 12 L st S 0 0) o := pd_Gs (i := .putfield 10) (n := 3) rfl
theorem p0_15 : pd_G xs Ls d pd_m0 (15, L, st, S) o ↔ pd_K xs Ls d pd_m0 (mm_lA L 0 fun v => mm_go 16 L (v :: st) S) o := pd_Gs (i := .aload_n 0) (n := 1) rfl
theorem p0_16 : pd_G xs Ls d pd_m0 (16, L, st, S) o ↔ pd_K xs Ls d pd_m0 (mm_al S (mm_go 19 L (.ref S.1.length :: st) (mm_new S (.inl 3)))) o := pd_Gs (i := .new 16) (n := 3) rfl
theorem p0_19 : pd_G xs Ls d pd_m0 (19, L, st, S) o ↔ pd_K xs Ls d pd_m0 (mm_1 st fun v r => cond (mm_c2 v) none (mm_go 20 L (v :: v :: r) S)) o := pd_Gs (i := .dup) (n := 1) rfl
theorem p0_20 : pd_G xs Ls d pd_m0 (20, L, st, S) o ↔ pd_K xs Ls d pd_m0 (mm_noT (mm_inv (mm_ev xs Ls pd_ck pd_ak pd_mj d) pd_m0 20 L st S 47 0 3)) o := pd_Gs (i := .invokespecial 18) (n := 3) rfl
theorem p0_23 : pd_G xs Ls d pd_m0 (23, L, st, S) o ↔ pd_K xs Ls d pd_m0 (mm_putf pd_ck 23 L st S 0 1) o := pd_Gs (i := .putfield 19) (n := 3) rfl
theorem p0_26 : pd_G xs Ls d pd_m0 (26, L, st, S) o ↔ pd_K xs Ls d pd_m0 (mm_lA L 0 fun v => mm_go 27 L (v :: st) S) o := pd_Gs (i := .aload_n 0) (n := 1) rfl
theorem p0_27 : pd_G xs Ls d pd_m0 (27, L, st, S) o ↔ pd_K xs Ls d pd_m0 (mm_go 28 L (.int (-1) :: st) S) o := pd_Gs (i := .iconst (-1)) (n := 1) rfl
theorem p0_28 : pd_G xs Ls d pd_m0 (28, L, st, S) o ↔ pd_K xs Ls d pd_m0 (mm_putf pd_ck 28 L st S 0 2) o := pd_Gs (i := .putfield 23) (n := 3) rfl
theorem p0_31 : pd_G xs Ls d pd_m0 (31, L, st, S) o ↔ pd_K xs Ls d pd_m0 (mm_rV S st) o := pd_Gs (i := .return_) (n := 1) rfl
theorem p1_0 : pd_G xs Ls d pd_m1 (0, L, st, S) o ↔ pd_K xs Ls d pd_m1 (mm_lI L 1 fun x => mm_go 1 L (.int x :: st) S) o := pd_Gs (i := .iload_n 1) (n := 1) rfl
theorem p1_1 : pd_G xs Ls d pd_m1 (1, L, st, S) o ↔ pd_K xs Ls d pd_m1 (mm_i st fun x r => if x = 0 then mm_go 56 L r S else if x = 1 then mm_go 61 L r S else if x = 2 then mm_go 69 L r S else if x = 3 then mm_go 77 L r S else if x = 4 then mm_go 85 L r S else if x = 5 then mm_go 93 L r S else if x = 6 then mm_go 103 L r S else if x = 7 then mm_go 113 L r S else if x = 8 then mm_go 121 L r S else if x = 9 then mm_go 129 L r S else mm_go 137 L r S) o := pd_Gs (i := .tableswitch 136 0 9 #[55, 60, 68, 76, 84, 92, 102, 112, 120, 128]) (n := 55) rfl
theorem p1_56 : pd_G xs Ls d pd_m1 (56, L, st, S) o ↔ pd_K xs Ls d pd_m1 (mm_lA L 0 fun v => mm_go 57 L (v :: st) S) o := pd_Gs (i := .aload_n 0) (n := 1) rfl
theorem p1_57 : pd_G xs Ls d pd_m1 (57, L, st, S) o ↔ pd_K xs Ls d pd_m1 (mm_getf pd_ck 57 L st S 0 2) o := pd_Gs (i := .getfield 23) (n := 3) rfl
theorem p1_60 : pd_G xs Ls d pd_m1 (60, L, st, S) o ↔ pd_K xs Ls d pd_m1 (mm_e0 S st) o := pd_Gs (i := .ireturn) (n := 1) rfl
theorem p1_61 : pd_G xs Ls d pd_m1 (61, L, st, S) o ↔ pd_K xs Ls d pd_m1 (mm_lA L 0 fun v => mm_go 62 L (v :: st) S) o := pd_Gs (i := .aload_n 0) (n := 1) rfl
theorem p1_62 : pd_G xs Ls d pd_m1 (62, L, st, S) o ↔ pd_K xs Ls d pd_m1 (mm_getf pd_ck 62 L st S 0 0) o := pd_Gs (i := .getfield 10) (n := 3) rfl
theorem p1_65 : pd_G xs Ls d pd_m1 (65, L, st, S) o ↔ pd_K xs Ls d pd_m1 (mm_getf pd_ck 65 L st S 2 1) o := pd_Gs (i := .getfield 51) (n := 3) rfl
theorem p1_68 : pd_G xs Ls d pd_m1 (68, L, st, S) o ↔ pd_K xs Ls d pd_m1 (mm_e0 S st) o := pd_Gs (i := .ireturn) (n := 1) rfl
theorem p1_69 : pd_G xs Ls d pd_m1 (69, L, st, S) o ↔ pd_K xs Ls d pd_m1 (mm_lA L 0 fun v => mm_go 70 L (v :: st) S) o := pd_Gs (i := .aload_n 0) (n := 1) rfl
theorem p1_70 : pd_G xs Ls d pd_m1 (70, L, st, S) o ↔ pd_K xs Ls d pd_m1 (mm_getf pd_ck 70 L st S 0 1) o := pd_Gs (i := .getfield 19) (n := 3) rfl
theorem p1_73 : pd_G xs Ls d pd_m1 (73, L, st, S) o ↔ pd_K xs Ls d pd_m1 (mm_inv (mm_ev xs Ls pd_ck pd_ak pd_mj d) pd_m1 73 L st S 48 0 3) o := pd_Gs (i := .invokevirtual 144) (n := 3) rfl
theorem p1_76 : pd_G xs Ls d pd_m1 (76, L, st, S) o ↔ pd_K xs Ls d pd_m1 (mm_e0 S st) o := pd_Gs (i := .ireturn) (n := 1) rfl
theorem p1_77 : pd_G xs Ls d pd_m1 (77, L, st, S) o ↔ pd_K xs Ls d pd_m1 (mm_lA L 0 fun v => mm_go 78 L (v :: st) S) o := pd_Gs (i := .aload_n 0) (n := 1) rfl
theorem p1_78 : pd_G xs Ls d pd_m1 (78, L, st, S) o ↔ pd_K xs Ls d pd_m1 (mm_getf pd_ck 78 L st S 0 1) o := pd_Gs (i := .getfield 19) (n := 3) rfl
theorem p1_81 : pd_G xs Ls d pd_m1 (81, L, st, S) o ↔ pd_K xs Ls d pd_m1 (mm_getf pd_ck 81 L st S 3 6) o := pd_Gs (i := .getfield 147) (n := 3) rfl
theorem p1_84 : pd_G xs Ls d pd_m1 (84, L, st, S) o ↔ pd_K xs Ls d pd_m1 (mm_e0 S st) o := pd_Gs (i := .ireturn) (n := 1) rfl
theorem p1_85 : pd_G xs Ls d pd_m1 (85, L, st, S) o ↔ pd_K xs Ls d pd_m1 (mm_lA L 0 fun v => mm_go 86 L (v :: st) S) o := pd_Gs (i := .aload_n 0) (n := 1) rfl
theorem p1_86 : pd_G xs Ls d pd_m1 (86, L, st, S) o ↔ pd_K xs Ls d pd_m1 (mm_getf pd_ck 86 L st S 0 1) o := pd_Gs (i := .getfield 19) (n := 3) rfl
theorem p1_89 : pd_G xs Ls d pd_m1 (89, L, st, S) o ↔ pd_K xs Ls d pd_m1 (mm_getf pd_ck 89 L st S 3 5) o := pd_Gs (i := .getfield 136) (n := 3) rfl
theorem p1_92 : pd_G xs Ls d pd_m1 (92, L, st, S) o ↔ pd_K xs Ls d pd_m1 (mm_e0 S st) o := pd_Gs (i := .ireturn) (n := 1) rfl
theorem p1_93 : pd_G xs Ls d pd_m1 (93, L, st, S) o ↔ pd_K xs Ls d pd_m1 (mm_lA L 0 fun v => mm_go 94 L (v :: st) S) o := pd_Gs (i := .aload_n 0) (n := 1) rfl
theorem p1_94 : pd_G xs Ls d pd_m1 (94, L, st, S) o ↔ pd_K xs Ls d pd_m1 (mm_getf pd_ck 94 L st S 0 1) o := pd_Gs (i := .getfield 19) (n := 3) rfl
theorem p1_97 : pd_G xs Ls d pd_m1 (97, L, st, S) o ↔ pd_K xs Ls d pd_m1 (mm_getf pd_ck 97 L st S 3 3) o := pd_Gs (i := .getfield 150) (n := 3) rfl
theorem p1_100 : pd_G xs Ls d pd_m1 (100, L, st, S) o ↔ pd_K xs Ls d pd_m1 (mm_go 101 L (.int 0 :: st) S) o := pd_Gs (i := .iconst 0) (n := 1) rfl
theorem p1_101 : pd_G xs Ls d pd_m1 (101, L, st, S) o ↔ pd_K xs Ls d pd_m1 (mm_ial xs Ls pd_ak 101 L S st) o := pd_Gs (i := .iaload) (n := 1) rfl
theorem p1_102 : pd_G xs Ls d pd_m1 (102, L, st, S) o ↔ pd_K xs Ls d pd_m1 (mm_e0 S st) o := pd_Gs (i := .ireturn) (n := 1) rfl
theorem p1_103 : pd_G xs Ls d pd_m1 (103, L, st, S) o ↔ pd_K xs Ls d pd_m1 (mm_lA L 0 fun v => mm_go 104 L (v :: st) S) o := pd_Gs (i := .aload_n 0) (n := 1) rfl
theorem p1_104 : pd_G xs Ls d pd_m1 (104, L, st, S) o ↔ pd_K xs Ls d pd_m1 (mm_getf pd_ck 104 L st S 0 1) o := pd_Gs (i := .getfield 19) (n := 3) rfl
theorem p1_107 : pd_G xs Ls d pd_m1 (107, L, st, S) o ↔ pd_K xs Ls d pd_m1 (mm_getf pd_ck 107 L st S 3 3) o := pd_Gs (i := .getfield 150) (n := 3) rfl
theorem p1_110 : pd_G xs Ls d pd_m1 (110, L, st, S) o ↔ pd_K xs Ls d pd_m1 (mm_go 111 L (.int 1 :: st) S) o := pd_Gs (i := .iconst 1) (n := 1) rfl
theorem p1_111 : pd_G xs Ls d pd_m1 (111, L, st, S) o ↔ pd_K xs Ls d pd_m1 (mm_ial xs Ls pd_ak 111 L S st) o := pd_Gs (i := .iaload) (n := 1) rfl
theorem p1_112 : pd_G xs Ls d pd_m1 (112, L, st, S) o ↔ pd_K xs Ls d pd_m1 (mm_e0 S st) o := pd_Gs (i := .ireturn) (n := 1) rfl
theorem p1_113 : pd_G xs Ls d pd_m1 (113, L, st, S) o ↔ pd_K xs Ls d pd_m1 (mm_lA L 0 fun v => mm_go 114 L (v :: st) S) o := pd_Gs (i := .aload_n 0) (n := 1) rfl
theorem p1_114 : pd_G xs Ls d pd_m1 (114, L, st, S) o ↔ pd_K xs Ls d pd_m1 (mm_getf pd_ck 114 L st S 0 1) o := pd_Gs (i := .getfield 19) (n := 3) rfl
theorem p1_117 : pd_G xs Ls d pd_m1 (117, L, st, S) o ↔ pd_K xs Ls d pd_m1 (mm_getf pd_ck 117 L st S 3 7) o := pd_Gs (i := .getfield 154) (n := 3) rfl
theorem p1_120 : pd_G xs Ls d pd_m1 (120, L, st, S) o ↔ pd_K xs Ls d pd_m1 (mm_e0 S st) o := pd_Gs (i := .ireturn) (n := 1) rfl
theorem p1_121 : pd_G xs Ls d pd_m1 (121, L, st, S) o ↔ pd_K xs Ls d pd_m1 (mm_lA L 0 fun v => mm_go 122 L (v :: st) S) o := pd_Gs (i := .aload_n 0) (n := 1) rfl
theorem p1_122 : pd_G xs Ls d pd_m1 (122, L, st, S) o ↔ pd_K xs Ls d pd_m1 (mm_getf pd_ck 122 L st S 0 1) o := pd_Gs (i := .getfield 19) (n := 3) rfl
theorem p1_125 : pd_G xs Ls d pd_m1 (125, L, st, S) o ↔ pd_K xs Ls d pd_m1 (mm_getf pd_ck 125 L st S 3 8) o := pd_Gs (i := .getfield 157) (n := 3) rfl
theorem p1_128 : pd_G xs Ls d pd_m1 (128, L, st, S) o ↔ pd_K xs Ls d pd_m1 (mm_e0 S st) o := pd_Gs (i := .ireturn) (n := 1) rfl
theorem p1_129 : pd_G xs Ls d pd_m1 (129, L, st, S) o ↔ pd_K xs Ls d pd_m1 (mm_lA L 0 fun v => mm_go 130 L (v :: st) S) o := pd_Gs (i := .aload_n 0) (n := 1) rfl
theorem p1_130 : pd_G xs Ls d pd_m1 (130, L, st, S) o ↔ pd_K xs Ls d pd_m1 (mm_getf pd_ck 130 L st S 0 1) o := pd_Gs (i := .getfield 19) (n := 3) rfl
theorem p1_133 : pd_G xs Ls d pd_m1 (133, L, st, S) o ↔ pd_K xs Ls d pd_m1 (mm_getf pd_ck 133 L st S 3 9) o := pd_Gs (i := .getfield 160) (n := 3) rfl
theorem p1_136 : pd_G xs Ls d pd_m1 (136, L, st, S) o ↔ pd_K xs Ls d pd_m1 (mm_e0 S st) o := pd_Gs (i := .ireturn) (n := 1) rfl
theorem p1_137 : pd_G xs Ls d pd_m1 (137, L, st, S) o ↔ pd_K xs Ls d pd_m1 (mm_go 138 L (.int (-1) :: st) S) o := pd_Gs (i := .iconst (-1)) (n := 1) rfl
theorem p1_138 : pd_G xs Ls d pd_m1 (138, L, st, S) o ↔ pd_K xs Ls d pd_m1 (mm_e0 S st) o := pd_Gs (i := .ireturn) (n := 1) rfl
theorem p2_0 : pd_G xs Ls d pd_m2 (0, L, st, S) o ↔ pd_K xs Ls d pd_m2 (mm_go 1 L (.int 0 :: st) S) o := pd_Gs (i := .iconst 0) (n := 1) rfl
theorem p2_1 : pd_G xs Ls d pd_m2 (1, L, st, S) o ↔ pd_K xs Ls d pd_m2 (mm_i st fun x r => mm_go 2 (mm_sto L 0 3 (.int x)) r S) o := pd_Gs (i := .istore_n 3) (n := 1) rfl
theorem p2_2 : pd_G xs Ls d pd_m2 (2, L, st, S) o ↔ pd_K xs Ls d pd_m2 (mm_go 4 L (.int 56 :: st) S) o := pd_Gs (i := .bipush 56) (n := 2) rfl
theorem p2_4 : pd_G xs Ls d pd_m2 (4, L, st, S) o ↔ pd_K xs Ls d pd_m2 (mm_i st fun x r => mm_go 6 (mm_sto L 0 4 (.int x)) r S) o := pd_Gs (i := .istore 4) (n := 2) rfl
theorem p2_6 : pd_G xs Ls d pd_m2 (6, L, st, S) o ↔ pd_K xs Ls d pd_m2 (mm_lI L 4 fun x => mm_go 8 L (.int x :: st) S) o := pd_Gs (i := .iload 4) (n := 2) rfl
theorem p2_8 : pd_G xs Ls d pd_m2 (8, L, st, S) o ↔ pd_K xs Ls d pd_m2 (mm_i st fun x r => mm_icmp .lt x 0 (mm_go 62 L r S) (mm_go 11 L r S)) o := pd_Gs (i := .ifCond .lt 54) (n := 3) rfl
theorem p2_11 : pd_G xs Ls d pd_m2 (11, L, st, S) o ↔ pd_K xs Ls d pd_m2 (mm_lJ L 1 fun x => mm_go 12 L (.long x :: st) S) o := pd_Gs (i := .lload_n 1) (n := 1) rfl
theorem p2_12 : pd_G xs Ls d pd_m2 (12, L, st, S) o ↔ pd_K xs Ls d pd_m2 (mm_lI L 4 fun x => mm_go 14 L (.int x :: st) S) o := pd_Gs (i := .iload 4) (n := 2) rfl
theorem p2_14 : pd_G xs Ls d pd_m2 (14, L, st, S) o ↔ pd_K xs Ls d pd_m2 (mm_invS (mm_ev xs Ls pd_ck pd_ak pd_mj d) pd_m2 14 L st S 3 2) o := pd_Gs (i := .invokestatic 27) (n := 3) rfl
theorem p2_17 : pd_G xs Ls d pd_m2 (17, L, st, S) o ↔ pd_K xs Ls d pd_m2 (mm_i st fun x r => mm_go 19 (mm_sto L 0 5 (.int x)) r S) o := pd_Gs (i := .istore 5) (n := 2) rfl
theorem p2_19 : pd_G xs Ls d pd_m2 (19, L, st, S) o ↔ pd_K xs Ls d pd_m2 (mm_lI L 5 fun x => mm_go 21 L (.int x :: st) S) o := pd_Gs (i := .iload 5) (n := 2) rfl
theorem p2_21 : pd_G xs Ls d pd_m2 (21, L, st, S) o ↔ pd_K xs Ls d pd_m2 (mm_i st fun x r => mm_icmp .eq x 0 (mm_go 48 L r S) (mm_go 24 L r S)) o := pd_Gs (i := .ifCond .eq 27) (n := 3) rfl
theorem p2_24 : pd_G xs Ls d pd_m2 (24, L, st, S) o ↔ pd_K xs Ls d pd_m2 (mm_lI L 5 fun x => mm_go 26 L (.int x :: st) S) o := pd_Gs (i := .iload 5) (n := 2) rfl
theorem p2_26 : pd_G xs Ls d pd_m2 (26, L, st, S) o ↔ pd_K xs Ls d pd_m2 (mm_go 28 L (.int 33 :: st) S) o := pd_Gs (i := .bipush 33) (n := 2) rfl
theorem p2_28 : pd_G xs Ls d pd_m2 (28, L, st, S) o ↔ pd_K xs Ls d pd_m2 (mm_ii st fun x y r => mm_icmp .lt x y (mm_go 38 L r S) (mm_go 31 L r S)) o := pd_Gs (i := .if_icmp .lt 10) (n := 3) rfl
theorem p2_31 : pd_G xs Ls d pd_m2 (31, L, st, S) o ↔ pd_K xs Ls d pd_m2 (mm_lI L 5 fun x => mm_go 33 L (.int x :: st) S) o := pd_Gs (i := .iload 5) (n := 2) rfl
theorem p2_33 : pd_G xs Ls d pd_m2 (33, L, st, S) o ↔ pd_K xs Ls d pd_m2 (mm_go 35 L (.int 126 :: st) S) o := pd_Gs (i := .bipush 126) (n := 2) rfl
theorem p2_35 : pd_G xs Ls d pd_m2 (35, L, st, S) o ↔ pd_K xs Ls d pd_m2 (mm_ii st fun x y r => mm_icmp .le x y (mm_go 48 L r S) (mm_go 38 L r S)) o := pd_Gs (i := .if_icmp .le 13) (n := 3) rfl
theorem p2_38 : pd_G xs Ls d pd_m2 (38, L, st, S) o ↔ pd_K xs Ls d pd_m2 (cond (Nat.ble (mm_wt st) 8) (mm_end (.inr 0) (S.1, S.2.1, S.2.2 + 1)) none) o := pd_Gs (i := .new 31) (n := 3) rfl
theorem p2_48 : pd_G xs Ls d pd_m2 (48, L, st, S) o ↔ pd_K xs Ls d pd_m2 (mm_lI L 5 fun x => mm_go 50 L (.int x :: st) S) o := pd_Gs (i := .iload 5) (n := 2) rfl
theorem p2_50 : pd_G xs Ls d pd_m2 (50, L, st, S) o ↔ pd_K xs Ls d pd_m2 (mm_i st fun x r => mm_icmp .eq x 0 (mm_go 56 L r S) (mm_go 53 L r S)) o := pd_Gs (i := .ifCond .eq 6) (n := 3) rfl
theorem p2_53 : pd_G xs Ls d pd_m2 (53, L, st, S) o ↔ pd_K xs Ls d pd_m2 (mm_lI L 3 fun x => mm_go 56 (mm_sto L 0 3 (.int (x + 1))) st S) o := pd_Gs (i := .iinc 3 1) (n := 3) rfl
theorem p2_56 : pd_G xs Ls d pd_m2 (56, L, st, S) o ↔ pd_K xs Ls d pd_m2 (mm_lI L 4 fun x => mm_go 59 (mm_sto L 0 4 (.int (x + Int32.ofInt (-8)))) st S) o := pd_Gs (i := .iinc 4 (-8)) (n := 3) rfl
theorem p2_59 : pd_G xs Ls d pd_m2 (59, L, st, S) o ↔ pd_K xs Ls d pd_m2 (mm_go 6 L st S) o := pd_Gs (i := .goto (-53)) (n := 3) rfl
theorem p2_62 : pd_G xs Ls d pd_m2 (62, L, st, S) o ↔ pd_K xs Ls d pd_m2 (mm_lI L 3 fun x => mm_go 63 L (.int x :: st) S) o := pd_Gs (i := .iload_n 3) (n := 1) rfl
theorem p2_63 : pd_G xs Ls d pd_m2 (63, L, st, S) o ↔ pd_K xs Ls d pd_m2 (mm_lA L 0 fun v => mm_go 64 L (v :: st) S) o := pd_Gs (i := .aload_n 0) (n := 1) rfl
theorem p2_64 : pd_G xs Ls d pd_m2 (64, L, st, S) o ↔ pd_K xs Ls d pd_m2 (mm_getf pd_ck 64 L st S 0 0) o := pd_Gs (i := .getfield 10) (n := 3) rfl
theorem p2_67 : pd_G xs Ls d pd_m2 (67, L, st, S) o ↔ pd_K xs Ls d pd_m2 (mm_inv (mm_ev xs Ls pd_ck pd_ak pd_mj d) pd_m2 67 L st S 20 0 2) o := pd_Gs (i := .invokevirtual 38) (n := 3) rfl
theorem p2_70 : pd_G xs Ls d pd_m2 (70, L, st, S) o ↔ pd_K xs Ls d pd_m2 (mm_ii st fun x y r => mm_icmp .le x y (mm_go 83 L r S) (mm_go 73 L r S)) o := pd_Gs (i := .if_icmp .le 13) (n := 3) rfl
theorem p2_73 : pd_G xs Ls d pd_m2 (73, L, st, S) o ↔ pd_K xs Ls d pd_m2 (cond (Nat.ble (mm_wt st) 8) (mm_end (.inr 1) (S.1, S.2.1, S.2.2 + 1)) none) o := pd_Gs (i := .new 42) (n := 3) rfl
theorem p2_83 : pd_G xs Ls d pd_m2 (83, L, st, S) o ↔ pd_K xs Ls d pd_m2 (mm_go 85 L (.int 56 :: st) S) o := pd_Gs (i := .bipush 56) (n := 2) rfl
theorem p2_85 : pd_G xs Ls d pd_m2 (85, L, st, S) o ↔ pd_K xs Ls d pd_m2 (mm_i st fun x r => mm_go 87 (mm_sto L 0 4 (.int x)) r S) o := pd_Gs (i := .istore 4) (n := 2) rfl
theorem p2_87 : pd_G xs Ls d pd_m2 (87, L, st, S) o ↔ pd_K xs Ls d pd_m2 (mm_lI L 4 fun x => mm_go 89 L (.int x :: st) S) o := pd_Gs (i := .iload 4) (n := 2) rfl
theorem p2_89 : pd_G xs Ls d pd_m2 (89, L, st, S) o ↔ pd_K xs Ls d pd_m2 (mm_i st fun x r => mm_icmp .lt x 0 (mm_go 121 L r S) (mm_go 92 L r S)) o := pd_Gs (i := .ifCond .lt 32) (n := 3) rfl
theorem p2_92 : pd_G xs Ls d pd_m2 (92, L, st, S) o ↔ pd_K xs Ls d pd_m2 (mm_lJ L 1 fun x => mm_go 93 L (.long x :: st) S) o := pd_Gs (i := .lload_n 1) (n := 1) rfl
theorem p2_93 : pd_G xs Ls d pd_m2 (93, L, st, S) o ↔ pd_K xs Ls d pd_m2 (mm_lI L 4 fun x => mm_go 95 L (.int x :: st) S) o := pd_Gs (i := .iload 4) (n := 2) rfl
theorem p2_95 : pd_G xs Ls d pd_m2 (95, L, st, S) o ↔ pd_K xs Ls d pd_m2 (mm_invS (mm_ev xs Ls pd_ck pd_ak pd_mj d) pd_m2 95 L st S 3 2) o := pd_Gs (i := .invokestatic 27) (n := 3) rfl
theorem p2_98 : pd_G xs Ls d pd_m2 (98, L, st, S) o ↔ pd_K xs Ls d pd_m2 (mm_i st fun x r => mm_go 100 (mm_sto L 0 5 (.int x)) r S) o := pd_Gs (i := .istore 5) (n := 2) rfl
theorem p2_100 : pd_G xs Ls d pd_m2 (100, L, st, S) o ↔ pd_K xs Ls d pd_m2 (mm_lI L 5 fun x => mm_go 102 L (.int x :: st) S) o := pd_Gs (i := .iload 5) (n := 2) rfl
theorem p2_102 : pd_G xs Ls d pd_m2 (102, L, st, S) o ↔ pd_K xs Ls d pd_m2 (mm_i st fun x r => mm_icmp .eq x 0 (mm_go 115 L r S) (mm_go 105 L r S)) o := pd_Gs (i := .ifCond .eq 13) (n := 3) rfl
theorem p2_105 : pd_G xs Ls d pd_m2 (105, L, st, S) o ↔ pd_K xs Ls d pd_m2 (mm_lA L 0 fun v => mm_go 106 L (v :: st) S) o := pd_Gs (i := .aload_n 0) (n := 1) rfl
theorem p2_106 : pd_G xs Ls d pd_m2 (106, L, st, S) o ↔ pd_K xs Ls d pd_m2 (mm_getf pd_ck 106 L st S 0 0) o := pd_Gs (i := .getfield 10) (n := 3) rfl
theorem p2_109 : pd_G xs Ls d pd_m2 (109, L, st, S) o ↔ pd_K xs Ls d pd_m2 (mm_lI L 5 fun x => mm_go 111 L (.int x :: st) S) o := pd_Gs (i := .iload 5) (n := 2) rfl
theorem p2_111 : pd_G xs Ls d pd_m2 (111, L, st, S) o ↔ pd_K xs Ls d pd_m2 (mm_i st fun x r => mm_go 112 L (.int (x.toUInt32 % 65536).toInt32 :: r) S) o := pd_Gs (i := .i2c) (n := 1) rfl
theorem p2_112 : pd_G xs Ls d pd_m2 (112, L, st, S) o ↔ pd_K xs Ls d pd_m2 (mm_inv (mm_ev xs Ls pd_ck pd_ak pd_mj d) pd_m2 112 L st S 21 1 2) o := pd_Gs (i := .invokevirtual 47) (n := 3) rfl
theorem p2_115 : pd_G xs Ls d pd_m2 (115, L, st, S) o ↔ pd_K xs Ls d pd_m2 (mm_lI L 4 fun x => mm_go 118 (mm_sto L 0 4 (.int (x + Int32.ofInt (-8)))) st S) o := pd_Gs (i := .iinc 4 (-8)) (n := 3) rfl
theorem p2_118 : pd_G xs Ls d pd_m2 (118, L, st, S) o ↔ pd_K xs Ls d pd_m2 (mm_go 87 L st S) o := pd_Gs (i := .goto (-31)) (n := 3) rfl
theorem p2_121 : pd_G xs Ls d pd_m2 (121, L, st, S) o ↔ pd_K xs Ls d pd_m2 (mm_lA L 0 fun v => mm_go 122 L (v :: st) S) o := pd_Gs (i := .aload_n 0) (n := 1) rfl
theorem p2_122 : pd_G xs Ls d pd_m2 (122, L, st, S) o ↔ pd_K xs Ls d pd_m2 (mm_getf pd_ck 122 L st S 0 0) o := pd_Gs (i := .getfield 10) (n := 3) rfl
theorem p2_125 : pd_G xs Ls d pd_m2 (125, L, st, S) o ↔ pd_K xs Ls d pd_m2 (mm_getf pd_ck 125 L st S 2 1) o := pd_Gs (i := .getfield 51) (n := 3) rfl
theorem p2_128 : pd_G xs Ls d pd_m2 (128, L, st, S) o ↔ pd_K xs Ls d pd_m2 (mm_e0 S st) o := pd_Gs (i := .ireturn) (n := 1) rfl
theorem p3_0 : pd_G xs Ls d pd_m3 (0, L, st, S) o ↔ pd_K xs Ls d pd_m3 (mm_lJ L 0 fun x => mm_go 1 L (.long x :: st) S) o := pd_Gs (i := .lload_n 0) (n := 1) rfl
theorem p3_1 : pd_G xs Ls d pd_m3 (1, L, st, S) o ↔ pd_K xs Ls d pd_m3 (mm_lI L 2 fun x => mm_go 2 L (.int x :: st) S) o := pd_Gs (i := .iload_n 2) (n := 1) rfl
theorem p3_2 : pd_G xs Ls d pd_m3 (2, L, st, S) o ↔ pd_K xs Ls d pd_m3 (mm_ji st fun x y r => mm_go 3 L (.long (x.toUInt64 >>> (y.toInt64.toUInt64 &&& Int64.toUInt64 63)).toInt64 :: r) S) o := pd_Gs (i := .lushr) (n := 1) rfl
theorem p3_3 : pd_G xs Ls d pd_m3 (3, L, st, S) o ↔ pd_K xs Ls d pd_m3 (mm_j st fun x r => mm_go 4 L (.int x.toInt32 :: r) S) o := pd_Gs (i := .l2i) (n := 1) rfl
theorem p3_4 : pd_G xs Ls d pd_m3 (4, L, st, S) o ↔ pd_K xs Ls d pd_m3 (mm_go 7 L (.int 255 :: st) S) o := pd_Gs (i := .sipush 255) (n := 3) rfl
theorem p3_7 : pd_G xs Ls d pd_m3 (7, L, st, S) o ↔ pd_K xs Ls d pd_m3 (mm_ii st fun x y r => mm_go 8 L (.int (x &&& y) :: r) S) o := pd_Gs (i := .iand) (n := 1) rfl
theorem p3_8 : pd_G xs Ls d pd_m3 (8, L, st, S) o ↔ pd_K xs Ls d pd_m3 (mm_e0 S st) o := pd_Gs (i := .ireturn) (n := 1) rfl
theorem p4_0 : pd_G xs Ls d pd_m4 (0, L, st, S) o ↔ pd_K xs Ls d pd_m4 (mm_lI L 1 fun x => mm_go 1 L (.int x :: st) S) o := pd_Gs (i := .iload_n 1) (n := 1) rfl
theorem p4_1 : pd_G xs Ls d pd_m4 (1, L, st, S) o ↔ pd_K xs Ls d pd_m4 (mm_invS (mm_ev xs Ls pd_ck pd_ak pd_mj d) pd_m4 1 L st S 5 1) o := pd_Gs (i := .invokestatic 54) (n := 3) rfl
theorem p4_4 : pd_G xs Ls d pd_m4 (4, L, st, S) o ↔ pd_K xs Ls d pd_m4 (mm_i st fun x r => mm_icmp .ne x 0 (mm_go 17 L r S) (mm_go 7 L r S)) o := pd_Gs (i := .ifCond .ne 13) (n := 3) rfl
theorem p4_7 : pd_G xs Ls d pd_m4 (7, L, st, S) o ↔ pd_K xs Ls d pd_m4 (cond (Nat.ble (mm_wt st) 8) (mm_end (.inr 0) (S.1, S.2.1, S.2.2 + 1)) none) o := pd_Gs (i := .new 31) (n := 3) rfl
theorem p4_17 : pd_G xs Ls d pd_m4 (17, L, st, S) o ↔ pd_K xs Ls d pd_m4 (mm_lA L 0 fun v => mm_go 18 L (v :: st) S) o := pd_Gs (i := .aload_n 0) (n := 1) rfl
theorem p4_18 : pd_G xs Ls d pd_m4 (18, L, st, S) o ↔ pd_K xs Ls d pd_m4 (mm_getf pd_ck 18 L st S 0 0) o := pd_Gs (i := .getfield 10) (n := 3) rfl
theorem p4_21 : pd_G xs Ls d pd_m4 (21, L, st, S) o ↔ pd_K xs Ls d pd_m4 (mm_inv (mm_ev xs Ls pd_ck pd_ak pd_mj d) pd_m4 21 L st S 22 0 2) o := pd_Gs (i := .invokevirtual 60) (n := 3) rfl
theorem p4_24 : pd_G xs Ls d pd_m4 (24, L, st, S) o ↔ pd_K xs Ls d pd_m4 (mm_i st fun x r => mm_go 25 (mm_sto L 0 2 (.int x)) r S) o := pd_Gs (i := .istore_n 2) (n := 1) rfl
theorem p4_25 : pd_G xs Ls d pd_m4 (25, L, st, S) o ↔ pd_K xs Ls d pd_m4 (mm_lI L 2 fun x => mm_go 26 L (.int x :: st) S) o := pd_Gs (i := .iload_n 2) (n := 1) rfl
theorem p4_26 : pd_G xs Ls d pd_m4 (26, L, st, S) o ↔ pd_K xs Ls d pd_m4 (mm_i st fun x r => mm_icmp .lt x 0 (mm_go 44 L r S) (mm_go 29 L r S)) o := pd_Gs (i := .ifCond .lt 18) (n := 3) rfl
theorem p4_29 : pd_G xs Ls d pd_m4 (29, L, st, S) o ↔ pd_K xs Ls d pd_m4 (mm_lA L 0 fun v => mm_go 30 L (v :: st) S) o := pd_Gs (i := .aload_n 0) (n := 1) rfl
theorem p4_30 : pd_G xs Ls d pd_m4 (30, L, st, S) o ↔ pd_K xs Ls d pd_m4 (mm_lI L 2 fun x => mm_go 31 L (.int x :: st) S) o := pd_Gs (i := .iload_n 2) (n := 1) rfl
theorem p4_31 : pd_G xs Ls d pd_m4 (31, L, st, S) o ↔ pd_K xs Ls d pd_m4 (mm_putf pd_ck 31 L st S 0 2) o := pd_Gs (i := .putfield 23) (n := 3) rfl
theorem p4_34 : pd_G xs Ls d pd_m4 (34, L, st, S) o ↔ pd_K xs Ls d pd_m4 (cond (Nat.ble (mm_wt st) 8) (mm_end (.inr 0) (S.1, S.2.1, S.2.2 + 1)) none) o := pd_Gs (i := .new 31) (n := 3) rfl
theorem p4_44 : pd_G xs Ls d pd_m4 (44, L, st, S) o ↔ pd_K xs Ls d pd_m4 (mm_lA L 0 fun v => mm_go 45 L (v :: st) S) o := pd_Gs (i := .aload_n 0) (n := 1) rfl
theorem p4_45 : pd_G xs Ls d pd_m4 (45, L, st, S) o ↔ pd_K xs Ls d pd_m4 (mm_getf pd_ck 45 L st S 0 0) o := pd_Gs (i := .getfield 10) (n := 3) rfl
theorem p4_48 : pd_G xs Ls d pd_m4 (48, L, st, S) o ↔ pd_K xs Ls d pd_m4 (mm_lA L 0 fun v => mm_go 49 L (v :: st) S) o := pd_Gs (i := .aload_n 0) (n := 1) rfl
theorem p4_49 : pd_G xs Ls d pd_m4 (49, L, st, S) o ↔ pd_K xs Ls d pd_m4 (mm_getf pd_ck 49 L st S 0 1) o := pd_Gs (i := .getfield 19) (n := 3) rfl
theorem p4_52 : pd_G xs Ls d pd_m4 (52, L, st, S) o ↔ pd_K xs Ls d pd_m4 (mm_lI L 1 fun x => mm_go 53 L (.int x :: st) S) o := pd_Gs (i := .iload_n 1) (n := 1) rfl
theorem p4_53 : pd_G xs Ls d pd_m4 (53, L, st, S) o ↔ pd_K xs Ls d pd_m4 (mm_lA L 0 fun v => mm_go 54 L (v :: st) S) o := pd_Gs (i := .aload_n 0) (n := 1) rfl
theorem p4_54 : pd_G xs Ls d pd_m4 (54, L, st, S) o ↔ pd_K xs Ls d pd_m4 (mm_getf pd_ck 54 L st S 0 0) o := pd_Gs (i := .getfield 10) (n := 3) rfl
theorem p4_57 : pd_G xs Ls d pd_m4 (57, L, st, S) o ↔ pd_K xs Ls d pd_m4 (mm_getf pd_ck 57 L st S 2 2) o := pd_Gs (i := .getfield 65) (n := 3) rfl
theorem p4_60 : pd_G xs Ls d pd_m4 (60, L, st, S) o ↔ pd_K xs Ls d pd_m4 (mm_inv (mm_ev xs Ls pd_ck pd_ak pd_mj d) pd_m4 60 L st S 49 2 3) o := pd_Gs (i := .invokevirtual 69) (n := 3) rfl
theorem p4_63 : pd_G xs Ls d pd_m4 (63, L, st, S) o ↔ pd_K xs Ls d pd_m4 (mm_putf pd_ck 63 L st S 2 2) o := pd_Gs (i := .putfield 65) (n := 3) rfl
theorem p4_66 : pd_G xs Ls d pd_m4 (66, L, st, S) o ↔ pd_K xs Ls d pd_m4 (mm_lA L 0 fun v => mm_go 67 L (v :: st) S) o := pd_Gs (i := .aload_n 0) (n := 1) rfl
theorem p4_67 : pd_G xs Ls d pd_m4 (67, L, st, S) o ↔ pd_K xs Ls d pd_m4 (mm_getf pd_ck 67 L st S 0 1) o := pd_Gs (i := .getfield 19) (n := 3) rfl
theorem p4_70 : pd_G xs Ls d pd_m4 (70, L, st, S) o ↔ pd_K xs Ls d pd_m4 (mm_getf pd_ck 70 L st S 3 0) o := pd_Gs (i := .getfield 73) (n := 3) rfl
theorem p4_73 : pd_G xs Ls d pd_m4 (73, L, st, S) o ↔ pd_K xs Ls d pd_m4 (mm_lI L 1 fun x => mm_go 74 L (.int x :: st) S) o := pd_Gs (i := .iload_n 1) (n := 1) rfl
theorem p4_74 : pd_G xs Ls d pd_m4 (74, L, st, S) o ↔ pd_K xs Ls d pd_m4 (mm_ai pd_ak S st 5 fun i a r => mm_go 75 L (va_rf (S.2.1.2.2.1 a i.toNatClampNeg) :: r) S) o := pd_Gs (i := .aaload) (n := 1) rfl
theorem p4_75 : pd_G xs Ls d pd_m4 (75, L, st, S) o ↔ pd_K xs Ls d pd_m4 (mm_getf pd_ck 75 L st S 1 3) o := pd_Gs (i := .getfield 77) (n := 3) rfl
theorem p4_78 : pd_G xs Ls d pd_m4 (78, L, st, S) o ↔ pd_K xs Ls d pd_m4 (mm_e0 S st) o := pd_Gs (i := .ireturn) (n := 1) rfl
theorem p5_0 : pd_G xs Ls d pd_m5 (0, L, st, S) o ↔ pd_K xs Ls d pd_m5 (mm_lI L 0 fun x => mm_go 1 L (.int x :: st) S) o := pd_Gs (i := .iload_n 0) (n := 1) rfl
theorem p5_1 : pd_G xs Ls d pd_m5 (1, L, st, S) o ↔ pd_K xs Ls d pd_m5 (mm_i st fun x r => mm_icmp .lt x 0 (mm_go 13 L r S) (mm_go 4 L r S)) o := pd_Gs (i := .ifCond .lt 12) (n := 3) rfl
theorem p5_4 : pd_G xs Ls d pd_m5 (4, L, st, S) o ↔ pd_K xs Ls d pd_m5 (mm_lI L 0 fun x => mm_go 5 L (.int x :: st) S) o := pd_Gs (i := .iload_n 0) (n := 1) rfl
theorem p5_5 : pd_G xs Ls d pd_m5 (5, L, st, S) o ↔ pd_K xs Ls d pd_m5 (mm_go 6 L (.int 4 :: st) S) o := pd_Gs (i := .iconst 4) (n := 1) rfl
theorem p5_6 : pd_G xs Ls d pd_m5 (6, L, st, S) o ↔ pd_K xs Ls d pd_m5 (mm_ii st fun x y r => mm_icmp .ge x y (mm_go 13 L r S) (mm_go 9 L r S)) o := pd_Gs (i := .if_icmp .ge 7) (n := 3) rfl
theorem p5_9 : pd_G xs Ls d pd_m5 (9, L, st, S) o ↔ pd_K xs Ls d pd_m5 (mm_go 10 L (.int 1 :: st) S) o := pd_Gs (i := .iconst 1) (n := 1) rfl
theorem p5_10 : pd_G xs Ls d pd_m5 (10, L, st, S) o ↔ pd_K xs Ls d pd_m5 (mm_go 14 L st S) o := pd_Gs (i := .goto 4) (n := 3) rfl
theorem p5_13 : pd_G xs Ls d pd_m5 (13, L, st, S) o ↔ pd_K xs Ls d pd_m5 (mm_go 14 L (.int 0 :: st) S) o := pd_Gs (i := .iconst 0) (n := 1) rfl
theorem p5_14 : pd_G xs Ls d pd_m5 (14, L, st, S) o ↔ pd_K xs Ls d pd_m5 (mm_e4 S st) o := pd_Gs (i := .ireturn) (n := 1) rfl
theorem p6_0 : pd_G xs Ls d pd_m6 (0, L, st, S) o ↔ pd_K xs Ls d pd_m6 (mm_lI L 3 fun x => mm_go 1 L (.int x :: st) S) o := pd_Gs (i := .iload_n 3) (n := 1) rfl
theorem p6_1 : pd_G xs Ls d pd_m6 (1, L, st, S) o ↔ pd_K xs Ls d pd_m6 (mm_go 2 L (.int 1 :: st) S) o := pd_Gs (i := .iconst 1) (n := 1) rfl
theorem p6_2 : pd_G xs Ls d pd_m6 (2, L, st, S) o ↔ pd_K xs Ls d pd_m6 (mm_ii st fun x y r => mm_icmp .lt x y (mm_go 11 L r S) (mm_go 5 L r S)) o := pd_Gs (i := .if_icmp .lt 9) (n := 3) rfl
theorem p6_5 : pd_G xs Ls d pd_m6 (5, L, st, S) o ↔ pd_K xs Ls d pd_m6 (mm_lI L 3 fun x => mm_go 6 L (.int x :: st) S) o := pd_Gs (i := .iload_n 3) (n := 1) rfl
theorem p6_6 : pd_G xs Ls d pd_m6 (6, L, st, S) o ↔ pd_K xs Ls d pd_m6 (mm_go 8 L (.int 16 :: st) S) o := pd_Gs (i := .bipush 16) (n := 2) rfl
theorem p6_8 : pd_G xs Ls d pd_m6 (8, L, st, S) o ↔ pd_K xs Ls d pd_m6 (mm_ii st fun x y r => mm_icmp .le x y (mm_go 21 L r S) (mm_go 11 L r S)) o := pd_Gs (i := .if_icmp .le 13) (n := 3) rfl
theorem p6_11 : pd_G xs Ls d pd_m6 (11, L, st, S) o ↔ pd_K xs Ls d pd_m6 (cond (Nat.ble (mm_wt st) 8) (mm_end (.inr 0) (S.1, S.2.1, S.2.2 + 1)) none) o := pd_Gs (i := .new 31) (n := 3) rfl
theorem p6_21 : pd_G xs Ls d pd_m6 (21, L, st, S) o ↔ pd_K xs Ls d pd_m6 (mm_lA L 0 fun v => mm_go 22 L (v :: st) S) o := pd_Gs (i := .aload_n 0) (n := 1) rfl
theorem p6_22 : pd_G xs Ls d pd_m6 (22, L, st, S) o ↔ pd_K xs Ls d pd_m6 (mm_getf pd_ck 22 L st S 0 1) o := pd_Gs (i := .getfield 19) (n := 3) rfl
theorem p6_25 : pd_G xs Ls d pd_m6 (25, L, st, S) o ↔ pd_K xs Ls d pd_m6 (mm_getf pd_ck 25 L st S 3 2) o := pd_Gs (i := .getfield 84) (n := 3) rfl
theorem p6_28 : pd_G xs Ls d pd_m6 (28, L, st, S) o ↔ pd_K xs Ls d pd_m6 (mm_lJ L 1 fun x => mm_go 29 L (.long x :: st) S) o := pd_Gs (i := .lload_n 1) (n := 1) rfl
theorem p6_29 : pd_G xs Ls d pd_m6 (29, L, st, S) o ↔ pd_K xs Ls d pd_m6 (mm_lI L 3 fun x => mm_go 30 L (.int x :: st) S) o := pd_Gs (i := .iload_n 3) (n := 1) rfl
theorem p6_30 : pd_G xs Ls d pd_m6 (30, L, st, S) o ↔ pd_K xs Ls d pd_m6 (mm_inv (mm_ev xs Ls pd_ck pd_ak pd_mj d) pd_m6 30 L st S 82 2 5) o := pd_Gs (i := .invokevirtual 88) (n := 3) rfl
theorem p6_33 : pd_G xs Ls d pd_m6 (33, L, st, S) o ↔ pd_K xs Ls d pd_m6 (mm_rV S st) o := pd_Gs (i := .return_) (n := 1) rfl
theorem p7_0 : pd_G xs Ls d pd_m7 (0, L, st, S) o ↔ pd_K xs Ls d pd_m7 (mm_lI L 1 fun x => mm_go 1 L (.int x :: st) S) o := pd_Gs (i := .iload_n 1) (n := 1) rfl
theorem p7_1 : pd_G xs Ls d pd_m7 (1, L, st, S) o ↔ pd_K xs Ls d pd_m7 (mm_invS (mm_ev xs Ls pd_ck pd_ak pd_mj d) pd_m7 1 L st S 5 1) o := pd_Gs (i := .invokestatic 54) (n := 3) rfl
theorem p7_4 : pd_G xs Ls d pd_m7 (4, L, st, S) o ↔ pd_K xs Ls d pd_m7 (mm_i st fun x r => mm_icmp .eq x 0 (mm_go 21 L r S) (mm_go 7 L r S)) o := pd_Gs (i := .ifCond .eq 17) (n := 3) rfl
theorem p7_7 : pd_G xs Ls d pd_m7 (7, L, st, S) o ↔ pd_K xs Ls d pd_m7 (mm_lI L 2 fun x => mm_go 8 L (.int x :: st) S) o := pd_Gs (i := .iload_n 2) (n := 1) rfl
theorem p7_8 : pd_G xs Ls d pd_m7 (8, L, st, S) o ↔ pd_K xs Ls d pd_m7 (mm_invS (mm_ev xs Ls pd_ck pd_ak pd_mj d) pd_m7 8 L st S 8 1) o := pd_Gs (i := .invokestatic 94) (n := 3) rfl
theorem p7_11 : pd_G xs Ls d pd_m7 (11, L, st, S) o ↔ pd_K xs Ls d pd_m7 (mm_i st fun x r => mm_icmp .eq x 0 (mm_go 21 L r S) (mm_go 14 L r S)) o := pd_Gs (i := .ifCond .eq 10) (n := 3) rfl
theorem p7_14 : pd_G xs Ls d pd_m7 (14, L, st, S) o ↔ pd_K xs Ls d pd_m7 (mm_lI L 3 fun x => mm_go 15 L (.int x :: st) S) o := pd_Gs (i := .iload_n 3) (n := 1) rfl
theorem p7_15 : pd_G xs Ls d pd_m7 (15, L, st, S) o ↔ pd_K xs Ls d pd_m7 (mm_invS (mm_ev xs Ls pd_ck pd_ak pd_mj d) pd_m7 15 L st S 8 1) o := pd_Gs (i := .invokestatic 94) (n := 3) rfl
theorem p7_18 : pd_G xs Ls d pd_m7 (18, L, st, S) o ↔ pd_K xs Ls d pd_m7 (mm_i st fun x r => mm_icmp .ne x 0 (mm_go 31 L r S) (mm_go 21 L r S)) o := pd_Gs (i := .ifCond .ne 13) (n := 3) rfl
theorem p7_21 : pd_G xs Ls d pd_m7 (21, L, st, S) o ↔ pd_K xs Ls d pd_m7 (cond (Nat.ble (mm_wt st) 8) (mm_end (.inr 0) (S.1, S.2.1, S.2.2 + 1)) none) o := pd_Gs (i := .new 31) (n := 3) rfl
theorem p7_31 : pd_G xs Ls d pd_m7 (31, L, st, S) o ↔ pd_K xs Ls d pd_m7 (mm_lA L 0 fun v => mm_go 32 L (v :: st) S) o := pd_Gs (i := .aload_n 0) (n := 1) rfl
theorem p7_32 : pd_G xs Ls d pd_m7 (32, L, st, S) o ↔ pd_K xs Ls d pd_m7 (mm_getf pd_ck 32 L st S 0 1) o := pd_Gs (i := .getfield 19) (n := 3) rfl
theorem p7_35 : pd_G xs Ls d pd_m7 (35, L, st, S) o ↔ pd_K xs Ls d pd_m7 (mm_getf pd_ck 35 L st S 3 0) o := pd_Gs (i := .getfield 73) (n := 3) rfl
theorem p7_38 : pd_G xs Ls d pd_m7 (38, L, st, S) o ↔ pd_K xs Ls d pd_m7 (mm_lI L 1 fun x => mm_go 39 L (.int x :: st) S) o := pd_Gs (i := .iload_n 1) (n := 1) rfl
theorem p7_39 : pd_G xs Ls d pd_m7 (39, L, st, S) o ↔ pd_K xs Ls d pd_m7 (mm_ai pd_ak S st 5 fun i a r => mm_go 40 L (va_rf (S.2.1.2.2.1 a i.toNatClampNeg) :: r) S) o := pd_Gs (i := .aaload) (n := 1) rfl
theorem p7_40 : pd_G xs Ls d pd_m7 (40, L, st, S) o ↔ pd_K xs Ls d pd_m7 (mm_getf pd_ck 40 L st S 1 4) o := pd_Gs (i := .getfield 99) (n := 3) rfl
theorem p7_43 : pd_G xs Ls d pd_m7 (43, L, st, S) o ↔ pd_K xs Ls d pd_m7 (mm_i st fun x r => mm_icmp .ne x 0 (mm_go 56 L r S) (mm_go 46 L r S)) o := pd_Gs (i := .ifCond .ne 13) (n := 3) rfl
theorem p7_46 : pd_G xs Ls d pd_m7 (46, L, st, S) o ↔ pd_K xs Ls d pd_m7 (cond (Nat.ble (mm_wt st) 8) (mm_end (.inr 2) (S.1, S.2.1, S.2.2 + 1)) none) o := pd_Gs (i := .new 103) (n := 3) rfl
theorem p7_56 : pd_G xs Ls d pd_m7 (56, L, st, S) o ↔ pd_K xs Ls d pd_m7 (mm_lA L 0 fun v => mm_go 57 L (v :: st) S) o := pd_Gs (i := .aload_n 0) (n := 1) rfl
theorem p7_57 : pd_G xs Ls d pd_m7 (57, L, st, S) o ↔ pd_K xs Ls d pd_m7 (mm_getf pd_ck 57 L st S 0 1) o := pd_Gs (i := .getfield 19) (n := 3) rfl
theorem p7_60 : pd_G xs Ls d pd_m7 (60, L, st, S) o ↔ pd_K xs Ls d pd_m7 (mm_lI L 1 fun x => mm_go 61 L (.int x :: st) S) o := pd_Gs (i := .iload_n 1) (n := 1) rfl
theorem p7_61 : pd_G xs Ls d pd_m7 (61, L, st, S) o ↔ pd_K xs Ls d pd_m7 (mm_lI L 2 fun x => mm_go 62 L (.int x :: st) S) o := pd_Gs (i := .iload_n 2) (n := 1) rfl
theorem p7_62 : pd_G xs Ls d pd_m7 (62, L, st, S) o ↔ pd_K xs Ls d pd_m7 (mm_lI L 3 fun x => mm_go 63 L (.int x :: st) S) o := pd_Gs (i := .iload_n 3) (n := 1) rfl
theorem p7_63 : pd_G xs Ls d pd_m7 (63, L, st, S) o ↔ pd_K xs Ls d pd_m7 (mm_inv (mm_ev xs Ls pd_ck pd_ak pd_mj d) pd_m7 63 L st S 50 3 3) o := pd_Gs (i := .invokevirtual 108) (n := 3) rfl
theorem p7_66 : pd_G xs Ls d pd_m7 (66, L, st, S) o ↔ pd_K xs Ls d pd_m7 (mm_e0 S st) o := pd_Gs (i := .ireturn) (n := 1) rfl
theorem p8_0 : pd_G xs Ls d pd_m8 (0, L, st, S) o ↔ pd_K xs Ls d pd_m8 (mm_lI L 0 fun x => mm_go 1 L (.int x :: st) S) o := pd_Gs (i := .iload_n 0) (n := 1) rfl
theorem p8_1 : pd_G xs Ls d pd_m8 (1, L, st, S) o ↔ pd_K xs Ls d pd_m8 (mm_i st fun x r => mm_icmp .lt x 0 (mm_go 14 L r S) (mm_go 4 L r S)) o := pd_Gs (i := .ifCond .lt 13) (n := 3) rfl
theorem p8_4 : pd_G xs Ls d pd_m8 (4, L, st, S) o ↔ pd_K xs Ls d pd_m8 (mm_lI L 0 fun x => mm_go 5 L (.int x :: st) S) o := pd_Gs (i := .iload_n 0) (n := 1) rfl
theorem p8_5 : pd_G xs Ls d pd_m8 (5, L, st, S) o ↔ pd_K xs Ls d pd_m8 (mm_go 7 L (.int 9 :: st) S) o := pd_Gs (i := .bipush 9) (n := 2) rfl
theorem p8_7 : pd_G xs Ls d pd_m8 (7, L, st, S) o ↔ pd_K xs Ls d pd_m8 (mm_ii st fun x y r => mm_icmp .gt x y (mm_go 14 L r S) (mm_go 10 L r S)) o := pd_Gs (i := .if_icmp .gt 7) (n := 3) rfl
theorem p8_10 : pd_G xs Ls d pd_m8 (10, L, st, S) o ↔ pd_K xs Ls d pd_m8 (mm_go 11 L (.int 1 :: st) S) o := pd_Gs (i := .iconst 1) (n := 1) rfl
theorem p8_11 : pd_G xs Ls d pd_m8 (11, L, st, S) o ↔ pd_K xs Ls d pd_m8 (mm_go 15 L st S) o := pd_Gs (i := .goto 4) (n := 3) rfl
theorem p8_14 : pd_G xs Ls d pd_m8 (14, L, st, S) o ↔ pd_K xs Ls d pd_m8 (mm_go 15 L (.int 0 :: st) S) o := pd_Gs (i := .iconst 0) (n := 1) rfl
theorem p8_15 : pd_G xs Ls d pd_m8 (15, L, st, S) o ↔ pd_K xs Ls d pd_m8 (mm_e4 S st) o := pd_Gs (i := .ireturn) (n := 1) rfl
theorem p9_0 : pd_G xs Ls d pd_m9 (0, L, st, S) o ↔ pd_K xs Ls d pd_m9 (mm_lI L 1 fun x => mm_go 1 L (.int x :: st) S) o := pd_Gs (i := .iload_n 1) (n := 1) rfl
theorem p9_1 : pd_G xs Ls d pd_m9 (1, L, st, S) o ↔ pd_K xs Ls d pd_m9 (mm_invS (mm_ev xs Ls pd_ck pd_ak pd_mj d) pd_m9 1 L st S 71 1) o := pd_Gs (i := .invokestatic 112) (n := 3) rfl
theorem p9_4 : pd_G xs Ls d pd_m9 (4, L, st, S) o ↔ pd_K xs Ls d pd_m9 (mm_i st fun x r => mm_icmp .ne x 0 (mm_go 17 L r S) (mm_go 7 L r S)) o := pd_Gs (i := .ifCond .ne 13) (n := 3) rfl
theorem p9_7 : pd_G xs Ls d pd_m9 (7, L, st, S) o ↔ pd_K xs Ls d pd_m9 (cond (Nat.ble (mm_wt st) 8) (mm_end (.inr 0) (S.1, S.2.1, S.2.2 + 1)) none) o := pd_Gs (i := .new 31) (n := 3) rfl
theorem p9_17 : pd_G xs Ls d pd_m9 (17, L, st, S) o ↔ pd_K xs Ls d pd_m9 (mm_lA L 0 fun v => mm_go 18 L (v :: st) S) o := pd_Gs (i := .aload_n 0) (n := 1) rfl
theorem p9_18 : pd_G xs Ls d pd_m9 (18, L, st, S) o ↔ pd_K xs Ls d pd_m9 (mm_getf pd_ck 18 L st S 0 1) o := pd_Gs (i := .getfield 19) (n := 3) rfl
theorem p9_21 : pd_G xs Ls d pd_m9 (21, L, st, S) o ↔ pd_K xs Ls d pd_m9 (mm_getf pd_ck 21 L st S 3 1) o := pd_Gs (i := .getfield 119) (n := 3) rfl
theorem p9_24 : pd_G xs Ls d pd_m9 (24, L, st, S) o ↔ pd_K xs Ls d pd_m9 (mm_getf pd_ck 24 L st S 4 0) o := pd_Gs (i := .getfield 123) (n := 3) rfl
theorem p9_27 : pd_G xs Ls d pd_m9 (27, L, st, S) o ↔ pd_K xs Ls d pd_m9 (mm_lI L 1 fun x => mm_go 28 L (.int x :: st) S) o := pd_Gs (i := .iload_n 1) (n := 1) rfl
theorem p9_28 : pd_G xs Ls d pd_m9 (28, L, st, S) o ↔ pd_K xs Ls d pd_m9 (mm_ai pd_ak S st 2 fun i a r => mm_go 29 L (.double (S.2.1.2.1 a i.toNatClampNeg) :: r) S) o := pd_Gs (i := .daload) (n := 1) rfl
theorem p9_29 : pd_G xs Ls d pd_m9 (29, L, st, S) o ↔ pd_K xs Ls d pd_m9 (mm_rD S st) o := pd_Gs (i := .dreturn) (n := 1) rfl
theorem p10_0 : pd_G xs Ls d pd_m10 (0, L, st, S) o ↔ pd_K xs Ls d pd_m10 (mm_lD L 2 fun x => mm_go 1 L (.double x :: st) S) o := pd_Gs (i := .dload_n 2) (n := 1) rfl
theorem p10_1 : pd_G xs Ls d pd_m10 (1, L, st, S) o ↔ pd_K xs Ls d pd_m10 (mm_go 4 L (.double 13875379345695965184 :: st) S) o := pd_Gs (i := .ldc2_w 127) (n := 3) rfl
theorem p10_4 : pd_G xs Ls d pd_m10 (4, L, st, S) o ↔ pd_K xs Ls d pd_m10 (mm_dd st fun x y r => mm_go 5 L (.int (Op.cmpValue (FP.dcmp x y) .l) :: r) S) o := pd_Gs (i := .dcmp .l) (n := 1) rfl
theorem p10_5 : pd_G xs Ls d pd_m10 (5, L, st, S) o ↔ pd_K xs Ls d pd_m10 (mm_i st fun x r => mm_icmp .lt x 0 (mm_go 20 L r S) (mm_go 8 L r S)) o := pd_Gs (i := .ifCond .lt 15) (n := 3) rfl
theorem p10_8 : pd_G xs Ls d pd_m10 (8, L, st, S) o ↔ pd_K xs Ls d pd_m10 (mm_lD L 2 fun x => mm_go 9 L (.double x :: st) S) o := pd_Gs (i := .dload_n 2) (n := 1) rfl
theorem p10_9 : pd_G xs Ls d pd_m10 (9, L, st, S) o ↔ pd_K xs Ls d pd_m10 (mm_go 12 L (.double 4652007308841189376 :: st) S) o := pd_Gs (i := .ldc2_w 129) (n := 3) rfl
theorem p10_12 : pd_G xs Ls d pd_m10 (12, L, st, S) o ↔ pd_K xs Ls d pd_m10 (mm_dd st fun x y r => mm_go 13 L (.int (Op.cmpValue (FP.dcmp x y) .g) :: r) S) o := pd_Gs (i := .dcmp .g) (n := 1) rfl
theorem p10_13 : pd_G xs Ls d pd_m10 (13, L, st, S) o ↔ pd_K xs Ls d pd_m10 (mm_i st fun x r => mm_icmp .gt x 0 (mm_go 20 L r S) (mm_go 16 L r S)) o := pd_Gs (i := .ifCond .gt 7) (n := 3) rfl
theorem p10_16 : pd_G xs Ls d pd_m10 (16, L, st, S) o ↔ pd_K xs Ls d pd_m10 (mm_go 17 L (.int 1 :: st) S) o := pd_Gs (i := .iconst 1) (n := 1) rfl
theorem p10_17 : pd_G xs Ls d pd_m10 (17, L, st, S) o ↔ pd_K xs Ls d pd_m10 (mm_go 21 L st S) o := pd_Gs (i := .goto 4) (n := 3) rfl
theorem p10_20 : pd_G xs Ls d pd_m10 (20, L, st, S) o ↔ pd_K xs Ls d pd_m10 (mm_go 21 L (.int 0 :: st) S) o := pd_Gs (i := .iconst 0) (n := 1) rfl
theorem p10_21 : pd_G xs Ls d pd_m10 (21, L, st, S) o ↔ pd_K xs Ls d pd_m10 (mm_i st fun x r => mm_go 23 (mm_sto L 0 4 (.int x)) r S) o := pd_Gs (i := .istore 4) (n := 2) rfl
theorem p10_23 : pd_G xs Ls d pd_m10 (23, L, st, S) o ↔ pd_K xs Ls d pd_m10 (mm_lI L 1 fun x => mm_go 24 L (.int x :: st) S) o := pd_Gs (i := .iload_n 1) (n := 1) rfl
theorem p10_24 : pd_G xs Ls d pd_m10 (24, L, st, S) o ↔ pd_K xs Ls d pd_m10 (mm_invS (mm_ev xs Ls pd_ck pd_ak pd_mj d) pd_m10 24 L st S 71 1) o := pd_Gs (i := .invokestatic 112) (n := 3) rfl
theorem p10_27 : pd_G xs Ls d pd_m10 (27, L, st, S) o ↔ pd_K xs Ls d pd_m10 (mm_i st fun x r => mm_icmp .eq x 0 (mm_go 35 L r S) (mm_go 30 L r S)) o := pd_Gs (i := .ifCond .eq 8) (n := 3) rfl
theorem p10_30 : pd_G xs Ls d pd_m10 (30, L, st, S) o ↔ pd_K xs Ls d pd_m10 (mm_lI L 4 fun x => mm_go 32 L (.int x :: st) S) o := pd_Gs (i := .iload 4) (n := 2) rfl
theorem p10_32 : pd_G xs Ls d pd_m10 (32, L, st, S) o ↔ pd_K xs Ls d pd_m10 (mm_i st fun x r => mm_icmp .ne x 0 (mm_go 45 L r S) (mm_go 35 L r S)) o := pd_Gs (i := .ifCond .ne 13) (n := 3) rfl
theorem p10_35 : pd_G xs Ls d pd_m10 (35, L, st, S) o ↔ pd_K xs Ls d pd_m10 (cond (Nat.ble (mm_wt st) 8) (mm_end (.inr 0) (S.1, S.2.1, S.2.2 + 1)) none) o := pd_Gs (i := .new 31) (n := 3) rfl
theorem p10_45 : pd_G xs Ls d pd_m10 (45, L, st, S) o ↔ pd_K xs Ls d pd_m10 (mm_lI L 1 fun x => mm_go 46 L (.int x :: st) S) o := pd_Gs (i := .iload_n 1) (n := 1) rfl
theorem p10_46 : pd_G xs Ls d pd_m10 (46, L, st, S) o ↔ pd_K xs Ls d pd_m10 (mm_invS (mm_ev xs Ls pd_ck pd_ak pd_mj d) pd_m10 46 L st S 67 1) o := pd_Gs (i := .invokestatic 131) (n := 3) rfl
theorem p10_49 : pd_G xs Ls d pd_m10 (49, L, st, S) o ↔ pd_K xs Ls d pd_m10 (mm_i st fun x r => mm_icmp .eq x 0 (mm_go 66 L r S) (mm_go 52 L r S)) o := pd_Gs (i := .ifCond .eq 17) (n := 3) rfl
theorem p10_52 : pd_G xs Ls d pd_m10 (52, L, st, S) o ↔ pd_K xs Ls d pd_m10 (mm_lA L 0 fun v => mm_go 53 L (v :: st) S) o := pd_Gs (i := .aload_n 0) (n := 1) rfl
theorem p10_53 : pd_G xs Ls d pd_m10 (53, L, st, S) o ↔ pd_K xs Ls d pd_m10 (mm_getf pd_ck 53 L st S 0 1) o := pd_Gs (i := .getfield 19) (n := 3) rfl
theorem p10_56 : pd_G xs Ls d pd_m10 (56, L, st, S) o ↔ pd_K xs Ls d pd_m10 (mm_getf pd_ck 56 L st S 3 1) o := pd_Gs (i := .getfield 119) (n := 3) rfl
theorem p10_59 : pd_G xs Ls d pd_m10 (59, L, st, S) o ↔ pd_K xs Ls d pd_m10 (mm_getf pd_ck 59 L st S 4 0) o := pd_Gs (i := .getfield 123) (n := 3) rfl
theorem p10_62 : pd_G xs Ls d pd_m10 (62, L, st, S) o ↔ pd_K xs Ls d pd_m10 (mm_lI L 1 fun x => mm_go 63 L (.int x :: st) S) o := pd_Gs (i := .iload_n 1) (n := 1) rfl
theorem p10_63 : pd_G xs Ls d pd_m10 (63, L, st, S) o ↔ pd_K xs Ls d pd_m10 (mm_lD L 2 fun x => mm_go 64 L (.double x :: st) S) o := pd_Gs (i := .dload_n 2) (n := 1) rfl
theorem p10_64 : pd_G xs Ls d pd_m10 (64, L, st, S) o ↔ pd_K xs Ls d pd_m10 (mm_d st fun x st => mm_ai pd_ak S st 2 fun i a r => mm_go 65 L r (mm_sD S a i.toNatClampNeg x)) o := pd_Gs (i := .dastore) (n := 1) rfl
theorem p10_65 : pd_G xs Ls d pd_m10 (65, L, st, S) o ↔ pd_K xs Ls d pd_m10 (mm_rV S st) o := pd_Gs (i := .return_) (n := 1) rfl
theorem p10_66 : pd_G xs Ls d pd_m10 (66, L, st, S) o ↔ pd_K xs Ls d pd_m10 (mm_lD L 2 fun x => mm_go 67 L (.double x :: st) S) o := pd_Gs (i := .dload_n 2) (n := 1) rfl
theorem p10_67 : pd_G xs Ls d pd_m10 (67, L, st, S) o ↔ pd_K xs Ls d pd_m10 (mm_d st fun x r => mm_go 68 L (.int (FP.d2i x) :: r) S) o := pd_Gs (i := .d2i) (n := 1) rfl
theorem p10_68 : pd_G xs Ls d pd_m10 (68, L, st, S) o ↔ pd_K xs Ls d pd_m10 (mm_i st fun x r => mm_go 70 (mm_sto L 0 5 (.int x)) r S) o := pd_Gs (i := .istore 5) (n := 2) rfl
theorem p10_70 : pd_G xs Ls d pd_m10 (70, L, st, S) o ↔ pd_K xs Ls d pd_m10 (mm_lI L 5 fun x => mm_go 72 L (.int x :: st) S) o := pd_Gs (i := .iload 5) (n := 2) rfl
theorem p10_72 : pd_G xs Ls d pd_m10 (72, L, st, S) o ↔ pd_K xs Ls d pd_m10 (mm_i st fun x r => mm_go 73 L (.double (FP.i2d x) :: r) S) o := pd_Gs (i := .i2d) (n := 1) rfl
theorem p10_73 : pd_G xs Ls d pd_m10 (73, L, st, S) o ↔ pd_K xs Ls d pd_m10 (mm_lD L 2 fun x => mm_go 74 L (.double x :: st) S) o := pd_Gs (i := .dload_n 2) (n := 1) rfl
theorem p10_74 : pd_G xs Ls d pd_m10 (74, L, st, S) o ↔ pd_K xs Ls d pd_m10 (mm_dd st fun x y r => mm_go 75 L (.int (Op.cmpValue (FP.dcmp x y) .l) :: r) S) o := pd_Gs (i := .dcmp .l) (n := 1) rfl
theorem p10_75 : pd_G xs Ls d pd_m10 (75, L, st, S) o ↔ pd_K xs Ls d pd_m10 (mm_i st fun x r => mm_icmp .eq x 0 (mm_go 88 L r S) (mm_go 78 L r S)) o := pd_Gs (i := .ifCond .eq 13) (n := 3) rfl
theorem p10_78 : pd_G xs Ls d pd_m10 (78, L, st, S) o ↔ pd_K xs Ls d pd_m10 (cond (Nat.ble (mm_wt st) 8) (mm_end (.inr 0) (S.1, S.2.1, S.2.2 + 1)) none) o := pd_Gs (i := .new 31) (n := 3) rfl
theorem p10_88 : pd_G xs Ls d pd_m10 (88, L, st, S) o ↔ pd_K xs Ls d pd_m10 (mm_lA L 0 fun v => mm_go 89 L (v :: st) S) o := pd_Gs (i := .aload_n 0) (n := 1) rfl
theorem p10_89 : pd_G xs Ls d pd_m10 (89, L, st, S) o ↔ pd_K xs Ls d pd_m10 (mm_getf pd_ck 89 L st S 0 1) o := pd_Gs (i := .getfield 19) (n := 3) rfl
theorem p10_92 : pd_G xs Ls d pd_m10 (92, L, st, S) o ↔ pd_K xs Ls d pd_m10 (mm_getf pd_ck 92 L st S 3 1) o := pd_Gs (i := .getfield 119) (n := 3) rfl
theorem p10_95 : pd_G xs Ls d pd_m10 (95, L, st, S) o ↔ pd_K xs Ls d pd_m10 (mm_getf pd_ck 95 L st S 4 0) o := pd_Gs (i := .getfield 123) (n := 3) rfl
theorem p10_98 : pd_G xs Ls d pd_m10 (98, L, st, S) o ↔ pd_K xs Ls d pd_m10 (mm_lI L 1 fun x => mm_go 99 L (.int x :: st) S) o := pd_Gs (i := .iload_n 1) (n := 1) rfl
theorem p10_99 : pd_G xs Ls d pd_m10 (99, L, st, S) o ↔ pd_K xs Ls d pd_m10 (mm_lI L 5 fun x => mm_go 101 L (.int x :: st) S) o := pd_Gs (i := .iload 5) (n := 2) rfl
theorem p10_101 : pd_G xs Ls d pd_m10 (101, L, st, S) o ↔ pd_K xs Ls d pd_m10 (mm_i st fun x r => mm_go 102 L (.double (FP.i2d x) :: r) S) o := pd_Gs (i := .i2d) (n := 1) rfl
theorem p10_102 : pd_G xs Ls d pd_m10 (102, L, st, S) o ↔ pd_K xs Ls d pd_m10 (mm_d st fun x st => mm_ai pd_ak S st 2 fun i a r => mm_go 103 L r (mm_sD S a i.toNatClampNeg x)) o := pd_Gs (i := .dastore) (n := 1) rfl
theorem p10_103 : pd_G xs Ls d pd_m10 (103, L, st, S) o ↔ pd_K xs Ls d pd_m10 (mm_rV S st) o := pd_Gs (i := .return_) (n := 1) rfl
theorem p11_0 : pd_G xs Ls d pd_m11 (0, L, st, S) o ↔ pd_K xs Ls d pd_m11 (mm_lI L 1 fun x => mm_go 1 L (.int x :: st) S) o := pd_Gs (i := .iload_n 1) (n := 1) rfl
theorem p11_1 : pd_G xs Ls d pd_m11 (1, L, st, S) o ↔ pd_K xs Ls d pd_m11 (mm_i st fun x r => mm_icmp .lt x 0 (mm_go 15 L r S) (mm_go 4 L r S)) o := pd_Gs (i := .ifCond .lt 14) (n := 3) rfl
theorem p11_4 : pd_G xs Ls d pd_m11 (4, L, st, S) o ↔ pd_K xs Ls d pd_m11 (mm_lI L 1 fun x => mm_go 5 L (.int x :: st) S) o := pd_Gs (i := .iload_n 1) (n := 1) rfl
theorem p11_5 : pd_G xs Ls d pd_m11 (5, L, st, S) o ↔ pd_K xs Ls d pd_m11 (mm_lA L 0 fun v => mm_go 6 L (v :: st) S) o := pd_Gs (i := .aload_n 0) (n := 1) rfl
theorem p11_6 : pd_G xs Ls d pd_m11 (6, L, st, S) o ↔ pd_K xs Ls d pd_m11 (mm_getf pd_ck 6 L st S 0 1) o := pd_Gs (i := .getfield 19) (n := 3) rfl
theorem p11_9 : pd_G xs Ls d pd_m11 (9, L, st, S) o ↔ pd_K xs Ls d pd_m11 (mm_getf pd_ck 9 L st S 3 5) o := pd_Gs (i := .getfield 136) (n := 3) rfl
theorem p11_12 : pd_G xs Ls d pd_m11 (12, L, st, S) o ↔ pd_K xs Ls d pd_m11 (mm_ii st fun x y r => mm_icmp .lt x y (mm_go 25 L r S) (mm_go 15 L r S)) o := pd_Gs (i := .if_icmp .lt 13) (n := 3) rfl
theorem p11_15 : pd_G xs Ls d pd_m11 (15, L, st, S) o ↔ pd_K xs Ls d pd_m11 (cond (Nat.ble (mm_wt st) 8) (mm_end (.inr 2) (S.1, S.2.1, S.2.2 + 1)) none) o := pd_Gs (i := .new 103) (n := 3) rfl
theorem p11_25 : pd_G xs Ls d pd_m11 (25, L, st, S) o ↔ pd_K xs Ls d pd_m11 (mm_lA L 0 fun v => mm_go 26 L (v :: st) S) o := pd_Gs (i := .aload_n 0) (n := 1) rfl
theorem p11_26 : pd_G xs Ls d pd_m11 (26, L, st, S) o ↔ pd_K xs Ls d pd_m11 (mm_getf pd_ck 26 L st S 0 1) o := pd_Gs (i := .getfield 19) (n := 3) rfl
theorem p11_29 : pd_G xs Ls d pd_m11 (29, L, st, S) o ↔ pd_K xs Ls d pd_m11 (mm_getf pd_ck 29 L st S 3 4) o := pd_Gs (i := .getfield 141) (n := 3) rfl
theorem p11_32 : pd_G xs Ls d pd_m11 (32, L, st, S) o ↔ pd_K xs Ls d pd_m11 (mm_lI L 1 fun x => mm_go 33 L (.int x :: st) S) o := pd_Gs (i := .iload_n 1) (n := 1) rfl
theorem p11_33 : pd_G xs Ls d pd_m11 (33, L, st, S) o ↔ pd_K xs Ls d pd_m11 (mm_ai pd_ak S st 2 fun i a r => mm_go 34 L (.double (S.2.1.2.1 a i.toNatClampNeg) :: r) S) o := pd_Gs (i := .daload) (n := 1) rfl
theorem p11_34 : pd_G xs Ls d pd_m11 (34, L, st, S) o ↔ pd_K xs Ls d pd_m11 (mm_rD S st) o := pd_Gs (i := .dreturn) (n := 1) rfl
theorem p12_0 : pd_G xs Ls d pd_m12 (0, L, st, S) o ↔ pd_K xs Ls d pd_m12 (mm_lA L 0 fun v => mm_go 1 L (v :: st) S) o := pd_Gs (i := .aload_n 0) (n := 1) rfl
theorem p12_1 : pd_G xs Ls d pd_m12 (1, L, st, S) o ↔ pd_K xs Ls d pd_m12 (mm_r st fun _ r => cond (Nat.ble (mm_wt r) 8) (mm_go 4 L r S) none) o := pd_Gs (i := .invokespecial 3) (n := 3) rfl
theorem p12_4 : pd_G xs Ls d pd_m12 (4, L, st, S) o ↔ pd_K xs Ls d pd_m12 (mm_lA L 0 fun v => mm_go 5 L (v :: st) S) o := pd_Gs (i := .aload_n 0) (n := 1) rfl
theorem p12_5 : pd_G xs Ls d pd_m12 (5, L, st, S) o ↔ pd_K xs Ls d pd_m12 (mm_go 7 L (.int 49 :: st) S) o := pd_Gs (i := .bipush 49) (n := 2) rfl
theorem p12_7 : pd_G xs Ls d pd_m12 (7, L, st, S) o ↔ pd_K xs Ls d pd_m12 (mm_i st fun n r => mm_al S (if n < 0 then none else mm_go 9 L (.ref S.1.length :: r) (mm_new S (.inr (0, n.toNatClampNeg))))) o := pd_Gs (i := .newarray .int) (n := 2) rfl
theorem p12_9 : pd_G xs Ls d pd_m12 (9, L, st, S) o ↔ pd_K xs Ls d pd_m12 (mm_putf pd_ck 9 L st S 1 0) o := pd_Gs (i := .putfield 11) (n := 3) rfl
theorem p12_12 : pd_G xs Ls d pd_m12 (12, L, st, S) o ↔ pd_K xs Ls d pd_m12 (mm_lA L 0 fun v => mm_go 13 L (v :: st) S) o := pd_Gs (i := .aload_n 0) (n := 1) rfl
theorem p12_13 : pd_G xs Ls d pd_m12 (13, L, st, S) o ↔ pd_K xs Ls d pd_m12 (mm_go 15 L (.int 49 :: st) S) o := pd_Gs (i := .bipush 49) (n := 2) rfl
theorem p12_15 : pd_G xs Ls d pd_m12 (15, L, st, S) o ↔ pd_K xs Ls d pd_m12 (mm_i st fun n r => mm_al S (if n < 0 then none else mm_go 17 L (.ref S.1.length :: r) (mm_new S (.inr (0, n.toNatClampNeg))))) o := pd_Gs (i := .newarray .int) (n := 2) rfl
theorem p12_17 : pd_G xs Ls d pd_m12 (17, L, st, S) o ↔ pd_K xs Ls d pd_m12 (mm_putf pd_ck 17 L st S 1 1) o := pd_Gs (i := .putfield 15) (n := 3) rfl
theorem p12_20 : pd_G xs Ls d pd_m12 (20, L, st, S) o ↔ pd_K xs Ls d pd_m12 (mm_rV S st) o := pd_Gs (i := .return_) (n := 1) rfl
theorem p13_0 : pd_G xs Ls d pd_m13 (0, L, st, S) o ↔ pd_K xs Ls d pd_m13 (mm_lA L 0 fun v => mm_go 1 L (v :: st) S) o := pd_Gs (i := .aload_n 0) (n := 1) rfl
theorem p13_1 : pd_G xs Ls d pd_m13 (1, L, st, S) o ↔ pd_K xs Ls d pd_m13 (mm_go 2 L (.int 0 :: st) S) o := pd_Gs (i := .iconst 0) (n := 1) rfl
theorem p13_2 : pd_G xs Ls d pd_m13 (2, L, st, S) o ↔ pd_K xs Ls d pd_m13 (mm_putf pd_ck 2 L st S 1 2) o := pd_Gs (i := .putfield 18) (n := 3) rfl
theorem p13_5 : pd_G xs Ls d pd_m13 (5, L, st, S) o ↔ pd_K xs Ls d pd_m13 (mm_lA L 0 fun v => mm_go 6 L (v :: st) S) o := pd_Gs (i := .aload_n 0) (n := 1) rfl
theorem p13_6 : pd_G xs Ls d pd_m13 (6, L, st, S) o ↔ pd_K xs Ls d pd_m13 (mm_go 7 L (.int 0 :: st) S) o := pd_Gs (i := .iconst 0) (n := 1) rfl
theorem p13_7 : pd_G xs Ls d pd_m13 (7, L, st, S) o ↔ pd_K xs Ls d pd_m13 (mm_putf pd_ck 7 L st S 1 3) o := pd_Gs (i := .putfield 22) (n := 3) rfl
theorem p13_10 : pd_G xs Ls d pd_m13 (10, L, st, S) o ↔ pd_K xs Ls d pd_m13 (mm_lA L 0 fun v => mm_go 11 L (v :: st) S) o := pd_Gs (i := .aload_n 0) (n := 1) rfl
theorem p13_11 : pd_G xs Ls d pd_m13 (11, L, st, S) o ↔ pd_K xs Ls d pd_m13 (mm_go 12 L (.int 0 :: st) S) o := pd_Gs (i := .iconst 0) (n := 1) rfl
theorem p13_12 : pd_G xs Ls d pd_m13 (12, L, st, S) o ↔ pd_K xs Ls d pd_m13 (mm_putf pd_ck 12 L st S 1 4) o := pd_Gs (i := .putfield 25) (n := 3) rfl
theorem p13_15 : pd_G xs Ls d pd_m13 (15, L, st, S) o ↔ pd_K xs Ls d pd_m13 (mm_rV S st) o := pd_Gs (i := .return_) (n := 1) rfl
theorem p14_0 : pd_G xs Ls d pd_m14 (0, L, st, S) o ↔ pd_K xs Ls d pd_m14 (mm_lA L 0 fun v => mm_go 1 L (v :: st) S) o := pd_Gs (i := .aload_n 0) (n := 1) rfl
theorem p14_1 : pd_G xs Ls d pd_m14 (1, L, st, S) o ↔ pd_K xs Ls d pd_m14 (mm_getf pd_ck 1 L st S 1 2) o := pd_Gs (i := .getfield 18) (n := 3) rfl
theorem p14_4 : pd_G xs Ls d pd_m14 (4, L, st, S) o ↔ pd_K xs Ls d pd_m14 (mm_i st fun x r => mm_go 5 (mm_sto L 0 3 (.int x)) r S) o := pd_Gs (i := .istore_n 3) (n := 1) rfl
theorem p14_5 : pd_G xs Ls d pd_m14 (5, L, st, S) o ↔ pd_K xs Ls d pd_m14 (mm_lI L 3 fun x => mm_go 6 L (.int x :: st) S) o := pd_Gs (i := .iload_n 3) (n := 1) rfl
theorem p14_6 : pd_G xs Ls d pd_m14 (6, L, st, S) o ↔ pd_K xs Ls d pd_m14 (mm_go 8 L (.int 49 :: st) S) o := pd_Gs (i := .bipush 49) (n := 2) rfl
theorem p14_8 : pd_G xs Ls d pd_m14 (8, L, st, S) o ↔ pd_K xs Ls d pd_m14 (mm_ii st fun x y r => mm_icmp .ge x y (mm_go 35 L r S) (mm_go 11 L r S)) o := pd_Gs (i := .if_icmp .ge 27) (n := 3) rfl
theorem p14_11 : pd_G xs Ls d pd_m14 (11, L, st, S) o ↔ pd_K xs Ls d pd_m14 (mm_lA L 0 fun v => mm_go 12 L (v :: st) S) o := pd_Gs (i := .aload_n 0) (n := 1) rfl
theorem p14_12 : pd_G xs Ls d pd_m14 (12, L, st, S) o ↔ pd_K xs Ls d pd_m14 (mm_getf pd_ck 12 L st S 1 0) o := pd_Gs (i := .getfield 11) (n := 3) rfl
theorem p14_15 : pd_G xs Ls d pd_m14 (15, L, st, S) o ↔ pd_K xs Ls d pd_m14 (mm_lI L 3 fun x => mm_go 16 L (.int x :: st) S) o := pd_Gs (i := .iload_n 3) (n := 1) rfl
theorem p14_16 : pd_G xs Ls d pd_m14 (16, L, st, S) o ↔ pd_K xs Ls d pd_m14 (mm_lI L 1 fun x => mm_go 17 L (.int x :: st) S) o := pd_Gs (i := .iload_n 1) (n := 1) rfl
theorem p14_17 : pd_G xs Ls d pd_m14 (17, L, st, S) o ↔ pd_K xs Ls d pd_m14 (mm_i st fun x st => mm_ai pd_ak S st 0 fun i a r => mm_go 18 L r (mm_sI S a i.toNatClampNeg x)) o := pd_Gs (i := .iastore) (n := 1) rfl
theorem p14_18 : pd_G xs Ls d pd_m14 (18, L, st, S) o ↔ pd_K xs Ls d pd_m14 (mm_lA L 0 fun v => mm_go 19 L (v :: st) S) o := pd_Gs (i := .aload_n 0) (n := 1) rfl
theorem p14_19 : pd_G xs Ls d pd_m14 (19, L, st, S) o ↔ pd_K xs Ls d pd_m14 (mm_getf pd_ck 19 L st S 1 1) o := pd_Gs (i := .getfield 15) (n := 3) rfl
theorem p14_22 : pd_G xs Ls d pd_m14 (22, L, st, S) o ↔ pd_K xs Ls d pd_m14 (mm_lI L 3 fun x => mm_go 23 L (.int x :: st) S) o := pd_Gs (i := .iload_n 3) (n := 1) rfl
theorem p14_23 : pd_G xs Ls d pd_m14 (23, L, st, S) o ↔ pd_K xs Ls d pd_m14 (mm_lI L 2 fun x => mm_go 24 L (.int x :: st) S) o := pd_Gs (i := .iload_n 2) (n := 1) rfl
theorem p14_24 : pd_G xs Ls d pd_m14 (24, L, st, S) o ↔ pd_K xs Ls d pd_m14 (mm_i st fun x st => mm_ai pd_ak S st 0 fun i a r => mm_go 25 L r (mm_sI S a i.toNatClampNeg x)) o := pd_Gs (i := .iastore) (n := 1) rfl
theorem p14_25 : pd_G xs Ls d pd_m14 (25, L, st, S) o ↔ pd_K xs Ls d pd_m14 (mm_lA L 0 fun v => mm_go 26 L (v :: st) S) o := pd_Gs (i := .aload_n 0) (n := 1) rfl
theorem p14_26 : pd_G xs Ls d pd_m14 (26, L, st, S) o ↔ pd_K xs Ls d pd_m14 (mm_1 st fun v r => cond (mm_c2 v) none (mm_go 27 L (v :: v :: r) S)) o := pd_Gs (i := .dup) (n := 1) rfl
theorem p14_27 : pd_G xs Ls d pd_m14 (27, L, st, S) o ↔ pd_K xs Ls d pd_m14 (mm_getf pd_ck 27 L st S 1 2) o := pd_Gs (i := .getfield 18) (n := 3) rfl
theorem p14_30 : pd_G xs Ls d pd_m14 (30, L, st, S) o ↔ pd_K xs Ls d pd_m14 (mm_go 31 L (.int 1 :: st) S) o := pd_Gs (i := .iconst 1) (n := 1) rfl
theorem p14_31 : pd_G xs Ls d pd_m14 (31, L, st, S) o ↔ pd_K xs Ls d pd_m14 (mm_ii st fun x y r => mm_go 32 L (.int (x + y) :: r) S) o := pd_Gs (i := .iadd) (n := 1) rfl
theorem p14_32 : pd_G xs Ls d pd_m14 (32, L, st, S) o ↔ pd_K xs Ls d pd_m14 (mm_putf pd_ck 32 L st S 1 2) o := pd_Gs (i := .putfield 18) (n := 3) rfl
theorem p14_35 : pd_G xs Ls d pd_m14 (35, L, st, S) o ↔ pd_K xs Ls d pd_m14 (mm_lI L 3 fun x => mm_go 36 L (.int x :: st) S) o := pd_Gs (i := .iload_n 3) (n := 1) rfl
theorem p14_36 : pd_G xs Ls d pd_m14 (36, L, st, S) o ↔ pd_K xs Ls d pd_m14 (mm_e0 S st) o := pd_Gs (i := .ireturn) (n := 1) rfl
theorem p15_0 : pd_G xs Ls d pd_m15 (0, L, st, S) o ↔ pd_K xs Ls d pd_m15 (mm_lI L 1 fun x => mm_go 1 L (.int x :: st) S) o := pd_Gs (i := .iload_n 1) (n := 1) rfl
theorem p15_1 : pd_G xs Ls d pd_m15 (1, L, st, S) o ↔ pd_K xs Ls d pd_m15 (mm_i st fun x r => mm_icmp .lt x 0 (mm_go 20 L r S) (mm_go 4 L r S)) o := pd_Gs (i := .ifCond .lt 19) (n := 3) rfl
theorem p15_4 : pd_G xs Ls d pd_m15 (4, L, st, S) o ↔ pd_K xs Ls d pd_m15 (mm_lI L 1 fun x => mm_go 5 L (.int x :: st) S) o := pd_Gs (i := .iload_n 1) (n := 1) rfl
theorem p15_5 : pd_G xs Ls d pd_m15 (5, L, st, S) o ↔ pd_K xs Ls d pd_m15 (mm_go 7 L (.int 49 :: st) S) o := pd_Gs (i := .bipush 49) (n := 2) rfl
theorem p15_7 : pd_G xs Ls d pd_m15 (7, L, st, S) o ↔ pd_K xs Ls d pd_m15 (mm_ii st fun x y r => mm_icmp .ge x y (mm_go 20 L r S) (mm_go 10 L r S)) o := pd_Gs (i := .if_icmp .ge 13) (n := 3) rfl
theorem p15_10 : pd_G xs Ls d pd_m15 (10, L, st, S) o ↔ pd_K xs Ls d pd_m15 (mm_lA L 0 fun v => mm_go 11 L (v :: st) S) o := pd_Gs (i := .aload_n 0) (n := 1) rfl
theorem p15_11 : pd_G xs Ls d pd_m15 (11, L, st, S) o ↔ pd_K xs Ls d pd_m15 (mm_getf pd_ck 11 L st S 1 1) o := pd_Gs (i := .getfield 15) (n := 3) rfl
theorem p15_14 : pd_G xs Ls d pd_m15 (14, L, st, S) o ↔ pd_K xs Ls d pd_m15 (mm_lI L 1 fun x => mm_go 15 L (.int x :: st) S) o := pd_Gs (i := .iload_n 1) (n := 1) rfl
theorem p15_15 : pd_G xs Ls d pd_m15 (15, L, st, S) o ↔ pd_K xs Ls d pd_m15 (mm_lA L 0 fun v => mm_go 16 L (v :: st) S) o := pd_Gs (i := .aload_n 0) (n := 1) rfl
theorem p15_16 : pd_G xs Ls d pd_m15 (16, L, st, S) o ↔ pd_K xs Ls d pd_m15 (mm_getf pd_ck 16 L st S 1 2) o := pd_Gs (i := .getfield 18) (n := 3) rfl
theorem p15_19 : pd_G xs Ls d pd_m15 (19, L, st, S) o ↔ pd_K xs Ls d pd_m15 (mm_i st fun x st => mm_ai pd_ak S st 0 fun i a r => mm_go 20 L r (mm_sI S a i.toNatClampNeg x)) o := pd_Gs (i := .iastore) (n := 1) rfl
theorem p15_20 : pd_G xs Ls d pd_m15 (20, L, st, S) o ↔ pd_K xs Ls d pd_m15 (mm_rV S st) o := pd_Gs (i := .return_) (n := 1) rfl
theorem p16_0 : pd_G xs Ls d pd_m16 (0, L, st, S) o ↔ pd_K xs Ls d pd_m16 (mm_lA L 0 fun v => mm_go 1 L (v :: st) S) o := pd_Gs (i := .aload_n 0) (n := 1) rfl
theorem p16_1 : pd_G xs Ls d pd_m16 (1, L, st, S) o ↔ pd_K xs Ls d pd_m16 (mm_getf pd_ck 1 L st S 1 2) o := pd_Gs (i := .getfield 18) (n := 3) rfl
theorem p16_4 : pd_G xs Ls d pd_m16 (4, L, st, S) o ↔ pd_K xs Ls d pd_m16 (mm_e0 S st) o := pd_Gs (i := .ireturn) (n := 1) rfl
theorem p17_0 : pd_G xs Ls d pd_m17 (0, L, st, S) o ↔ pd_K xs Ls d pd_m17 (mm_lI L 1 fun x => mm_go 1 L (.int x :: st) S) o := pd_Gs (i := .iload_n 1) (n := 1) rfl
theorem p17_1 : pd_G xs Ls d pd_m17 (1, L, st, S) o ↔ pd_K xs Ls d pd_m17 (mm_i st fun x r => mm_icmp .lt x 0 (mm_go 21 L r S) (mm_go 4 L r S)) o := pd_Gs (i := .ifCond .lt 20) (n := 3) rfl
theorem p17_4 : pd_G xs Ls d pd_m17 (4, L, st, S) o ↔ pd_K xs Ls d pd_m17 (mm_lI L 1 fun x => mm_go 5 L (.int x :: st) S) o := pd_Gs (i := .iload_n 1) (n := 1) rfl
theorem p17_5 : pd_G xs Ls d pd_m17 (5, L, st, S) o ↔ pd_K xs Ls d pd_m17 (mm_lA L 0 fun v => mm_go 6 L (v :: st) S) o := pd_Gs (i := .aload_n 0) (n := 1) rfl
theorem p17_6 : pd_G xs Ls d pd_m17 (6, L, st, S) o ↔ pd_K xs Ls d pd_m17 (mm_getf pd_ck 6 L st S 1 2) o := pd_Gs (i := .getfield 18) (n := 3) rfl
theorem p17_9 : pd_G xs Ls d pd_m17 (9, L, st, S) o ↔ pd_K xs Ls d pd_m17 (mm_ii st fun x y r => mm_icmp .ge x y (mm_go 21 L r S) (mm_go 12 L r S)) o := pd_Gs (i := .if_icmp .ge 12) (n := 3) rfl
theorem p17_12 : pd_G xs Ls d pd_m17 (12, L, st, S) o ↔ pd_K xs Ls d pd_m17 (mm_lA L 0 fun v => mm_go 13 L (v :: st) S) o := pd_Gs (i := .aload_n 0) (n := 1) rfl
theorem p17_13 : pd_G xs Ls d pd_m17 (13, L, st, S) o ↔ pd_K xs Ls d pd_m17 (mm_getf pd_ck 13 L st S 1 0) o := pd_Gs (i := .getfield 11) (n := 3) rfl
theorem p17_16 : pd_G xs Ls d pd_m17 (16, L, st, S) o ↔ pd_K xs Ls d pd_m17 (mm_lI L 1 fun x => mm_go 17 L (.int x :: st) S) o := pd_Gs (i := .iload_n 1) (n := 1) rfl
theorem p17_17 : pd_G xs Ls d pd_m17 (17, L, st, S) o ↔ pd_K xs Ls d pd_m17 (mm_ial xs Ls pd_ak 17 L S st) o := pd_Gs (i := .iaload) (n := 1) rfl
theorem p17_18 : pd_G xs Ls d pd_m17 (18, L, st, S) o ↔ pd_K xs Ls d pd_m17 (mm_go 22 L st S) o := pd_Gs (i := .goto 4) (n := 3) rfl
theorem p17_21 : pd_G xs Ls d pd_m17 (21, L, st, S) o ↔ pd_K xs Ls d pd_m17 (mm_go 22 L (.int 0 :: st) S) o := pd_Gs (i := .iconst 0) (n := 1) rfl
theorem p17_22 : pd_G xs Ls d pd_m17 (22, L, st, S) o ↔ pd_K xs Ls d pd_m17 (mm_e0 S st) o := pd_Gs (i := .ireturn) (n := 1) rfl
theorem p18_0 : pd_G xs Ls d pd_m18 (0, L, st, S) o ↔ pd_K xs Ls d pd_m18 (mm_lI L 1 fun x => mm_go 1 L (.int x :: st) S) o := pd_Gs (i := .iload_n 1) (n := 1) rfl
theorem p18_1 : pd_G xs Ls d pd_m18 (1, L, st, S) o ↔ pd_K xs Ls d pd_m18 (mm_i st fun x r => mm_icmp .lt x 0 (mm_go 21 L r S) (mm_go 4 L r S)) o := pd_Gs (i := .ifCond .lt 20) (n := 3) rfl
theorem p18_4 : pd_G xs Ls d pd_m18 (4, L, st, S) o ↔ pd_K xs Ls d pd_m18 (mm_lI L 1 fun x => mm_go 5 L (.int x :: st) S) o := pd_Gs (i := .iload_n 1) (n := 1) rfl
theorem p18_5 : pd_G xs Ls d pd_m18 (5, L, st, S) o ↔ pd_K xs Ls d pd_m18 (mm_lA L 0 fun v => mm_go 6 L (v :: st) S) o := pd_Gs (i := .aload_n 0) (n := 1) rfl
theorem p18_6 : pd_G xs Ls d pd_m18 (6, L, st, S) o ↔ pd_K xs Ls d pd_m18 (mm_getf pd_ck 6 L st S 1 2) o := pd_Gs (i := .getfield 18) (n := 3) rfl
theorem p18_9 : pd_G xs Ls d pd_m18 (9, L, st, S) o ↔ pd_K xs Ls d pd_m18 (mm_ii st fun x y r => mm_icmp .ge x y (mm_go 21 L r S) (mm_go 12 L r S)) o := pd_Gs (i := .if_icmp .ge 12) (n := 3) rfl
theorem p18_12 : pd_G xs Ls d pd_m18 (12, L, st, S) o ↔ pd_K xs Ls d pd_m18 (mm_lA L 0 fun v => mm_go 13 L (v :: st) S) o := pd_Gs (i := .aload_n 0) (n := 1) rfl
theorem p18_13 : pd_G xs Ls d pd_m18 (13, L, st, S) o ↔ pd_K xs Ls d pd_m18 (mm_getf pd_ck 13 L st S 1 1) o := pd_Gs (i := .getfield 15) (n := 3) rfl
theorem p18_16 : pd_G xs Ls d pd_m18 (16, L, st, S) o ↔ pd_K xs Ls d pd_m18 (mm_lI L 1 fun x => mm_go 17 L (.int x :: st) S) o := pd_Gs (i := .iload_n 1) (n := 1) rfl
theorem p18_17 : pd_G xs Ls d pd_m18 (17, L, st, S) o ↔ pd_K xs Ls d pd_m18 (mm_ial xs Ls pd_ak 17 L S st) o := pd_Gs (i := .iaload) (n := 1) rfl
theorem p18_18 : pd_G xs Ls d pd_m18 (18, L, st, S) o ↔ pd_K xs Ls d pd_m18 (mm_go 22 L st S) o := pd_Gs (i := .goto 4) (n := 3) rfl
theorem p18_21 : pd_G xs Ls d pd_m18 (21, L, st, S) o ↔ pd_K xs Ls d pd_m18 (mm_go 22 L (.int 0 :: st) S) o := pd_Gs (i := .iconst 0) (n := 1) rfl
theorem p18_22 : pd_G xs Ls d pd_m18 (22, L, st, S) o ↔ pd_K xs Ls d pd_m18 (mm_e0 S st) o := pd_Gs (i := .ireturn) (n := 1) rfl
theorem p19_0 : pd_G xs Ls d pd_m19 (0, L, st, S) o ↔ pd_K xs Ls d pd_m19 (mm_lA L 0 fun v => mm_go 1 L (v :: st) S) o := pd_Gs (i := .aload_n 0) (n := 1) rfl
theorem p19_1 : pd_G xs Ls d pd_m19 (1, L, st, S) o ↔ pd_K xs Ls d pd_m19 (mm_r st fun _ r => cond (Nat.ble (mm_wt r) 8) (mm_go 4 L r S) none) o := pd_Gs (i := .invokespecial 1) (n := 3) rfl
theorem p19_4 : pd_G xs Ls d pd_m19 (4, L, st, S) o ↔ pd_K xs Ls d pd_m19 (mm_lA L 0 fun v => mm_go 5 L (v :: st) S) o := pd_Gs (i := .aload_n 0) (n := 1) rfl
theorem p19_5 : pd_G xs Ls d pd_m19 (5, L, st, S) o ↔ pd_K xs Ls d pd_m19 (mm_go 7 L (.int 48 :: st) S) o := pd_Gs (i := .bipush 48) (n := 2) rfl
theorem p19_7 : pd_G xs Ls d pd_m19 (7, L, st, S) o ↔ pd_K xs Ls d pd_m19 (mm_i st fun n r => mm_al S (if n < 0 then none else mm_go 9 L (.ref S.1.length :: r) (mm_new S (.inr (1, n.toNatClampNeg))))) o := pd_Gs (i := .newarray .char) (n := 2) rfl
theorem p19_9 : pd_G xs Ls d pd_m19 (9, L, st, S) o ↔ pd_K xs Ls d pd_m19 (mm_putf pd_ck 9 L st S 2 0) o := pd_Gs (i := .putfield 9) (n := 3) rfl
theorem p19_12 : pd_G xs Ls d pd_m19 (12, L, st, S) o ↔ pd_K xs Ls d pd_m19 (mm_lA L 0 fun v => mm_go 13 L (v :: st) S) o := pd_Gs (i := .aload_n 0) (n := 1) rfl
theorem p19_13 : pd_G xs Ls d pd_m19 (13, L, st, S) o ↔ pd_K xs Ls d pd_m19 (mm_al S (mm_go 16 L (.ref S.1.length :: st) (mm_new S (.inl 1)))) o := pd_Gs (i := .new 13) (n := 3) rfl
theorem p19_16 : pd_G xs Ls d pd_m19 (16, L, st, S) o ↔ pd_K xs Ls d pd_m19 (mm_1 st fun v r => cond (mm_c2 v) none (mm_go 17 L (v :: v :: r) S)) o := pd_Gs (i := .dup) (n := 1) rfl
theorem p19_17 : pd_G xs Ls d pd_m19 (17, L, st, S) o ↔ pd_K xs Ls d pd_m19 (mm_noT (mm_inv (mm_ev xs Ls pd_ck pd_ak pd_mj d) pd_m19 17 L st S 12 0 1)) o := pd_Gs (i := .invokespecial 15) (n := 3) rfl
theorem p19_20 : pd_G xs Ls d pd_m19 (20, L, st, S) o ↔ pd_K xs Ls d pd_m19 (mm_putf pd_ck 20 L st S 2 2) o := pd_Gs (i := .putfield 16) (n := 3) rfl
theorem p19_23 : pd_G xs Ls d pd_m19 (23, L, st, S) o ↔ pd_K xs Ls d pd_m19 (mm_rV S st) o := pd_Gs (i := .return_) (n := 1) rfl
theorem p20_0 : pd_G xs Ls d pd_m20 (0, L, st, S) o ↔ pd_K xs Ls d pd_m20 (mm_go 2 L (.int 48 :: st) S) o := pd_Gs (i := .bipush 48) (n := 2) rfl
theorem p20_2 : pd_G xs Ls d pd_m20 (2, L, st, S) o ↔ pd_K xs Ls d pd_m20 (mm_lA L 0 fun v => mm_go 3 L (v :: st) S) o := pd_Gs (i := .aload_n 0) (n := 1) rfl
theorem p20_3 : pd_G xs Ls d pd_m20 (3, L, st, S) o ↔ pd_K xs Ls d pd_m20 (mm_getf pd_ck 3 L st S 2 1) o := pd_Gs (i := .getfield 20) (n := 3) rfl
theorem p20_6 : pd_G xs Ls d pd_m20 (6, L, st, S) o ↔ pd_K xs Ls d pd_m20 (mm_ii st fun x y r => mm_go 7 L (.int (x - y) :: r) S) o := pd_Gs (i := .isub) (n := 1) rfl
theorem p20_7 : pd_G xs Ls d pd_m20 (7, L, st, S) o ↔ pd_K xs Ls d pd_m20 (mm_e0 S st) o := pd_Gs (i := .ireturn) (n := 1) rfl
theorem p21_0 : pd_G xs Ls d pd_m21 (0, L, st, S) o ↔ pd_K xs Ls d pd_m21 (mm_lA L 0 fun v => mm_go 1 L (v :: st) S) o := pd_Gs (i := .aload_n 0) (n := 1) rfl
theorem p21_1 : pd_G xs Ls d pd_m21 (1, L, st, S) o ↔ pd_K xs Ls d pd_m21 (mm_getf pd_ck 1 L st S 2 1) o := pd_Gs (i := .getfield 20) (n := 3) rfl
theorem p21_4 : pd_G xs Ls d pd_m21 (4, L, st, S) o ↔ pd_K xs Ls d pd_m21 (mm_go 6 L (.int 48 :: st) S) o := pd_Gs (i := .bipush 48) (n := 2) rfl
theorem p21_6 : pd_G xs Ls d pd_m21 (6, L, st, S) o ↔ pd_K xs Ls d pd_m21 (mm_ii st fun x y r => mm_icmp .ge x y (mm_go 29 L r S) (mm_go 9 L r S)) o := pd_Gs (i := .if_icmp .ge 23) (n := 3) rfl
theorem p21_9 : pd_G xs Ls d pd_m21 (9, L, st, S) o ↔ pd_K xs Ls d pd_m21 (mm_lA L 0 fun v => mm_go 10 L (v :: st) S) o := pd_Gs (i := .aload_n 0) (n := 1) rfl
theorem p21_10 : pd_G xs Ls d pd_m21 (10, L, st, S) o ↔ pd_K xs Ls d pd_m21 (mm_getf pd_ck 10 L st S 2 0) o := pd_Gs (i := .getfield 9) (n := 3) rfl
theorem p21_13 : pd_G xs Ls d pd_m21 (13, L, st, S) o ↔ pd_K xs Ls d pd_m21 (mm_lA L 0 fun v => mm_go 14 L (v :: st) S) o := pd_Gs (i := .aload_n 0) (n := 1) rfl
theorem p21_14 : pd_G xs Ls d pd_m21 (14, L, st, S) o ↔ pd_K xs Ls d pd_m21 (mm_getf pd_ck 14 L st S 2 1) o := pd_Gs (i := .getfield 20) (n := 3) rfl
theorem p21_17 : pd_G xs Ls d pd_m21 (17, L, st, S) o ↔ pd_K xs Ls d pd_m21 (mm_lI L 1 fun x => mm_go 18 L (.int x :: st) S) o := pd_Gs (i := .iload_n 1) (n := 1) rfl
theorem p21_18 : pd_G xs Ls d pd_m21 (18, L, st, S) o ↔ pd_K xs Ls d pd_m21 (mm_i st fun x st => mm_ai pd_ak S st 1 fun i a r => mm_go 19 L r (mm_sI S a i.toNatClampNeg (vp_nar .char x))) o := pd_Gs (i := .castore) (n := 1) rfl
theorem p21_19 : pd_G xs Ls d pd_m21 (19, L, st, S) o ↔ pd_K xs Ls d pd_m21 (mm_lA L 0 fun v => mm_go 20 L (v :: st) S) o := pd_Gs (i := .aload_n 0) (n := 1) rfl
theorem p21_20 : pd_G xs Ls d pd_m21 (20, L, st, S) o ↔ pd_K xs Ls d pd_m21 (mm_1 st fun v r => cond (mm_c2 v) none (mm_go 21 L (v :: v :: r) S)) o := pd_Gs (i := .dup) (n := 1) rfl
theorem p21_21 : pd_G xs Ls d pd_m21 (21, L, st, S) o ↔ pd_K xs Ls d pd_m21 (mm_getf pd_ck 21 L st S 2 1) o := pd_Gs (i := .getfield 20) (n := 3) rfl
theorem p21_24 : pd_G xs Ls d pd_m21 (24, L, st, S) o ↔ pd_K xs Ls d pd_m21 (mm_go 25 L (.int 1 :: st) S) o := pd_Gs (i := .iconst 1) (n := 1) rfl
theorem p21_25 : pd_G xs Ls d pd_m21 (25, L, st, S) o ↔ pd_K xs Ls d pd_m21 (mm_ii st fun x y r => mm_go 26 L (.int (x + y) :: r) S) o := pd_Gs (i := .iadd) (n := 1) rfl
theorem p21_26 : pd_G xs Ls d pd_m21 (26, L, st, S) o ↔ pd_K xs Ls d pd_m21 (mm_putf pd_ck 26 L st S 2 1) o := pd_Gs (i := .putfield 20) (n := 3) rfl
theorem p21_29 : pd_G xs Ls d pd_m21 (29, L, st, S) o ↔ pd_K xs Ls d pd_m21 (mm_rV S st) o := pd_Gs (i := .return_) (n := 1) rfl
end PCS
