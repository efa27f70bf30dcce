/-! one row an instruction (printed by gen_pc.py) -/
section PCS
variable {xs : Nat → Int32} {Ls d : Nat} {L : mm_L} {st : List Value} {S : mm_St} {o : mm_O}
theorem p113_0 : pd_G xs Ls d pd_m113 (0, L, st, S) o ↔ pd_K xs Ls d pd_m113 (mm_lA L 0 fun v => mm_go 1 L (v :: st) S) o := pd_Gs (i := .aload_n 0) (n := 1) rfl
theorem p113_1 : pd_G xs Ls d pd_m113 (1, L, st, S) o ↔ pd_K xs Ls d pd_m113 (mm_lI L 3 fun x => mm_go 2 L (.int x :: st) S) o := pd_Gs (i := .iload_n 3) (n := 1) rfl
theorem p113_2 : pd_G xs Ls d pd_m113 (2, L, st, S) o ↔ pd_K xs Ls d pd_m113 (mm_go 3 L (.int 1 :: st) S) o := pd_Gs (i := .iconst 1) (n := 1) rfl
theorem p113_3 : pd_G xs Ls d pd_m113 (3, L, st, S) o ↔ pd_K xs Ls d pd_m113 (mm_ii st fun x y r => mm_icmp .lt x y (mm_go 12 L r S) (mm_go 6 L r S)) o := pd_Gs (i := .if_icmp .lt 9) (n := 3) rfl
theorem p113_6 : pd_G xs Ls d pd_m113 (6, L, st, S) o ↔ pd_K xs Ls d pd_m113 (mm_lI L 3 fun x => mm_go 7 L (.int x :: st) S) o := pd_Gs (i := .iload_n 3) (n := 1) rfl
theorem p113_7 : pd_G xs Ls d pd_m113 (7, L, st, S) o ↔ pd_K xs Ls d pd_m113 (mm_go 9 L (.int 16 :: st) S) o := pd_Gs (i := .bipush 16) (n := 2) rfl
theorem p113_9 : pd_G xs Ls d pd_m113 (9, L, st, S) o ↔ pd_K xs Ls d pd_m113 (mm_ii st fun x y r => mm_icmp .le x y (mm_go 16 L r S) (mm_go 12 L r S)) o := pd_Gs (i := .if_icmp .le 7) (n := 3) rfl
theorem p113_12 : pd_G xs Ls d pd_m113 (12, L, st, S) o ↔ pd_K xs Ls d pd_m113 (mm_go 13 L (.int 1 :: st) S) o := pd_Gs (i := .iconst 1) (n := 1) rfl
theorem p113_13 : pd_G xs Ls d pd_m113 (13, L, st, S) o ↔ pd_K xs Ls d pd_m113 (mm_go 17 L st S) o := pd_Gs (i := .goto 4) (n := 3) rfl
theorem p113_16 : pd_G xs Ls d pd_m113 (16, L, st, S) o ↔ pd_K xs Ls d pd_m113 (mm_go 17 L (.int 0 :: st) S) o := pd_Gs (i := .iconst 0) (n := 1) rfl
theorem p113_17 : pd_G xs Ls d pd_m113 (17, L, st, S) o ↔ pd_K xs Ls d pd_m113 (mm_putf pd_ck 17 L st S 7 39) o := pd_Gs (i := .putfield 85) (n := 3) rfl
theorem p113_20 : pd_G xs Ls d pd_m113 (20, L, st, S) o ↔ pd_K xs Ls d pd_m113 (mm_lA L 0 fun v => mm_go 21 L (v :: st) S) o := pd_Gs (i := .aload_n 0) (n := 1) rfl
theorem p113_21 : pd_G xs Ls d pd_m113 (21, L, st, S) o ↔ pd_K xs Ls d pd_m113 (mm_getf pd_ck 21 L st S 7 39) o := pd_Gs (i := .getfield 85) (n := 3) rfl
theorem p113_24 : pd_G xs Ls d pd_m113 (24, L, st, S) o ↔ pd_K xs Ls d pd_m113 (mm_i st fun x r => mm_icmp .eq x 0 (mm_go 28 L r S) (mm_go 27 L r S)) o := pd_Gs (i := .ifCond .eq 4) (n := 3) rfl
theorem p113_27 : pd_G xs Ls d pd_m113 (27, L, st, S) o ↔ pd_K xs Ls d pd_m113 (mm_rV S st) o := pd_Gs (i := .return_) (n := 1) rfl
theorem p113_28 : pd_G xs Ls d pd_m113 (28, L, st, S) o ↔ pd_K xs Ls d pd_m113 (mm_go 29 L (.int 0 :: st) S) o := pd_Gs (i := .iconst 0) (n := 1) rfl
theorem p113_29 : pd_G xs Ls d pd_m113 (29, L, st, S) o ↔ pd_K xs Ls d pd_m113 (mm_i st fun x r => mm_go 31 (mm_sto L 0 4 (.int x)) r S) o := pd_Gs (i := .istore 4) (n := 2) rfl
theorem p113_31 : pd_G xs Ls d pd_m113 (31, L, st, S) o ↔ pd_K xs Ls d pd_m113 (mm_lI L 4 fun x => mm_go 33 L (.int x :: st) S) o := pd_Gs (i := .iload 4) (n := 2) rfl
theorem p113_33 : pd_G xs Ls d pd_m113 (33, L, st, S) o ↔ pd_K xs Ls d pd_m113 (mm_lI L 3 fun x => mm_go 34 L (.int x :: st) S) o := pd_Gs (i := .iload_n 3) (n := 1) rfl
theorem p113_34 : pd_G xs Ls d pd_m113 (34, L, st, S) o ↔ pd_K xs Ls d pd_m113 (mm_ii st fun x y r => mm_icmp .ge x y (mm_go 60 L r S) (mm_go 37 L r S)) o := pd_Gs (i := .if_icmp .ge 26) (n := 3) rfl
theorem p113_37 : pd_G xs Ls d pd_m113 (37, L, st, S) o ↔ pd_K xs Ls d pd_m113 (mm_lA L 0 fun v => mm_go 38 L (v :: st) S) o := pd_Gs (i := .aload_n 0) (n := 1) rfl
theorem p113_38 : pd_G xs Ls d pd_m113 (38, L, st, S) o ↔ pd_K xs Ls d pd_m113 (mm_getf pd_ck 38 L st S 7 17) o := pd_Gs (i := .getfield 39) (n := 3) rfl
theorem p113_41 : pd_G xs Ls d pd_m113 (41, L, st, S) o ↔ pd_K xs Ls d pd_m113 (mm_lI L 4 fun x => mm_go 43 L (.int x :: st) S) o := pd_Gs (i := .iload 4) (n := 2) rfl
theorem p113_43 : pd_G xs Ls d pd_m113 (43, L, st, S) o ↔ pd_K xs Ls d pd_m113 (mm_lJ L 1 fun x => mm_go 44 L (.long x :: st) S) o := pd_Gs (i := .lload_n 1) (n := 1) rfl
theorem p113_44 : pd_G xs Ls d pd_m113 (44, L, st, S) o ↔ pd_K xs Ls d pd_m113 (mm_go 45 L (.int 4 :: st) S) o := pd_Gs (i := .iconst 4) (n := 1) rfl
theorem p113_45 : pd_G xs Ls d pd_m113 (45, L, st, S) o ↔ pd_K xs Ls d pd_m113 (mm_lI L 4 fun x => mm_go 47 L (.int x :: st) S) o := pd_Gs (i := .iload 4) (n := 2) rfl
theorem p113_47 : pd_G xs Ls d pd_m113 (47, L, st, S) o ↔ pd_K xs Ls d pd_m113 (mm_ii st fun x y r => mm_go 48 L (.int (x * y) :: r) S) o := pd_Gs (i := .imul) (n := 1) rfl
theorem p113_48 : pd_G xs Ls d pd_m113 (48, L, st, S) o ↔ pd_K xs Ls d pd_m113 (mm_ji st fun x y r => mm_go 49 L (.long (x.toUInt64 >>> (y.toInt64.toUInt64 &&& Int64.toUInt64 63)).toInt64 :: r) S) o := pd_Gs (i := .lushr) (n := 1) rfl
theorem p113_49 : pd_G xs Ls d pd_m113 (49, L, st, S) o ↔ pd_K xs Ls d pd_m113 (mm_j st fun x r => mm_go 50 L (.int x.toInt32 :: r) S) o := pd_Gs (i := .l2i) (n := 1) rfl
theorem p113_50 : pd_G xs Ls d pd_m113 (50, L, st, S) o ↔ pd_K xs Ls d pd_m113 (mm_go 52 L (.int 15 :: st) S) o := pd_Gs (i := .bipush 15) (n := 2) rfl
theorem p113_52 : pd_G xs Ls d pd_m113 (52, L, st, S) o ↔ pd_K xs Ls d pd_m113 (mm_ii st fun x y r => mm_go 53 L (.int (x &&& y) :: r) S) o := pd_Gs (i := .iand) (n := 1) rfl
theorem p113_53 : pd_G xs Ls d pd_m113 (53, L, st, S) o ↔ pd_K xs Ls d pd_m113 (mm_i st fun x st => mm_ai pd_ak S st 0 fun i a r => mm_go 54 L r (mm_sI S a i.toNatClampNeg x)) o := pd_Gs (i := .iastore) (n := 1) rfl
theorem p113_54 : pd_G xs Ls d pd_m113 (54, L, st, S) o ↔ pd_K xs Ls d pd_m113 (mm_lI L 4 fun x => mm_go 57 (mm_sto L 0 4 (.int (x + 1))) st S) o := pd_Gs (i := .iinc 4 1) (n := 3) rfl
theorem p113_57 : pd_G xs Ls d pd_m113 (57, L, st, S) o ↔ pd_K xs Ls d pd_m113 (mm_go 31 L st S) o := pd_Gs (i := .goto (-26)) (n := 3) rfl
theorem p113_60 : pd_G xs Ls d pd_m113 (60, L, st, S) o ↔ pd_K xs Ls d pd_m113 (mm_lA L 0 fun v => mm_go 61 L (v :: st) S) o := pd_Gs (i := .aload_n 0) (n := 1) rfl
theorem p113_61 : pd_G xs Ls d pd_m113 (61, L, st, S) o ↔ pd_K xs Ls d pd_m113 (mm_lI L 3 fun x => mm_go 62 L (.int x :: st) S) o := pd_Gs (i := .iload_n 3) (n := 1) rfl
theorem p113_62 : pd_G xs Ls d pd_m113 (62, L, st, S) o ↔ pd_K xs Ls d pd_m113 (mm_putf pd_ck 62 L st S 7 18) o := pd_Gs (i := .putfield 42) (n := 3) rfl
theorem p113_65 : pd_G xs Ls d pd_m113 (65, L, st, S) o ↔ pd_K xs Ls d pd_m113 (mm_rV S st) o := pd_Gs (i := .return_) (n := 1) rfl
theorem p114_0 : pd_G xs Ls d pd_m114 (0, L, st, S) o ↔ pd_K xs Ls d pd_m114 (mm_lA L 0 fun v => mm_go 1 L (v :: st) S) o := pd_Gs (i := .aload_n 0) (n := 1) rfl
theorem p114_1 : pd_G xs Ls d pd_m114 (1, L, st, S) o ↔ pd_K xs Ls d pd_m114 (mm_lI L 1 fun x => mm_go 2 L (.int x :: st) S) o := pd_Gs (i := .iload_n 1) (n := 1) rfl
theorem p114_2 : pd_G xs Ls d pd_m114 (2, L, st, S) o ↔ pd_K xs Ls d pd_m114 (mm_i st fun x r => mm_icmp .lt x 0 (mm_go 30 L r S) (mm_go 5 L r S)) o := pd_Gs (i := .ifCond .lt 28) (n := 3) rfl
theorem p114_5 : pd_G xs Ls d pd_m114 (5, L, st, S) o ↔ pd_K xs Ls d pd_m114 (mm_lI L 1 fun x => mm_go 6 L (.int x :: st) S) o := pd_Gs (i := .iload_n 1) (n := 1) rfl
theorem p114_6 : pd_G xs Ls d pd_m114 (6, L, st, S) o ↔ pd_K xs Ls d pd_m114 (mm_go 7 L (.int 3 :: st) S) o := pd_Gs (i := .iconst 3) (n := 1) rfl
theorem p114_7 : pd_G xs Ls d pd_m114 (7, L, st, S) o ↔ pd_K xs Ls d pd_m114 (mm_ii st fun x y r => mm_icmp .gt x y (mm_go 30 L r S) (mm_go 10 L r S)) o := pd_Gs (i := .if_icmp .gt 23) (n := 3) rfl
theorem p114_10 : pd_G xs Ls d pd_m114 (10, L, st, S) o ↔ pd_K xs Ls d pd_m114 (mm_lI L 2 fun x => mm_go 11 L (.int x :: st) S) o := pd_Gs (i := .iload_n 2) (n := 1) rfl
theorem p114_11 : pd_G xs Ls d pd_m114 (11, L, st, S) o ↔ pd_K xs Ls d pd_m114 (mm_i st fun x r => mm_icmp .lt x 0 (mm_go 30 L r S) (mm_go 14 L r S)) o := pd_Gs (i := .ifCond .lt 19) (n := 3) rfl
theorem p114_14 : pd_G xs Ls d pd_m114 (14, L, st, S) o ↔ pd_K xs Ls d pd_m114 (mm_lI L 2 fun x => mm_go 15 L (.int x :: st) S) o := pd_Gs (i := .iload_n 2) (n := 1) rfl
theorem p114_15 : pd_G xs Ls d pd_m114 (15, L, st, S) o ↔ pd_K xs Ls d pd_m114 (mm_go 17 L (.int 9 :: st) S) o := pd_Gs (i := .bipush 9) (n := 2) rfl
theorem p114_17 : pd_G xs Ls d pd_m114 (17, L, st, S) o ↔ pd_K xs Ls d pd_m114 (mm_ii st fun x y r => mm_icmp .gt x y (mm_go 30 L r S) (mm_go 20 L r S)) o := pd_Gs (i := .if_icmp .gt 13) (n := 3) rfl
theorem p114_20 : pd_G xs Ls d pd_m114 (20, L, st, S) o ↔ pd_K xs Ls d pd_m114 (mm_lI L 3 fun x => mm_go 21 L (.int x :: st) S) o := pd_Gs (i := .iload_n 3) (n := 1) rfl
theorem p114_21 : pd_G xs Ls d pd_m114 (21, L, st, S) o ↔ pd_K xs Ls d pd_m114 (mm_i st fun x r => mm_icmp .lt x 0 (mm_go 30 L r S) (mm_go 24 L r S)) o := pd_Gs (i := .ifCond .lt 9) (n := 3) rfl
theorem p114_24 : pd_G xs Ls d pd_m114 (24, L, st, S) o ↔ pd_K xs Ls d pd_m114 (mm_lI L 3 fun x => mm_go 25 L (.int x :: st) S) o := pd_Gs (i := .iload_n 3) (n := 1) rfl
theorem p114_25 : pd_G xs Ls d pd_m114 (25, L, st, S) o ↔ pd_K xs Ls d pd_m114 (mm_go 27 L (.int 9 :: st) S) o := pd_Gs (i := .bipush 9) (n := 2) rfl
theorem p114_27 : pd_G xs Ls d pd_m114 (27, L, st, S) o ↔ pd_K xs Ls d pd_m114 (mm_ii st fun x y r => mm_icmp .le x y (mm_go 34 L r S) (mm_go 30 L r S)) o := pd_Gs (i := .if_icmp .le 7) (n := 3) rfl
theorem p114_30 : pd_G xs Ls d pd_m114 (30, L, st, S) o ↔ pd_K xs Ls d pd_m114 (mm_go 31 L (.int 1 :: st) S) o := pd_Gs (i := .iconst 1) (n := 1) rfl
theorem p114_31 : pd_G xs Ls d pd_m114 (31, L, st, S) o ↔ pd_K xs Ls d pd_m114 (mm_go 48 L st S) o := pd_Gs (i := .goto 17) (n := 3) rfl
theorem p114_34 : pd_G xs Ls d pd_m114 (34, L, st, S) o ↔ pd_K xs Ls d pd_m114 (mm_lA L 0 fun v => mm_go 35 L (v :: st) S) o := pd_Gs (i := .aload_n 0) (n := 1) rfl
theorem p114_35 : pd_G xs Ls d pd_m114 (35, L, st, S) o ↔ pd_K xs Ls d pd_m114 (mm_getf pd_ck 35 L st S 7 4) o := pd_Gs (i := .getfield 22) (n := 3) rfl
theorem p114_38 : pd_G xs Ls d pd_m114 (38, L, st, S) o ↔ pd_K xs Ls d pd_m114 (mm_lI L 1 fun x => mm_go 39 L (.int x :: st) S) o := pd_Gs (i := .iload_n 1) (n := 1) rfl
theorem p114_39 : pd_G xs Ls d pd_m114 (39, L, st, S) o ↔ pd_K xs Ls d pd_m114 (mm_ai pd_ak S st 4 fun i a r => mm_go 40 L (.int (S.2.1.1 a i.toNatClampNeg) :: r) S) o := pd_Gs (i := .baload) (n := 1) rfl
theorem p114_40 : pd_G xs Ls d pd_m114 (40, L, st, S) o ↔ pd_K xs Ls d pd_m114 (mm_i st fun x r => mm_icmp .ne x 0 (mm_go 47 L r S) (mm_go 43 L r S)) o := pd_Gs (i := .ifCond .ne 7) (n := 3) rfl
theorem p114_43 : pd_G xs Ls d pd_m114 (43, L, st, S) o ↔ pd_K xs Ls d pd_m114 (mm_go 44 L (.int 2 :: st) S) o := pd_Gs (i := .iconst 2) (n := 1) rfl
theorem p114_44 : pd_G xs Ls d pd_m114 (44, L, st, S) o ↔ pd_K xs Ls d pd_m114 (mm_go 48 L st S) o := pd_Gs (i := .goto 4) (n := 3) rfl
theorem p114_47 : pd_G xs Ls d pd_m114 (47, L, st, S) o ↔ pd_K xs Ls d pd_m114 (mm_go 48 L (.int 0 :: st) S) o := pd_Gs (i := .iconst 0) (n := 1) rfl
theorem p114_48 : pd_G xs Ls d pd_m114 (48, L, st, S) o ↔ pd_K xs Ls d pd_m114 (mm_putf pd_ck 48 L st S 7 39) o := pd_Gs (i := .putfield 85) (n := 3) rfl
theorem p114_51 : pd_G xs Ls d pd_m114 (51, L, st, S) o ↔ pd_K xs Ls d pd_m114 (mm_lA L 0 fun v => mm_go 52 L (v :: st) S) o := pd_Gs (i := .aload_n 0) (n := 1) rfl
theorem p114_52 : pd_G xs Ls d pd_m114 (52, L, st, S) o ↔ pd_K xs Ls d pd_m114 (mm_getf pd_ck 52 L st S 7 39) o := pd_Gs (i := .getfield 85) (n := 3) rfl
theorem p114_55 : pd_G xs Ls d pd_m114 (55, L, st, S) o ↔ pd_K xs Ls d pd_m114 (mm_i st fun x r => mm_icmp .eq x 0 (mm_go 60 L r S) (mm_go 58 L r S)) o := pd_Gs (i := .ifCond .eq 5) (n := 3) rfl
theorem p114_58 : pd_G xs Ls d pd_m114 (58, L, st, S) o ↔ pd_K xs Ls d pd_m114 (mm_go 59 L (.int 0 :: st) S) o := pd_Gs (i := .iconst 0) (n := 1) rfl
theorem p114_59 : pd_G xs Ls d pd_m114 (59, L, st, S) o ↔ pd_K xs Ls d pd_m114 (mm_e0 S st) o := pd_Gs (i := .ireturn) (n := 1) rfl
theorem p114_60 : pd_G xs Ls d pd_m114 (60, L, st, S) o ↔ pd_K xs Ls d pd_m114 (mm_lA L 0 fun v => mm_go 61 L (v :: st) S) o := pd_Gs (i := .aload_n 0) (n := 1) rfl
theorem p114_61 : pd_G xs Ls d pd_m114 (61, L, st, S) o ↔ pd_K xs Ls d pd_m114 (mm_getf pd_ck 61 L st S 7 23) o := pd_Gs (i := .getfield 55) (n := 3) rfl
theorem p114_64 : pd_G xs Ls d pd_m114 (64, L, st, S) o ↔ pd_K xs Ls d pd_m114 (mm_go 65 L (.int 0 :: st) S) o := pd_Gs (i := .iconst 0) (n := 1) rfl
theorem p114_65 : pd_G xs Ls d pd_m114 (65, L, st, S) o ↔ pd_K xs Ls d pd_m114 (mm_lI L 2 fun x => mm_go 66 L (.int x :: st) S) o := pd_Gs (i := .iload_n 2) (n := 1) rfl
theorem p114_66 : pd_G xs Ls d pd_m114 (66, L, st, S) o ↔ pd_K xs Ls d pd_m114 (mm_i st fun x st => mm_ai pd_ak S st 0 fun i a r => mm_go 67 L r (mm_sI S a i.toNatClampNeg x)) o := pd_Gs (i := .iastore) (n := 1) rfl
theorem p114_67 : pd_G xs Ls d pd_m114 (67, L, st, S) o ↔ pd_K xs Ls d pd_m114 (mm_lA L 0 fun v => mm_go 68 L (v :: st) S) o := pd_Gs (i := .aload_n 0) (n := 1) rfl
theorem p114_68 : pd_G xs Ls d pd_m114 (68, L, st, S) o ↔ pd_K xs Ls d pd_m114 (mm_getf pd_ck 68 L st S 7 23) o := pd_Gs (i := .getfield 55) (n := 3) rfl
theorem p114_71 : pd_G xs Ls d pd_m114 (71, L, st, S) o ↔ pd_K xs Ls d pd_m114 (mm_go 72 L (.int 1 :: st) S) o := pd_Gs (i := .iconst 1) (n := 1) rfl
theorem p114_72 : pd_G xs Ls d pd_m114 (72, L, st, S) o ↔ pd_K xs Ls d pd_m114 (mm_lI L 3 fun x => mm_go 73 L (.int x :: st) S) o := pd_Gs (i := .iload_n 3) (n := 1) rfl
theorem p114_73 : pd_G xs Ls d pd_m114 (73, L, st, S) o ↔ pd_K xs Ls d pd_m114 (mm_i st fun x st => mm_ai pd_ak S st 0 fun i a r => mm_go 74 L r (mm_sI S a i.toNatClampNeg x)) o := pd_Gs (i := .iastore) (n := 1) rfl
theorem p114_74 : pd_G xs Ls d pd_m114 (74, L, st, S) o ↔ pd_K xs Ls d pd_m114 (mm_go 75 L (.int 0 :: st) S) o := pd_Gs (i := .iconst 0) (n := 1) rfl
theorem p114_75 : pd_G xs Ls d pd_m114 (75, L, st, S) o ↔ pd_K xs Ls d pd_m114 (mm_i st fun x r => mm_go 77 (mm_sto L 0 4 (.int x)) r S) o := pd_Gs (i := .istore 4) (n := 2) rfl
theorem p114_77 : pd_G xs Ls d pd_m114 (77, L, st, S) o ↔ pd_K xs Ls d pd_m114 (mm_lI L 4 fun x => mm_go 79 L (.int x :: st) S) o := pd_Gs (i := .iload 4) (n := 2) rfl
theorem p114_79 : pd_G xs Ls d pd_m114 (79, L, st, S) o ↔ pd_K xs Ls d pd_m114 (mm_go 80 L (.int 5 :: st) S) o := pd_Gs (i := .iconst 5) (n := 1) rfl
theorem p114_80 : pd_G xs Ls d pd_m114 (80, L, st, S) o ↔ pd_K xs Ls d pd_m114 (mm_ii st fun x y r => mm_icmp .ge x y (mm_go 97 L r S) (mm_go 83 L r S)) o := pd_Gs (i := .if_icmp .ge 17) (n := 3) rfl
theorem p114_83 : pd_G xs Ls d pd_m114 (83, L, st, S) o ↔ pd_K xs Ls d pd_m114 (mm_lA L 0 fun v => mm_go 84 L (v :: st) S) o := pd_Gs (i := .aload_n 0) (n := 1) rfl
theorem p114_84 : pd_G xs Ls d pd_m114 (84, L, st, S) o ↔ pd_K xs Ls d pd_m114 (mm_getf pd_ck 84 L st S 7 24) o := pd_Gs (i := .getfield 58) (n := 3) rfl
theorem p114_87 : pd_G xs Ls d pd_m114 (87, L, st, S) o ↔ pd_K xs Ls d pd_m114 (mm_lI L 4 fun x => mm_go 89 L (.int x :: st) S) o := pd_Gs (i := .iload 4) (n := 2) rfl
theorem p114_89 : pd_G xs Ls d pd_m114 (89, L, st, S) o ↔ pd_K xs Ls d pd_m114 (mm_go 90 L (.int 0 :: st) S) o := pd_Gs (i := .iconst 0) (n := 1) rfl
theorem p114_90 : pd_G xs Ls d pd_m114 (90, L, st, S) o ↔ pd_K xs Ls d pd_m114 (mm_i st fun x st => mm_ai pd_ak S st 0 fun i a r => mm_go 91 L r (mm_sI S a i.toNatClampNeg x)) o := pd_Gs (i := .iastore) (n := 1) rfl
theorem p114_91 : pd_G xs Ls d pd_m114 (91, L, st, S) o ↔ pd_K xs Ls d pd_m114 (mm_lI L 4 fun x => mm_go 94 (mm_sto L 0 4 (.int (x + 1))) st S) o := pd_Gs (i := .iinc 4 1) (n := 3) rfl
theorem p114_94 : pd_G xs Ls d pd_m114 (94, L, st, S) o ↔ pd_K xs Ls d pd_m114 (mm_go 77 L st S) o := pd_Gs (i := .goto (-17)) (n := 3) rfl
theorem p114_97 : pd_G xs Ls d pd_m114 (97, L, st, S) o ↔ pd_K xs Ls d pd_m114 (mm_lA L 0 fun v => mm_go 98 L (v :: st) S) o := pd_Gs (i := .aload_n 0) (n := 1) rfl
theorem p114_98 : pd_G xs Ls d pd_m114 (98, L, st, S) o ↔ pd_K xs Ls d pd_m114 (mm_go 99 L (.int 0 :: st) S) o := pd_Gs (i := .iconst 0) (n := 1) rfl
theorem p114_99 : pd_G xs Ls d pd_m114 (99, L, st, S) o ↔ pd_K xs Ls d pd_m114 (mm_putf pd_ck 99 L st S 7 33) o := pd_Gs (i := .putfield 193) (n := 3) rfl
theorem p114_102 : pd_G xs Ls d pd_m114 (102, L, st, S) o ↔ pd_K xs Ls d pd_m114 (mm_lA L 0 fun v => mm_go 103 L (v :: st) S) o := pd_Gs (i := .aload_n 0) (n := 1) rfl
theorem p114_103 : pd_G xs Ls d pd_m114 (103, L, st, S) o ↔ pd_K xs Ls d pd_m114 (mm_go 104 L (.int 0 :: st) S) o := pd_Gs (i := .iconst 0) (n := 1) rfl
theorem p114_104 : pd_G xs Ls d pd_m114 (104, L, st, S) o ↔ pd_K xs Ls d pd_m114 (mm_putf pd_ck 104 L st S 7 34) o := pd_Gs (i := .putfield 218) (n := 3) rfl
theorem p114_107 : pd_G xs Ls d pd_m114 (107, L, st, S) o ↔ pd_K xs Ls d pd_m114 (mm_lA L 0 fun v => mm_go 108 L (v :: st) S) o := pd_Gs (i := .aload_n 0) (n := 1) rfl
theorem p114_108 : pd_G xs Ls d pd_m114 (108, L, st, S) o ↔ pd_K xs Ls d pd_m114 (mm_go 109 L (.int 0 :: st) S) o := pd_Gs (i := .iconst 0) (n := 1) rfl
theorem p114_109 : pd_G xs Ls d pd_m114 (109, L, st, S) o ↔ pd_K xs Ls d pd_m114 (mm_putf pd_ck 109 L st S 7 35) o := pd_Gs (i := .putfield 206) (n := 3) rfl
theorem p114_112 : pd_G xs Ls d pd_m114 (112, L, st, S) o ↔ pd_K xs Ls d pd_m114 (mm_lA L 0 fun v => mm_go 113 L (v :: st) S) o := pd_Gs (i := .aload_n 0) (n := 1) rfl
theorem p114_113 : pd_G xs Ls d pd_m114 (113, L, st, S) o ↔ pd_K xs Ls d pd_m114 (mm_go 114 L (.int 0 :: st) S) o := pd_Gs (i := .iconst 0) (n := 1) rfl
theorem p114_114 : pd_G xs Ls d pd_m114 (114, L, st, S) o ↔ pd_K xs Ls d pd_m114 (mm_putf pd_ck 114 L st S 7 36) o := pd_Gs (i := .putfield 184) (n := 3) rfl
theorem p114_117 : pd_G xs Ls d pd_m114 (117, L, st, S) o ↔ pd_K xs Ls d pd_m114 (mm_lA L 0 fun v => mm_go 118 L (v :: st) S) o := pd_Gs (i := .aload_n 0) (n := 1) rfl
theorem p114_118 : pd_G xs Ls d pd_m114 (118, L, st, S) o ↔ pd_K xs Ls d pd_m114 (mm_go 119 L (.int 0 :: st) S) o := pd_Gs (i := .iconst 0) (n := 1) rfl
theorem p114_119 : pd_G xs Ls d pd_m114 (119, L, st, S) o ↔ pd_K xs Ls d pd_m114 (mm_putf pd_ck 119 L st S 7 37) o := pd_Gs (i := .putfield 190) (n := 3) rfl
theorem p114_122 : pd_G xs Ls d pd_m114 (122, L, st, S) o ↔ pd_K xs Ls d pd_m114 (mm_lA L 0 fun v => mm_go 123 L (v :: st) S) o := pd_Gs (i := .aload_n 0) (n := 1) rfl
theorem p114_123 : pd_G xs Ls d pd_m114 (123, L, st, S) o ↔ pd_K xs Ls d pd_m114 (mm_go 124 L (.int 0 :: st) S) o := pd_Gs (i := .iconst 0) (n := 1) rfl
theorem p114_124 : pd_G xs Ls d pd_m114 (124, L, st, S) o ↔ pd_K xs Ls d pd_m114 (mm_putf pd_ck 124 L st S 7 38) o := pd_Gs (i := .putfield 215) (n := 3) rfl
theorem p114_127 : pd_G xs Ls d pd_m114 (127, L, st, S) o ↔ pd_K xs Ls d pd_m114 (mm_lA L 0 fun v => mm_go 128 L (v :: st) S) o := pd_Gs (i := .aload_n 0) (n := 1) rfl
theorem p114_128 : pd_G xs Ls d pd_m114 (128, L, st, S) o ↔ pd_K xs Ls d pd_m114 (mm_go 129 L (.int 0 :: st) S) o := pd_Gs (i := .iconst 0) (n := 1) rfl
theorem p114_129 : pd_G xs Ls d pd_m114 (129, L, st, S) o ↔ pd_K xs Ls d pd_m114 (mm_putf pd_ck 129 L st S 7 19) o := pd_Gs (i := .putfield 221) (n := 3) rfl
theorem p114_132 : pd_G xs Ls d pd_m114 (132, L, st, S) o ↔ pd_K xs Ls d pd_m114 (mm_lA L 0 fun v => mm_go 133 L (v :: st) S) o := pd_Gs (i := .aload_n 0) (n := 1) rfl
theorem p114_133 : pd_G xs Ls d pd_m114 (133, L, st, S) o ↔ pd_K xs Ls d pd_m114 (mm_go 134 L (.int (-1) :: st) S) o := pd_Gs (i := .iconst (-1)) (n := 1) rfl
theorem p114_134 : pd_G xs Ls d pd_m114 (134, L, st, S) o ↔ pd_K xs Ls d pd_m114 (mm_lI L 1 fun x => mm_go 135 L (.int x :: st) S) o := pd_Gs (i := .iload_n 1) (n := 1) rfl
theorem p114_135 : pd_G xs Ls d pd_m114 (135, L, st, S) o ↔ pd_K xs Ls d pd_m114 (mm_go 138 L (.int 128 :: st) S) o := pd_Gs (i := .sipush 128) (n := 3) rfl
theorem p114_138 : pd_G xs Ls d pd_m114 (138, L, st, S) o ↔ pd_K xs Ls d pd_m114 (mm_ii st fun x y r => mm_go 139 L (.int (x * y) :: r) S) o := pd_Gs (i := .imul) (n := 1) rfl
theorem p114_139 : pd_G xs Ls d pd_m114 (139, L, st, S) o ↔ pd_K xs Ls d pd_m114 (mm_inv (mm_ev xs Ls pd_ck pd_ak pd_mj d) pd_m114 139 L st S 115 2 7) o := pd_Gs (i := .invokevirtual 212) (n := 3) rfl
theorem p114_142 : pd_G xs Ls d pd_m114 (142, L, st, S) o ↔ pd_K xs Ls d pd_m114 (mm_lA L 0 fun v => mm_go 143 L (v :: st) S) o := pd_Gs (i := .aload_n 0) (n := 1) rfl
theorem p114_143 : pd_G xs Ls d pd_m114 (143, L, st, S) o ↔ pd_K xs Ls d pd_m114 (mm_getf pd_ck 143 L st S 7 39) o := pd_Gs (i := .getfield 85) (n := 3) rfl
theorem p114_146 : pd_G xs Ls d pd_m114 (146, L, st, S) o ↔ pd_K xs Ls d pd_m114 (mm_i st fun x r => mm_icmp .ne x 0 (mm_go 228 L r S) (mm_go 149 L r S)) o := pd_Gs (i := .ifCond .ne 82) (n := 3) rfl
theorem p114_149 : pd_G xs Ls d pd_m114 (149, L, st, S) o ↔ pd_K xs Ls d pd_m114 (mm_lA L 0 fun v => mm_go 150 L (v :: st) S) o := pd_Gs (i := .aload_n 0) (n := 1) rfl
theorem p114_150 : pd_G xs Ls d pd_m114 (150, L, st, S) o ↔ pd_K xs Ls d pd_m114 (mm_inv (mm_ev xs Ls pd_ck pd_ak pd_mj d) pd_m114 150 L st S 116 0 7) o := pd_Gs (i := .invokevirtual 187) (n := 3) rfl
theorem p114_153 : pd_G xs Ls d pd_m114 (153, L, st, S) o ↔ pd_K xs Ls d pd_m114 (mm_i st fun x r => mm_icmp .le x 0 (mm_go 228 L r S) (mm_go 156 L r S)) o := pd_Gs (i := .ifCond .le 75) (n := 3) rfl
theorem p114_156 : pd_G xs Ls d pd_m114 (156, L, st, S) o ↔ pd_K xs Ls d pd_m114 (mm_lA L 0 fun v => mm_go 157 L (v :: st) S) o := pd_Gs (i := .aload_n 0) (n := 1) rfl
theorem p114_157 : pd_G xs Ls d pd_m114 (157, L, st, S) o ↔ pd_K xs Ls d pd_m114 (mm_lA L 0 fun v => mm_go 158 L (v :: st) S) o := pd_Gs (i := .aload_n 0) (n := 1) rfl
theorem p114_158 : pd_G xs Ls d pd_m114 (158, L, st, S) o ↔ pd_K xs Ls d pd_m114 (mm_getf pd_ck 158 L st S 7 17) o := pd_Gs (i := .getfield 39) (n := 3) rfl
theorem p114_161 : pd_G xs Ls d pd_m114 (161, L, st, S) o ↔ pd_K xs Ls d pd_m114 (mm_lA L 0 fun v => mm_go 162 L (v :: st) S) o := pd_Gs (i := .aload_n 0) (n := 1) rfl
theorem p114_162 : pd_G xs Ls d pd_m114 (162, L, st, S) o ↔ pd_K xs Ls d pd_m114 (mm_getf pd_ck 162 L st S 7 19) o := pd_Gs (i := .getfield 221) (n := 3) rfl
theorem p114_165 : pd_G xs Ls d pd_m114 (165, L, st, S) o ↔ pd_K xs Ls d pd_m114 (mm_ial xs Ls pd_ak 165 L S st) o := pd_Gs (i := .iaload) (n := 1) rfl
theorem p114_166 : pd_G xs Ls d pd_m114 (166, L, st, S) o ↔ pd_K xs Ls d pd_m114 (mm_inv (mm_ev xs Ls pd_ck pd_ak pd_mj d) pd_m114 166 L st S 117 1 7) o := pd_Gs (i := .invokevirtual 224) (n := 3) rfl
theorem p114_169 : pd_G xs Ls d pd_m114 (169, L, st, S) o ↔ pd_K xs Ls d pd_m114 (mm_i st fun x r => mm_go 171 (mm_sto L 0 4 (.int x)) r S) o := pd_Gs (i := .istore 4) (n := 2) rfl
theorem p114_171 : pd_G xs Ls d pd_m114 (171, L, st, S) o ↔ pd_K xs Ls d pd_m114 (mm_lI L 4 fun x => mm_go 173 L (.int x :: st) S) o := pd_Gs (i := .iload 4) (n := 2) rfl
theorem p114_173 : pd_G xs Ls d pd_m114 (173, L, st, S) o ↔ pd_K xs Ls d pd_m114 (mm_i st fun x r => mm_icmp .lt x 0 (mm_go 186 L r S) (mm_go 176 L r S)) o := pd_Gs (i := .ifCond .lt 13) (n := 3) rfl
theorem p114_176 : pd_G xs Ls d pd_m114 (176, L, st, S) o ↔ pd_K xs Ls d pd_m114 (mm_lA L 0 fun v => mm_go 177 L (v :: st) S) o := pd_Gs (i := .aload_n 0) (n := 1) rfl
theorem p114_177 : pd_G xs Ls d pd_m114 (177, L, st, S) o ↔ pd_K xs Ls d pd_m114 (mm_getf pd_ck 177 L st S 7 34) o := pd_Gs (i := .getfield 218) (n := 3) rfl
theorem p114_180 : pd_G xs Ls d pd_m114 (180, L, st, S) o ↔ pd_K xs Ls d pd_m114 (mm_go 183 L (.int 200 :: st) S) o := pd_Gs (i := .sipush 200) (n := 3) rfl
theorem p114_183 : pd_G xs Ls d pd_m114 (183, L, st, S) o ↔ pd_K xs Ls d pd_m114 (mm_ii st fun x y r => mm_icmp .ne x y (mm_go 194 L r S) (mm_go 186 L r S)) o := pd_Gs (i := .if_icmp .ne 11) (n := 3) rfl
theorem p114_186 : pd_G xs Ls d pd_m114 (186, L, st, S) o ↔ pd_K xs Ls d pd_m114 (mm_lA L 0 fun v => mm_go 187 L (v :: st) S) o := pd_Gs (i := .aload_n 0) (n := 1) rfl
theorem p114_187 : pd_G xs Ls d pd_m114 (187, L, st, S) o ↔ pd_K xs Ls d pd_m114 (mm_go 188 L (.int 3 :: st) S) o := pd_Gs (i := .iconst 3) (n := 1) rfl
theorem p114_188 : pd_G xs Ls d pd_m114 (188, L, st, S) o ↔ pd_K xs Ls d pd_m114 (mm_putf pd_ck 188 L st S 7 39) o := pd_Gs (i := .putfield 85) (n := 3) rfl
theorem p114_191 : pd_G xs Ls d pd_m114 (191, L, st, S) o ↔ pd_K xs Ls d pd_m114 (mm_go 225 L st S) o := pd_Gs (i := .goto 34) (n := 3) rfl
theorem p114_194 : pd_G xs Ls d pd_m114 (194, L, st, S) o ↔ pd_K xs Ls d pd_m114 (mm_lA L 0 fun v => mm_go 195 L (v :: st) S) o := pd_Gs (i := .aload_n 0) (n := 1) rfl
theorem p114_195 : pd_G xs Ls d pd_m114 (195, L, st, S) o ↔ pd_K xs Ls d pd_m114 (mm_lA L 0 fun v => mm_go 196 L (v :: st) S) o := pd_Gs (i := .aload_n 0) (n := 1) rfl
theorem p114_196 : pd_G xs Ls d pd_m114 (196, L, st, S) o ↔ pd_K xs Ls d pd_m114 (mm_getf pd_ck 196 L st S 7 19) o := pd_Gs (i := .getfield 221) (n := 3) rfl
theorem p114_199 : pd_G xs Ls d pd_m114 (199, L, st, S) o ↔ pd_K xs Ls d pd_m114 (mm_go 200 L (.int 1 :: st) S) o := pd_Gs (i := .iconst 1) (n := 1) rfl
theorem p114_200 : pd_G xs Ls d pd_m114 (200, L, st, S) o ↔ pd_K xs Ls d pd_m114 (mm_ii st fun x y r => mm_go 201 L (.int (x + y) :: r) S) o := pd_Gs (i := .iadd) (n := 1) rfl
theorem p114_201 : pd_G xs Ls d pd_m114 (201, L, st, S) o ↔ pd_K xs Ls d pd_m114 (mm_lA L 0 fun v => mm_go 202 L (v :: st) S) o := pd_Gs (i := .aload_n 0) (n := 1) rfl
theorem p114_202 : pd_G xs Ls d pd_m114 (202, L, st, S) o ↔ pd_K xs Ls d pd_m114 (mm_getf pd_ck 202 L st S 7 18) o := pd_Gs (i := .getfield 42) (n := 3) rfl
theorem p114_205 : pd_G xs Ls d pd_m114 (205, L, st, S) o ↔ pd_K xs Ls d pd_m114 (mm_ii st fun x y r => if y = 0 then none else mm_go 206 L (.int (x - x / y * y) :: r) S) o := pd_Gs (i := .irem) (n := 1) rfl
theorem p114_206 : pd_G xs Ls d pd_m114 (206, L, st, S) o ↔ pd_K xs Ls d pd_m114 (mm_putf pd_ck 206 L st S 7 19) o := pd_Gs (i := .putfield 221) (n := 3) rfl
theorem p114_209 : pd_G xs Ls d pd_m114 (209, L, st, S) o ↔ pd_K xs Ls d pd_m114 (mm_lA L 0 fun v => mm_go 210 L (v :: st) S) o := pd_Gs (i := .aload_n 0) (n := 1) rfl
theorem p114_210 : pd_G xs Ls d pd_m114 (210, L, st, S) o ↔ pd_K xs Ls d pd_m114 (mm_1 st fun v r => cond (mm_c2 v) none (mm_go 211 L (v :: v :: r) S)) o := pd_Gs (i := .dup) (n := 1) rfl
theorem p114_211 : pd_G xs Ls d pd_m114 (211, L, st, S) o ↔ pd_K xs Ls d pd_m114 (mm_getf pd_ck 211 L st S 7 34) o := pd_Gs (i := .getfield 218) (n := 3) rfl
theorem p114_214 : pd_G xs Ls d pd_m114 (214, L, st, S) o ↔ pd_K xs Ls d pd_m114 (mm_go 215 L (.int 1 :: st) S) o := pd_Gs (i := .iconst 1) (n := 1) rfl
theorem p114_215 : pd_G xs Ls d pd_m114 (215, L, st, S) o ↔ pd_K xs Ls d pd_m114 (mm_ii st fun x y r => mm_go 216 L (.int (x + y) :: r) S) o := pd_Gs (i := .iadd) (n := 1) rfl
theorem p114_216 : pd_G xs Ls d pd_m114 (216, L, st, S) o ↔ pd_K xs Ls d pd_m114 (mm_putf pd_ck 216 L st S 7 34) o := pd_Gs (i := .putfield 218) (n := 3) rfl
theorem p114_219 : pd_G xs Ls d pd_m114 (219, L, st, S) o ↔ pd_K xs Ls d pd_m114 (mm_lA L 0 fun v => mm_go 220 L (v :: st) S) o := pd_Gs (i := .aload_n 0) (n := 1) rfl
theorem p114_220 : pd_G xs Ls d pd_m114 (220, L, st, S) o ↔ pd_K xs Ls d pd_m114 (mm_lI L 4 fun x => mm_go 222 L (.int x :: st) S) o := pd_Gs (i := .iload 4) (n := 2) rfl
theorem p114_222 : pd_G xs Ls d pd_m114 (222, L, st, S) o ↔ pd_K xs Ls d pd_m114 (mm_inv (mm_ev xs Ls pd_ck pd_ak pd_mj d) pd_m114 222 L st S 118 1 7) o := pd_Gs (i := .invokevirtual 227) (n := 3) rfl
theorem p114_225 : pd_G xs Ls d pd_m114 (225, L, st, S) o ↔ pd_K xs Ls d pd_m114 (mm_go 142 L st S) o := pd_Gs (i := .goto (-83)) (n := 3) rfl
theorem p114_228 : pd_G xs Ls d pd_m114 (228, L, st, S) o ↔ pd_K xs Ls d pd_m114 (mm_lA L 0 fun v => mm_go 229 L (v :: st) S) o := pd_Gs (i := .aload_n 0) (n := 1) rfl
theorem p114_229 : pd_G xs Ls d pd_m114 (229, L, st, S) o ↔ pd_K xs Ls d pd_m114 (mm_getf pd_ck 229 L st S 7 39) o := pd_Gs (i := .getfield 85) (n := 3) rfl
theorem p114_232 : pd_G xs Ls d pd_m114 (232, L, st, S) o ↔ pd_K xs Ls d pd_m114 (mm_i st fun x r => mm_icmp .ne x 0 (mm_go 242 L r S) (mm_go 235 L r S)) o := pd_Gs (i := .ifCond .ne 10) (n := 3) rfl
theorem p114_235 : pd_G xs Ls d pd_m114 (235, L, st, S) o ↔ pd_K xs Ls d pd_m114 (mm_lA L 0 fun v => mm_go 236 L (v :: st) S) o := pd_Gs (i := .aload_n 0) (n := 1) rfl
theorem p114_236 : pd_G xs Ls d pd_m114 (236, L, st, S) o ↔ pd_K xs Ls d pd_m114 (mm_getf pd_ck 236 L st S 7 34) o := pd_Gs (i := .getfield 218) (n := 3) rfl
theorem p114_239 : pd_G xs Ls d pd_m114 (239, L, st, S) o ↔ pd_K xs Ls d pd_m114 (mm_go 243 L st S) o := pd_Gs (i := .goto 4) (n := 3) rfl
theorem p114_242 : pd_G xs Ls d pd_m114 (242, L, st, S) o ↔ pd_K xs Ls d pd_m114 (mm_go 243 L (.int 0 :: st) S) o := pd_Gs (i := .iconst 0) (n := 1) rfl
theorem p114_243 : pd_G xs Ls d pd_m114 (243, L, st, S) o ↔ pd_K xs Ls d pd_m114 (mm_e0 S st) o := pd_Gs (i := .ireturn) (n := 1) rfl
theorem p115_0 : pd_G xs Ls d pd_m115 (0, L, st, S) o ↔ pd_K xs Ls d pd_m115 (mm_go 1 L (.int 0 :: st) S) o := pd_Gs (i := .iconst 0) (n := 1) rfl
theorem p115_1 : pd_G xs Ls d pd_m115 (1, L, st, S) o ↔ pd_K xs Ls d pd_m115 (mm_i st fun x r => mm_go 2 (mm_sto L 0 3 (.int x)) r S) o := pd_Gs (i := .istore_n 3) (n := 1) rfl
theorem p115_2 : pd_G xs Ls d pd_m115 (2, L, st, S) o ↔ pd_K xs Ls d pd_m115 (mm_lA L 0 fun v => mm_go 3 L (v :: st) S) o := pd_Gs (i := .aload_n 0) (n := 1) rfl
theorem p115_3 : pd_G xs Ls d pd_m115 (3, L, st, S) o ↔ pd_K xs Ls d pd_m115 (mm_getf pd_ck 3 L st S 7 24) o := pd_Gs (i := .getfield 58) (n := 3) rfl
theorem p115_6 : pd_G xs Ls d pd_m115 (6, L, st, S) o ↔ pd_K xs Ls d pd_m115 (mm_lI L 3 fun x => mm_go 7 L (.int x :: st) S) o := pd_Gs (i := .iload_n 3) (n := 1) rfl
theorem p115_7 : pd_G xs Ls d pd_m115 (7, L, st, S) o ↔ pd_K xs Ls d pd_m115 (mm_ial xs Ls pd_ak 7 L S st) o := pd_Gs (i := .iaload) (n := 1) rfl
theorem p115_8 : pd_G xs Ls d pd_m115 (8, L, st, S) o ↔ pd_K xs Ls d pd_m115 (mm_i st fun x r => mm_icmp .eq x 0 (mm_go 17 L r S) (mm_go 11 L r S)) o := pd_Gs (i := .ifCond .eq 9) (n := 3) rfl
theorem p115_11 : pd_G xs Ls d pd_m115 (11, L, st, S) o ↔ pd_K xs Ls d pd_m115 (mm_lI L 3 fun x => mm_go 14 (mm_sto L 0 3 (.int (x + 1))) st S) o := pd_Gs (i := .iinc 3 1) (n := 3) rfl
theorem p115_14 : pd_G xs Ls d pd_m115 (14, L, st, S) o ↔ pd_K xs Ls d pd_m115 (mm_go 2 L st S) o := pd_Gs (i := .goto (-12)) (n := 3) rfl
theorem p115_17 : pd_G xs Ls d pd_m115 (17, L, st, S) o ↔ pd_K xs Ls d pd_m115 (mm_lA L 0 fun v => mm_go 18 L (v :: st) S) o := pd_Gs (i := .aload_n 0) (n := 1) rfl
theorem p115_18 : pd_G xs Ls d pd_m115 (18, L, st, S) o ↔ pd_K xs Ls d pd_m115 (mm_getf pd_ck 18 L st S 7 24) o := pd_Gs (i := .getfield 58) (n := 3) rfl
theorem p115_21 : pd_G xs Ls d pd_m115 (21, L, st, S) o ↔ pd_K xs Ls d pd_m115 (mm_lI L 3 fun x => mm_go 22 L (.int x :: st) S) o := pd_Gs (i := .iload_n 3) (n := 1) rfl
theorem p115_22 : pd_G xs Ls d pd_m115 (22, L, st, S) o ↔ pd_K xs Ls d pd_m115 (mm_go 23 L (.int 1 :: st) S) o := pd_Gs (i := .iconst 1) (n := 1) rfl
theorem p115_23 : pd_G xs Ls d pd_m115 (23, L, st, S) o ↔ pd_K xs Ls d pd_m115 (mm_i st fun x st => mm_ai pd_ak S st 0 fun i a r => mm_go 24 L r (mm_sI S a i.toNatClampNeg x)) o := pd_Gs (i := .iastore) (n := 1) rfl
theorem p115_24 : pd_G xs Ls d pd_m115 (24, L, st, S) o ↔ pd_K xs Ls d pd_m115 (mm_lA L 0 fun v => mm_go 25 L (v :: st) S) o := pd_Gs (i := .aload_n 0) (n := 1) rfl
theorem p115_25 : pd_G xs Ls d pd_m115 (25, L, st, S) o ↔ pd_K xs Ls d pd_m115 (mm_getf pd_ck 25 L st S 7 25) o := pd_Gs (i := .getfield 61) (n := 3) rfl
theorem p115_28 : pd_G xs Ls d pd_m115 (28, L, st, S) o ↔ pd_K xs Ls d pd_m115 (mm_lI L 3 fun x => mm_go 29 L (.int x :: st) S) o := pd_Gs (i := .iload_n 3) (n := 1) rfl
theorem p115_29 : pd_G xs Ls d pd_m115 (29, L, st, S) o ↔ pd_K xs Ls d pd_m115 (mm_lI L 2 fun x => mm_go 30 L (.int x :: st) S) o := pd_Gs (i := .iload_n 2) (n := 1) rfl
theorem p115_30 : pd_G xs Ls d pd_m115 (30, L, st, S) o ↔ pd_K xs Ls d pd_m115 (mm_i st fun x st => mm_ai pd_ak S st 0 fun i a r => mm_go 31 L r (mm_sI S a i.toNatClampNeg x)) o := pd_Gs (i := .iastore) (n := 1) rfl
theorem p115_31 : pd_G xs Ls d pd_m115 (31, L, st, S) o ↔ pd_K xs Ls d pd_m115 (mm_lA L 0 fun v => mm_go 32 L (v :: st) S) o := pd_Gs (i := .aload_n 0) (n := 1) rfl
theorem p115_32 : pd_G xs Ls d pd_m115 (32, L, st, S) o ↔ pd_K xs Ls d pd_m115 (mm_getf pd_ck 32 L st S 7 26) o := pd_Gs (i := .getfield 64) (n := 3) rfl
theorem p115_35 : pd_G xs Ls d pd_m115 (35, L, st, S) o ↔ pd_K xs Ls d pd_m115 (mm_lI L 3 fun x => mm_go 36 L (.int x :: st) S) o := pd_Gs (i := .iload_n 3) (n := 1) rfl
theorem p115_36 : pd_G xs Ls d pd_m115 (36, L, st, S) o ↔ pd_K xs Ls d pd_m115 (mm_lI L 1 fun x => mm_go 37 L (.int x :: st) S) o := pd_Gs (i := .iload_n 1) (n := 1) rfl
theorem p115_37 : pd_G xs Ls d pd_m115 (37, L, st, S) o ↔ pd_K xs Ls d pd_m115 (mm_i st fun x st => mm_ai pd_ak S st 0 fun i a r => mm_go 38 L r (mm_sI S a i.toNatClampNeg x)) o := pd_Gs (i := .iastore) (n := 1) rfl
theorem p115_38 : pd_G xs Ls d pd_m115 (38, L, st, S) o ↔ pd_K xs Ls d pd_m115 (mm_lA L 0 fun v => mm_go 39 L (v :: st) S) o := pd_Gs (i := .aload_n 0) (n := 1) rfl
theorem p115_39 : pd_G xs Ls d pd_m115 (39, L, st, S) o ↔ pd_K xs Ls d pd_m115 (mm_getf pd_ck 39 L st S 7 28) o := pd_Gs (i := .getfield 70) (n := 3) rfl
theorem p115_42 : pd_G xs Ls d pd_m115 (42, L, st, S) o ↔ pd_K xs Ls d pd_m115 (mm_lI L 3 fun x => mm_go 43 L (.int x :: st) S) o := pd_Gs (i := .iload_n 3) (n := 1) rfl
theorem p115_43 : pd_G xs Ls d pd_m115 (43, L, st, S) o ↔ pd_K xs Ls d pd_m115 (mm_lI L 1 fun x => mm_go 44 L (.int x :: st) S) o := pd_Gs (i := .iload_n 1) (n := 1) rfl
theorem p115_44 : pd_G xs Ls d pd_m115 (44, L, st, S) o ↔ pd_K xs Ls d pd_m115 (mm_i st fun x r => mm_icmp .ge x 0 (mm_go 51 L r S) (mm_go 47 L r S)) o := pd_Gs (i := .ifCond .ge 7) (n := 3) rfl
theorem p115_47 : pd_G xs Ls d pd_m115 (47, L, st, S) o ↔ pd_K xs Ls d pd_m115 (mm_go 48 L (.int 0 :: st) S) o := pd_Gs (i := .iconst 0) (n := 1) rfl
theorem p115_48 : pd_G xs Ls d pd_m115 (48, L, st, S) o ↔ pd_K xs Ls d pd_m115 (mm_go 64 L st S) o := pd_Gs (i := .goto 16) (n := 3) rfl
theorem p115_51 : pd_G xs Ls d pd_m115 (51, L, st, S) o ↔ pd_K xs Ls d pd_m115 (mm_lA L 0 fun v => mm_go 52 L (v :: st) S) o := pd_Gs (i := .aload_n 0) (n := 1) rfl
theorem p115_52 : pd_G xs Ls d pd_m115 (52, L, st, S) o ↔ pd_K xs Ls d pd_m115 (mm_getf pd_ck 52 L st S 7 28) o := pd_Gs (i := .getfield 70) (n := 3) rfl
theorem p115_55 : pd_G xs Ls d pd_m115 (55, L, st, S) o ↔ pd_K xs Ls d pd_m115 (mm_lI L 1 fun x => mm_go 56 L (.int x :: st) S) o := pd_Gs (i := .iload_n 1) (n := 1) rfl
theorem p115_56 : pd_G xs Ls d pd_m115 (56, L, st, S) o ↔ pd_K xs Ls d pd_m115 (mm_ial xs Ls pd_ak 56 L S st) o := pd_Gs (i := .iaload) (n := 1) rfl
theorem p115_57 : pd_G xs Ls d pd_m115 (57, L, st, S) o ↔ pd_K xs Ls d pd_m115 (mm_lA L 0 fun v => mm_go 58 L (v :: st) S) o := pd_Gs (i := .aload_n 0) (n := 1) rfl
theorem p115_58 : pd_G xs Ls d pd_m115 (58, L, st, S) o ↔ pd_K xs Ls d pd_m115 (mm_getf pd_ck 58 L st S 7 29) o := pd_Gs (i := .getfield 73) (n := 3) rfl
theorem p115_61 : pd_G xs Ls d pd_m115 (61, L, st, S) o ↔ pd_K xs Ls d pd_m115 (mm_lI L 1 fun x => mm_go 62 L (.int x :: st) S) o := pd_Gs (i := .iload_n 1) (n := 1) rfl
theorem p115_62 : pd_G xs Ls d pd_m115 (62, L, st, S) o ↔ pd_K xs Ls d pd_m115 (mm_ial xs Ls pd_ak 62 L S st) o := pd_Gs (i := .iaload) (n := 1) rfl
theorem p115_63 : pd_G xs Ls d pd_m115 (63, L, st, S) o ↔ pd_K xs Ls d pd_m115 (mm_ii st fun x y r => mm_go 64 L (.int (x + y) :: r) S) o := pd_Gs (i := .iadd) (n := 1) rfl
theorem p115_64 : pd_G xs Ls d pd_m115 (64, L, st, S) o ↔ pd_K xs Ls d pd_m115 (mm_i st fun x st => mm_ai pd_ak S st 0 fun i a r => mm_go 65 L r (mm_sI S a i.toNatClampNeg x)) o := pd_Gs (i := .iastore) (n := 1) rfl
theorem p115_65 : pd_G xs Ls d pd_m115 (65, L, st, S) o ↔ pd_K xs Ls d pd_m115 (mm_lA L 0 fun v => mm_go 66 L (v :: st) S) o := pd_Gs (i := .aload_n 0) (n := 1) rfl
theorem p115_66 : pd_G xs Ls d pd_m115 (66, L, st, S) o ↔ pd_K xs Ls d pd_m115 (mm_getf pd_ck 66 L st S 7 29) o := pd_Gs (i := .getfield 73) (n := 3) rfl
theorem p115_69 : pd_G xs Ls d pd_m115 (69, L, st, S) o ↔ pd_K xs Ls d pd_m115 (mm_lI L 3 fun x => mm_go 70 L (.int x :: st) S) o := pd_Gs (i := .iload_n 3) (n := 1) rfl
theorem p115_70 : pd_G xs Ls d pd_m115 (70, L, st, S) o ↔ pd_K xs Ls d pd_m115 (mm_go 71 L (.int 0 :: st) S) o := pd_Gs (i := .iconst 0) (n := 1) rfl
theorem p115_71 : pd_G xs Ls d pd_m115 (71, L, st, S) o ↔ pd_K xs Ls d pd_m115 (mm_i st fun x st => mm_ai pd_ak S st 0 fun i a r => mm_go 72 L r (mm_sI S a i.toNatClampNeg x)) o := pd_Gs (i := .iastore) (n := 1) rfl
theorem p115_72 : pd_G xs Ls d pd_m115 (72, L, st, S) o ↔ pd_K xs Ls d pd_m115 (mm_lA L 0 fun v => mm_go 73 L (v :: st) S) o := pd_Gs (i := .aload_n 0) (n := 1) rfl
theorem p115_73 : pd_G xs Ls d pd_m115 (73, L, st, S) o ↔ pd_K xs Ls d pd_m115 (mm_1 st fun v r => cond (mm_c2 v) none (mm_go 74 L (v :: v :: r) S)) o := pd_Gs (i := .dup) (n := 1) rfl
theorem p115_74 : pd_G xs Ls d pd_m115 (74, L, st, S) o ↔ pd_K xs Ls d pd_m115 (mm_getf pd_ck 74 L st S 7 36) o := pd_Gs (i := .getfield 184) (n := 3) rfl
theorem p115_77 : pd_G xs Ls d pd_m115 (77, L, st, S) o ↔ pd_K xs Ls d pd_m115 (mm_go 78 L (.int 1 :: st) S) o := pd_Gs (i := .iconst 1) (n := 1) rfl
theorem p115_78 : pd_G xs Ls d pd_m115 (78, L, st, S) o ↔ pd_K xs Ls d pd_m115 (mm_ii st fun x y r => mm_go 79 L (.int (x + y) :: r) S) o := pd_Gs (i := .iadd) (n := 1) rfl
theorem p115_79 : pd_G xs Ls d pd_m115 (79, L, st, S) o ↔ pd_K xs Ls d pd_m115 (mm_putf pd_ck 79 L st S 7 36) o := pd_Gs (i := .putfield 184) (n := 3) rfl
theorem p115_82 : pd_G xs Ls d pd_m115 (82, L, st, S) o ↔ pd_K xs Ls d pd_m115 (mm_lA L 0 fun v => mm_go 83 L (v :: st) S) o := pd_Gs (i := .aload_n 0) (n := 1) rfl
theorem p115_83 : pd_G xs Ls d pd_m115 (83, L, st, S) o ↔ pd_K xs Ls d pd_m115 (mm_inv (mm_ev xs Ls pd_ck pd_ak pd_mj d) pd_m115 83 L st S 116 0 7) o := pd_Gs (i := .invokevirtual 187) (n := 3) rfl
theorem p115_86 : pd_G xs Ls d pd_m115 (86, L, st, S) o ↔ pd_K xs Ls d pd_m115 (mm_lA L 0 fun v => mm_go 87 L (v :: st) S) o := pd_Gs (i := .aload_n 0) (n := 1) rfl
theorem p115_87 : pd_G xs Ls d pd_m115 (87, L, st, S) o ↔ pd_K xs Ls d pd_m115 (mm_getf pd_ck 87 L st S 7 37) o := pd_Gs (i := .getfield 190) (n := 3) rfl
theorem p115_90 : pd_G xs Ls d pd_m115 (90, L, st, S) o ↔ pd_K xs Ls d pd_m115 (mm_ii st fun x y r => mm_icmp .le x y (mm_go 101 L r S) (mm_go 93 L r S)) o := pd_Gs (i := .if_icmp .le 11) (n := 3) rfl
theorem p115_93 : pd_G xs Ls d pd_m115 (93, L, st, S) o ↔ pd_K xs Ls d pd_m115 (mm_lA L 0 fun v => mm_go 94 L (v :: st) S) o := pd_Gs (i := .aload_n 0) (n := 1) rfl
theorem p115_94 : pd_G xs Ls d pd_m115 (94, L, st, S) o ↔ pd_K xs Ls d pd_m115 (mm_lA L 0 fun v => mm_go 95 L (v :: st) S) o := pd_Gs (i := .aload_n 0) (n := 1) rfl
theorem p115_95 : pd_G xs Ls d pd_m115 (95, L, st, S) o ↔ pd_K xs Ls d pd_m115 (mm_inv (mm_ev xs Ls pd_ck pd_ak pd_mj d) pd_m115 95 L st S 116 0 7) o := pd_Gs (i := .invokevirtual 187) (n := 3) rfl
theorem p115_98 : pd_G xs Ls d pd_m115 (98, L, st, S) o ↔ pd_K xs Ls d pd_m115 (mm_putf pd_ck 98 L st S 7 37) o := pd_Gs (i := .putfield 190) (n := 3) rfl
theorem p115_101 : pd_G xs Ls d pd_m115 (101, L, st, S) o ↔ pd_K xs Ls d pd_m115 (mm_rV S st) o := pd_Gs (i := .return_) (n := 1) rfl
theorem p116_0 : pd_G xs Ls d pd_m116 (0, L, st, S) o ↔ pd_K xs Ls d pd_m116 (mm_go 1 L (.int 0 :: st) S) o := pd_Gs (i := .iconst 0) (n := 1) rfl
theorem p116_1 : pd_G xs Ls d pd_m116 (1, L, st, S) o ↔ pd_K xs Ls d pd_m116 (mm_i st fun x r => mm_go 2 (mm_sto L 0 1 (.int x)) r S) o := pd_Gs (i := .istore_n 1) (n := 1) rfl
theorem p116_2 : pd_G xs Ls d pd_m116 (2, L, st, S) o ↔ pd_K xs Ls d pd_m116 (mm_go 3 L (.int 0 :: st) S) o := pd_Gs (i := .iconst 0) (n := 1) rfl
theorem p116_3 : pd_G xs Ls d pd_m116 (3, L, st, S) o ↔ pd_K xs Ls d pd_m116 (mm_i st fun x r => mm_go 4 (mm_sto L 0 2 (.int x)) r S) o := pd_Gs (i := .istore_n 2) (n := 1) rfl
theorem p116_4 : pd_G xs Ls d pd_m116 (4, L, st, S) o ↔ pd_K xs Ls d pd_m116 (mm_lI L 2 fun x => mm_go 5 L (.int x :: st) S) o := pd_Gs (i := .iload_n 2) (n := 1) rfl
theorem p116_5 : pd_G xs Ls d pd_m116 (5, L, st, S) o ↔ pd_K xs Ls d pd_m116 (mm_go 6 L (.int 5 :: st) S) o := pd_Gs (i := .iconst 5) (n := 1) rfl
theorem p116_6 : pd_G xs Ls d pd_m116 (6, L, st, S) o ↔ pd_K xs Ls d pd_m116 (mm_ii st fun x y r => mm_icmp .ge x y (mm_go 27 L r S) (mm_go 9 L r S)) o := pd_Gs (i := .if_icmp .ge 21) (n := 3) rfl
theorem p116_9 : pd_G xs Ls d pd_m116 (9, L, st, S) o ↔ pd_K xs Ls d pd_m116 (mm_lA L 0 fun v => mm_go 10 L (v :: st) S) o := pd_Gs (i := .aload_n 0) (n := 1) rfl
theorem p116_10 : pd_G xs Ls d pd_m116 (10, L, st, S) o ↔ pd_K xs Ls d pd_m116 (mm_getf pd_ck 10 L st S 7 24) o := pd_Gs (i := .getfield 58) (n := 3) rfl
theorem p116_13 : pd_G xs Ls d pd_m116 (13, L, st, S) o ↔ pd_K xs Ls d pd_m116 (mm_lI L 2 fun x => mm_go 14 L (.int x :: st) S) o := pd_Gs (i := .iload_n 2) (n := 1) rfl
theorem p116_14 : pd_G xs Ls d pd_m116 (14, L, st, S) o ↔ pd_K xs Ls d pd_m116 (mm_ial xs Ls pd_ak 14 L S st) o := pd_Gs (i := .iaload) (n := 1) rfl
theorem p116_15 : pd_G xs Ls d pd_m116 (15, L, st, S) o ↔ pd_K xs Ls d pd_m116 (mm_i st fun x r => mm_icmp .eq x 0 (mm_go 21 L r S) (mm_go 18 L r S)) o := pd_Gs (i := .ifCond .eq 6) (n := 3) rfl
theorem p116_18 : pd_G xs Ls d pd_m116 (18, L, st, S) o ↔ pd_K xs Ls d pd_m116 (mm_lI L 1 fun x => mm_go 21 (mm_sto L 0 1 (.int (x + 1))) st S) o := pd_Gs (i := .iinc 1 1) (n := 3) rfl
theorem p116_21 : pd_G xs Ls d pd_m116 (21, L, st, S) o ↔ pd_K xs Ls d pd_m116 (mm_lI L 2 fun x => mm_go 24 (mm_sto L 0 2 (.int (x + 1))) st S) o := pd_Gs (i := .iinc 2 1) (n := 3) rfl
theorem p116_24 : pd_G xs Ls d pd_m116 (24, L, st, S) o ↔ pd_K xs Ls d pd_m116 (mm_go 4 L st S) o := pd_Gs (i := .goto (-20)) (n := 3) rfl
theorem p116_27 : pd_G xs Ls d pd_m116 (27, L, st, S) o ↔ pd_K xs Ls d pd_m116 (mm_lI L 1 fun x => mm_go 28 L (.int x :: st) S) o := pd_Gs (i := .iload_n 1) (n := 1) rfl
theorem p116_28 : pd_G xs Ls d pd_m116 (28, L, st, S) o ↔ pd_K xs Ls d pd_m116 (mm_e0 S st) o := pd_Gs (i := .ireturn) (n := 1) rfl
theorem p117_0 : pd_G xs Ls d pd_m117 (0, L, st, S) o ↔ pd_K xs Ls d pd_m117 (mm_go 1 L (.int 0 :: st) S) o := pd_Gs (i := .iconst 0) (n := 1) rfl
theorem p117_1 : pd_G xs Ls d pd_m117 (1, L, st, S) o ↔ pd_K xs Ls d pd_m117 (mm_i st fun x r => mm_go 2 (mm_sto L 0 2 (.int x)) r S) o := pd_Gs (i := .istore_n 2) (n := 1) rfl
theorem p117_2 : pd_G xs Ls d pd_m117 (2, L, st, S) o ↔ pd_K xs Ls d pd_m117 (mm_go 3 L (.int 0 :: st) S) o := pd_Gs (i := .iconst 0) (n := 1) rfl
theorem p117_3 : pd_G xs Ls d pd_m117 (3, L, st, S) o ↔ pd_K xs Ls d pd_m117 (mm_i st fun x r => mm_go 4 (mm_sto L 0 3 (.int x)) r S) o := pd_Gs (i := .istore_n 3) (n := 1) rfl
theorem p117_4 : pd_G xs Ls d pd_m117 (4, L, st, S) o ↔ pd_K xs Ls d pd_m117 (mm_lI L 3 fun x => mm_go 5 L (.int x :: st) S) o := pd_Gs (i := .iload_n 3) (n := 1) rfl
theorem p117_5 : pd_G xs Ls d pd_m117 (5, L, st, S) o ↔ pd_K xs Ls d pd_m117 (mm_go 6 L (.int 5 :: st) S) o := pd_Gs (i := .iconst 5) (n := 1) rfl
theorem p117_6 : pd_G xs Ls d pd_m117 (6, L, st, S) o ↔ pd_K xs Ls d pd_m117 (mm_ii st fun x y r => mm_icmp .ge x y (mm_go 28 L r S) (mm_go 9 L r S)) o := pd_Gs (i := .if_icmp .ge 22) (n := 3) rfl
theorem p117_9 : pd_G xs Ls d pd_m117 (9, L, st, S) o ↔ pd_K xs Ls d pd_m117 (mm_lA L 0 fun v => mm_go 10 L (v :: st) S) o := pd_Gs (i := .aload_n 0) (n := 1) rfl
theorem p117_10 : pd_G xs Ls d pd_m117 (10, L, st, S) o ↔ pd_K xs Ls d pd_m117 (mm_getf pd_ck 10 L st S 7 24) o := pd_Gs (i := .getfield 58) (n := 3) rfl
theorem p117_13 : pd_G xs Ls d pd_m117 (13, L, st, S) o ↔ pd_K xs Ls d pd_m117 (mm_lI L 3 fun x => mm_go 14 L (.int x :: st) S) o := pd_Gs (i := .iload_n 3) (n := 1) rfl
theorem p117_14 : pd_G xs Ls d pd_m117 (14, L, st, S) o ↔ pd_K xs Ls d pd_m117 (mm_ial xs Ls pd_ak 14 L S st) o := pd_Gs (i := .iaload) (n := 1) rfl
theorem p117_15 : pd_G xs Ls d pd_m117 (15, L, st, S) o ↔ pd_K xs Ls d pd_m117 (mm_go 16 L (.int 1 :: st) S) o := pd_Gs (i := .iconst 1) (n := 1) rfl
theorem p117_16 : pd_G xs Ls d pd_m117 (16, L, st, S) o ↔ pd_K xs Ls d pd_m117 (mm_ii st fun x y r => mm_icmp .ne x y (mm_go 22 L r S) (mm_go 19 L r S)) o := pd_Gs (i := .if_icmp .ne 6) (n := 3) rfl
theorem p117_19 : pd_G xs Ls d pd_m117 (19, L, st, S) o ↔ pd_K xs Ls d pd_m117 (mm_lI L 2 fun x => mm_go 22 (mm_sto L 0 2 (.int (x + 1))) st S) o := pd_Gs (i := .iinc 2 1) (n := 3) rfl
theorem p117_22 : pd_G xs Ls d pd_m117 (22, L, st, S) o ↔ pd_K xs Ls d pd_m117 (mm_lI L 3 fun x => mm_go 25 (mm_sto L 0 3 (.int (x + 1))) st S) o := pd_Gs (i := .iinc 3 1) (n := 3) rfl
theorem p117_25 : pd_G xs Ls d pd_m117 (25, L, st, S) o ↔ pd_K xs Ls d pd_m117 (mm_go 4 L st S) o := pd_Gs (i := .goto (-21)) (n := 3) rfl
theorem p117_28 : pd_G xs Ls d pd_m117 (28, L, st, S) o ↔ pd_K xs Ls d pd_m117 (mm_lI L 2 fun x => mm_go 29 L (.int x :: st) S) o := pd_Gs (i := .iload_n 2) (n := 1) rfl
theorem p117_29 : pd_G xs Ls d pd_m117 (29, L, st, S) o ↔ pd_K xs Ls d pd_m117 (mm_i st fun x r => mm_icmp .ne x 0 (mm_go 34 L r S) (mm_go 32 L r S)) o := pd_Gs (i := .ifCond .ne 5) (n := 3) rfl
theorem p117_32 : pd_G xs Ls d pd_m117 (32, L, st, S) o ↔ pd_K xs Ls d pd_m117 (mm_go 33 L (.int (-1) :: st) S) o := pd_Gs (i := .iconst (-1)) (n := 1) rfl
theorem p117_33 : pd_G xs Ls d pd_m117 (33, L, st, S) o ↔ pd_K xs Ls d pd_m117 (mm_e0 S st) o := pd_Gs (i := .ireturn) (n := 1) rfl
theorem p117_34 : pd_G xs Ls d pd_m117 (34, L, st, S) o ↔ pd_K xs Ls d pd_m117 (mm_lI L 1 fun x => mm_go 35 L (.int x :: st) S) o := pd_Gs (i := .iload_n 1) (n := 1) rfl
theorem p117_35 : pd_G xs Ls d pd_m117 (35, L, st, S) o ↔ pd_K xs Ls d pd_m117 (mm_lI L 2 fun x => mm_go 36 L (.int x :: st) S) o := pd_Gs (i := .iload_n 2) (n := 1) rfl
theorem p117_36 : pd_G xs Ls d pd_m117 (36, L, st, S) o ↔ pd_K xs Ls d pd_m117 (mm_ii st fun x y r => if y = 0 then none else mm_go 37 L (.int (x - x / y * y) :: r) S) o := pd_Gs (i := .irem) (n := 1) rfl
theorem p117_37 : pd_G xs Ls d pd_m117 (37, L, st, S) o ↔ pd_K xs Ls d pd_m117 (mm_i st fun x r => mm_go 38 (mm_sto L 0 3 (.int x)) r S) o := pd_Gs (i := .istore_n 3) (n := 1) rfl
theorem p117_38 : pd_G xs Ls d pd_m117 (38, L, st, S) o ↔ pd_K xs Ls d pd_m117 (mm_go 39 L (.int 0 :: st) S) o := pd_Gs (i := .iconst 0) (n := 1) rfl
theorem p117_39 : pd_G xs Ls d pd_m117 (39, L, st, S) o ↔ pd_K xs Ls d pd_m117 (mm_i st fun x r => mm_go 41 (mm_sto L 0 4 (.int x)) r S) o := pd_Gs (i := .istore 4) (n := 2) rfl
theorem p117_41 : pd_G xs Ls d pd_m117 (41, L, st, S) o ↔ pd_K xs Ls d pd_m117 (mm_lA L 0 fun v => mm_go 42 L (v :: st) S) o := pd_Gs (i := .aload_n 0) (n := 1) rfl
theorem p117_42 : pd_G xs Ls d pd_m117 (42, L, st, S) o ↔ pd_K xs Ls d pd_m117 (mm_getf pd_ck 42 L st S 7 24) o := pd_Gs (i := .getfield 58) (n := 3) rfl
theorem p117_45 : pd_G xs Ls d pd_m117 (45, L, st, S) o ↔ pd_K xs Ls d pd_m117 (mm_lI L 4 fun x => mm_go 47 L (.int x :: st) S) o := pd_Gs (i := .iload 4) (n := 2) rfl
theorem p117_47 : pd_G xs Ls d pd_m117 (47, L, st, S) o ↔ pd_K xs Ls d pd_m117 (mm_ial xs Ls pd_ak 47 L S st) o := pd_Gs (i := .iaload) (n := 1) rfl
theorem p117_48 : pd_G xs Ls d pd_m117 (48, L, st, S) o ↔ pd_K xs Ls d pd_m117 (mm_go 49 L (.int 1 :: st) S) o := pd_Gs (i := .iconst 1) (n := 1) rfl
theorem p117_49 : pd_G xs Ls d pd_m117 (49, L, st, S) o ↔ pd_K xs Ls d pd_m117 (mm_ii st fun x y r => mm_icmp .ne x y (mm_go 56 L r S) (mm_go 52 L r S)) o := pd_Gs (i := .if_icmp .ne 7) (n := 3) rfl
theorem p117_52 : pd_G xs Ls d pd_m117 (52, L, st, S) o ↔ pd_K xs Ls d pd_m117 (mm_lI L 3 fun x => mm_go 53 L (.int x :: st) S) o := pd_Gs (i := .iload_n 3) (n := 1) rfl
theorem p117_53 : pd_G xs Ls d pd_m117 (53, L, st, S) o ↔ pd_K xs Ls d pd_m117 (mm_i st fun x r => mm_icmp .le x 0 (mm_go 76 L r S) (mm_go 56 L r S)) o := pd_Gs (i := .ifCond .le 23) (n := 3) rfl
theorem p117_56 : pd_G xs Ls d pd_m117 (56, L, st, S) o ↔ pd_K xs Ls d pd_m117 (mm_lA L 0 fun v => mm_go 57 L (v :: st) S) o := pd_Gs (i := .aload_n 0) (n := 1) rfl
theorem p117_57 : pd_G xs Ls d pd_m117 (57, L, st, S) o ↔ pd_K xs Ls d pd_m117 (mm_getf pd_ck 57 L st S 7 24) o := pd_Gs (i := .getfield 58) (n := 3) rfl
theorem p117_60 : pd_G xs Ls d pd_m117 (60, L, st, S) o ↔ pd_K xs Ls d pd_m117 (mm_lI L 4 fun x => mm_go 62 L (.int x :: st) S) o := pd_Gs (i := .iload 4) (n := 2) rfl
theorem p117_62 : pd_G xs Ls d pd_m117 (62, L, st, S) o ↔ pd_K xs Ls d pd_m117 (mm_ial xs Ls pd_ak 62 L S st) o := pd_Gs (i := .iaload) (n := 1) rfl
theorem p117_63 : pd_G xs Ls d pd_m117 (63, L, st, S) o ↔ pd_K xs Ls d pd_m117 (mm_go 64 L (.int 1 :: st) S) o := pd_Gs (i := .iconst 1) (n := 1) rfl
theorem p117_64 : pd_G xs Ls d pd_m117 (64, L, st, S) o ↔ pd_K xs Ls d pd_m117 (mm_ii st fun x y r => mm_icmp .ne x y (mm_go 70 L r S) (mm_go 67 L r S)) o := pd_Gs (i := .if_icmp .ne 6) (n := 3) rfl
theorem p117_67 : pd_G xs Ls d pd_m117 (67, L, st, S) o ↔ pd_K xs Ls d pd_m117 (mm_lI L 3 fun x => mm_go 70 (mm_sto L 0 3 (.int (x + Int32.ofInt (-1)))) st S) o := pd_Gs (i := .iinc 3 (-1)) (n := 3) rfl
theorem p117_70 : pd_G xs Ls d pd_m117 (70, L, st, S) o ↔ pd_K xs Ls d pd_m117 (mm_lI L 4 fun x => mm_go 73 (mm_sto L 0 4 (.int (x + 1))) st S) o := pd_Gs (i := .iinc 4 1) (n := 3) rfl
theorem p117_73 : pd_G xs Ls d pd_m117 (73, L, st, S) o ↔ pd_K xs Ls d pd_m117 (mm_go 41 L st S) o := pd_Gs (i := .goto (-32)) (n := 3) rfl
theorem p117_76 : pd_G xs Ls d pd_m117 (76, L, st, S) o ↔ pd_K xs Ls d pd_m117 (mm_lI L 4 fun x => mm_go 78 L (.int x :: st) S) o := pd_Gs (i := .iload 4) (n := 2) rfl
theorem p117_78 : pd_G xs Ls d pd_m117 (78, L, st, S) o ↔ pd_K xs Ls d pd_m117 (mm_e0 S st) o := pd_Gs (i := .ireturn) (n := 1) rfl
theorem p118_0 : pd_G xs Ls d pd_m118 (0, L, st, S) o ↔ pd_K xs Ls d pd_m118 (mm_lA L 0 fun v => mm_go 1 L (v :: st) S) o := pd_Gs (i := .aload_n 0) (n := 1) rfl
theorem p118_1 : pd_G xs Ls d pd_m118 (1, L, st, S) o ↔ pd_K xs Ls d pd_m118 (mm_lA L 0 fun v => mm_go 2 L (v :: st) S) o := pd_Gs (i := .aload_n 0) (n := 1) rfl
theorem p118_2 : pd_G xs Ls d pd_m118 (2, L, st, S) o ↔ pd_K xs Ls d pd_m118 (mm_getf pd_ck 2 L st S 7 25) o := pd_Gs (i := .getfield 61) (n := 3) rfl
theorem p118_5 : pd_G xs Ls d pd_m118 (5, L, st, S) o ↔ pd_K xs Ls d pd_m118 (mm_lI L 1 fun x => mm_go 6 L (.int x :: st) S) o := pd_Gs (i := .iload_n 1) (n := 1) rfl
theorem p118_6 : pd_G xs Ls d pd_m118 (6, L, st, S) o ↔ pd_K xs Ls d pd_m118 (mm_ial xs Ls pd_ak 6 L S st) o := pd_Gs (i := .iaload) (n := 1) rfl
theorem p118_7 : pd_G xs Ls d pd_m118 (7, L, st, S) o ↔ pd_K xs Ls d pd_m118 (mm_inv (mm_ev xs Ls pd_ck pd_ak pd_mj d) pd_m118 7 L st S 119 1 7) o := pd_Gs (i := .invokevirtual 199) (n := 3) rfl
theorem p118_10 : pd_G xs Ls d pd_m118 (10, L, st, S) o ↔ pd_K xs Ls d pd_m118 (mm_i st fun x r => mm_go 11 (mm_sto L 0 2 (.int x)) r S) o := pd_Gs (i := .istore_n 2) (n := 1) rfl
theorem p118_11 : pd_G xs Ls d pd_m118 (11, L, st, S) o ↔ pd_K xs Ls d pd_m118 (mm_lA L 0 fun v => mm_go 12 L (v :: st) S) o := pd_Gs (i := .aload_n 0) (n := 1) rfl
theorem p118_12 : pd_G xs Ls d pd_m118 (12, L, st, S) o ↔ pd_K xs Ls d pd_m118 (mm_getf pd_ck 12 L st S 7 39) o := pd_Gs (i := .getfield 85) (n := 3) rfl
theorem p118_15 : pd_G xs Ls d pd_m118 (15, L, st, S) o ↔ pd_K xs Ls d pd_m118 (mm_i st fun x r => mm_icmp .eq x 0 (mm_go 19 L r S) (mm_go 18 L r S)) o := pd_Gs (i := .ifCond .eq 4) (n := 3) rfl
theorem p118_18 : pd_G xs Ls d pd_m118 (18, L, st, S) o ↔ pd_K xs Ls d pd_m118 (mm_rV S st) o := pd_Gs (i := .return_) (n := 1) rfl
theorem p118_19 : pd_G xs Ls d pd_m118 (19, L, st, S) o ↔ pd_K xs Ls d pd_m118 (mm_lA L 0 fun v => mm_go 20 L (v :: st) S) o := pd_Gs (i := .aload_n 0) (n := 1) rfl
theorem p118_20 : pd_G xs Ls d pd_m118 (20, L, st, S) o ↔ pd_K xs Ls d pd_m118 (mm_getf pd_ck 20 L st S 7 2) o := pd_Gs (i := .getfield 16) (n := 3) rfl
theorem p118_23 : pd_G xs Ls d pd_m118 (23, L, st, S) o ↔ pd_K xs Ls d pd_m118 (mm_lI L 2 fun x => mm_go 24 L (.int x :: st) S) o := pd_Gs (i := .iload_n 2) (n := 1) rfl
theorem p118_24 : pd_G xs Ls d pd_m118 (24, L, st, S) o ↔ pd_K xs Ls d pd_m118 (mm_ial xs Ls pd_ak 24 L S st) o := pd_Gs (i := .iaload) (n := 1) rfl
theorem p118_25 : pd_G xs Ls d pd_m118 (25, L, st, S) o ↔ pd_K xs Ls d pd_m118 (mm_i st fun x r => mm_go 26 (mm_sto L 0 3 (.int x)) r S) o := pd_Gs (i := .istore_n 3) (n := 1) rfl
theorem p118_26 : pd_G xs Ls d pd_m118 (26, L, st, S) o ↔ pd_K xs Ls d pd_m118 (mm_lA L 0 fun v => mm_go 27 L (v :: st) S) o := pd_Gs (i := .aload_n 0) (n := 1) rfl
theorem p118_27 : pd_G xs Ls d pd_m118 (27, L, st, S) o ↔ pd_K xs Ls d pd_m118 (mm_getf pd_ck 27 L st S 7 1) o := pd_Gs (i := .getfield 13) (n := 3) rfl
theorem p118_30 : pd_G xs Ls d pd_m118 (30, L, st, S) o ↔ pd_K xs Ls d pd_m118 (mm_lI L 2 fun x => mm_go 31 L (.int x :: st) S) o := pd_Gs (i := .iload_n 2) (n := 1) rfl
theorem p118_31 : pd_G xs Ls d pd_m118 (31, L, st, S) o ↔ pd_K xs Ls d pd_m118 (mm_ial xs Ls pd_ak 31 L S st) o := pd_Gs (i := .iaload) (n := 1) rfl
theorem p118_32 : pd_G xs Ls d pd_m118 (32, L, st, S) o ↔ pd_K xs Ls d pd_m118 (mm_i st fun x r => mm_go 34 (mm_sto L 0 4 (.int x)) r S) o := pd_Gs (i := .istore 4) (n := 2) rfl
theorem p118_34 : pd_G xs Ls d pd_m118 (34, L, st, S) o ↔ pd_K xs Ls d pd_m118 (mm_lI L 4 fun x => mm_go 36 L (.int x :: st) S) o := pd_Gs (i := .iload 4) (n := 2) rfl
theorem p118_36 : pd_G xs Ls d pd_m118 (36, L, st, S) o ↔ pd_K xs Ls d pd_m118 (mm_go 38 L (.int 25 :: st) S) o := pd_Gs (i := .bipush 25) (n := 2) rfl
theorem p118_38 : pd_G xs Ls d pd_m118 (38, L, st, S) o ↔ pd_K xs Ls d pd_m118 (mm_ii st fun x y r => mm_icmp .ne x y (mm_go 49 L r S) (mm_go 41 L r S)) o := pd_Gs (i := .if_icmp .ne 11) (n := 3) rfl
theorem p118_41 : pd_G xs Ls d pd_m118 (41, L, st, S) o ↔ pd_K xs Ls d pd_m118 (mm_lA L 0 fun v => mm_go 42 L (v :: st) S) o := pd_Gs (i := .aload_n 0) (n := 1) rfl
theorem p118_42 : pd_G xs Ls d pd_m118 (42, L, st, S) o ↔ pd_K xs Ls d pd_m118 (mm_lI L 1 fun x => mm_go 43 L (.int x :: st) S) o := pd_Gs (i := .iload_n 1) (n := 1) rfl
theorem p118_43 : pd_G xs Ls d pd_m118 (43, L, st, S) o ↔ pd_K xs Ls d pd_m118 (mm_lI L 2 fun x => mm_go 44 L (.int x :: st) S) o := pd_Gs (i := .iload_n 2) (n := 1) rfl
theorem p118_44 : pd_G xs Ls d pd_m118 (44, L, st, S) o ↔ pd_K xs Ls d pd_m118 (mm_lI L 3 fun x => mm_go 45 L (.int x :: st) S) o := pd_Gs (i := .iload_n 3) (n := 1) rfl
theorem p118_45 : pd_G xs Ls d pd_m118 (45, L, st, S) o ↔ pd_K xs Ls d pd_m118 (mm_inv (mm_ev xs Ls pd_ck pd_ak pd_mj d) pd_m118 45 L st S 121 3 7) o := pd_Gs (i := .invokevirtual 202) (n := 3) rfl
theorem p118_48 : pd_G xs Ls d pd_m118 (48, L, st, S) o ↔ pd_K xs Ls d pd_m118 (mm_rV S st) o := pd_Gs (i := .return_) (n := 1) rfl
theorem p118_49 : pd_G xs Ls d pd_m118 (49, L, st, S) o ↔ pd_K xs Ls d pd_m118 (mm_lI L 4 fun x => mm_go 51 L (.int x :: st) S) o := pd_Gs (i := .iload 4) (n := 2) rfl
theorem p118_51 : pd_G xs Ls d pd_m118 (51, L, st, S) o ↔ pd_K xs Ls d pd_m118 (mm_go 53 L (.int 22 :: st) S) o := pd_Gs (i := .bipush 22) (n := 2) rfl
theorem p118_53 : pd_G xs Ls d pd_m118 (53, L, st, S) o ↔ pd_K xs Ls d pd_m118 (mm_ii st fun x y r => mm_icmp .ne x y (mm_go 65 L r S) (mm_go 56 L r S)) o := pd_Gs (i := .if_icmp .ne 12) (n := 3) rfl
theorem p118_56 : pd_G xs Ls d pd_m118 (56, L, st, S) o ↔ pd_K xs Ls d pd_m118 (mm_lA L 0 fun v => mm_go 57 L (v :: st) S) o := pd_Gs (i := .aload_n 0) (n := 1) rfl
theorem p118_57 : pd_G xs Ls d pd_m118 (57, L, st, S) o ↔ pd_K xs Ls d pd_m118 (mm_getf pd_ck 57 L st S 7 35) o := pd_Gs (i := .getfield 206) (n := 3) rfl
theorem p118_60 : pd_G xs Ls d pd_m118 (60, L, st, S) o ↔ pd_K xs Ls d pd_m118 (mm_go 62 L (.int 12 :: st) S) o := pd_Gs (i := .bipush 12) (n := 2) rfl
theorem p118_62 : pd_G xs Ls d pd_m118 (62, L, st, S) o ↔ pd_K xs Ls d pd_m118 (mm_ii st fun x y r => mm_icmp .eq x y (mm_go 80 L r S) (mm_go 65 L r S)) o := pd_Gs (i := .if_icmp .eq 18) (n := 3) rfl
theorem p118_65 : pd_G xs Ls d pd_m118 (65, L, st, S) o ↔ pd_K xs Ls d pd_m118 (mm_lI L 4 fun x => mm_go 67 L (.int x :: st) S) o := pd_Gs (i := .iload 4) (n := 2) rfl
theorem p118_67 : pd_G xs Ls d pd_m118 (67, L, st, S) o ↔ pd_K xs Ls d pd_m118 (mm_go 69 L (.int 26 :: st) S) o := pd_Gs (i := .bipush 26) (n := 2) rfl
theorem p118_69 : pd_G xs Ls d pd_m118 (69, L, st, S) o ↔ pd_K xs Ls d pd_m118 (mm_ii st fun x y r => mm_icmp .ne x y (mm_go 86 L r S) (mm_go 72 L r S)) o := pd_Gs (i := .if_icmp .ne 17) (n := 3) rfl
theorem p118_72 : pd_G xs Ls d pd_m118 (72, L, st, S) o ↔ pd_K xs Ls d pd_m118 (mm_lA L 0 fun v => mm_go 73 L (v :: st) S) o := pd_Gs (i := .aload_n 0) (n := 1) rfl
theorem p118_73 : pd_G xs Ls d pd_m118 (73, L, st, S) o ↔ pd_K xs Ls d pd_m118 (mm_inv (mm_ev xs Ls pd_ck pd_ak pd_mj d) pd_m118 73 L st S 116 0 7) o := pd_Gs (i := .invokevirtual 187) (n := 3) rfl
theorem p118_76 : pd_G xs Ls d pd_m118 (76, L, st, S) o ↔ pd_K xs Ls d pd_m118 (mm_go 77 L (.int 3 :: st) S) o := pd_Gs (i := .iconst 3) (n := 1) rfl
theorem p118_77 : pd_G xs Ls d pd_m118 (77, L, st, S) o ↔ pd_K xs Ls d pd_m118 (mm_ii st fun x y r => mm_icmp .le x y (mm_go 86 L r S) (mm_go 80 L r S)) o := pd_Gs (i := .if_icmp .le 9) (n := 3) rfl
theorem p118_80 : pd_G xs Ls d pd_m118 (80, L, st, S) o ↔ pd_K xs Ls d pd_m118 (mm_lA L 0 fun v => mm_go 81 L (v :: st) S) o := pd_Gs (i := .aload_n 0) (n := 1) rfl
theorem p118_81 : pd_G xs Ls d pd_m118 (81, L, st, S) o ↔ pd_K xs Ls d pd_m118 (mm_go 82 L (.int 3 :: st) S) o := pd_Gs (i := .iconst 3) (n := 1) rfl
theorem p118_82 : pd_G xs Ls d pd_m118 (82, L, st, S) o ↔ pd_K xs Ls d pd_m118 (mm_putf pd_ck 82 L st S 7 39) o := pd_Gs (i := .putfield 85) (n := 3) rfl
theorem p118_85 : pd_G xs Ls d pd_m118 (85, L, st, S) o ↔ pd_K xs Ls d pd_m118 (mm_rV S st) o := pd_Gs (i := .return_) (n := 1) rfl
theorem p118_86 : pd_G xs Ls d pd_m118 (86, L, st, S) o ↔ pd_K xs Ls d pd_m118 (mm_lA L 0 fun v => mm_go 87 L (v :: st) S) o := pd_Gs (i := .aload_n 0) (n := 1) rfl
theorem p118_87 : pd_G xs Ls d pd_m118 (87, L, st, S) o ↔ pd_K xs Ls d pd_m118 (mm_getf pd_ck 87 L st S 7 25) o := pd_Gs (i := .getfield 61) (n := 3) rfl
theorem p118_90 : pd_G xs Ls d pd_m118 (90, L, st, S) o ↔ pd_K xs Ls d pd_m118 (mm_lI L 1 fun x => mm_go 91 L (.int x :: st) S) o := pd_Gs (i := .iload_n 1) (n := 1) rfl
theorem p118_91 : pd_G xs Ls d pd_m118 (91, L, st, S) o ↔ pd_K xs Ls d pd_m118 (mm_lI L 4 fun x => mm_go 93 L (.int x :: st) S) o := pd_Gs (i := .iload 4) (n := 2) rfl
theorem p118_93 : pd_G xs Ls d pd_m118 (93, L, st, S) o ↔ pd_K xs Ls d pd_m118 (mm_go 95 L (.int 26 :: st) S) o := pd_Gs (i := .bipush 26) (n := 2) rfl
theorem p118_95 : pd_G xs Ls d pd_m118 (95, L, st, S) o ↔ pd_K xs Ls d pd_m118 (mm_ii st fun x y r => mm_icmp .ne x y (mm_go 117 L r S) (mm_go 98 L r S)) o := pd_Gs (i := .if_icmp .ne 22) (n := 3) rfl
theorem p118_98 : pd_G xs Ls d pd_m118 (98, L, st, S) o ↔ pd_K xs Ls d pd_m118 (mm_lI L 2 fun x => mm_go 99 L (.int x :: st) S) o := pd_Gs (i := .iload_n 2) (n := 1) rfl
theorem p118_99 : pd_G xs Ls d pd_m118 (99, L, st, S) o ↔ pd_K xs Ls d pd_m118 (mm_go 102 L (.int 128 :: st) S) o := pd_Gs (i := .sipush 128) (n := 3) rfl
theorem p118_102 : pd_G xs Ls d pd_m118 (102, L, st, S) o ↔ pd_K xs Ls d pd_m118 (mm_ii st fun x y r => if y = 0 then none else mm_go 103 L (.int (x / y) :: r) S) o := pd_Gs (i := .idiv) (n := 1) rfl
theorem p118_103 : pd_G xs Ls d pd_m118 (103, L, st, S) o ↔ pd_K xs Ls d pd_m118 (mm_go 106 L (.int 128 :: st) S) o := pd_Gs (i := .sipush 128) (n := 3) rfl
theorem p118_106 : pd_G xs Ls d pd_m118 (106, L, st, S) o ↔ pd_K xs Ls d pd_m118 (mm_ii st fun x y r => mm_go 107 L (.int (x * y) :: r) S) o := pd_Gs (i := .imul) (n := 1) rfl
theorem p118_107 : pd_G xs Ls d pd_m118 (107, L, st, S) o ↔ pd_K xs Ls d pd_m118 (mm_lA L 0 fun v => mm_go 108 L (v :: st) S) o := pd_Gs (i := .aload_n 0) (n := 1) rfl
theorem p118_108 : pd_G xs Ls d pd_m118 (108, L, st, S) o ↔ pd_K xs Ls d pd_m118 (mm_getf pd_ck 108 L st S 7 3) o := pd_Gs (i := .getfield 19) (n := 3) rfl
theorem p118_111 : pd_G xs Ls d pd_m118 (111, L, st, S) o ↔ pd_K xs Ls d pd_m118 (mm_lI L 2 fun x => mm_go 112 L (.int x :: st) S) o := pd_Gs (i := .iload_n 2) (n := 1) rfl
theorem p118_112 : pd_G xs Ls d pd_m118 (112, L, st, S) o ↔ pd_K xs Ls d pd_m118 (mm_ial xs Ls pd_ak 112 L S st) o := pd_Gs (i := .iaload) (n := 1) rfl
theorem p118_113 : pd_G xs Ls d pd_m118 (113, L, st, S) o ↔ pd_K xs Ls d pd_m118 (mm_ii st fun x y r => mm_go 114 L (.int (x + y) :: r) S) o := pd_Gs (i := .iadd) (n := 1) rfl
theorem p118_114 : pd_G xs Ls d pd_m118 (114, L, st, S) o ↔ pd_K xs Ls d pd_m118 (mm_go 152 L st S) o := pd_Gs (i := .goto 38) (n := 3) rfl
theorem p118_117 : pd_G xs Ls d pd_m118 (117, L, st, S) o ↔ pd_K xs Ls d pd_m118 (mm_lI L 4 fun x => mm_go 119 L (.int x :: st) S) o := pd_Gs (i := .iload 4) (n := 2) rfl
theorem p118_119 : pd_G xs Ls d pd_m118 (119, L, st, S) o ↔ pd_K xs Ls d pd_m118 (mm_go 121 L (.int 28 :: st) S) o := pd_Gs (i := .bipush 28) (n := 2) rfl
theorem p118_121 : pd_G xs Ls d pd_m118 (121, L, st, S) o ↔ pd_K xs Ls d pd_m118 (mm_ii st fun x y r => mm_icmp .ne x y (mm_go 149 L r S) (mm_go 124 L r S)) o := pd_Gs (i := .if_icmp .ne 28) (n := 3) rfl
theorem p118_124 : pd_G xs Ls d pd_m118 (124, L, st, S) o ↔ pd_K xs Ls d pd_m118 (mm_lA L 0 fun v => mm_go 125 L (v :: st) S) o := pd_Gs (i := .aload_n 0) (n := 1) rfl
theorem p118_125 : pd_G xs Ls d pd_m118 (125, L, st, S) o ↔ pd_K xs Ls d pd_m118 (mm_getf pd_ck 125 L st S 7 22) o := pd_Gs (i := .getfield 52) (n := 3) rfl
theorem p118_128 : pd_G xs Ls d pd_m118 (128, L, st, S) o ↔ pd_K xs Ls d pd_m118 (mm_go 129 L (.int 0 :: st) S) o := pd_Gs (i := .iconst 0) (n := 1) rfl
theorem p118_129 : pd_G xs Ls d pd_m118 (129, L, st, S) o ↔ pd_K xs Ls d pd_m118 (mm_ai pd_ak S st 2 fun i a r => mm_go 130 L (.double (S.2.1.2.1 a i.toNatClampNeg) :: r) S) o := pd_Gs (i := .daload) (n := 1) rfl
theorem p118_130 : pd_G xs Ls d pd_m118 (130, L, st, S) o ↔ pd_K xs Ls d pd_m118 (mm_go 131 L (.double FP.dconst0 :: st) S) o := pd_Gs (i := .dconst 0) (n := 1) rfl
theorem p118_131 : pd_G xs Ls d pd_m118 (131, L, st, S) o ↔ pd_K xs Ls d pd_m118 (mm_dd st fun x y r => mm_go 132 L (.int (Op.cmpValue (FP.dcmp x y) .l) :: r) S) o := pd_Gs (i := .dcmp .l) (n := 1) rfl
theorem p118_132 : pd_G xs Ls d pd_m118 (132, L, st, S) o ↔ pd_K xs Ls d pd_m118 (mm_i st fun x r => mm_icmp .ne x 0 (mm_go 149 L r S) (mm_go 135 L r S)) o := pd_Gs (i := .ifCond .ne 17) (n := 3) rfl
theorem p118_135 : pd_G xs Ls d pd_m118 (135, L, st, S) o ↔ pd_K xs Ls d pd_m118 (mm_lI L 2 fun x => mm_go 136 L (.int x :: st) S) o := pd_Gs (i := .iload_n 2) (n := 1) rfl
theorem p118_136 : pd_G xs Ls d pd_m118 (136, L, st, S) o ↔ pd_K xs Ls d pd_m118 (mm_go 139 L (.int 128 :: st) S) o := pd_Gs (i := .sipush 128) (n := 3) rfl
theorem p118_139 : pd_G xs Ls d pd_m118 (139, L, st, S) o ↔ pd_K xs Ls d pd_m118 (mm_ii st fun x y r => if y = 0 then none else mm_go 140 L (.int (x / y) :: r) S) o := pd_Gs (i := .idiv) (n := 1) rfl
theorem p118_140 : pd_G xs Ls d pd_m118 (140, L, st, S) o ↔ pd_K xs Ls d pd_m118 (mm_go 143 L (.int 128 :: st) S) o := pd_Gs (i := .sipush 128) (n := 3) rfl
theorem p118_143 : pd_G xs Ls d pd_m118 (143, L, st, S) o ↔ pd_K xs Ls d pd_m118 (mm_ii st fun x y r => mm_go 144 L (.int (x * y) :: r) S) o := pd_Gs (i := .imul) (n := 1) rfl
theorem p118_144 : pd_G xs Ls d pd_m118 (144, L, st, S) o ↔ pd_K xs Ls d pd_m118 (mm_lI L 3 fun x => mm_go 145 L (.int x :: st) S) o := pd_Gs (i := .iload_n 3) (n := 1) rfl
theorem p118_145 : pd_G xs Ls d pd_m118 (145, L, st, S) o ↔ pd_K xs Ls d pd_m118 (mm_ii st fun x y r => mm_go 146 L (.int (x + y) :: r) S) o := pd_Gs (i := .iadd) (n := 1) rfl
theorem p118_146 : pd_G xs Ls d pd_m118 (146, L, st, S) o ↔ pd_K xs Ls d pd_m118 (mm_go 152 L st S) o := pd_Gs (i := .goto 6) (n := 3) rfl
theorem p118_149 : pd_G xs Ls d pd_m118 (149, L, st, S) o ↔ pd_K xs Ls d pd_m118 (mm_lI L 2 fun x => mm_go 150 L (.int x :: st) S) o := pd_Gs (i := .iload_n 2) (n := 1) rfl
theorem p118_150 : pd_G xs Ls d pd_m118 (150, L, st, S) o ↔ pd_K xs Ls d pd_m118 (mm_go 151 L (.int 1 :: st) S) o := pd_Gs (i := .iconst 1) (n := 1) rfl
theorem p118_151 : pd_G xs Ls d pd_m118 (151, L, st, S) o ↔ pd_K xs Ls d pd_m118 (mm_ii st fun x y r => mm_go 152 L (.int (x + y) :: r) S) o := pd_Gs (i := .iadd) (n := 1) rfl
theorem p118_152 : pd_G xs Ls d pd_m118 (152, L, st, S) o ↔ pd_K xs Ls d pd_m118 (mm_i st fun x st => mm_ai pd_ak S st 0 fun i a r => mm_go 153 L r (mm_sI S a i.toNatClampNeg x)) o := pd_Gs (i := .iastore) (n := 1) rfl
theorem p118_153 : pd_G xs Ls d pd_m118 (153, L, st, S) o ↔ pd_K xs Ls d pd_m118 (mm_lI L 4 fun x => mm_go 155 L (.int x :: st) S) o := pd_Gs (i := .iload 4) (n := 2) rfl
theorem p118_155 : pd_G xs Ls d pd_m118 (155, L, st, S) o ↔ pd_K xs Ls d pd_m118 (mm_go 157 L (.int 20 :: st) S) o := pd_Gs (i := .bipush 20) (n := 2) rfl
theorem p118_157 : pd_G xs Ls d pd_m118 (157, L, st, S) o ↔ pd_K xs Ls d pd_m118 (mm_ii st fun x y r => mm_icmp .ne x y (mm_go 175 L r S) (mm_go 160 L r S)) o := pd_Gs (i := .if_icmp .ne 18) (n := 3) rfl
theorem p118_160 : pd_G xs Ls d pd_m118 (160, L, st, S) o ↔ pd_K xs Ls d pd_m118 (mm_lA L 0 fun v => mm_go 161 L (v :: st) S) o := pd_Gs (i := .aload_n 0) (n := 1) rfl
theorem p118_161 : pd_G xs Ls d pd_m118 (161, L, st, S) o ↔ pd_K xs Ls d pd_m118 (mm_getf pd_ck 161 L st S 7 20) o := pd_Gs (i := .getfield 45) (n := 3) rfl
theorem p118_164 : pd_G xs Ls d pd_m118 (164, L, st, S) o ↔ pd_K xs Ls d pd_m118 (mm_lI L 3 fun x => mm_go 165 L (.int x :: st) S) o := pd_Gs (i := .iload_n 3) (n := 1) rfl
theorem p118_165 : pd_G xs Ls d pd_m118 (165, L, st, S) o ↔ pd_K xs Ls d pd_m118 (mm_lA L 0 fun v => mm_go 166 L (v :: st) S) o := pd_Gs (i := .aload_n 0) (n := 1) rfl
theorem p118_166 : pd_G xs Ls d pd_m118 (166, L, st, S) o ↔ pd_K xs Ls d pd_m118 (mm_getf pd_ck 166 L st S 7 22) o := pd_Gs (i := .getfield 52) (n := 3) rfl
theorem p118_169 : pd_G xs Ls d pd_m118 (169, L, st, S) o ↔ pd_K xs Ls d pd_m118 (mm_go 170 L (.int 0 :: st) S) o := pd_Gs (i := .iconst 0) (n := 1) rfl
theorem p118_170 : pd_G xs Ls d pd_m118 (170, L, st, S) o ↔ pd_K xs Ls d pd_m118 (mm_ai pd_ak S st 2 fun i a r => mm_go 171 L (.double (S.2.1.2.1 a i.toNatClampNeg) :: r) S) o := pd_Gs (i := .daload) (n := 1) rfl
theorem p118_171 : pd_G xs Ls d pd_m118 (171, L, st, S) o ↔ pd_K xs Ls d pd_m118 (mm_d st fun x st => mm_ai pd_ak S st 2 fun i a r => mm_go 172 L r (mm_sD S a i.toNatClampNeg x)) o := pd_Gs (i := .dastore) (n := 1) rfl
theorem p118_172 : pd_G xs Ls d pd_m118 (172, L, st, S) o ↔ pd_K xs Ls d pd_m118 (mm_go 370 L st S) o := pd_Gs (i := .goto 198) (n := 3) rfl
theorem p118_175 : pd_G xs Ls d pd_m118 (175, L, st, S) o ↔ pd_K xs Ls d pd_m118 (mm_lI L 4 fun x => mm_go 177 L (.int x :: st) S) o := pd_Gs (i := .iload 4) (n := 2) rfl
theorem p118_177 : pd_G xs Ls d pd_m118 (177, L, st, S) o ↔ pd_K xs Ls d pd_m118 (mm_go 179 L (.int 21 :: st) S) o := pd_Gs (i := .bipush 21) (n := 2) rfl
theorem p118_179 : pd_G xs Ls d pd_m118 (179, L, st, S) o ↔ pd_K xs Ls d pd_m118 (mm_ii st fun x y r => mm_icmp .ne x y (mm_go 206 L r S) (mm_go 182 L r S)) o := pd_Gs (i := .if_icmp .ne 27) (n := 3) rfl
theorem p118_182 : pd_G xs Ls d pd_m118 (182, L, st, S) o ↔ pd_K xs Ls d pd_m118 (mm_lA L 0 fun v => mm_go 183 L (v :: st) S) o := pd_Gs (i := .aload_n 0) (n := 1) rfl
theorem p118_183 : pd_G xs Ls d pd_m118 (183, L, st, S) o ↔ pd_K xs Ls d pd_m118 (mm_getf pd_ck 183 L st S 7 20) o := pd_Gs (i := .getfield 45) (n := 3) rfl
theorem p118_186 : pd_G xs Ls d pd_m118 (186, L, st, S) o ↔ pd_K xs Ls d pd_m118 (mm_go 188 L (.int 7 :: st) S) o := pd_Gs (i := .bipush 7) (n := 2) rfl
theorem p118_188 : pd_G xs Ls d pd_m118 (188, L, st, S) o ↔ pd_K xs Ls d pd_m118 (mm_lA L 0 fun v => mm_go 189 L (v :: st) S) o := pd_Gs (i := .aload_n 0) (n := 1) rfl
theorem p118_189 : pd_G xs Ls d pd_m118 (189, L, st, S) o ↔ pd_K xs Ls d pd_m118 (mm_getf pd_ck 189 L st S 7 22) o := pd_Gs (i := .getfield 52) (n := 3) rfl
theorem p118_192 : pd_G xs Ls d pd_m118 (192, L, st, S) o ↔ pd_K xs Ls d pd_m118 (mm_go 193 L (.int 0 :: st) S) o := pd_Gs (i := .iconst 0) (n := 1) rfl
theorem p118_193 : pd_G xs Ls d pd_m118 (193, L, st, S) o ↔ pd_K xs Ls d pd_m118 (mm_ai pd_ak S st 2 fun i a r => mm_go 194 L (.double (S.2.1.2.1 a i.toNatClampNeg) :: r) S) o := pd_Gs (i := .daload) (n := 1) rfl
theorem p118_194 : pd_G xs Ls d pd_m118 (194, L, st, S) o ↔ pd_K xs Ls d pd_m118 (mm_d st fun x r => mm_go 195 L (.int (FP.d2i x) :: r) S) o := pd_Gs (i := .d2i) (n := 1) rfl
theorem p118_195 : pd_G xs Ls d pd_m118 (195, L, st, S) o ↔ pd_K xs Ls d pd_m118 (mm_ii st fun x y r => mm_go 196 L (.int (x + y) :: r) S) o := pd_Gs (i := .iadd) (n := 1) rfl
theorem p118_196 : pd_G xs Ls d pd_m118 (196, L, st, S) o ↔ pd_K xs Ls d pd_m118 (mm_lA L 0 fun v => mm_go 197 L (v :: st) S) o := pd_Gs (i := .aload_n 0) (n := 1) rfl
theorem p118_197 : pd_G xs Ls d pd_m118 (197, L, st, S) o ↔ pd_K xs Ls d pd_m118 (mm_getf pd_ck 197 L st S 7 22) o := pd_Gs (i := .getfield 52) (n := 3) rfl
theorem p118_200 : pd_G xs Ls d pd_m118 (200, L, st, S) o ↔ pd_K xs Ls d pd_m118 (mm_go 201 L (.int 1 :: st) S) o := pd_Gs (i := .iconst 1) (n := 1) rfl
theorem p118_201 : pd_G xs Ls d pd_m118 (201, L, st, S) o ↔ pd_K xs Ls d pd_m118 (mm_ai pd_ak S st 2 fun i a r => mm_go 202 L (.double (S.2.1.2.1 a i.toNatClampNeg) :: r) S) o := pd_Gs (i := .daload) (n := 1) rfl
theorem p118_202 : pd_G xs Ls d pd_m118 (202, L, st, S) o ↔ pd_K xs Ls d pd_m118 (mm_d st fun x st => mm_ai pd_ak S st 2 fun i a r => mm_go 203 L r (mm_sD S a i.toNatClampNeg x)) o := pd_Gs (i := .dastore) (n := 1) rfl
theorem p118_203 : pd_G xs Ls d pd_m118 (203, L, st, S) o ↔ pd_K xs Ls d pd_m118 (mm_go 370 L st S) o := pd_Gs (i := .goto 167) (n := 3) rfl
theorem p118_206 : pd_G xs Ls d pd_m118 (206, L, st, S) o ↔ pd_K xs Ls d pd_m118 (mm_lI L 4 fun x => mm_go 208 L (.int x :: st) S) o := pd_Gs (i := .iload 4) (n := 2) rfl
theorem p118_208 : pd_G xs Ls d pd_m118 (208, L, st, S) o ↔ pd_K xs Ls d pd_m118 (mm_go 210 L (.int 22 :: st) S) o := pd_Gs (i := .bipush 22) (n := 2) rfl
theorem p118_210 : pd_G xs Ls d pd_m118 (210, L, st, S) o ↔ pd_K xs Ls d pd_m118 (mm_ii st fun x y r => mm_icmp .ne x y (mm_go 238 L r S) (mm_go 213 L r S)) o := pd_Gs (i := .if_icmp .ne 28) (n := 3) rfl
theorem p118_213 : pd_G xs Ls d pd_m118 (213, L, st, S) o ↔ pd_K xs Ls d pd_m118 (mm_lA L 0 fun v => mm_go 214 L (v :: st) S) o := pd_Gs (i := .aload_n 0) (n := 1) rfl
theorem p118_214 : pd_G xs Ls d pd_m118 (214, L, st, S) o ↔ pd_K xs Ls d pd_m118 (mm_getf pd_ck 214 L st S 7 21) o := pd_Gs (i := .getfield 49) (n := 3) rfl
theorem p118_217 : pd_G xs Ls d pd_m118 (217, L, st, S) o ↔ pd_K xs Ls d pd_m118 (mm_lA L 0 fun v => mm_go 218 L (v :: st) S) o := pd_Gs (i := .aload_n 0) (n := 1) rfl
theorem p118_218 : pd_G xs Ls d pd_m118 (218, L, st, S) o ↔ pd_K xs Ls d pd_m118 (mm_1 st fun v r => cond (mm_c2 v) none (mm_go 219 L (v :: v :: r) S)) o := pd_Gs (i := .dup) (n := 1) rfl
theorem p118_219 : pd_G xs Ls d pd_m118 (219, L, st, S) o ↔ pd_K xs Ls d pd_m118 (mm_getf pd_ck 219 L st S 7 35) o := pd_Gs (i := .getfield 206) (n := 3) rfl
theorem p118_222 : pd_G xs Ls d pd_m118 (222, L, st, S) o ↔ pd_K xs Ls d pd_m118 (mm_2 st fun v w r => cond (mm_c2 v || mm_c2 w) none (mm_go 223 L (v :: w :: v :: r) S)) o := pd_Gs (i := .dup_x1) (n := 1) rfl
theorem p118_223 : pd_G xs Ls d pd_m118 (223, L, st, S) o ↔ pd_K xs Ls d pd_m118 (mm_go 224 L (.int 1 :: st) S) o := pd_Gs (i := .iconst 1) (n := 1) rfl
theorem p118_224 : pd_G xs Ls d pd_m118 (224, L, st, S) o ↔ pd_K xs Ls d pd_m118 (mm_ii st fun x y r => mm_go 225 L (.int (x + y) :: r) S) o := pd_Gs (i := .iadd) (n := 1) rfl
theorem p118_225 : pd_G xs Ls d pd_m118 (225, L, st, S) o ↔ pd_K xs Ls d pd_m118 (mm_putf pd_ck 225 L st S 7 35) o := pd_Gs (i := .putfield 206) (n := 3) rfl
theorem p118_228 : pd_G xs Ls d pd_m118 (228, L, st, S) o ↔ pd_K xs Ls d pd_m118 (mm_lA L 0 fun v => mm_go 229 L (v :: st) S) o := pd_Gs (i := .aload_n 0) (n := 1) rfl
theorem p118_229 : pd_G xs Ls d pd_m118 (229, L, st, S) o ↔ pd_K xs Ls d pd_m118 (mm_getf pd_ck 229 L st S 7 22) o := pd_Gs (i := .getfield 52) (n := 3) rfl
theorem p118_232 : pd_G xs Ls d pd_m118 (232, L, st, S) o ↔ pd_K xs Ls d pd_m118 (mm_go 233 L (.int 0 :: st) S) o := pd_Gs (i := .iconst 0) (n := 1) rfl
theorem p118_233 : pd_G xs Ls d pd_m118 (233, L, st, S) o ↔ pd_K xs Ls d pd_m118 (mm_ai pd_ak S st 2 fun i a r => mm_go 234 L (.double (S.2.1.2.1 a i.toNatClampNeg) :: r) S) o := pd_Gs (i := .daload) (n := 1) rfl
theorem p118_234 : pd_G xs Ls d pd_m118 (234, L, st, S) o ↔ pd_K xs Ls d pd_m118 (mm_d st fun x st => mm_ai pd_ak S st 2 fun i a r => mm_go 235 L r (mm_sD S a i.toNatClampNeg x)) o := pd_Gs (i := .dastore) (n := 1) rfl
theorem p118_235 : pd_G xs Ls d pd_m118 (235, L, st, S) o ↔ pd_K xs Ls d pd_m118 (mm_go 370 L st S) o := pd_Gs (i := .goto 135) (n := 3) rfl
theorem p118_238 : pd_G xs Ls d pd_m118 (238, L, st, S) o ↔ pd_K xs Ls d pd_m118 (mm_lI L 4 fun x => mm_go 240 L (.int x :: st) S) o := pd_Gs (i := .iload 4) (n := 2) rfl
theorem p118_240 : pd_G xs Ls d pd_m118 (240, L, st, S) o ↔ pd_K xs Ls d pd_m118 (mm_go 242 L (.int 24 :: st) S) o := pd_Gs (i := .bipush 24) (n := 2) rfl
theorem p118_242 : pd_G xs Ls d pd_m118 (242, L, st, S) o ↔ pd_K xs Ls d pd_m118 (mm_ii st fun x y r => mm_icmp .ne x y (mm_go 253 L r S) (mm_go 245 L r S)) o := pd_Gs (i := .if_icmp .ne 11) (n := 3) rfl
theorem p118_245 : pd_G xs Ls d pd_m118 (245, L, st, S) o ↔ pd_K xs Ls d pd_m118 (mm_lA L 0 fun v => mm_go 246 L (v :: st) S) o := pd_Gs (i := .aload_n 0) (n := 1) rfl
theorem p118_246 : pd_G xs Ls d pd_m118 (246, L, st, S) o ↔ pd_K xs Ls d pd_m118 (mm_lI L 3 fun x => mm_go 247 L (.int x :: st) S) o := pd_Gs (i := .iload_n 3) (n := 1) rfl
theorem p118_247 : pd_G xs Ls d pd_m118 (247, L, st, S) o ↔ pd_K xs Ls d pd_m118 (mm_inv (mm_ev xs Ls pd_ck pd_ak pd_mj d) pd_m118 247 L st S 122 1 7) o := pd_Gs (i := .invokevirtual 209) (n := 3) rfl
theorem p118_250 : pd_G xs Ls d pd_m118 (250, L, st, S) o ↔ pd_K xs Ls d pd_m118 (mm_go 370 L st S) o := pd_Gs (i := .goto 120) (n := 3) rfl
theorem p118_253 : pd_G xs Ls d pd_m118 (253, L, st, S) o ↔ pd_K xs Ls d pd_m118 (mm_lI L 4 fun x => mm_go 255 L (.int x :: st) S) o := pd_Gs (i := .iload 4) (n := 2) rfl
theorem p118_255 : pd_G xs Ls d pd_m118 (255, L, st, S) o ↔ pd_K xs Ls d pd_m118 (mm_go 257 L (.int 26 :: st) S) o := pd_Gs (i := .bipush 26) (n := 2) rfl
theorem p118_257 : pd_G xs Ls d pd_m118 (257, L, st, S) o ↔ pd_K xs Ls d pd_m118 (mm_ii st fun x y r => mm_icmp .ne x y (mm_go 299 L r S) (mm_go 260 L r S)) o := pd_Gs (i := .if_icmp .ne 42) (n := 3) rfl
theorem p118_260 : pd_G xs Ls d pd_m118 (260, L, st, S) o ↔ pd_K xs Ls d pd_m118 (mm_lA L 0 fun v => mm_go 261 L (v :: st) S) o := pd_Gs (i := .aload_n 0) (n := 1) rfl
theorem p118_261 : pd_G xs Ls d pd_m118 (261, L, st, S) o ↔ pd_K xs Ls d pd_m118 (mm_getf pd_ck 261 L st S 7 24) o := pd_Gs (i := .getfield 58) (n := 3) rfl
theorem p118_264 : pd_G xs Ls d pd_m118 (264, L, st, S) o ↔ pd_K xs Ls d pd_m118 (mm_lI L 1 fun x => mm_go 265 L (.int x :: st) S) o := pd_Gs (i := .iload_n 1) (n := 1) rfl
theorem p118_265 : pd_G xs Ls d pd_m118 (265, L, st, S) o ↔ pd_K xs Ls d pd_m118 (mm_go 266 L (.int 3 :: st) S) o := pd_Gs (i := .iconst 3) (n := 1) rfl
theorem p118_266 : pd_G xs Ls d pd_m118 (266, L, st, S) o ↔ pd_K xs Ls d pd_m118 (mm_i st fun x st => mm_ai pd_ak S st 0 fun i a r => mm_go 267 L r (mm_sI S a i.toNatClampNeg x)) o := pd_Gs (i := .iastore) (n := 1) rfl
theorem p118_267 : pd_G xs Ls d pd_m118 (267, L, st, S) o ↔ pd_K xs Ls d pd_m118 (mm_lA L 0 fun v => mm_go 268 L (v :: st) S) o := pd_Gs (i := .aload_n 0) (n := 1) rfl
theorem p118_268 : pd_G xs Ls d pd_m118 (268, L, st, S) o ↔ pd_K xs Ls d pd_m118 (mm_getf pd_ck 268 L st S 7 27) o := pd_Gs (i := .getfield 67) (n := 3) rfl
theorem p118_271 : pd_G xs Ls d pd_m118 (271, L, st, S) o ↔ pd_K xs Ls d pd_m118 (mm_lI L 1 fun x => mm_go 272 L (.int x :: st) S) o := pd_Gs (i := .iload_n 1) (n := 1) rfl
theorem p118_272 : pd_G xs Ls d pd_m118 (272, L, st, S) o ↔ pd_K xs Ls d pd_m118 (mm_go 273 L (.int 2 :: st) S) o := pd_Gs (i := .iconst 2) (n := 1) rfl
theorem p118_273 : pd_G xs Ls d pd_m118 (273, L, st, S) o ↔ pd_K xs Ls d pd_m118 (mm_i st fun x st => mm_ai pd_ak S st 0 fun i a r => mm_go 274 L r (mm_sI S a i.toNatClampNeg x)) o := pd_Gs (i := .iastore) (n := 1) rfl
theorem p118_274 : pd_G xs Ls d pd_m118 (274, L, st, S) o ↔ pd_K xs Ls d pd_m118 (mm_lA L 0 fun v => mm_go 275 L (v :: st) S) o := pd_Gs (i := .aload_n 0) (n := 1) rfl
theorem p118_275 : pd_G xs Ls d pd_m118 (275, L, st, S) o ↔ pd_K xs Ls d pd_m118 (mm_lI L 1 fun x => mm_go 276 L (.int x :: st) S) o := pd_Gs (i := .iload_n 1) (n := 1) rfl
theorem p118_276 : pd_G xs Ls d pd_m118 (276, L, st, S) o ↔ pd_K xs Ls d pd_m118 (mm_lI L 2 fun x => mm_go 277 L (.int x :: st) S) o := pd_Gs (i := .iload_n 2) (n := 1) rfl
theorem p118_277 : pd_G xs Ls d pd_m118 (277, L, st, S) o ↔ pd_K xs Ls d pd_m118 (mm_go 278 L (.int 1 :: st) S) o := pd_Gs (i := .iconst 1) (n := 1) rfl
theorem p118_278 : pd_G xs Ls d pd_m118 (278, L, st, S) o ↔ pd_K xs Ls d pd_m118 (mm_ii st fun x y r => mm_go 279 L (.int (x + y) :: r) S) o := pd_Gs (i := .iadd) (n := 1) rfl
theorem p118_279 : pd_G xs Ls d pd_m118 (279, L, st, S) o ↔ pd_K xs Ls d pd_m118 (mm_inv (mm_ev xs Ls pd_ck pd_ak pd_mj d) pd_m118 279 L st S 115 2 7) o := pd_Gs (i := .invokevirtual 212) (n := 3) rfl
theorem p118_282 : pd_G xs Ls d pd_m118 (282, L, st, S) o ↔ pd_K xs Ls d pd_m118 (mm_lA L 0 fun v => mm_go 283 L (v :: st) S) o := pd_Gs (i := .aload_n 0) (n := 1) rfl
theorem p118_283 : pd_G xs Ls d pd_m118 (283, L, st, S) o ↔ pd_K xs Ls d pd_m118 (mm_lI L 1 fun x => mm_go 284 L (.int x :: st) S) o := pd_Gs (i := .iload_n 1) (n := 1) rfl
theorem p118_284 : pd_G xs Ls d pd_m118 (284, L, st, S) o ↔ pd_K xs Ls d pd_m118 (mm_lI L 2 fun x => mm_go 285 L (.int x :: st) S) o := pd_Gs (i := .iload_n 2) (n := 1) rfl
theorem p118_285 : pd_G xs Ls d pd_m118 (285, L, st, S) o ↔ pd_K xs Ls d pd_m118 (mm_go 288 L (.int 128 :: st) S) o := pd_Gs (i := .sipush 128) (n := 3) rfl
theorem p118_288 : pd_G xs Ls d pd_m118 (288, L, st, S) o ↔ pd_K xs Ls d pd_m118 (mm_ii st fun x y r => if y = 0 then none else mm_go 289 L (.int (x / y) :: r) S) o := pd_Gs (i := .idiv) (n := 1) rfl
theorem p118_289 : pd_G xs Ls d pd_m118 (289, L, st, S) o ↔ pd_K xs Ls d pd_m118 (mm_go 292 L (.int 128 :: st) S) o := pd_Gs (i := .sipush 128) (n := 3) rfl
theorem p118_292 : pd_G xs Ls d pd_m118 (292, L, st, S) o ↔ pd_K xs Ls d pd_m118 (mm_ii st fun x y r => mm_go 293 L (.int (x * y) :: r) S) o := pd_Gs (i := .imul) (n := 1) rfl
theorem p118_293 : pd_G xs Ls d pd_m118 (293, L, st, S) o ↔ pd_K xs Ls d pd_m118 (mm_lI L 3 fun x => mm_go 294 L (.int x :: st) S) o := pd_Gs (i := .iload_n 3) (n := 1) rfl
theorem p118_294 : pd_G xs Ls d pd_m118 (294, L, st, S) o ↔ pd_K xs Ls d pd_m118 (mm_ii st fun x y r => mm_go 295 L (.int (x + y) :: r) S) o := pd_Gs (i := .iadd) (n := 1) rfl
theorem p118_295 : pd_G xs Ls d pd_m118 (295, L, st, S) o ↔ pd_K xs Ls d pd_m118 (mm_inv (mm_ev xs Ls pd_ck pd_ak pd_mj d) pd_m118 295 L st S 115 2 7) o := pd_Gs (i := .invokevirtual 212) (n := 3) rfl
theorem p118_298 : pd_G xs Ls d pd_m118 (298, L, st, S) o ↔ pd_K xs Ls d pd_m118 (mm_rV S st) o := pd_Gs (i := .return_) (n := 1) rfl
theorem p118_299 : pd_G xs Ls d pd_m118 (299, L, st, S) o ↔ pd_K xs Ls d pd_m118 (mm_lI L 4 fun x => mm_go 301 L (.int x :: st) S) o := pd_Gs (i := .iload 4) (n := 2) rfl
theorem p118_301 : pd_G xs Ls d pd_m118 (301, L, st, S) o ↔ pd_K xs Ls d pd_m118 (mm_go 303 L (.int 23 :: st) S) o := pd_Gs (i := .bipush 23) (n := 2) rfl
theorem p118_303 : pd_G xs Ls d pd_m118 (303, L, st, S) o ↔ pd_K xs Ls d pd_m118 (mm_ii st fun x y r => mm_icmp .ne x y (mm_go 370 L r S) (mm_go 306 L r S)) o := pd_Gs (i := .if_icmp .ne 67) (n := 3) rfl
theorem p118_306 : pd_G xs Ls d pd_m118 (306, L, st, S) o ↔ pd_K xs Ls d pd_m118 (mm_lA L 0 fun v => mm_go 307 L (v :: st) S) o := pd_Gs (i := .aload_n 0) (n := 1) rfl
theorem p118_307 : pd_G xs Ls d pd_m118 (307, L, st, S) o ↔ pd_K xs Ls d pd_m118 (mm_getf pd_ck 307 L st S 7 23) o := pd_Gs (i := .getfield 55) (n := 3) rfl
theorem p118_310 : pd_G xs Ls d pd_m118 (310, L, st, S) o ↔ pd_K xs Ls d pd_m118 (mm_lI L 3 fun x => mm_go 311 L (.int x :: st) S) o := pd_Gs (i := .iload_n 3) (n := 1) rfl
theorem p118_311 : pd_G xs Ls d pd_m118 (311, L, st, S) o ↔ pd_K xs Ls d pd_m118 (mm_ial xs Ls pd_ak 311 L S st) o := pd_Gs (i := .iaload) (n := 1) rfl
theorem p118_312 : pd_G xs Ls d pd_m118 (312, L, st, S) o ↔ pd_K xs Ls d pd_m118 (mm_i st fun x r => mm_icmp .le x 0 (mm_go 328 L r S) (mm_go 315 L r S)) o := pd_Gs (i := .ifCond .le 16) (n := 3) rfl
theorem p118_315 : pd_G xs Ls d pd_m118 (315, L, st, S) o ↔ pd_K xs Ls d pd_m118 (mm_lA L 0 fun v => mm_go 316 L (v :: st) S) o := pd_Gs (i := .aload_n 0) (n := 1) rfl
theorem p118_316 : pd_G xs Ls d pd_m118 (316, L, st, S) o ↔ pd_K xs Ls d pd_m118 (mm_getf pd_ck 316 L st S 7 23) o := pd_Gs (i := .getfield 55) (n := 3) rfl
theorem p118_319 : pd_G xs Ls d pd_m118 (319, L, st, S) o ↔ pd_K xs Ls d pd_m118 (mm_lI L 3 fun x => mm_go 320 L (.int x :: st) S) o := pd_Gs (i := .iload_n 3) (n := 1) rfl
theorem p118_320 : pd_G xs Ls d pd_m118 (320, L, st, S) o ↔ pd_K xs Ls d pd_m118 (mm_2 st fun v w r => cond (mm_c2 v || mm_c2 w) none (mm_go 321 L (v :: w :: v :: w :: r) S)) o := pd_Gs (i := .dup2) (n := 1) rfl
theorem p118_321 : pd_G xs Ls d pd_m118 (321, L, st, S) o ↔ pd_K xs Ls d pd_m118 (mm_ial xs Ls pd_ak 321 L S st) o := pd_Gs (i := .iaload) (n := 1) rfl
theorem p118_322 : pd_G xs Ls d pd_m118 (322, L, st, S) o ↔ pd_K xs Ls d pd_m118 (mm_go 323 L (.int 1 :: st) S) o := pd_Gs (i := .iconst 1) (n := 1) rfl
theorem p118_323 : pd_G xs Ls d pd_m118 (323, L, st, S) o ↔ pd_K xs Ls d pd_m118 (mm_ii st fun x y r => mm_go 324 L (.int (x - y) :: r) S) o := pd_Gs (i := .isub) (n := 1) rfl
theorem p118_324 : pd_G xs Ls d pd_m118 (324, L, st, S) o ↔ pd_K xs Ls d pd_m118 (mm_i st fun x st => mm_ai pd_ak S st 0 fun i a r => mm_go 325 L r (mm_sI S a i.toNatClampNeg x)) o := pd_Gs (i := .iastore) (n := 1) rfl
theorem p118_325 : pd_G xs Ls d pd_m118 (325, L, st, S) o ↔ pd_K xs Ls d pd_m118 (mm_go 370 L st S) o := pd_Gs (i := .goto 45) (n := 3) rfl
theorem p118_328 : pd_G xs Ls d pd_m118 (328, L, st, S) o ↔ pd_K xs Ls d pd_m118 (mm_lA L 0 fun v => mm_go 329 L (v :: st) S) o := pd_Gs (i := .aload_n 0) (n := 1) rfl
theorem p118_329 : pd_G xs Ls d pd_m118 (329, L, st, S) o ↔ pd_K xs Ls d pd_m118 (mm_getf pd_ck 329 L st S 7 24) o := pd_Gs (i := .getfield 58) (n := 3) rfl
theorem p118_332 : pd_G xs Ls d pd_m118 (332, L, st, S) o ↔ pd_K xs Ls d pd_m118 (mm_lI L 1 fun x => mm_go 333 L (.int x :: st) S) o := pd_Gs (i := .iload_n 1) (n := 1) rfl
theorem p118_333 : pd_G xs Ls d pd_m118 (333, L, st, S) o ↔ pd_K xs Ls d pd_m118 (mm_go 334 L (.int 2 :: st) S) o := pd_Gs (i := .iconst 2) (n := 1) rfl
theorem p118_334 : pd_G xs Ls d pd_m118 (334, L, st, S) o ↔ pd_K xs Ls d pd_m118 (mm_i st fun x st => mm_ai pd_ak S st 0 fun i a r => mm_go 335 L r (mm_sI S a i.toNatClampNeg x)) o := pd_Gs (i := .iastore) (n := 1) rfl
theorem p118_335 : pd_G xs Ls d pd_m118 (335, L, st, S) o ↔ pd_K xs Ls d pd_m118 (mm_lA L 0 fun v => mm_go 336 L (v :: st) S) o := pd_Gs (i := .aload_n 0) (n := 1) rfl
theorem p118_336 : pd_G xs Ls d pd_m118 (336, L, st, S) o ↔ pd_K xs Ls d pd_m118 (mm_getf pd_ck 336 L st S 7 32) o := pd_Gs (i := .getfield 82) (n := 3) rfl
theorem p118_339 : pd_G xs Ls d pd_m118 (339, L, st, S) o ↔ pd_K xs Ls d pd_m118 (mm_lI L 1 fun x => mm_go 340 L (.int x :: st) S) o := pd_Gs (i := .iload_n 1) (n := 1) rfl
theorem p118_340 : pd_G xs Ls d pd_m118 (340, L, st, S) o ↔ pd_K xs Ls d pd_m118 (mm_lI L 3 fun x => mm_go 341 L (.int x :: st) S) o := pd_Gs (i := .iload_n 3) (n := 1) rfl
theorem p118_341 : pd_G xs Ls d pd_m118 (341, L, st, S) o ↔ pd_K xs Ls d pd_m118 (mm_i st fun x st => mm_ai pd_ak S st 0 fun i a r => mm_go 342 L r (mm_sI S a i.toNatClampNeg x)) o := pd_Gs (i := .iastore) (n := 1) rfl
theorem p118_342 : pd_G xs Ls d pd_m118 (342, L, st, S) o ↔ pd_K xs Ls d pd_m118 (mm_lA L 0 fun v => mm_go 343 L (v :: st) S) o := pd_Gs (i := .aload_n 0) (n := 1) rfl
theorem p118_343 : pd_G xs Ls d pd_m118 (343, L, st, S) o ↔ pd_K xs Ls d pd_m118 (mm_getf pd_ck 343 L st S 7 31) o := pd_Gs (i := .getfield 79) (n := 3) rfl
theorem p118_346 : pd_G xs Ls d pd_m118 (346, L, st, S) o ↔ pd_K xs Ls d pd_m118 (mm_lA L 0 fun v => mm_go 347 L (v :: st) S) o := pd_Gs (i := .aload_n 0) (n := 1) rfl
theorem p118_347 : pd_G xs Ls d pd_m118 (347, L, st, S) o ↔ pd_K xs Ls d pd_m118 (mm_1 st fun v r => cond (mm_c2 v) none (mm_go 348 L (v :: v :: r) S)) o := pd_Gs (i := .dup) (n := 1) rfl
theorem p118_348 : pd_G xs Ls d pd_m118 (348, L, st, S) o ↔ pd_K xs Ls d pd_m118 (mm_getf pd_ck 348 L st S 7 33) o := pd_Gs (i := .getfield 193) (n := 3) rfl
theorem p118_351 : pd_G xs Ls d pd_m118 (351, L, st, S) o ↔ pd_K xs Ls d pd_m118 (mm_2 st fun v w r => cond (mm_c2 v || mm_c2 w) none (mm_go 352 L (v :: w :: v :: r) S)) o := pd_Gs (i := .dup_x1) (n := 1) rfl
theorem p118_352 : pd_G xs Ls d pd_m118 (352, L, st, S) o ↔ pd_K xs Ls d pd_m118 (mm_go 353 L (.int 1 :: st) S) o := pd_Gs (i := .iconst 1) (n := 1) rfl
theorem p118_353 : pd_G xs Ls d pd_m118 (353, L, st, S) o ↔ pd_K xs Ls d pd_m118 (mm_ii st fun x y r => mm_go 354 L (.int (x + y) :: r) S) o := pd_Gs (i := .iadd) (n := 1) rfl
theorem p118_354 : pd_G xs Ls d pd_m118 (354, L, st, S) o ↔ pd_K xs Ls d pd_m118 (mm_putf pd_ck 354 L st S 7 33) o := pd_Gs (i := .putfield 193) (n := 3) rfl
theorem p118_357 : pd_G xs Ls d pd_m118 (357, L, st, S) o ↔ pd_K xs Ls d pd_m118 (mm_lI L 1 fun x => mm_go 358 L (.int x :: st) S) o := pd_Gs (i := .iload_n 1) (n := 1) rfl
theorem p118_358 : pd_G xs Ls d pd_m118 (358, L, st, S) o ↔ pd_K xs Ls d pd_m118 (mm_i st fun x st => mm_ai pd_ak S st 0 fun i a r => mm_go 359 L r (mm_sI S a i.toNatClampNeg x)) o := pd_Gs (i := .iastore) (n := 1) rfl
theorem p118_359 : pd_G xs Ls d pd_m118 (359, L, st, S) o ↔ pd_K xs Ls d pd_m118 (mm_lA L 0 fun v => mm_go 360 L (v :: st) S) o := pd_Gs (i := .aload_n 0) (n := 1) rfl
theorem p118_360 : pd_G xs Ls d pd_m118 (360, L, st, S) o ↔ pd_K xs Ls d pd_m118 (mm_1 st fun v r => cond (mm_c2 v) none (mm_go 361 L (v :: v :: r) S)) o := pd_Gs (i := .dup) (n := 1) rfl
theorem p118_361 : pd_G xs Ls d pd_m118 (361, L, st, S) o ↔ pd_K xs Ls d pd_m118 (mm_getf pd_ck 361 L st S 7 38) o := pd_Gs (i := .getfield 215) (n := 3) rfl
theorem p118_364 : pd_G xs Ls d pd_m118 (364, L, st, S) o ↔ pd_K xs Ls d pd_m118 (mm_go 365 L (.int 1 :: st) S) o := pd_Gs (i := .iconst 1) (n := 1) rfl
theorem p118_365 : pd_G xs Ls d pd_m118 (365, L, st, S) o ↔ pd_K xs Ls d pd_m118 (mm_ii st fun x y r => mm_go 366 L (.int (x + y) :: r) S) o := pd_Gs (i := .iadd) (n := 1) rfl
theorem p118_366 : pd_G xs Ls d pd_m118 (366, L, st, S) o ↔ pd_K xs Ls d pd_m118 (mm_putf pd_ck 366 L st S 7 38) o := pd_Gs (i := .putfield 215) (n := 3) rfl
theorem p118_369 : pd_G xs Ls d pd_m118 (369, L, st, S) o ↔ pd_K xs Ls d pd_m118 (mm_rV S st) o := pd_Gs (i := .return_) (n := 1) rfl
theorem p118_370 : pd_G xs Ls d pd_m118 (370, L, st, S) o ↔ pd_K xs Ls d pd_m118 (mm_lA L 0 fun v => mm_go 371 L (v :: st) S) o := pd_Gs (i := .aload_n 0) (n := 1) rfl
theorem p118_371 : pd_G xs Ls d pd_m118 (371, L, st, S) o ↔ pd_K xs Ls d pd_m118 (mm_lI L 1 fun x => mm_go 372 L (.int x :: st) S) o := pd_Gs (i := .iload_n 1) (n := 1) rfl
theorem p118_372 : pd_G xs Ls d pd_m118 (372, L, st, S) o ↔ pd_K xs Ls d pd_m118 (mm_inv (mm_ev xs Ls pd_ck pd_ak pd_mj d) pd_m118 372 L st S 123 1 7) o := pd_Gs (i := .invokevirtual 196) (n := 3) rfl
theorem p118_375 : pd_G xs Ls d pd_m118 (375, L, st, S) o ↔ pd_K xs Ls d pd_m118 (mm_rV S st) o := pd_Gs (i := .return_) (n := 1) rfl
theorem p119_0 : pd_G xs Ls d pd_m119 (0, L, st, S) o ↔ pd_K xs Ls d pd_m119 (mm_lI L 1 fun x => mm_go 1 L (.int x :: st) S) o := pd_Gs (i := .iload_n 1) (n := 1) rfl
theorem p119_1 : pd_G xs Ls d pd_m119 (1, L, st, S) o ↔ pd_K xs Ls d pd_m119 (mm_i st fun x r => mm_go 2 (mm_sto L 0 2 (.int x)) r S) o := pd_Gs (i := .istore_n 2) (n := 1) rfl
theorem p119_2 : pd_G xs Ls d pd_m119 (2, L, st, S) o ↔ pd_K xs Ls d pd_m119 (mm_lA L 0 fun v => mm_go 3 L (v :: st) S) o := pd_Gs (i := .aload_n 0) (n := 1) rfl
theorem p119_3 : pd_G xs Ls d pd_m119 (3, L, st, S) o ↔ pd_K xs Ls d pd_m119 (mm_go 4 L (.int 0 :: st) S) o := pd_Gs (i := .iconst 0) (n := 1) rfl
theorem p119_4 : pd_G xs Ls d pd_m119 (4, L, st, S) o ↔ pd_K xs Ls d pd_m119 (mm_putf pd_ck 4 L st S 7 11) o := pd_Gs (i := .putfield 97) (n := 3) rfl
theorem p119_7 : pd_G xs Ls d pd_m119 (7, L, st, S) o ↔ pd_K xs Ls d pd_m119 (mm_lA L 0 fun v => mm_go 8 L (v :: st) S) o := pd_Gs (i := .aload_n 0) (n := 1) rfl
theorem p119_8 : pd_G xs Ls d pd_m119 (8, L, st, S) o ↔ pd_K xs Ls d pd_m119 (mm_getf pd_ck 8 L st S 7 39) o := pd_Gs (i := .getfield 85) (n := 3) rfl
theorem p119_11 : pd_G xs Ls d pd_m119 (11, L, st, S) o ↔ pd_K xs Ls d pd_m119 (mm_i st fun x r => mm_icmp .ne x 0 (mm_go 280 L r S) (mm_go 14 L r S)) o := pd_Gs (i := .ifCond .ne 269) (n := 3) rfl
theorem p119_14 : pd_G xs Ls d pd_m119 (14, L, st, S) o ↔ pd_K xs Ls d pd_m119 (mm_lA L 0 fun v => mm_go 15 L (v :: st) S) o := pd_Gs (i := .aload_n 0) (n := 1) rfl
theorem p119_15 : pd_G xs Ls d pd_m119 (15, L, st, S) o ↔ pd_K xs Ls d pd_m119 (mm_getf pd_ck 15 L st S 7 1) o := pd_Gs (i := .getfield 13) (n := 3) rfl
theorem p119_18 : pd_G xs Ls d pd_m119 (18, L, st, S) o ↔ pd_K xs Ls d pd_m119 (mm_lI L 2 fun x => mm_go 19 L (.int x :: st) S) o := pd_Gs (i := .iload_n 2) (n := 1) rfl
theorem p119_19 : pd_G xs Ls d pd_m119 (19, L, st, S) o ↔ pd_K xs Ls d pd_m119 (mm_ial xs Ls pd_ak 19 L S st) o := pd_Gs (i := .iaload) (n := 1) rfl
theorem p119_20 : pd_G xs Ls d pd_m119 (20, L, st, S) o ↔ pd_K xs Ls d pd_m119 (mm_go 22 L (.int 20 :: st) S) o := pd_Gs (i := .bipush 20) (n := 2) rfl
theorem p119_22 : pd_G xs Ls d pd_m119 (22, L, st, S) o ↔ pd_K xs Ls d pd_m119 (mm_ii st fun x y r => mm_icmp .lt x y (mm_go 36 L r S) (mm_go 25 L r S)) o := pd_Gs (i := .if_icmp .lt 14) (n := 3) rfl
theorem p119_25 : pd_G xs Ls d pd_m119 (25, L, st, S) o ↔ pd_K xs Ls d pd_m119 (mm_lA L 0 fun v => mm_go 26 L (v :: st) S) o := pd_Gs (i := .aload_n 0) (n := 1) rfl
theorem p119_26 : pd_G xs Ls d pd_m119 (26, L, st, S) o ↔ pd_K xs Ls d pd_m119 (mm_getf pd_ck 26 L st S 7 1) o := pd_Gs (i := .getfield 13) (n := 3) rfl
theorem p119_29 : pd_G xs Ls d pd_m119 (29, L, st, S) o ↔ pd_K xs Ls d pd_m119 (mm_lI L 2 fun x => mm_go 30 L (.int x :: st) S) o := pd_Gs (i := .iload_n 2) (n := 1) rfl
theorem p119_30 : pd_G xs Ls d pd_m119 (30, L, st, S) o ↔ pd_K xs Ls d pd_m119 (mm_ial xs Ls pd_ak 30 L S st) o := pd_Gs (i := .iaload) (n := 1) rfl
theorem p119_31 : pd_G xs Ls d pd_m119 (31, L, st, S) o ↔ pd_K xs Ls d pd_m119 (mm_go 33 L (.int 30 :: st) S) o := pd_Gs (i := .bipush 30) (n := 2) rfl
theorem p119_33 : pd_G xs Ls d pd_m119 (33, L, st, S) o ↔ pd_K xs Ls d pd_m119 (mm_ii st fun x y r => mm_icmp .le x y (mm_go 280 L r S) (mm_go 36 L r S)) o := pd_Gs (i := .if_icmp .le 247) (n := 3) rfl
theorem p119_36 : pd_G xs Ls d pd_m119 (36, L, st, S) o ↔ pd_K xs Ls d pd_m119 (mm_lA L 0 fun v => mm_go 37 L (v :: st) S) o := pd_Gs (i := .aload_n 0) (n := 1) rfl
theorem p119_37 : pd_G xs Ls d pd_m119 (37, L, st, S) o ↔ pd_K xs Ls d pd_m119 (mm_getf pd_ck 37 L st S 7 1) o := pd_Gs (i := .getfield 13) (n := 3) rfl
theorem p119_40 : pd_G xs Ls d pd_m119 (40, L, st, S) o ↔ pd_K xs Ls d pd_m119 (mm_lI L 2 fun x => mm_go 41 L (.int x :: st) S) o := pd_Gs (i := .iload_n 2) (n := 1) rfl
theorem p119_41 : pd_G xs Ls d pd_m119 (41, L, st, S) o ↔ pd_K xs Ls d pd_m119 (mm_ial xs Ls pd_ak 41 L S st) o := pd_Gs (i := .iaload) (n := 1) rfl
theorem p119_42 : pd_G xs Ls d pd_m119 (42, L, st, S) o ↔ pd_K xs Ls d pd_m119 (mm_i st fun x r => mm_go 43 (mm_sto L 0 3 (.int x)) r S) o := pd_Gs (i := .istore_n 3) (n := 1) rfl
theorem p119_43 : pd_G xs Ls d pd_m119 (43, L, st, S) o ↔ pd_K xs Ls d pd_m119 (mm_lI L 3 fun x => mm_go 44 L (.int x :: st) S) o := pd_Gs (i := .iload_n 3) (n := 1) rfl
theorem p119_44 : pd_G xs Ls d pd_m119 (44, L, st, S) o ↔ pd_K xs Ls d pd_m119 (mm_go 45 L (.int 1 :: st) S) o := pd_Gs (i := .iconst 1) (n := 1) rfl
theorem p119_45 : pd_G xs Ls d pd_m119 (45, L, st, S) o ↔ pd_K xs Ls d pd_m119 (mm_ii st fun x y r => mm_icmp .ne x y (mm_go 74 L r S) (mm_go 48 L r S)) o := pd_Gs (i := .if_icmp .ne 29) (n := 3) rfl
theorem p119_48 : pd_G xs Ls d pd_m119 (48, L, st, S) o ↔ pd_K xs Ls d pd_m119 (mm_lA L 0 fun v => mm_go 49 L (v :: st) S) o := pd_Gs (i := .aload_n 0) (n := 1) rfl
theorem p119_49 : pd_G xs Ls d pd_m119 (49, L, st, S) o ↔ pd_K xs Ls d pd_m119 (mm_getf pd_ck 49 L st S 7 22) o := pd_Gs (i := .getfield 52) (n := 3) rfl
theorem p119_52 : pd_G xs Ls d pd_m119 (52, L, st, S) o ↔ pd_K xs Ls d pd_m119 (mm_lA L 0 fun v => mm_go 53 L (v :: st) S) o := pd_Gs (i := .aload_n 0) (n := 1) rfl
theorem p119_53 : pd_G xs Ls d pd_m119 (53, L, st, S) o ↔ pd_K xs Ls d pd_m119 (mm_1 st fun v r => cond (mm_c2 v) none (mm_go 54 L (v :: v :: r) S)) o := pd_Gs (i := .dup) (n := 1) rfl
theorem p119_54 : pd_G xs Ls d pd_m119 (54, L, st, S) o ↔ pd_K xs Ls d pd_m119 (mm_getf pd_ck 54 L st S 7 11) o := pd_Gs (i := .getfield 97) (n := 3) rfl
theorem p119_57 : pd_G xs Ls d pd_m119 (57, L, st, S) o ↔ pd_K xs Ls d pd_m119 (mm_2 st fun v w r => cond (mm_c2 v || mm_c2 w) none (mm_go 58 L (v :: w :: v :: r) S)) o := pd_Gs (i := .dup_x1) (n := 1) rfl
theorem p119_58 : pd_G xs Ls d pd_m119 (58, L, st, S) o ↔ pd_K xs Ls d pd_m119 (mm_go 59 L (.int 1 :: st) S) o := pd_Gs (i := .iconst 1) (n := 1) rfl
theorem p119_59 : pd_G xs Ls d pd_m119 (59, L, st, S) o ↔ pd_K xs Ls d pd_m119 (mm_ii st fun x y r => mm_go 60 L (.int (x + y) :: r) S) o := pd_Gs (i := .iadd) (n := 1) rfl
theorem p119_60 : pd_G xs Ls d pd_m119 (60, L, st, S) o ↔ pd_K xs Ls d pd_m119 (mm_putf pd_ck 60 L st S 7 11) o := pd_Gs (i := .putfield 97) (n := 3) rfl
theorem p119_63 : pd_G xs Ls d pd_m119 (63, L, st, S) o ↔ pd_K xs Ls d pd_m119 (mm_lA L 0 fun v => mm_go 64 L (v :: st) S) o := pd_Gs (i := .aload_n 0) (n := 1) rfl
theorem p119_64 : pd_G xs Ls d pd_m119 (64, L, st, S) o ↔ pd_K xs Ls d pd_m119 (mm_getf pd_ck 64 L st S 7 2) o := pd_Gs (i := .getfield 16) (n := 3) rfl
theorem p119_67 : pd_G xs Ls d pd_m119 (67, L, st, S) o ↔ pd_K xs Ls d pd_m119 (mm_lI L 2 fun x => mm_go 68 L (.int x :: st) S) o := pd_Gs (i := .iload_n 2) (n := 1) rfl
theorem p119_68 : pd_G xs Ls d pd_m119 (68, L, st, S) o ↔ pd_K xs Ls d pd_m119 (mm_ial xs Ls pd_ak 68 L S st) o := pd_Gs (i := .iaload) (n := 1) rfl
theorem p119_69 : pd_G xs Ls d pd_m119 (69, L, st, S) o ↔ pd_K xs Ls d pd_m119 (mm_i st fun x r => mm_go 70 L (.double (FP.i2d x) :: r) S) o := pd_Gs (i := .i2d) (n := 1) rfl
theorem p119_70 : pd_G xs Ls d pd_m119 (70, L, st, S) o ↔ pd_K xs Ls d pd_m119 (mm_d st fun x st => mm_ai pd_ak S st 2 fun i a r => mm_go 71 L r (mm_sD S a i.toNatClampNeg x)) o := pd_Gs (i := .dastore) (n := 1) rfl
theorem p119_71 : pd_G xs Ls d pd_m119 (71, L, st, S) o ↔ pd_K xs Ls d pd_m119 (mm_go 274 L st S) o := pd_Gs (i := .goto 203) (n := 3) rfl
theorem p119_74 : pd_G xs Ls d pd_m119 (74, L, st, S) o ↔ pd_K xs Ls d pd_m119 (mm_lI L 3 fun x => mm_go 75 L (.int x :: st) S) o := pd_Gs (i := .iload_n 3) (n := 1) rfl
theorem p119_75 : pd_G xs Ls d pd_m119 (75, L, st, S) o ↔ pd_K xs Ls d pd_m119 (mm_go 76 L (.int 2 :: st) S) o := pd_Gs (i := .iconst 2) (n := 1) rfl
theorem p119_76 : pd_G xs Ls d pd_m119 (76, L, st, S) o ↔ pd_K xs Ls d pd_m119 (mm_ii st fun x y r => mm_icmp .ne x y (mm_go 109 L r S) (mm_go 79 L r S)) o := pd_Gs (i := .if_icmp .ne 33) (n := 3) rfl
theorem p119_79 : pd_G xs Ls d pd_m119 (79, L, st, S) o ↔ pd_K xs Ls d pd_m119 (mm_lA L 0 fun v => mm_go 80 L (v :: st) S) o := pd_Gs (i := .aload_n 0) (n := 1) rfl
theorem p119_80 : pd_G xs Ls d pd_m119 (80, L, st, S) o ↔ pd_K xs Ls d pd_m119 (mm_getf pd_ck 80 L st S 7 22) o := pd_Gs (i := .getfield 52) (n := 3) rfl
theorem p119_83 : pd_G xs Ls d pd_m119 (83, L, st, S) o ↔ pd_K xs Ls d pd_m119 (mm_lA L 0 fun v => mm_go 84 L (v :: st) S) o := pd_Gs (i := .aload_n 0) (n := 1) rfl
theorem p119_84 : pd_G xs Ls d pd_m119 (84, L, st, S) o ↔ pd_K xs Ls d pd_m119 (mm_1 st fun v r => cond (mm_c2 v) none (mm_go 85 L (v :: v :: r) S)) o := pd_Gs (i := .dup) (n := 1) rfl
theorem p119_85 : pd_G xs Ls d pd_m119 (85, L, st, S) o ↔ pd_K xs Ls d pd_m119 (mm_getf pd_ck 85 L st S 7 11) o := pd_Gs (i := .getfield 97) (n := 3) rfl
theorem p119_88 : pd_G xs Ls d pd_m119 (88, L, st, S) o ↔ pd_K xs Ls d pd_m119 (mm_2 st fun v w r => cond (mm_c2 v || mm_c2 w) none (mm_go 89 L (v :: w :: v :: r) S)) o := pd_Gs (i := .dup_x1) (n := 1) rfl
theorem p119_89 : pd_G xs Ls d pd_m119 (89, L, st, S) o ↔ pd_K xs Ls d pd_m119 (mm_go 90 L (.int 1 :: st) S) o := pd_Gs (i := .iconst 1) (n := 1) rfl
theorem p119_90 : pd_G xs Ls d pd_m119 (90, L, st, S) o ↔ pd_K xs Ls d pd_m119 (mm_ii st fun x y r => mm_go 91 L (.int (x + y) :: r) S) o := pd_Gs (i := .iadd) (n := 1) rfl
theorem p119_91 : pd_G xs Ls d pd_m119 (91, L, st, S) o ↔ pd_K xs Ls d pd_m119 (mm_putf pd_ck 91 L st S 7 11) o := pd_Gs (i := .putfield 97) (n := 3) rfl
theorem p119_94 : pd_G xs Ls d pd_m119 (94, L, st, S) o ↔ pd_K xs Ls d pd_m119 (mm_lA L 0 fun v => mm_go 95 L (v :: st) S) o := pd_Gs (i := .aload_n 0) (n := 1) rfl
theorem p119_95 : pd_G xs Ls d pd_m119 (95, L, st, S) o ↔ pd_K xs Ls d pd_m119 (mm_getf pd_ck 95 L st S 7 20) o := pd_Gs (i := .getfield 45) (n := 3) rfl
theorem p119_98 : pd_G xs Ls d pd_m119 (98, L, st, S) o ↔ pd_K xs Ls d pd_m119 (mm_lA L 0 fun v => mm_go 99 L (v :: st) S) o := pd_Gs (i := .aload_n 0) (n := 1) rfl
theorem p119_99 : pd_G xs Ls d pd_m119 (99, L, st, S) o ↔ pd_K xs Ls d pd_m119 (mm_getf pd_ck 99 L st S 7 2) o := pd_Gs (i := .getfield 16) (n := 3) rfl
theorem p119_102 : pd_G xs Ls d pd_m119 (102, L, st, S) o ↔ pd_K xs Ls d pd_m119 (mm_lI L 2 fun x => mm_go 103 L (.int x :: st) S) o := pd_Gs (i := .iload_n 2) (n := 1) rfl
theorem p119_103 : pd_G xs Ls d pd_m119 (103, L, st, S) o ↔ pd_K xs Ls d pd_m119 (mm_ial xs Ls pd_ak 103 L S st) o := pd_Gs (i := .iaload) (n := 1) rfl
theorem p119_104 : pd_G xs Ls d pd_m119 (104, L, st, S) o ↔ pd_K xs Ls d pd_m119 (mm_ai pd_ak S st 2 fun i a r => mm_go 105 L (.double (S.2.1.2.1 a i.toNatClampNeg) :: r) S) o := pd_Gs (i := .daload) (n := 1) rfl
theorem p119_105 : pd_G xs Ls d pd_m119 (105, L, st, S) o ↔ pd_K xs Ls d pd_m119 (mm_d st fun x st => mm_ai pd_ak S st 2 fun i a r => mm_go 106 L r (mm_sD S a i.toNatClampNeg x)) o := pd_Gs (i := .dastore) (n := 1) rfl
theorem p119_106 : pd_G xs Ls d pd_m119 (106, L, st, S) o ↔ pd_K xs Ls d pd_m119 (mm_go 274 L st S) o := pd_Gs (i := .goto 168) (n := 3) rfl
theorem p119_109 : pd_G xs Ls d pd_m119 (109, L, st, S) o ↔ pd_K xs Ls d pd_m119 (mm_lI L 3 fun x => mm_go 110 L (.int x :: st) S) o := pd_Gs (i := .iload_n 3) (n := 1) rfl
theorem p119_110 : pd_G xs Ls d pd_m119 (110, L, st, S) o ↔ pd_K xs Ls d pd_m119 (mm_go 111 L (.int 5 :: st) S) o := pd_Gs (i := .iconst 5) (n := 1) rfl
theorem p119_111 : pd_G xs Ls d pd_m119 (111, L, st, S) o ↔ pd_K xs Ls d pd_m119 (mm_ii st fun x y r => mm_icmp .ne x y (mm_go 141 L r S) (mm_go 114 L r S)) o := pd_Gs (i := .if_icmp .ne 30) (n := 3) rfl
theorem p119_114 : pd_G xs Ls d pd_m119 (114, L, st, S) o ↔ pd_K xs Ls d pd_m119 (mm_lA L 0 fun v => mm_go 115 L (v :: st) S) o := pd_Gs (i := .aload_n 0) (n := 1) rfl
theorem p119_115 : pd_G xs Ls d pd_m119 (115, L, st, S) o ↔ pd_K xs Ls d pd_m119 (mm_getf pd_ck 115 L st S 7 22) o := pd_Gs (i := .getfield 52) (n := 3) rfl
theorem p119_118 : pd_G xs Ls d pd_m119 (118, L, st, S) o ↔ pd_K xs Ls d pd_m119 (mm_lA L 0 fun v => mm_go 119 L (v :: st) S) o := pd_Gs (i := .aload_n 0) (n := 1) rfl
theorem p119_119 : pd_G xs Ls d pd_m119 (119, L, st, S) o ↔ pd_K xs Ls d pd_m119 (mm_getf pd_ck 119 L st S 7 11) o := pd_Gs (i := .getfield 97) (n := 3) rfl
theorem p119_122 : pd_G xs Ls d pd_m119 (122, L, st, S) o ↔ pd_K xs Ls d pd_m119 (mm_go 123 L (.int 1 :: st) S) o := pd_Gs (i := .iconst 1) (n := 1) rfl
theorem p119_123 : pd_G xs Ls d pd_m119 (123, L, st, S) o ↔ pd_K xs Ls d pd_m119 (mm_ii st fun x y r => mm_go 124 L (.int (x - y) :: r) S) o := pd_Gs (i := .isub) (n := 1) rfl
theorem p119_124 : pd_G xs Ls d pd_m119 (124, L, st, S) o ↔ pd_K xs Ls d pd_m119 (mm_lA L 0 fun v => mm_go 125 L (v :: st) S) o := pd_Gs (i := .aload_n 0) (n := 1) rfl
theorem p119_125 : pd_G xs Ls d pd_m119 (125, L, st, S) o ↔ pd_K xs Ls d pd_m119 (mm_getf pd_ck 125 L st S 7 22) o := pd_Gs (i := .getfield 52) (n := 3) rfl
theorem p119_128 : pd_G xs Ls d pd_m119 (128, L, st, S) o ↔ pd_K xs Ls d pd_m119 (mm_lA L 0 fun v => mm_go 129 L (v :: st) S) o := pd_Gs (i := .aload_n 0) (n := 1) rfl
theorem p119_129 : pd_G xs Ls d pd_m119 (129, L, st, S) o ↔ pd_K xs Ls d pd_m119 (mm_getf pd_ck 129 L st S 7 11) o := pd_Gs (i := .getfield 97) (n := 3) rfl
theorem p119_132 : pd_G xs Ls d pd_m119 (132, L, st, S) o ↔ pd_K xs Ls d pd_m119 (mm_go 133 L (.int 1 :: st) S) o := pd_Gs (i := .iconst 1) (n := 1) rfl
theorem p119_133 : pd_G xs Ls d pd_m119 (133, L, st, S) o ↔ pd_K xs Ls d pd_m119 (mm_ii st fun x y r => mm_go 134 L (.int (x - y) :: r) S) o := pd_Gs (i := .isub) (n := 1) rfl
theorem p119_134 : pd_G xs Ls d pd_m119 (134, L, st, S) o ↔ pd_K xs Ls d pd_m119 (mm_ai pd_ak S st 2 fun i a r => mm_go 135 L (.double (S.2.1.2.1 a i.toNatClampNeg) :: r) S) o := pd_Gs (i := .daload) (n := 1) rfl
theorem p119_135 : pd_G xs Ls d pd_m119 (135, L, st, S) o ↔ pd_K xs Ls d pd_m119 (mm_d st fun x r => mm_go 136 L (.int (FP.d2i x) :: r) S) o := pd_Gs (i := .d2i) (n := 1) rfl
theorem p119_136 : pd_G xs Ls d pd_m119 (136, L, st, S) o ↔ pd_K xs Ls d pd_m119 (mm_i st fun x r => mm_go 137 L (.double (FP.i2d x) :: r) S) o := pd_Gs (i := .i2d) (n := 1) rfl
theorem p119_137 : pd_G xs Ls d pd_m119 (137, L, st, S) o ↔ pd_K xs Ls d pd_m119 (mm_d st fun x st => mm_ai pd_ak S st 2 fun i a r => mm_go 138 L r (mm_sD S a i.toNatClampNeg x)) o := pd_Gs (i := .dastore) (n := 1) rfl
theorem p119_138 : pd_G xs Ls d pd_m119 (138, L, st, S) o ↔ pd_K xs Ls d pd_m119 (mm_go 274 L st S) o := pd_Gs (i := .goto 136) (n := 3) rfl
theorem p119_141 : pd_G xs Ls d pd_m119 (141, L, st, S) o ↔ pd_K xs Ls d pd_m119 (mm_lI L 3 fun x => mm_go 142 L (.int x :: st) S) o := pd_Gs (i := .iload_n 3) (n := 1) rfl
theorem p119_142 : pd_G xs Ls d pd_m119 (142, L, st, S) o ↔ pd_K xs Ls d pd_m119 (mm_go 143 L (.int 5 :: st) S) o := pd_Gs (i := .iconst 5) (n := 1) rfl
theorem p119_143 : pd_G xs Ls d pd_m119 (143, L, st, S) o ↔ pd_K xs Ls d pd_m119 (mm_ii st fun x y r => mm_icmp .ge x y (mm_go 213 L r S) (mm_go 146 L r S)) o := pd_Gs (i := .if_icmp .ge 70) (n := 3) rfl
theorem p119_146 : pd_G xs Ls d pd_m119 (146, L, st, S) o ↔ pd_K xs Ls d pd_m119 (mm_lA L 0 fun v => mm_go 147 L (v :: st) S) o := pd_Gs (i := .aload_n 0) (n := 1) rfl
theorem p119_147 : pd_G xs Ls d pd_m119 (147, L, st, S) o ↔ pd_K xs Ls d pd_m119 (mm_getf pd_ck 147 L st S 7 22) o := pd_Gs (i := .getfield 52) (n := 3) rfl
theorem p119_150 : pd_G xs Ls d pd_m119 (150, L, st, S) o ↔ pd_K xs Ls d pd_m119 (mm_lA L 0 fun v => mm_go 151 L (v :: st) S) o := pd_Gs (i := .aload_n 0) (n := 1) rfl
theorem p119_151 : pd_G xs Ls d pd_m119 (151, L, st, S) o ↔ pd_K xs Ls d pd_m119 (mm_getf pd_ck 151 L st S 7 11) o := pd_Gs (i := .getfield 97) (n := 3) rfl
theorem p119_154 : pd_G xs Ls d pd_m119 (154, L, st, S) o ↔ pd_K xs Ls d pd_m119 (mm_go 155 L (.int 1 :: st) S) o := pd_Gs (i := .iconst 1) (n := 1) rfl
theorem p119_155 : pd_G xs Ls d pd_m119 (155, L, st, S) o ↔ pd_K xs Ls d pd_m119 (mm_ii st fun x y r => mm_go 156 L (.int (x - y) :: r) S) o := pd_Gs (i := .isub) (n := 1) rfl
theorem p119_156 : pd_G xs Ls d pd_m119 (156, L, st, S) o ↔ pd_K xs Ls d pd_m119 (mm_ai pd_ak S st 2 fun i a r => mm_go 157 L (.double (S.2.1.2.1 a i.toNatClampNeg) :: r) S) o := pd_Gs (i := .daload) (n := 1) rfl
theorem p119_157 : pd_G xs Ls d pd_m119 (157, L, st, S) o ↔ pd_K xs Ls d pd_m119 (mm_d st fun x r => mm_go 159 (mm_sto L 0 4 (.double x)) r S) o := pd_Gs (i := .dstore 4) (n := 2) rfl
theorem p119_159 : pd_G xs Ls d pd_m119 (159, L, st, S) o ↔ pd_K xs Ls d pd_m119 (mm_lD L 4 fun x => mm_go 161 L (.double x :: st) S) o := pd_Gs (i := .dload 4) (n := 2) rfl
theorem p119_161 : pd_G xs Ls d pd_m119 (161, L, st, S) o ↔ pd_K xs Ls d pd_m119 (mm_go 162 L (.double FP.dconst0 :: st) S) o := pd_Gs (i := .dconst 0) (n := 1) rfl
theorem p119_162 : pd_G xs Ls d pd_m119 (162, L, st, S) o ↔ pd_K xs Ls d pd_m119 (mm_dd st fun x y r => mm_go 163 L (.int (Op.cmpValue (FP.dcmp x y) .g) :: r) S) o := pd_Gs (i := .dcmp .g) (n := 1) rfl
theorem p119_163 : pd_G xs Ls d pd_m119 (163, L, st, S) o ↔ pd_K xs Ls d pd_m119 (mm_i st fun x r => mm_icmp .lt x 0 (mm_go 175 L r S) (mm_go 166 L r S)) o := pd_Gs (i := .ifCond .lt 12) (n := 3) rfl
theorem p119_166 : pd_G xs Ls d pd_m119 (166, L, st, S) o ↔ pd_K xs Ls d pd_m119 (mm_lD L 4 fun x => mm_go 168 L (.double x :: st) S) o := pd_Gs (i := .dload 4) (n := 2) rfl
theorem p119_168 : pd_G xs Ls d pd_m119 (168, L, st, S) o ↔ pd_K xs Ls d pd_m119 (mm_go 171 L (.double 4613937818241073152 :: st) S) o := pd_Gs (i := .ldc2_w 178) (n := 3) rfl
theorem p119_171 : pd_G xs Ls d pd_m119 (171, L, st, S) o ↔ pd_K xs Ls d pd_m119 (mm_dd st fun x y r => mm_go 172 L (.int (Op.cmpValue (FP.dcmp x y) .l) :: r) S) o := pd_Gs (i := .dcmp .l) (n := 1) rfl
theorem p119_172 : pd_G xs Ls d pd_m119 (172, L, st, S) o ↔ pd_K xs Ls d pd_m119 (mm_i st fun x r => mm_icmp .le x 0 (mm_go 183 L r S) (mm_go 175 L r S)) o := pd_Gs (i := .ifCond .le 11) (n := 3) rfl
theorem p119_175 : pd_G xs Ls d pd_m119 (175, L, st, S) o ↔ pd_K xs Ls d pd_m119 (mm_lA L 0 fun v => mm_go 176 L (v :: st) S) o := pd_Gs (i := .aload_n 0) (n := 1) rfl
theorem p119_176 : pd_G xs Ls d pd_m119 (176, L, st, S) o ↔ pd_K xs Ls d pd_m119 (mm_go 177 L (.int 5 :: st) S) o := pd_Gs (i := .iconst 5) (n := 1) rfl
theorem p119_177 : pd_G xs Ls d pd_m119 (177, L, st, S) o ↔ pd_K xs Ls d pd_m119 (mm_putf pd_ck 177 L st S 7 39) o := pd_Gs (i := .putfield 85) (n := 3) rfl
theorem p119_180 : pd_G xs Ls d pd_m119 (180, L, st, S) o ↔ pd_K xs Ls d pd_m119 (mm_go 210 L st S) o := pd_Gs (i := .goto 30) (n := 3) rfl
theorem p119_183 : pd_G xs Ls d pd_m119 (183, L, st, S) o ↔ pd_K xs Ls d pd_m119 (mm_lI L 3 fun x => mm_go 184 L (.int x :: st) S) o := pd_Gs (i := .iload_n 3) (n := 1) rfl
theorem p119_184 : pd_G xs Ls d pd_m119 (184, L, st, S) o ↔ pd_K xs Ls d pd_m119 (mm_go 185 L (.int 3 :: st) S) o := pd_Gs (i := .iconst 3) (n := 1) rfl
theorem p119_185 : pd_G xs Ls d pd_m119 (185, L, st, S) o ↔ pd_K xs Ls d pd_m119 (mm_ii st fun x y r => mm_icmp .ne x y (mm_go 210 L r S) (mm_go 188 L r S)) o := pd_Gs (i := .if_icmp .ne 25) (n := 3) rfl
theorem p119_188 : pd_G xs Ls d pd_m119 (188, L, st, S) o ↔ pd_K xs Ls d pd_m119 (mm_lA L 0 fun v => mm_go 189 L (v :: st) S) o := pd_Gs (i := .aload_n 0) (n := 1) rfl
theorem p119_189 : pd_G xs Ls d pd_m119 (189, L, st, S) o ↔ pd_K xs Ls d pd_m119 (mm_getf pd_ck 189 L st S 7 22) o := pd_Gs (i := .getfield 52) (n := 3) rfl
theorem p119_192 : pd_G xs Ls d pd_m119 (192, L, st, S) o ↔ pd_K xs Ls d pd_m119 (mm_lA L 0 fun v => mm_go 193 L (v :: st) S) o := pd_Gs (i := .aload_n 0) (n := 1) rfl
theorem p119_193 : pd_G xs Ls d pd_m119 (193, L, st, S) o ↔ pd_K xs Ls d pd_m119 (mm_getf pd_ck 193 L st S 7 11) o := pd_Gs (i := .getfield 97) (n := 3) rfl
theorem p119_196 : pd_G xs Ls d pd_m119 (196, L, st, S) o ↔ pd_K xs Ls d pd_m119 (mm_go 197 L (.int 1 :: st) S) o := pd_Gs (i := .iconst 1) (n := 1) rfl
theorem p119_197 : pd_G xs Ls d pd_m119 (197, L, st, S) o ↔ pd_K xs Ls d pd_m119 (mm_ii st fun x y r => mm_go 198 L (.int (x - y) :: r) S) o := pd_Gs (i := .isub) (n := 1) rfl
theorem p119_198 : pd_G xs Ls d pd_m119 (198, L, st, S) o ↔ pd_K xs Ls d pd_m119 (mm_lA L 0 fun v => mm_go 199 L (v :: st) S) o := pd_Gs (i := .aload_n 0) (n := 1) rfl
theorem p119_199 : pd_G xs Ls d pd_m119 (199, L, st, S) o ↔ pd_K xs Ls d pd_m119 (mm_getf pd_ck 199 L st S 7 20) o := pd_Gs (i := .getfield 45) (n := 3) rfl
theorem p119_202 : pd_G xs Ls d pd_m119 (202, L, st, S) o ↔ pd_K xs Ls d pd_m119 (mm_go 204 L (.int 7 :: st) S) o := pd_Gs (i := .bipush 7) (n := 2) rfl
theorem p119_204 : pd_G xs Ls d pd_m119 (204, L, st, S) o ↔ pd_K xs Ls d pd_m119 (mm_lD L 4 fun x => mm_go 206 L (.double x :: st) S) o := pd_Gs (i := .dload 4) (n := 2) rfl
theorem p119_206 : pd_G xs Ls d pd_m119 (206, L, st, S) o ↔ pd_K xs Ls d pd_m119 (mm_d st fun x r => mm_go 207 L (.int (FP.d2i x) :: r) S) o := pd_Gs (i := .d2i) (n := 1) rfl
theorem p119_207 : pd_G xs Ls d pd_m119 (207, L, st, S) o ↔ pd_K xs Ls d pd_m119 (mm_ii st fun x y r => mm_go 208 L (.int (x + y) :: r) S) o := pd_Gs (i := .iadd) (n := 1) rfl
theorem p119_208 : pd_G xs Ls d pd_m119 (208, L, st, S) o ↔ pd_K xs Ls d pd_m119 (mm_ai pd_ak S st 2 fun i a r => mm_go 209 L (.double (S.2.1.2.1 a i.toNatClampNeg) :: r) S) o := pd_Gs (i := .daload) (n := 1) rfl
theorem p119_209 : pd_G xs Ls d pd_m119 (209, L, st, S) o ↔ pd_K xs Ls d pd_m119 (mm_d st fun x st => mm_ai pd_ak S st 2 fun i a r => mm_go 210 L r (mm_sD S a i.toNatClampNeg x)) o := pd_Gs (i := .dastore) (n := 1) rfl
theorem p119_210 : pd_G xs Ls d pd_m119 (210, L, st, S) o ↔ pd_K xs Ls d pd_m119 (mm_go 274 L st S) o := pd_Gs (i := .goto 64) (n := 3) rfl
theorem p119_213 : pd_G xs Ls d pd_m119 (213, L, st, S) o ↔ pd_K xs Ls d pd_m119 (mm_lA L 0 fun v => mm_go 214 L (v :: st) S) o := pd_Gs (i := .aload_n 0) (n := 1) rfl
theorem p119_214 : pd_G xs Ls d pd_m119 (214, L, st, S) o ↔ pd_K xs Ls d pd_m119 (mm_1 st fun v r => cond (mm_c2 v) none (mm_go 215 L (v :: v :: r) S)) o := pd_Gs (i := .dup) (n := 1) rfl
theorem p119_215 : pd_G xs Ls d pd_m119 (215, L, st, S) o ↔ pd_K xs Ls d pd_m119 (mm_getf pd_ck 215 L st S 7 11) o := pd_Gs (i := .getfield 97) (n := 3) rfl
theorem p119_218 : pd_G xs Ls d pd_m119 (218, L, st, S) o ↔ pd_K xs Ls d pd_m119 (mm_go 219 L (.int 1 :: st) S) o := pd_Gs (i := .iconst 1) (n := 1) rfl
theorem p119_219 : pd_G xs Ls d pd_m119 (219, L, st, S) o ↔ pd_K xs Ls d pd_m119 (mm_ii st fun x y r => mm_go 220 L (.int (x - y) :: r) S) o := pd_Gs (i := .isub) (n := 1) rfl
theorem p119_220 : pd_G xs Ls d pd_m119 (220, L, st, S) o ↔ pd_K xs Ls d pd_m119 (mm_putf pd_ck 220 L st S 7 11) o := pd_Gs (i := .putfield 97) (n := 3) rfl
theorem p119_223 : pd_G xs Ls d pd_m119 (223, L, st, S) o ↔ pd_K xs Ls d pd_m119 (mm_lA L 0 fun v => mm_go 224 L (v :: st) S) o := pd_Gs (i := .aload_n 0) (n := 1) rfl
theorem p119_224 : pd_G xs Ls d pd_m119 (224, L, st, S) o ↔ pd_K xs Ls d pd_m119 (mm_getf pd_ck 224 L st S 7 22) o := pd_Gs (i := .getfield 52) (n := 3) rfl
theorem p119_227 : pd_G xs Ls d pd_m119 (227, L, st, S) o ↔ pd_K xs Ls d pd_m119 (mm_lA L 0 fun v => mm_go 228 L (v :: st) S) o := pd_Gs (i := .aload_n 0) (n := 1) rfl
theorem p119_228 : pd_G xs Ls d pd_m119 (228, L, st, S) o ↔ pd_K xs Ls d pd_m119 (mm_getf pd_ck 228 L st S 7 11) o := pd_Gs (i := .getfield 97) (n := 3) rfl
theorem p119_231 : pd_G xs Ls d pd_m119 (231, L, st, S) o ↔ pd_K xs Ls d pd_m119 (mm_go 232 L (.int 1 :: st) S) o := pd_Gs (i := .iconst 1) (n := 1) rfl
theorem p119_232 : pd_G xs Ls d pd_m119 (232, L, st, S) o ↔ pd_K xs Ls d pd_m119 (mm_ii st fun x y r => mm_go 233 L (.int (x - y) :: r) S) o := pd_Gs (i := .isub) (n := 1) rfl
theorem p119_233 : pd_G xs Ls d pd_m119 (233, L, st, S) o ↔ pd_K xs Ls d pd_m119 (mm_lA L 0 fun v => mm_go 234 L (v :: st) S) o := pd_Gs (i := .aload_n 0) (n := 1) rfl
theorem p119_234 : pd_G xs Ls d pd_m119 (234, L, st, S) o ↔ pd_K xs Ls d pd_m119 (mm_lI L 3 fun x => mm_go 235 L (.int x :: st) S) o := pd_Gs (i := .iload_n 3) (n := 1) rfl
theorem p119_235 : pd_G xs Ls d pd_m119 (235, L, st, S) o ↔ pd_K xs Ls d pd_m119 (mm_lA L 0 fun v => mm_go 236 L (v :: st) S) o := pd_Gs (i := .aload_n 0) (n := 1) rfl
theorem p119_236 : pd_G xs Ls d pd_m119 (236, L, st, S) o ↔ pd_K xs Ls d pd_m119 (mm_getf pd_ck 236 L st S 7 2) o := pd_Gs (i := .getfield 16) (n := 3) rfl
theorem p119_239 : pd_G xs Ls d pd_m119 (239, L, st, S) o ↔ pd_K xs Ls d pd_m119 (mm_lI L 2 fun x => mm_go 240 L (.int x :: st) S) o := pd_Gs (i := .iload_n 2) (n := 1) rfl
theorem p119_240 : pd_G xs Ls d pd_m119 (240, L, st, S) o ↔ pd_K xs Ls d pd_m119 (mm_ial xs Ls pd_ak 240 L S st) o := pd_Gs (i := .iaload) (n := 1) rfl
theorem p119_241 : pd_G xs Ls d pd_m119 (241, L, st, S) o ↔ pd_K xs Ls d pd_m119 (mm_go 242 L (.int 1 :: st) S) o := pd_Gs (i := .iconst 1) (n := 1) rfl
theorem p119_242 : pd_G xs Ls d pd_m119 (242, L, st, S) o ↔ pd_K xs Ls d pd_m119 (mm_ii st fun x y r => mm_icmp .ne x y (mm_go 249 L r S) (mm_go 245 L r S)) o := pd_Gs (i := .if_icmp .ne 7) (n := 3) rfl
theorem p119_245 : pd_G xs Ls d pd_m119 (245, L, st, S) o ↔ pd_K xs Ls d pd_m119 (mm_go 246 L (.int 1 :: st) S) o := pd_Gs (i := .iconst 1) (n := 1) rfl
theorem p119_246 : pd_G xs Ls d pd_m119 (246, L, st, S) o ↔ pd_K xs Ls d pd_m119 (mm_go 250 L st S) o := pd_Gs (i := .goto 4) (n := 3) rfl
theorem p119_249 : pd_G xs Ls d pd_m119 (249, L, st, S) o ↔ pd_K xs Ls d pd_m119 (mm_go 250 L (.int 0 :: st) S) o := pd_Gs (i := .iconst 0) (n := 1) rfl
theorem p119_250 : pd_G xs Ls d pd_m119 (250, L, st, S) o ↔ pd_K xs Ls d pd_m119 (mm_lA L 0 fun v => mm_go 251 L (v :: st) S) o := pd_Gs (i := .aload_n 0) (n := 1) rfl
theorem p119_251 : pd_G xs Ls d pd_m119 (251, L, st, S) o ↔ pd_K xs Ls d pd_m119 (mm_getf pd_ck 251 L st S 7 22) o := pd_Gs (i := .getfield 52) (n := 3) rfl
theorem p119_254 : pd_G xs Ls d pd_m119 (254, L, st, S) o ↔ pd_K xs Ls d pd_m119 (mm_lA L 0 fun v => mm_go 255 L (v :: st) S) o := pd_Gs (i := .aload_n 0) (n := 1) rfl
theorem p119_255 : pd_G xs Ls d pd_m119 (255, L, st, S) o ↔ pd_K xs Ls d pd_m119 (mm_getf pd_ck 255 L st S 7 11) o := pd_Gs (i := .getfield 97) (n := 3) rfl
theorem p119_258 : pd_G xs Ls d pd_m119 (258, L, st, S) o ↔ pd_K xs Ls d pd_m119 (mm_go 259 L (.int 1 :: st) S) o := pd_Gs (i := .iconst 1) (n := 1) rfl
theorem p119_259 : pd_G xs Ls d pd_m119 (259, L, st, S) o ↔ pd_K xs Ls d pd_m119 (mm_ii st fun x y r => mm_go 260 L (.int (x - y) :: r) S) o := pd_Gs (i := .isub) (n := 1) rfl
theorem p119_260 : pd_G xs Ls d pd_m119 (260, L, st, S) o ↔ pd_K xs Ls d pd_m119 (mm_ai pd_ak S st 2 fun i a r => mm_go 261 L (.double (S.2.1.2.1 a i.toNatClampNeg) :: r) S) o := pd_Gs (i := .daload) (n := 1) rfl
theorem p119_261 : pd_G xs Ls d pd_m119 (261, L, st, S) o ↔ pd_K xs Ls d pd_m119 (mm_lA L 0 fun v => mm_go 262 L (v :: st) S) o := pd_Gs (i := .aload_n 0) (n := 1) rfl
theorem p119_262 : pd_G xs Ls d pd_m119 (262, L, st, S) o ↔ pd_K xs Ls d pd_m119 (mm_getf pd_ck 262 L st S 7 22) o := pd_Gs (i := .getfield 52) (n := 3) rfl
theorem p119_265 : pd_G xs Ls d pd_m119 (265, L, st, S) o ↔ pd_K xs Ls d pd_m119 (mm_lA L 0 fun v => mm_go 266 L (v :: st) S) o := pd_Gs (i := .aload_n 0) (n := 1) rfl
theorem p119_266 : pd_G xs Ls d pd_m119 (266, L, st, S) o ↔ pd_K xs Ls d pd_m119 (mm_getf pd_ck 266 L st S 7 11) o := pd_Gs (i := .getfield 97) (n := 3) rfl
theorem p119_269 : pd_G xs Ls d pd_m119 (269, L, st, S) o ↔ pd_K xs Ls d pd_m119 (mm_ai pd_ak S st 2 fun i a r => mm_go 270 L (.double (S.2.1.2.1 a i.toNatClampNeg) :: r) S) o := pd_Gs (i := .daload) (n := 1) rfl
theorem p119_270 : pd_G xs Ls d pd_m119 (270, L, st, S) o ↔ pd_K xs Ls d pd_m119 (mm_inv (mm_ev xs Ls pd_ck pd_ak pd_mj d) pd_m119 270 L st S 120 4 7) o := pd_Gs (i := .invokevirtual 180) (n := 3) rfl
theorem p119_273 : pd_G xs Ls d pd_m119 (273, L, st, S) o ↔ pd_K xs Ls d pd_m119 (mm_d st fun x st => mm_ai pd_ak S st 2 fun i a r => mm_go 274 L r (mm_sD S a i.toNatClampNeg x)) o := pd_Gs (i := .dastore) (n := 1) rfl
theorem p119_274 : pd_G xs Ls d pd_m119 (274, L, st, S) o ↔ pd_K xs Ls d pd_m119 (mm_lI L 2 fun x => mm_go 277 (mm_sto L 0 2 (.int (x + 1))) st S) o := pd_Gs (i := .iinc 2 1) (n := 3) rfl
theorem p119_277 : pd_G xs Ls d pd_m119 (277, L, st, S) o ↔ pd_K xs Ls d pd_m119 (mm_go 7 L st S) o := pd_Gs (i := .goto (-270)) (n := 3) rfl
theorem p119_280 : pd_G xs Ls d pd_m119 (280, L, st, S) o ↔ pd_K xs Ls d pd_m119 (mm_lI L 2 fun x => mm_go 281 L (.int x :: st) S) o := pd_Gs (i := .iload_n 2) (n := 1) rfl
theorem p119_281 : pd_G xs Ls d pd_m119 (281, L, st, S) o ↔ pd_K xs Ls d pd_m119 (mm_e0 S st) o := pd_Gs (i := .ireturn) (n := 1) rfl
theorem p120_0 : pd_G xs Ls d pd_m120 (0, L, st, S) o ↔ pd_K xs Ls d pd_m120 (mm_lI L 1 fun x => mm_go 1 L (.int x :: st) S) o := pd_Gs (i := .iload_n 1) (n := 1) rfl
theorem p120_1 : pd_G xs Ls d pd_m120 (1, L, st, S) o ↔ pd_K xs Ls d pd_m120 (mm_go 3 L (.int 60 :: st) S) o := pd_Gs (i := .bipush 60) (n := 2) rfl
theorem p120_3 : pd_G xs Ls d pd_m120 (3, L, st, S) o ↔ pd_K xs Ls d pd_m120 (mm_ii st fun x y r => mm_icmp .ne x y (mm_go 19 L r S) (mm_go 6 L r S)) o := pd_Gs (i := .if_icmp .ne 16) (n := 3) rfl
theorem p120_6 : pd_G xs Ls d pd_m120 (6, L, st, S) o ↔ pd_K xs Ls d pd_m120 (mm_lD L 3 fun x => mm_go 7 L (.double x :: st) S) o := pd_Gs (i := .dload_n 3) (n := 1) rfl
theorem p120_7 : pd_G xs Ls d pd_m120 (7, L, st, S) o ↔ pd_K xs Ls d pd_m120 (mm_lD L 5 fun x => mm_go 9 L (.double x :: st) S) o := pd_Gs (i := .dload 5) (n := 2) rfl
theorem p120_9 : pd_G xs Ls d pd_m120 (9, L, st, S) o ↔ pd_K xs Ls d pd_m120 (mm_dd st fun x y r => mm_go 10 L (.int (Op.cmpValue (FP.dcmp x y) .g) :: r) S) o := pd_Gs (i := .dcmp .g) (n := 1) rfl
theorem p120_10 : pd_G xs Ls d pd_m120 (10, L, st, S) o ↔ pd_K xs Ls d pd_m120 (mm_i st fun x r => mm_icmp .ge x 0 (mm_go 17 L r S) (mm_go 13 L r S)) o := pd_Gs (i := .ifCond .ge 7) (n := 3) rfl
theorem p120_13 : pd_G xs Ls d pd_m120 (13, L, st, S) o ↔ pd_K xs Ls d pd_m120 (mm_go 14 L (.double FP.dconst1 :: st) S) o := pd_Gs (i := .dconst 1) (n := 1) rfl
theorem p120_14 : pd_G xs Ls d pd_m120 (14, L, st, S) o ↔ pd_K xs Ls d pd_m120 (mm_go 18 L st S) o := pd_Gs (i := .goto 4) (n := 3) rfl
theorem p120_17 : pd_G xs Ls d pd_m120 (17, L, st, S) o ↔ pd_K xs Ls d pd_m120 (mm_go 18 L (.double FP.dconst0 :: st) S) o := pd_Gs (i := .dconst 0) (n := 1) rfl
theorem p120_18 : pd_G xs Ls d pd_m120 (18, L, st, S) o ↔ pd_K xs Ls d pd_m120 (mm_rD S st) o := pd_Gs (i := .dreturn) (n := 1) rfl
theorem p120_19 : pd_G xs Ls d pd_m120 (19, L, st, S) o ↔ pd_K xs Ls d pd_m120 (mm_lI L 1 fun x => mm_go 20 L (.int x :: st) S) o := pd_Gs (i := .iload_n 1) (n := 1) rfl
theorem p120_20 : pd_G xs Ls d pd_m120 (20, L, st, S) o ↔ pd_K xs Ls d pd_m120 (mm_go 22 L (.int 61 :: st) S) o := pd_Gs (i := .bipush 61) (n := 2) rfl
theorem p120_22 : pd_G xs Ls d pd_m120 (22, L, st, S) o ↔ pd_K xs Ls d pd_m120 (mm_ii st fun x y r => mm_icmp .ne x y (mm_go 38 L r S) (mm_go 25 L r S)) o := pd_Gs (i := .if_icmp .ne 16) (n := 3) rfl
theorem p120_25 : pd_G xs Ls d pd_m120 (25, L, st, S) o ↔ pd_K xs Ls d pd_m120 (mm_lD L 3 fun x => mm_go 26 L (.double x :: st) S) o := pd_Gs (i := .dload_n 3) (n := 1) rfl
theorem p120_26 : pd_G xs Ls d pd_m120 (26, L, st, S) o ↔ pd_K xs Ls d pd_m120 (mm_lD L 5 fun x => mm_go 28 L (.double x :: st) S) o := pd_Gs (i := .dload 5) (n := 2) rfl
theorem p120_28 : pd_G xs Ls d pd_m120 (28, L, st, S) o ↔ pd_K xs Ls d pd_m120 (mm_dd st fun x y r => mm_go 29 L (.int (Op.cmpValue (FP.dcmp x y) .l) :: r) S) o := pd_Gs (i := .dcmp .l) (n := 1) rfl
theorem p120_29 : pd_G xs Ls d pd_m120 (29, L, st, S) o ↔ pd_K xs Ls d pd_m120 (mm_i st fun x r => mm_icmp .ne x 0 (mm_go 36 L r S) (mm_go 32 L r S)) o := pd_Gs (i := .ifCond .ne 7) (n := 3) rfl
theorem p120_32 : pd_G xs Ls d pd_m120 (32, L, st, S) o ↔ pd_K xs Ls d pd_m120 (mm_go 33 L (.double FP.dconst1 :: st) S) o := pd_Gs (i := .dconst 1) (n := 1) rfl
theorem p120_33 : pd_G xs Ls d pd_m120 (33, L, st, S) o ↔ pd_K xs Ls d pd_m120 (mm_go 37 L st S) o := pd_Gs (i := .goto 4) (n := 3) rfl
theorem p120_36 : pd_G xs Ls d pd_m120 (36, L, st, S) o ↔ pd_K xs Ls d pd_m120 (mm_go 37 L (.double FP.dconst0 :: st) S) o := pd_Gs (i := .dconst 0) (n := 1) rfl
theorem p120_37 : pd_G xs Ls d pd_m120 (37, L, st, S) o ↔ pd_K xs Ls d pd_m120 (mm_rD S st) o := pd_Gs (i := .dreturn) (n := 1) rfl
theorem p120_38 : pd_G xs Ls d pd_m120 (38, L, st, S) o ↔ pd_K xs Ls d pd_m120 (mm_lI L 1 fun x => mm_go 39 L (.int x :: st) S) o := pd_Gs (i := .iload_n 1) (n := 1) rfl
theorem p120_39 : pd_G xs Ls d pd_m120 (39, L, st, S) o ↔ pd_K xs Ls d pd_m120 (mm_go 41 L (.int 47 :: st) S) o := pd_Gs (i := .bipush 47) (n := 2) rfl
theorem p120_41 : pd_G xs Ls d pd_m120 (41, L, st, S) o ↔ pd_K xs Ls d pd_m120 (mm_ii st fun x y r => mm_icmp .eq x y (mm_go 50 L r S) (mm_go 44 L r S)) o := pd_Gs (i := .if_icmp .eq 9) (n := 3) rfl
theorem p120_44 : pd_G xs Ls d pd_m120 (44, L, st, S) o ↔ pd_K xs Ls d pd_m120 (mm_lI L 1 fun x => mm_go 45 L (.int x :: st) S) o := pd_Gs (i := .iload_n 1) (n := 1) rfl
theorem p120_45 : pd_G xs Ls d pd_m120 (45, L, st, S) o ↔ pd_K xs Ls d pd_m120 (mm_go 47 L (.int 37 :: st) S) o := pd_Gs (i := .bipush 37) (n := 2) rfl
theorem p120_47 : pd_G xs Ls d pd_m120 (47, L, st, S) o ↔ pd_K xs Ls d pd_m120 (mm_ii st fun x y r => mm_icmp .ne x y (mm_go 62 L r S) (mm_go 50 L r S)) o := pd_Gs (i := .if_icmp .ne 15) (n := 3) rfl
theorem p120_50 : pd_G xs Ls d pd_m120 (50, L, st, S) o ↔ pd_K xs Ls d pd_m120 (mm_lD L 5 fun x => mm_go 52 L (.double x :: st) S) o := pd_Gs (i := .dload 5) (n := 2) rfl
theorem p120_52 : pd_G xs Ls d pd_m120 (52, L, st, S) o ↔ pd_K xs Ls d pd_m120 (mm_go 53 L (.double FP.dconst0 :: st) S) o := pd_Gs (i := .dconst 0) (n := 1) rfl
theorem p120_53 : pd_G xs Ls d pd_m120 (53, L, st, S) o ↔ pd_K xs Ls d pd_m120 (mm_dd st fun x y r => mm_go 54 L (.int (Op.cmpValue (FP.dcmp x y) .l) :: r) S) o := pd_Gs (i := .dcmp .l) (n := 1) rfl
theorem p120_54 : pd_G xs Ls d pd_m120 (54, L, st, S) o ↔ pd_K xs Ls d pd_m120 (mm_i st fun x r => mm_icmp .ne x 0 (mm_go 62 L r S) (mm_go 57 L r S)) o := pd_Gs (i := .ifCond .ne 8) (n := 3) rfl
theorem p120_57 : pd_G xs Ls d pd_m120 (57, L, st, S) o ↔ pd_K xs Ls d pd_m120 (mm_lA L 0 fun v => mm_go 58 L (v :: st) S) o := pd_Gs (i := .aload_n 0) (n := 1) rfl
theorem p120_58 : pd_G xs Ls d pd_m120 (58, L, st, S) o ↔ pd_K xs Ls d pd_m120 (mm_go 59 L (.int 4 :: st) S) o := pd_Gs (i := .iconst 4) (n := 1) rfl
theorem p120_59 : pd_G xs Ls d pd_m120 (59, L, st, S) o ↔ pd_K xs Ls d pd_m120 (mm_putf pd_ck 59 L st S 7 39) o := pd_Gs (i := .putfield 85) (n := 3) rfl
theorem p120_62 : pd_G xs Ls d pd_m120 (62, L, st, S) o ↔ pd_K xs Ls d pd_m120 (mm_lA L 0 fun v => mm_go 63 L (v :: st) S) o := pd_Gs (i := .aload_n 0) (n := 1) rfl
theorem p120_63 : pd_G xs Ls d pd_m120 (63, L, st, S) o ↔ pd_K xs Ls d pd_m120 (mm_getf pd_ck 63 L st S 7 39) o := pd_Gs (i := .getfield 85) (n := 3) rfl
theorem p120_66 : pd_G xs Ls d pd_m120 (66, L, st, S) o ↔ pd_K xs Ls d pd_m120 (mm_i st fun x r => mm_icmp .eq x 0 (mm_go 71 L r S) (mm_go 69 L r S)) o := pd_Gs (i := .ifCond .eq 5) (n := 3) rfl
theorem p120_69 : pd_G xs Ls d pd_m120 (69, L, st, S) o ↔ pd_K xs Ls d pd_m120 (mm_go 70 L (.double FP.dconst0 :: st) S) o := pd_Gs (i := .dconst 0) (n := 1) rfl
theorem p120_70 : pd_G xs Ls d pd_m120 (70, L, st, S) o ↔ pd_K xs Ls d pd_m120 (mm_rD S st) o := pd_Gs (i := .dreturn) (n := 1) rfl
theorem p120_71 : pd_G xs Ls d pd_m120 (71, L, st, S) o ↔ pd_K xs Ls d pd_m120 (mm_lI L 1 fun x => mm_go 72 L (.int x :: st) S) o := pd_Gs (i := .iload_n 1) (n := 1) rfl
theorem p120_72 : pd_G xs Ls d pd_m120 (72, L, st, S) o ↔ pd_K xs Ls d pd_m120 (mm_go 74 L (.int 37 :: st) S) o := pd_Gs (i := .bipush 37) (n := 2) rfl
theorem p120_74 : pd_G xs Ls d pd_m120 (74, L, st, S) o ↔ pd_K xs Ls d pd_m120 (mm_ii st fun x y r => mm_icmp .ne x y (mm_go 85 L r S) (mm_go 77 L r S)) o := pd_Gs (i := .if_icmp .ne 11) (n := 3) rfl
theorem p120_77 : pd_G xs Ls d pd_m120 (77, L, st, S) o ↔ pd_K xs Ls d pd_m120 (mm_lD L 3 fun x => mm_go 78 L (.double x :: st) S) o := pd_Gs (i := .dload_n 3) (n := 1) rfl
theorem p120_78 : pd_G xs Ls d pd_m120 (78, L, st, S) o ↔ pd_K xs Ls d pd_m120 (mm_d st fun x r => mm_go 79 L (.int (FP.d2i x) :: r) S) o := pd_Gs (i := .d2i) (n := 1) rfl
theorem p120_79 : pd_G xs Ls d pd_m120 (79, L, st, S) o ↔ pd_K xs Ls d pd_m120 (mm_lD L 5 fun x => mm_go 81 L (.double x :: st) S) o := pd_Gs (i := .dload 5) (n := 2) rfl
theorem p120_81 : pd_G xs Ls d pd_m120 (81, L, st, S) o ↔ pd_K xs Ls d pd_m120 (mm_d st fun x r => mm_go 82 L (.int (FP.d2i x) :: r) S) o := pd_Gs (i := .d2i) (n := 1) rfl
theorem p120_82 : pd_G xs Ls d pd_m120 (82, L, st, S) o ↔ pd_K xs Ls d pd_m120 (mm_ii st fun x y r => if y = 0 then none else mm_go 83 L (.int (x - x / y * y) :: r) S) o := pd_Gs (i := .irem) (n := 1) rfl
theorem p120_83 : pd_G xs Ls d pd_m120 (83, L, st, S) o ↔ pd_K xs Ls d pd_m120 (mm_i st fun x r => mm_go 84 L (.double (FP.i2d x) :: r) S) o := pd_Gs (i := .i2d) (n := 1) rfl
theorem p120_84 : pd_G xs Ls d pd_m120 (84, L, st, S) o ↔ pd_K xs Ls d pd_m120 (mm_rD S st) o := pd_Gs (i := .dreturn) (n := 1) rfl
theorem p120_85 : pd_G xs Ls d pd_m120 (85, L, st, S) o ↔ pd_K xs Ls d pd_m120 (mm_lI L 2 fun x => mm_go 86 L (.int x :: st) S) o := pd_Gs (i := .iload_n 2) (n := 1) rfl
theorem p120_86 : pd_G xs Ls d pd_m120 (86, L, st, S) o ↔ pd_K xs Ls d pd_m120 (mm_i st fun x r => mm_icmp .ne x 0 (mm_go 129 L r S) (mm_go 89 L r S)) o := pd_Gs (i := .ifCond .ne 43) (n := 3) rfl
theorem p120_89 : pd_G xs Ls d pd_m120 (89, L, st, S) o ↔ pd_K xs Ls d pd_m120 (mm_lI L 1 fun x => mm_go 90 L (.int x :: st) S) o := pd_Gs (i := .iload_n 1) (n := 1) rfl
theorem p120_90 : pd_G xs Ls d pd_m120 (90, L, st, S) o ↔ pd_K xs Ls d pd_m120 (mm_go 92 L (.int 43 :: st) S) o := pd_Gs (i := .bipush 43) (n := 2) rfl
theorem p120_92 : pd_G xs Ls d pd_m120 (92, L, st, S) o ↔ pd_K xs Ls d pd_m120 (mm_ii st fun x y r => mm_icmp .ne x y (mm_go 105 L r S) (mm_go 95 L r S)) o := pd_Gs (i := .if_icmp .ne 13) (n := 3) rfl
theorem p120_95 : pd_G xs Ls d pd_m120 (95, L, st, S) o ↔ pd_K xs Ls d pd_m120 (mm_lD L 3 fun x => mm_go 96 L (.double x :: st) S) o := pd_Gs (i := .dload_n 3) (n := 1) rfl
theorem p120_96 : pd_G xs Ls d pd_m120 (96, L, st, S) o ↔ pd_K xs Ls d pd_m120 (mm_d st fun x r => mm_go 97 L (.int (FP.d2i x) :: r) S) o := pd_Gs (i := .d2i) (n := 1) rfl
theorem p120_97 : pd_G xs Ls d pd_m120 (97, L, st, S) o ↔ pd_K xs Ls d pd_m120 (mm_lD L 5 fun x => mm_go 99 L (.double x :: st) S) o := pd_Gs (i := .dload 5) (n := 2) rfl
theorem p120_99 : pd_G xs Ls d pd_m120 (99, L, st, S) o ↔ pd_K xs Ls d pd_m120 (mm_d st fun x r => mm_go 100 L (.int (FP.d2i x) :: r) S) o := pd_Gs (i := .d2i) (n := 1) rfl
theorem p120_100 : pd_G xs Ls d pd_m120 (100, L, st, S) o ↔ pd_K xs Ls d pd_m120 (mm_ii st fun x y r => mm_go 101 L (.int (x + y) :: r) S) o := pd_Gs (i := .iadd) (n := 1) rfl
theorem p120_101 : pd_G xs Ls d pd_m120 (101, L, st, S) o ↔ pd_K xs Ls d pd_m120 (mm_i st fun x r => mm_go 102 L (.double (FP.i2d x) :: r) S) o := pd_Gs (i := .i2d) (n := 1) rfl
theorem p120_102 : pd_G xs Ls d pd_m120 (102, L, st, S) o ↔ pd_K xs Ls d pd_m120 (mm_go 128 L st S) o := pd_Gs (i := .goto 26) (n := 3) rfl
theorem p120_105 : pd_G xs Ls d pd_m120 (105, L, st, S) o ↔ pd_K xs Ls d pd_m120 (mm_lI L 1 fun x => mm_go 106 L (.int x :: st) S) o := pd_Gs (i := .iload_n 1) (n := 1) rfl
theorem p120_106 : pd_G xs Ls d pd_m120 (106, L, st, S) o ↔ pd_K xs Ls d pd_m120 (mm_go 108 L (.int 45 :: st) S) o := pd_Gs (i := .bipush 45) (n := 2) rfl
theorem p120_108 : pd_G xs Ls d pd_m120 (108, L, st, S) o ↔ pd_K xs Ls d pd_m120 (mm_ii st fun x y r => mm_icmp .ne x y (mm_go 121 L r S) (mm_go 111 L r S)) o := pd_Gs (i := .if_icmp .ne 13) (n := 3) rfl
theorem p120_111 : pd_G xs Ls d pd_m120 (111, L, st, S) o ↔ pd_K xs Ls d pd_m120 (mm_lD L 3 fun x => mm_go 112 L (.double x :: st) S) o := pd_Gs (i := .dload_n 3) (n := 1) rfl
theorem p120_112 : pd_G xs Ls d pd_m120 (112, L, st, S) o ↔ pd_K xs Ls d pd_m120 (mm_d st fun x r => mm_go 113 L (.int (FP.d2i x) :: r) S) o := pd_Gs (i := .d2i) (n := 1) rfl
theorem p120_113 : pd_G xs Ls d pd_m120 (113, L, st, S) o ↔ pd_K xs Ls d pd_m120 (mm_lD L 5 fun x => mm_go 115 L (.double x :: st) S) o := pd_Gs (i := .dload 5) (n := 2) rfl
theorem p120_115 : pd_G xs Ls d pd_m120 (115, L, st, S) o ↔ pd_K xs Ls d pd_m120 (mm_d st fun x r => mm_go 116 L (.int (FP.d2i x) :: r) S) o := pd_Gs (i := .d2i) (n := 1) rfl
theorem p120_116 : pd_G xs Ls d pd_m120 (116, L, st, S) o ↔ pd_K xs Ls d pd_m120 (mm_ii st fun x y r => mm_go 117 L (.int (x - y) :: r) S) o := pd_Gs (i := .isub) (n := 1) rfl
theorem p120_117 : pd_G xs Ls d pd_m120 (117, L, st, S) o ↔ pd_K xs Ls d pd_m120 (mm_i st fun x r => mm_go 118 L (.double (FP.i2d x) :: r) S) o := pd_Gs (i := .i2d) (n := 1) rfl
theorem p120_118 : pd_G xs Ls d pd_m120 (118, L, st, S) o ↔ pd_K xs Ls d pd_m120 (mm_go 128 L st S) o := pd_Gs (i := .goto 10) (n := 3) rfl
theorem p120_121 : pd_G xs Ls d pd_m120 (121, L, st, S) o ↔ pd_K xs Ls d pd_m120 (mm_lD L 3 fun x => mm_go 122 L (.double x :: st) S) o := pd_Gs (i := .dload_n 3) (n := 1) rfl
theorem p120_122 : pd_G xs Ls d pd_m120 (122, L, st, S) o ↔ pd_K xs Ls d pd_m120 (mm_d st fun x r => mm_go 123 L (.int (FP.d2i x) :: r) S) o := pd_Gs (i := .d2i) (n := 1) rfl
theorem p120_123 : pd_G xs Ls d pd_m120 (123, L, st, S) o ↔ pd_K xs Ls d pd_m120 (mm_lD L 5 fun x => mm_go 125 L (.double x :: st) S) o := pd_Gs (i := .dload 5) (n := 2) rfl
theorem p120_125 : pd_G xs Ls d pd_m120 (125, L, st, S) o ↔ pd_K xs Ls d pd_m120 (mm_d st fun x r => mm_go 126 L (.int (FP.d2i x) :: r) S) o := pd_Gs (i := .d2i) (n := 1) rfl
theorem p120_126 : pd_G xs Ls d pd_m120 (126, L, st, S) o ↔ pd_K xs Ls d pd_m120 (mm_ii st fun x y r => mm_go 127 L (.int (x * y) :: r) S) o := pd_Gs (i := .imul) (n := 1) rfl
theorem p120_127 : pd_G xs Ls d pd_m120 (127, L, st, S) o ↔ pd_K xs Ls d pd_m120 (mm_i st fun x r => mm_go 128 L (.double (FP.i2d x) :: r) S) o := pd_Gs (i := .i2d) (n := 1) rfl
theorem p120_128 : pd_G xs Ls d pd_m120 (128, L, st, S) o ↔ pd_K xs Ls d pd_m120 (mm_rD S st) o := pd_Gs (i := .dreturn) (n := 1) rfl
theorem p120_129 : pd_G xs Ls d pd_m120 (129, L, st, S) o ↔ pd_K xs Ls d pd_m120 (mm_lI L 1 fun x => mm_go 130 L (.int x :: st) S) o := pd_Gs (i := .iload_n 1) (n := 1) rfl
theorem p120_130 : pd_G xs Ls d pd_m120 (130, L, st, S) o ↔ pd_K xs Ls d pd_m120 (mm_go 132 L (.int 43 :: st) S) o := pd_Gs (i := .bipush 43) (n := 2) rfl
theorem p120_132 : pd_G xs Ls d pd_m120 (132, L, st, S) o ↔ pd_K xs Ls d pd_m120 (mm_ii st fun x y r => mm_icmp .ne x y (mm_go 142 L r S) (mm_go 135 L r S)) o := pd_Gs (i := .if_icmp .ne 10) (n := 3) rfl
theorem p120_135 : pd_G xs Ls d pd_m120 (135, L, st, S) o ↔ pd_K xs Ls d pd_m120 (mm_lD L 3 fun x => mm_go 136 L (.double x :: st) S) o := pd_Gs (i := .dload_n 3) (n := 1) rfl
theorem p120_136 : pd_G xs Ls d pd_m120 (136, L, st, S) o ↔ pd_K xs Ls d pd_m120 (mm_lD L 5 fun x => mm_go 138 L (.double x :: st) S) o := pd_Gs (i := .dload 5) (n := 2) rfl
theorem p120_138 : pd_G xs Ls d pd_m120 (138, L, st, S) o ↔ pd_K xs Ls d pd_m120 (mm_dd st fun x y r => cond (mm_n64 (FP.dadd x y)) (mm_go 139 L (.double (FP.dadd x y) :: r) S) none) o := pd_Gs (i := .dadd) (n := 1) rfl
theorem p120_139 : pd_G xs Ls d pd_m120 (139, L, st, S) o ↔ pd_K xs Ls d pd_m120 (mm_go 172 L st S) o := pd_Gs (i := .goto 33) (n := 3) rfl
theorem p120_142 : pd_G xs Ls d pd_m120 (142, L, st, S) o ↔ pd_K xs Ls d pd_m120 (mm_lI L 1 fun x => mm_go 143 L (.int x :: st) S) o := pd_Gs (i := .iload_n 1) (n := 1) rfl
theorem p120_143 : pd_G xs Ls d pd_m120 (143, L, st, S) o ↔ pd_K xs Ls d pd_m120 (mm_go 145 L (.int 45 :: st) S) o := pd_Gs (i := .bipush 45) (n := 2) rfl
theorem p120_145 : pd_G xs Ls d pd_m120 (145, L, st, S) o ↔ pd_K xs Ls d pd_m120 (mm_ii st fun x y r => mm_icmp .ne x y (mm_go 155 L r S) (mm_go 148 L r S)) o := pd_Gs (i := .if_icmp .ne 10) (n := 3) rfl
theorem p120_148 : pd_G xs Ls d pd_m120 (148, L, st, S) o ↔ pd_K xs Ls d pd_m120 (mm_lD L 3 fun x => mm_go 149 L (.double x :: st) S) o := pd_Gs (i := .dload_n 3) (n := 1) rfl
theorem p120_149 : pd_G xs Ls d pd_m120 (149, L, st, S) o ↔ pd_K xs Ls d pd_m120 (mm_lD L 5 fun x => mm_go 151 L (.double x :: st) S) o := pd_Gs (i := .dload 5) (n := 2) rfl
theorem p120_151 : pd_G xs Ls d pd_m120 (151, L, st, S) o ↔ pd_K xs Ls d pd_m120 (mm_dd st fun x y r => cond (mm_n64 (FP.dsub x y)) (mm_go 152 L (.double (FP.dsub x y) :: r) S) none) o := pd_Gs (i := .dsub) (n := 1) rfl
theorem p120_152 : pd_G xs Ls d pd_m120 (152, L, st, S) o ↔ pd_K xs Ls d pd_m120 (mm_go 172 L st S) o := pd_Gs (i := .goto 20) (n := 3) rfl
theorem p120_155 : pd_G xs Ls d pd_m120 (155, L, st, S) o ↔ pd_K xs Ls d pd_m120 (mm_lI L 1 fun x => mm_go 156 L (.int x :: st) S) o := pd_Gs (i := .iload_n 1) (n := 1) rfl
theorem p120_156 : pd_G xs Ls d pd_m120 (156, L, st, S) o ↔ pd_K xs Ls d pd_m120 (mm_go 158 L (.int 42 :: st) S) o := pd_Gs (i := .bipush 42) (n := 2) rfl
theorem p120_158 : pd_G xs Ls d pd_m120 (158, L, st, S) o ↔ pd_K xs Ls d pd_m120 (mm_ii st fun x y r => mm_icmp .ne x y (mm_go 168 L r S) (mm_go 161 L r S)) o := pd_Gs (i := .if_icmp .ne 10) (n := 3) rfl
theorem p120_161 : pd_G xs Ls d pd_m120 (161, L, st, S) o ↔ pd_K xs Ls d pd_m120 (mm_lD L 3 fun x => mm_go 162 L (.double x :: st) S) o := pd_Gs (i := .dload_n 3) (n := 1) rfl
theorem p120_162 : pd_G xs Ls d pd_m120 (162, L, st, S) o ↔ pd_K xs Ls d pd_m120 (mm_lD L 5 fun x => mm_go 164 L (.double x :: st) S) o := pd_Gs (i := .dload 5) (n := 2) rfl
theorem p120_164 : pd_G xs Ls d pd_m120 (164, L, st, S) o ↔ pd_K xs Ls d pd_m120 (mm_dd st fun x y r => cond (mm_n64 (FP.dmul x y)) (mm_go 165 L (.double (FP.dmul x y) :: r) S) none) o := pd_Gs (i := .dmul) (n := 1) rfl
theorem p120_165 : pd_G xs Ls d pd_m120 (165, L, st, S) o ↔ pd_K xs Ls d pd_m120 (mm_go 172 L st S) o := pd_Gs (i := .goto 7) (n := 3) rfl
theorem p120_168 : pd_G xs Ls d pd_m120 (168, L, st, S) o ↔ pd_K xs Ls d pd_m120 (mm_lD L 3 fun x => mm_go 169 L (.double x :: st) S) o := pd_Gs (i := .dload_n 3) (n := 1) rfl
theorem p120_169 : pd_G xs Ls d pd_m120 (169, L, st, S) o ↔ pd_K xs Ls d pd_m120 (mm_lD L 5 fun x => mm_go 171 L (.double x :: st) S) o := pd_Gs (i := .dload 5) (n := 2) rfl
theorem p120_171 : pd_G xs Ls d pd_m120 (171, L, st, S) o ↔ pd_K xs Ls d pd_m120 (mm_dd st fun x y r => cond (mm_n64 (FP.ddiv x y)) (mm_go 172 L (.double (FP.ddiv x y) :: r) S) none) o := pd_Gs (i := .ddiv) (n := 1) rfl
theorem p120_172 : pd_G xs Ls d pd_m120 (172, L, st, S) o ↔ pd_K xs Ls d pd_m120 (mm_d st fun x r => mm_go 174 (mm_sto L 0 7 (.double x)) r S) o := pd_Gs (i := .dstore 7) (n := 2) rfl
theorem p120_174 : pd_G xs Ls d pd_m120 (174, L, st, S) o ↔ pd_K xs Ls d pd_m120 (mm_lD L 7 fun x => mm_go 176 L (.double x :: st) S) o := pd_Gs (i := .dload 7) (n := 2) rfl
theorem p120_176 : pd_G xs Ls d pd_m120 (176, L, st, S) o ↔ pd_K xs Ls d pd_m120 (mm_go 179 L (.double 4741671816366391296 :: st) S) o := pd_Gs (i := .ldc2_w 174) (n := 3) rfl
theorem p120_179 : pd_G xs Ls d pd_m120 (179, L, st, S) o ↔ pd_K xs Ls d pd_m120 (mm_dd st fun x y r => mm_go 180 L (.int (Op.cmpValue (FP.dcmp x y) .l) :: r) S) o := pd_Gs (i := .dcmp .l) (n := 1) rfl
theorem p120_180 : pd_G xs Ls d pd_m120 (180, L, st, S) o ↔ pd_K xs Ls d pd_m120 (mm_i st fun x r => mm_icmp .gt x 0 (mm_go 192 L r S) (mm_go 183 L r S)) o := pd_Gs (i := .ifCond .gt 12) (n := 3) rfl
theorem p120_183 : pd_G xs Ls d pd_m120 (183, L, st, S) o ↔ pd_K xs Ls d pd_m120 (mm_lD L 7 fun x => mm_go 185 L (.double x :: st) S) o := pd_Gs (i := .dload 7) (n := 2) rfl
theorem p120_185 : pd_G xs Ls d pd_m120 (185, L, st, S) o ↔ pd_K xs Ls d pd_m120 (mm_go 188 L (.double 13965043853221167104 :: st) S) o := pd_Gs (i := .ldc2_w 176) (n := 3) rfl
theorem p120_188 : pd_G xs Ls d pd_m120 (188, L, st, S) o ↔ pd_K xs Ls d pd_m120 (mm_dd st fun x y r => mm_go 189 L (.int (Op.cmpValue (FP.dcmp x y) .g) :: r) S) o := pd_Gs (i := .dcmp .g) (n := 1) rfl
theorem p120_189 : pd_G xs Ls d pd_m120 (189, L, st, S) o ↔ pd_K xs Ls d pd_m120 (mm_i st fun x r => mm_icmp .ge x 0 (mm_go 197 L r S) (mm_go 192 L r S)) o := pd_Gs (i := .ifCond .ge 8) (n := 3) rfl
theorem p120_192 : pd_G xs Ls d pd_m120 (192, L, st, S) o ↔ pd_K xs Ls d pd_m120 (mm_lA L 0 fun v => mm_go 193 L (v :: st) S) o := pd_Gs (i := .aload_n 0) (n := 1) rfl
theorem p120_193 : pd_G xs Ls d pd_m120 (193, L, st, S) o ↔ pd_K xs Ls d pd_m120 (mm_go 194 L (.int 4 :: st) S) o := pd_Gs (i := .iconst 4) (n := 1) rfl
theorem p120_194 : pd_G xs Ls d pd_m120 (194, L, st, S) o ↔ pd_K xs Ls d pd_m120 (mm_putf pd_ck 194 L st S 7 39) o := pd_Gs (i := .putfield 85) (n := 3) rfl
theorem p120_197 : pd_G xs Ls d pd_m120 (197, L, st, S) o ↔ pd_K xs Ls d pd_m120 (mm_lD L 7 fun x => mm_go 199 L (.double x :: st) S) o := pd_Gs (i := .dload 7) (n := 2) rfl
theorem p120_199 : pd_G xs Ls d pd_m120 (199, L, st, S) o ↔ pd_K xs Ls d pd_m120 (mm_rD S st) o := pd_Gs (i := .dreturn) (n := 1) rfl
theorem p121_0 : pd_G xs Ls d pd_m121 (0, L, st, S) o ↔ pd_K xs Ls d pd_m121 (mm_lA L 0 fun v => mm_go 1 L (v :: st) S) o := pd_Gs (i := .aload_n 0) (n := 1) rfl
theorem p121_1 : pd_G xs Ls d pd_m121 (1, L, st, S) o ↔ pd_K xs Ls d pd_m121 (mm_getf pd_ck 1 L st S 7 4) o := pd_Gs (i := .getfield 22) (n := 3) rfl
theorem p121_4 : pd_G xs Ls d pd_m121 (4, L, st, S) o ↔ pd_K xs Ls d pd_m121 (mm_lI L 3 fun x => mm_go 5 L (.int x :: st) S) o := pd_Gs (i := .iload_n 3) (n := 1) rfl
theorem p121_5 : pd_G xs Ls d pd_m121 (5, L, st, S) o ↔ pd_K xs Ls d pd_m121 (mm_ai pd_ak S st 4 fun i a r => mm_go 6 L (.int (S.2.1.1 a i.toNatClampNeg) :: r) S) o := pd_Gs (i := .baload) (n := 1) rfl
theorem p121_6 : pd_G xs Ls d pd_m121 (6, L, st, S) o ↔ pd_K xs Ls d pd_m121 (mm_i st fun x r => mm_icmp .ne x 0 (mm_go 17 L r S) (mm_go 9 L r S)) o := pd_Gs (i := .ifCond .ne 11) (n := 3) rfl
theorem p121_9 : pd_G xs Ls d pd_m121 (9, L, st, S) o ↔ pd_K xs Ls d pd_m121 (mm_lA L 0 fun v => mm_go 10 L (v :: st) S) o := pd_Gs (i := .aload_n 0) (n := 1) rfl
theorem p121_10 : pd_G xs Ls d pd_m121 (10, L, st, S) o ↔ pd_K xs Ls d pd_m121 (mm_go 11 L (.int 2 :: st) S) o := pd_Gs (i := .iconst 2) (n := 1) rfl
theorem p121_11 : pd_G xs Ls d pd_m121 (11, L, st, S) o ↔ pd_K xs Ls d pd_m121 (mm_putf pd_ck 11 L st S 7 39) o := pd_Gs (i := .putfield 85) (n := 3) rfl
theorem p121_14 : pd_G xs Ls d pd_m121 (14, L, st, S) o ↔ pd_K xs Ls d pd_m121 (mm_go 40 L st S) o := pd_Gs (i := .goto 26) (n := 3) rfl
theorem p121_17 : pd_G xs Ls d pd_m121 (17, L, st, S) o ↔ pd_K xs Ls d pd_m121 (mm_lA L 0 fun v => mm_go 18 L (v :: st) S) o := pd_Gs (i := .aload_n 0) (n := 1) rfl
theorem p121_18 : pd_G xs Ls d pd_m121 (18, L, st, S) o ↔ pd_K xs Ls d pd_m121 (mm_getf pd_ck 18 L st S 7 28) o := pd_Gs (i := .getfield 70) (n := 3) rfl
theorem p121_21 : pd_G xs Ls d pd_m121 (21, L, st, S) o ↔ pd_K xs Ls d pd_m121 (mm_lI L 1 fun x => mm_go 22 L (.int x :: st) S) o := pd_Gs (i := .iload_n 1) (n := 1) rfl
theorem p121_22 : pd_G xs Ls d pd_m121 (22, L, st, S) o ↔ pd_K xs Ls d pd_m121 (mm_ial xs Ls pd_ak 22 L S st) o := pd_Gs (i := .iaload) (n := 1) rfl
theorem p121_23 : pd_G xs Ls d pd_m121 (23, L, st, S) o ↔ pd_K xs Ls d pd_m121 (mm_lA L 0 fun v => mm_go 24 L (v :: st) S) o := pd_Gs (i := .aload_n 0) (n := 1) rfl
theorem p121_24 : pd_G xs Ls d pd_m121 (24, L, st, S) o ↔ pd_K xs Ls d pd_m121 (mm_getf pd_ck 24 L st S 7 29) o := pd_Gs (i := .getfield 73) (n := 3) rfl
theorem p121_27 : pd_G xs Ls d pd_m121 (27, L, st, S) o ↔ pd_K xs Ls d pd_m121 (mm_lI L 1 fun x => mm_go 28 L (.int x :: st) S) o := pd_Gs (i := .iload_n 1) (n := 1) rfl
theorem p121_28 : pd_G xs Ls d pd_m121 (28, L, st, S) o ↔ pd_K xs Ls d pd_m121 (mm_ial xs Ls pd_ak 28 L S st) o := pd_Gs (i := .iaload) (n := 1) rfl
theorem p121_29 : pd_G xs Ls d pd_m121 (29, L, st, S) o ↔ pd_K xs Ls d pd_m121 (mm_ii st fun x y r => mm_go 30 L (.int (x + y) :: r) S) o := pd_Gs (i := .iadd) (n := 1) rfl
theorem p121_30 : pd_G xs Ls d pd_m121 (30, L, st, S) o ↔ pd_K xs Ls d pd_m121 (mm_go 32 L (.int 6 :: st) S) o := pd_Gs (i := .bipush 6) (n := 2) rfl
theorem p121_32 : pd_G xs Ls d pd_m121 (32, L, st, S) o ↔ pd_K xs Ls d pd_m121 (mm_ii st fun x y r => mm_icmp .ne x y (mm_go 40 L r S) (mm_go 35 L r S)) o := pd_Gs (i := .if_icmp .ne 8) (n := 3) rfl
theorem p121_35 : pd_G xs Ls d pd_m121 (35, L, st, S) o ↔ pd_K xs Ls d pd_m121 (mm_lA L 0 fun v => mm_go 36 L (v :: st) S) o := pd_Gs (i := .aload_n 0) (n := 1) rfl
theorem p121_36 : pd_G xs Ls d pd_m121 (36, L, st, S) o ↔ pd_K xs Ls d pd_m121 (mm_go 37 L (.int 3 :: st) S) o := pd_Gs (i := .iconst 3) (n := 1) rfl
theorem p121_37 : pd_G xs Ls d pd_m121 (37, L, st, S) o ↔ pd_K xs Ls d pd_m121 (mm_putf pd_ck 37 L st S 7 39) o := pd_Gs (i := .putfield 85) (n := 3) rfl
theorem p121_40 : pd_G xs Ls d pd_m121 (40, L, st, S) o ↔ pd_K xs Ls d pd_m121 (mm_lA L 0 fun v => mm_go 41 L (v :: st) S) o := pd_Gs (i := .aload_n 0) (n := 1) rfl
theorem p121_41 : pd_G xs Ls d pd_m121 (41, L, st, S) o ↔ pd_K xs Ls d pd_m121 (mm_getf pd_ck 41 L st S 7 39) o := pd_Gs (i := .getfield 85) (n := 3) rfl
theorem p121_44 : pd_G xs Ls d pd_m121 (44, L, st, S) o ↔ pd_K xs Ls d pd_m121 (mm_i st fun x r => mm_icmp .eq x 0 (mm_go 48 L r S) (mm_go 47 L r S)) o := pd_Gs (i := .ifCond .eq 4) (n := 3) rfl
theorem p121_47 : pd_G xs Ls d pd_m121 (47, L, st, S) o ↔ pd_K xs Ls d pd_m121 (mm_rV S st) o := pd_Gs (i := .return_) (n := 1) rfl
theorem p121_48 : pd_G xs Ls d pd_m121 (48, L, st, S) o ↔ pd_K xs Ls d pd_m121 (mm_lA L 0 fun v => mm_go 49 L (v :: st) S) o := pd_Gs (i := .aload_n 0) (n := 1) rfl
theorem p121_49 : pd_G xs Ls d pd_m121 (49, L, st, S) o ↔ pd_K xs Ls d pd_m121 (mm_getf pd_ck 49 L st S 7 30) o := pd_Gs (i := .getfield 76) (n := 3) rfl
theorem p121_52 : pd_G xs Ls d pd_m121 (52, L, st, S) o ↔ pd_K xs Ls d pd_m121 (mm_lI L 1 fun x => mm_go 53 L (.int x :: st) S) o := pd_Gs (i := .iload_n 1) (n := 1) rfl
theorem p121_53 : pd_G xs Ls d pd_m121 (53, L, st, S) o ↔ pd_K xs Ls d pd_m121 (mm_go 55 L (.int 8 :: st) S) o := pd_Gs (i := .bipush 8) (n := 2) rfl
theorem p121_55 : pd_G xs Ls d pd_m121 (55, L, st, S) o ↔ pd_K xs Ls d pd_m121 (mm_ii st fun x y r => mm_go 56 L (.int (x * y) :: r) S) o := pd_Gs (i := .imul) (n := 1) rfl
theorem p121_56 : pd_G xs Ls d pd_m121 (56, L, st, S) o ↔ pd_K xs Ls d pd_m121 (mm_lA L 0 fun v => mm_go 57 L (v :: st) S) o := pd_Gs (i := .aload_n 0) (n := 1) rfl
theorem p121_57 : pd_G xs Ls d pd_m121 (57, L, st, S) o ↔ pd_K xs Ls d pd_m121 (mm_getf pd_ck 57 L st S 7 29) o := pd_Gs (i := .getfield 73) (n := 3) rfl
theorem p121_60 : pd_G xs Ls d pd_m121 (60, L, st, S) o ↔ pd_K xs Ls d pd_m121 (mm_lI L 1 fun x => mm_go 61 L (.int x :: st) S) o := pd_Gs (i := .iload_n 1) (n := 1) rfl
theorem p121_61 : pd_G xs Ls d pd_m121 (61, L, st, S) o ↔ pd_K xs Ls d pd_m121 (mm_ial xs Ls pd_ak 61 L S st) o := pd_Gs (i := .iaload) (n := 1) rfl
theorem p121_62 : pd_G xs Ls d pd_m121 (62, L, st, S) o ↔ pd_K xs Ls d pd_m121 (mm_ii st fun x y r => mm_go 63 L (.int (x + y) :: r) S) o := pd_Gs (i := .iadd) (n := 1) rfl
theorem p121_63 : pd_G xs Ls d pd_m121 (63, L, st, S) o ↔ pd_K xs Ls d pd_m121 (mm_lI L 2 fun x => mm_go 64 L (.int x :: st) S) o := pd_Gs (i := .iload_n 2) (n := 1) rfl
theorem p121_64 : pd_G xs Ls d pd_m121 (64, L, st, S) o ↔ pd_K xs Ls d pd_m121 (mm_go 65 L (.int 1 :: st) S) o := pd_Gs (i := .iconst 1) (n := 1) rfl
theorem p121_65 : pd_G xs Ls d pd_m121 (65, L, st, S) o ↔ pd_K xs Ls d pd_m121 (mm_ii st fun x y r => mm_go 66 L (.int (x + y) :: r) S) o := pd_Gs (i := .iadd) (n := 1) rfl
theorem p121_66 : pd_G xs Ls d pd_m121 (66, L, st, S) o ↔ pd_K xs Ls d pd_m121 (mm_i st fun x st => mm_ai pd_ak S st 0 fun i a r => mm_go 67 L r (mm_sI S a i.toNatClampNeg x)) o := pd_Gs (i := .iastore) (n := 1) rfl
theorem p121_67 : pd_G xs Ls d pd_m121 (67, L, st, S) o ↔ pd_K xs Ls d pd_m121 (mm_lA L 0 fun v => mm_go 68 L (v :: st) S) o := pd_Gs (i := .aload_n 0) (n := 1) rfl
theorem p121_68 : pd_G xs Ls d pd_m121 (68, L, st, S) o ↔ pd_K xs Ls d pd_m121 (mm_getf pd_ck 68 L st S 7 29) o := pd_Gs (i := .getfield 73) (n := 3) rfl
theorem p121_71 : pd_G xs Ls d pd_m121 (71, L, st, S) o ↔ pd_K xs Ls d pd_m121 (mm_lI L 1 fun x => mm_go 72 L (.int x :: st) S) o := pd_Gs (i := .iload_n 1) (n := 1) rfl
theorem p121_72 : pd_G xs Ls d pd_m121 (72, L, st, S) o ↔ pd_K xs Ls d pd_m121 (mm_2 st fun v w r => cond (mm_c2 v || mm_c2 w) none (mm_go 73 L (v :: w :: v :: w :: r) S)) o := pd_Gs (i := .dup2) (n := 1) rfl
theorem p121_73 : pd_G xs Ls d pd_m121 (73, L, st, S) o ↔ pd_K xs Ls d pd_m121 (mm_ial xs Ls pd_ak 73 L S st) o := pd_Gs (i := .iaload) (n := 1) rfl
theorem p121_74 : pd_G xs Ls d pd_m121 (74, L, st, S) o ↔ pd_K xs Ls d pd_m121 (mm_go 75 L (.int 1 :: st) S) o := pd_Gs (i := .iconst 1) (n := 1) rfl
theorem p121_75 : pd_G xs Ls d pd_m121 (75, L, st, S) o ↔ pd_K xs Ls d pd_m121 (mm_ii st fun x y r => mm_go 76 L (.int (x + y) :: r) S) o := pd_Gs (i := .iadd) (n := 1) rfl
theorem p121_76 : pd_G xs Ls d pd_m121 (76, L, st, S) o ↔ pd_K xs Ls d pd_m121 (mm_i st fun x st => mm_ai pd_ak S st 0 fun i a r => mm_go 77 L r (mm_sI S a i.toNatClampNeg x)) o := pd_Gs (i := .iastore) (n := 1) rfl
theorem p121_77 : pd_G xs Ls d pd_m121 (77, L, st, S) o ↔ pd_K xs Ls d pd_m121 (mm_lA L 0 fun v => mm_go 78 L (v :: st) S) o := pd_Gs (i := .aload_n 0) (n := 1) rfl
theorem p121_78 : pd_G xs Ls d pd_m121 (78, L, st, S) o ↔ pd_K xs Ls d pd_m121 (mm_getf pd_ck 78 L st S 7 25) o := pd_Gs (i := .getfield 61) (n := 3) rfl
theorem p121_81 : pd_G xs Ls d pd_m121 (81, L, st, S) o ↔ pd_K xs Ls d pd_m121 (mm_lI L 1 fun x => mm_go 82 L (.int x :: st) S) o := pd_Gs (i := .iload_n 1) (n := 1) rfl
theorem p121_82 : pd_G xs Ls d pd_m121 (82, L, st, S) o ↔ pd_K xs Ls d pd_m121 (mm_lI L 3 fun x => mm_go 83 L (.int x :: st) S) o := pd_Gs (i := .iload_n 3) (n := 1) rfl
theorem p121_83 : pd_G xs Ls d pd_m121 (83, L, st, S) o ↔ pd_K xs Ls d pd_m121 (mm_go 86 L (.int 128 :: st) S) o := pd_Gs (i := .sipush 128) (n := 3) rfl
theorem p121_86 : pd_G xs Ls d pd_m121 (86, L, st, S) o ↔ pd_K xs Ls d pd_m121 (mm_ii st fun x y r => mm_go 87 L (.int (x * y) :: r) S) o := pd_Gs (i := .imul) (n := 1) rfl
theorem p121_87 : pd_G xs Ls d pd_m121 (87, L, st, S) o ↔ pd_K xs Ls d pd_m121 (mm_i st fun x st => mm_ai pd_ak S st 0 fun i a r => mm_go 88 L r (mm_sI S a i.toNatClampNeg x)) o := pd_Gs (i := .iastore) (n := 1) rfl
theorem p121_88 : pd_G xs Ls d pd_m121 (88, L, st, S) o ↔ pd_K xs Ls d pd_m121 (mm_rV S st) o := pd_Gs (i := .return_) (n := 1) rfl
theorem p122_0 : pd_G xs Ls d pd_m122 (0, L, st, S) o ↔ pd_K xs Ls d pd_m122 (mm_go 1 L (.int 0 :: st) S) o := pd_Gs (i := .iconst 0) (n := 1) rfl
theorem p122_1 : pd_G xs Ls d pd_m122 (1, L, st, S) o ↔ pd_K xs Ls d pd_m122 (mm_i st fun x r => mm_go 2 (mm_sto L 0 2 (.int x)) r S) o := pd_Gs (i := .istore_n 2) (n := 1) rfl
theorem p122_2 : pd_G xs Ls d pd_m122 (2, L, st, S) o ↔ pd_K xs Ls d pd_m122 (mm_lI L 2 fun x => mm_go 3 L (.int x :: st) S) o := pd_Gs (i := .iload_n 2) (n := 1) rfl
theorem p122_3 : pd_G xs Ls d pd_m122 (3, L, st, S) o ↔ pd_K xs Ls d pd_m122 (mm_lA L 0 fun v => mm_go 4 L (v :: st) S) o := pd_Gs (i := .aload_n 0) (n := 1) rfl
theorem p122_4 : pd_G xs Ls d pd_m122 (4, L, st, S) o ↔ pd_K xs Ls d pd_m122 (mm_getf pd_ck 4 L st S 7 33) o := pd_Gs (i := .getfield 193) (n := 3) rfl
theorem p122_7 : pd_G xs Ls d pd_m122 (7, L, st, S) o ↔ pd_K xs Ls d pd_m122 (mm_ii st fun x y r => mm_icmp .ge x y (mm_go 31 L r S) (mm_go 10 L r S)) o := pd_Gs (i := .if_icmp .ge 24) (n := 3) rfl
theorem p122_10 : pd_G xs Ls d pd_m122 (10, L, st, S) o ↔ pd_K xs Ls d pd_m122 (mm_lA L 0 fun v => mm_go 11 L (v :: st) S) o := pd_Gs (i := .aload_n 0) (n := 1) rfl
theorem p122_11 : pd_G xs Ls d pd_m122 (11, L, st, S) o ↔ pd_K xs Ls d pd_m122 (mm_getf pd_ck 11 L st S 7 32) o := pd_Gs (i := .getfield 82) (n := 3) rfl
theorem p122_14 : pd_G xs Ls d pd_m122 (14, L, st, S) o ↔ pd_K xs Ls d pd_m122 (mm_lA L 0 fun v => mm_go 15 L (v :: st) S) o := pd_Gs (i := .aload_n 0) (n := 1) rfl
theorem p122_15 : pd_G xs Ls d pd_m122 (15, L, st, S) o ↔ pd_K xs Ls d pd_m122 (mm_getf pd_ck 15 L st S 7 31) o := pd_Gs (i := .getfield 79) (n := 3) rfl
theorem p122_18 : pd_G xs Ls d pd_m122 (18, L, st, S) o ↔ pd_K xs Ls d pd_m122 (mm_lI L 2 fun x => mm_go 19 L (.int x :: st) S) o := pd_Gs (i := .iload_n 2) (n := 1) rfl
theorem p122_19 : pd_G xs Ls d pd_m122 (19, L, st, S) o ↔ pd_K xs Ls d pd_m122 (mm_ial xs Ls pd_ak 19 L S st) o := pd_Gs (i := .iaload) (n := 1) rfl
theorem p122_20 : pd_G xs Ls d pd_m122 (20, L, st, S) o ↔ pd_K xs Ls d pd_m122 (mm_ial xs Ls pd_ak 20 L S st) o := pd_Gs (i := .iaload) (n := 1) rfl
theorem p122_21 : pd_G xs Ls d pd_m122 (21, L, st, S) o ↔ pd_K xs Ls d pd_m122 (mm_lI L 1 fun x => mm_go 22 L (.int x :: st) S) o := pd_Gs (i := .iload_n 1) (n := 1) rfl
theorem p122_22 : pd_G xs Ls d pd_m122 (22, L, st, S) o ↔ pd_K xs Ls d pd_m122 (mm_ii st fun x y r => mm_icmp .eq x y (mm_go 31 L r S) (mm_go 25 L r S)) o := pd_Gs (i := .if_icmp .eq 9) (n := 3) rfl
theorem p122_25 : pd_G xs Ls d pd_m122 (25, L, st, S) o ↔ pd_K xs Ls d pd_m122 (mm_lI L 2 fun x => mm_go 28 (mm_sto L 0 2 (.int (x + 1))) st S) o := pd_Gs (i := .iinc 2 1) (n := 3) rfl
theorem p122_28 : pd_G xs Ls d pd_m122 (28, L, st, S) o ↔ pd_K xs Ls d pd_m122 (mm_go 2 L st S) o := pd_Gs (i := .goto (-26)) (n := 3) rfl
theorem p122_31 : pd_G xs Ls d pd_m122 (31, L, st, S) o ↔ pd_K xs Ls d pd_m122 (mm_lI L 2 fun x => mm_go 32 L (.int x :: st) S) o := pd_Gs (i := .iload_n 2) (n := 1) rfl
theorem p122_32 : pd_G xs Ls d pd_m122 (32, L, st, S) o ↔ pd_K xs Ls d pd_m122 (mm_lA L 0 fun v => mm_go 33 L (v :: st) S) o := pd_Gs (i := .aload_n 0) (n := 1) rfl
theorem p122_33 : pd_G xs Ls d pd_m122 (33, L, st, S) o ↔ pd_K xs Ls d pd_m122 (mm_getf pd_ck 33 L st S 7 33) o := pd_Gs (i := .getfield 193) (n := 3) rfl
theorem p122_36 : pd_G xs Ls d pd_m122 (36, L, st, S) o ↔ pd_K xs Ls d pd_m122 (mm_ii st fun x y r => mm_icmp .ne x y (mm_go 50 L r S) (mm_go 39 L r S)) o := pd_Gs (i := .if_icmp .ne 14) (n := 3) rfl
theorem p122_39 : pd_G xs Ls d pd_m122 (39, L, st, S) o ↔ pd_K xs Ls d pd_m122 (mm_lA L 0 fun v => mm_go 40 L (v :: st) S) o := pd_Gs (i := .aload_n 0) (n := 1) rfl
theorem p122_40 : pd_G xs Ls d pd_m122 (40, L, st, S) o ↔ pd_K xs Ls d pd_m122 (mm_getf pd_ck 40 L st S 7 23) o := pd_Gs (i := .getfield 55) (n := 3) rfl
theorem p122_43 : pd_G xs Ls d pd_m122 (43, L, st, S) o ↔ pd_K xs Ls d pd_m122 (mm_lI L 1 fun x => mm_go 44 L (.int x :: st) S) o := pd_Gs (i := .iload_n 1) (n := 1) rfl
theorem p122_44 : pd_G xs Ls d pd_m122 (44, L, st, S) o ↔ pd_K xs Ls d pd_m122 (mm_2 st fun v w r => cond (mm_c2 v || mm_c2 w) none (mm_go 45 L (v :: w :: v :: w :: r) S)) o := pd_Gs (i := .dup2) (n := 1) rfl
theorem p122_45 : pd_G xs Ls d pd_m122 (45, L, st, S) o ↔ pd_K xs Ls d pd_m122 (mm_ial xs Ls pd_ak 45 L S st) o := pd_Gs (i := .iaload) (n := 1) rfl
theorem p122_46 : pd_G xs Ls d pd_m122 (46, L, st, S) o ↔ pd_K xs Ls d pd_m122 (mm_go 47 L (.int 1 :: st) S) o := pd_Gs (i := .iconst 1) (n := 1) rfl
theorem p122_47 : pd_G xs Ls d pd_m122 (47, L, st, S) o ↔ pd_K xs Ls d pd_m122 (mm_ii st fun x y r => mm_go 48 L (.int (x + y) :: r) S) o := pd_Gs (i := .iadd) (n := 1) rfl
theorem p122_48 : pd_G xs Ls d pd_m122 (48, L, st, S) o ↔ pd_K xs Ls d pd_m122 (mm_i st fun x st => mm_ai pd_ak S st 0 fun i a r => mm_go 49 L r (mm_sI S a i.toNatClampNeg x)) o := pd_Gs (i := .iastore) (n := 1) rfl
theorem p122_49 : pd_G xs Ls d pd_m122 (49, L, st, S) o ↔ pd_K xs Ls d pd_m122 (mm_rV S st) o := pd_Gs (i := .return_) (n := 1) rfl
theorem p122_50 : pd_G xs Ls d pd_m122 (50, L, st, S) o ↔ pd_K xs Ls d pd_m122 (mm_lA L 0 fun v => mm_go 51 L (v :: st) S) o := pd_Gs (i := .aload_n 0) (n := 1) rfl
theorem p122_51 : pd_G xs Ls d pd_m122 (51, L, st, S) o ↔ pd_K xs Ls d pd_m122 (mm_getf pd_ck 51 L st S 7 31) o := pd_Gs (i := .getfield 79) (n := 3) rfl
theorem p122_54 : pd_G xs Ls d pd_m122 (54, L, st, S) o ↔ pd_K xs Ls d pd_m122 (mm_lI L 2 fun x => mm_go 55 L (.int x :: st) S) o := pd_Gs (i := .iload_n 2) (n := 1) rfl
theorem p122_55 : pd_G xs Ls d pd_m122 (55, L, st, S) o ↔ pd_K xs Ls d pd_m122 (mm_ial xs Ls pd_ak 55 L S st) o := pd_Gs (i := .iaload) (n := 1) rfl
theorem p122_56 : pd_G xs Ls d pd_m122 (56, L, st, S) o ↔ pd_K xs Ls d pd_m122 (mm_i st fun x r => mm_go 57 (mm_sto L 0 3 (.int x)) r S) o := pd_Gs (i := .istore_n 3) (n := 1) rfl
theorem p122_57 : pd_G xs Ls d pd_m122 (57, L, st, S) o ↔ pd_K xs Ls d pd_m122 (mm_lA L 0 fun v => mm_go 58 L (v :: st) S) o := pd_Gs (i := .aload_n 0) (n := 1) rfl
theorem p122_58 : pd_G xs Ls d pd_m122 (58, L, st, S) o ↔ pd_K xs Ls d pd_m122 (mm_1 st fun v r => cond (mm_c2 v) none (mm_go 59 L (v :: v :: r) S)) o := pd_Gs (i := .dup) (n := 1) rfl
theorem p122_59 : pd_G xs Ls d pd_m122 (59, L, st, S) o ↔ pd_K xs Ls d pd_m122 (mm_getf pd_ck 59 L st S 7 33) o := pd_Gs (i := .getfield 193) (n := 3) rfl
theorem p122_62 : pd_G xs Ls d pd_m122 (62, L, st, S) o ↔ pd_K xs Ls d pd_m122 (mm_go 63 L (.int 1 :: st) S) o := pd_Gs (i := .iconst 1) (n := 1) rfl
theorem p122_63 : pd_G xs Ls d pd_m122 (63, L, st, S) o ↔ pd_K xs Ls d pd_m122 (mm_ii st fun x y r => mm_go 64 L (.int (x - y) :: r) S) o := pd_Gs (i := .isub) (n := 1) rfl
theorem p122_64 : pd_G xs Ls d pd_m122 (64, L, st, S) o ↔ pd_K xs Ls d pd_m122 (mm_putf pd_ck 64 L st S 7 33) o := pd_Gs (i := .putfield 193) (n := 3) rfl
theorem p122_67 : pd_G xs Ls d pd_m122 (67, L, st, S) o ↔ pd_K xs Ls d pd_m122 (mm_lI L 2 fun x => mm_go 68 L (.int x :: st) S) o := pd_Gs (i := .iload_n 2) (n := 1) rfl
theorem p122_68 : pd_G xs Ls d pd_m122 (68, L, st, S) o ↔ pd_K xs Ls d pd_m122 (mm_i st fun x r => mm_go 70 (mm_sto L 0 4 (.int x)) r S) o := pd_Gs (i := .istore 4) (n := 2) rfl
theorem p122_70 : pd_G xs Ls d pd_m122 (70, L, st, S) o ↔ pd_K xs Ls d pd_m122 (mm_lI L 4 fun x => mm_go 72 L (.int x :: st) S) o := pd_Gs (i := .iload 4) (n := 2) rfl
theorem p122_72 : pd_G xs Ls d pd_m122 (72, L, st, S) o ↔ pd_K xs Ls d pd_m122 (mm_lA L 0 fun v => mm_go 73 L (v :: st) S) o := pd_Gs (i := .aload_n 0) (n := 1) rfl
theorem p122_73 : pd_G xs Ls d pd_m122 (73, L, st, S) o ↔ pd_K xs Ls d pd_m122 (mm_getf pd_ck 73 L st S 7 33) o := pd_Gs (i := .getfield 193) (n := 3) rfl
theorem p122_76 : pd_G xs Ls d pd_m122 (76, L, st, S) o ↔ pd_K xs Ls d pd_m122 (mm_ii st fun x y r => mm_icmp .ge x y (mm_go 101 L r S) (mm_go 79 L r S)) o := pd_Gs (i := .if_icmp .ge 25) (n := 3) rfl
theorem p122_79 : pd_G xs Ls d pd_m122 (79, L, st, S) o ↔ pd_K xs Ls d pd_m122 (mm_lA L 0 fun v => mm_go 80 L (v :: st) S) o := pd_Gs (i := .aload_n 0) (n := 1) rfl
theorem p122_80 : pd_G xs Ls d pd_m122 (80, L, st, S) o ↔ pd_K xs Ls d pd_m122 (mm_getf pd_ck 80 L st S 7 31) o := pd_Gs (i := .getfield 79) (n := 3) rfl
theorem p122_83 : pd_G xs Ls d pd_m122 (83, L, st, S) o ↔ pd_K xs Ls d pd_m122 (mm_lI L 4 fun x => mm_go 85 L (.int x :: st) S) o := pd_Gs (i := .iload 4) (n := 2) rfl
theorem p122_85 : pd_G xs Ls d pd_m122 (85, L, st, S) o ↔ pd_K xs Ls d pd_m122 (mm_lA L 0 fun v => mm_go 86 L (v :: st) S) o := pd_Gs (i := .aload_n 0) (n := 1) rfl
theorem p122_86 : pd_G xs Ls d pd_m122 (86, L, st, S) o ↔ pd_K xs Ls d pd_m122 (mm_getf pd_ck 86 L st S 7 31) o := pd_Gs (i := .getfield 79) (n := 3) rfl
theorem p122_89 : pd_G xs Ls d pd_m122 (89, L, st, S) o ↔ pd_K xs Ls d pd_m122 (mm_lI L 4 fun x => mm_go 91 L (.int x :: st) S) o := pd_Gs (i := .iload 4) (n := 2) rfl
theorem p122_91 : pd_G xs Ls d pd_m122 (91, L, st, S) o ↔ pd_K xs Ls d pd_m122 (mm_go 92 L (.int 1 :: st) S) o := pd_Gs (i := .iconst 1) (n := 1) rfl
theorem p122_92 : pd_G xs Ls d pd_m122 (92, L, st, S) o ↔ pd_K xs Ls d pd_m122 (mm_ii st fun x y r => mm_go 93 L (.int (x + y) :: r) S) o := pd_Gs (i := .iadd) (n := 1) rfl
theorem p122_93 : pd_G xs Ls d pd_m122 (93, L, st, S) o ↔ pd_K xs Ls d pd_m122 (mm_ial xs Ls pd_ak 93 L S st) o := pd_Gs (i := .iaload) (n := 1) rfl
theorem p122_94 : pd_G xs Ls d pd_m122 (94, L, st, S) o ↔ pd_K xs Ls d pd_m122 (mm_i st fun x st => mm_ai pd_ak S st 0 fun i a r => mm_go 95 L r (mm_sI S a i.toNatClampNeg x)) o := pd_Gs (i := .iastore) (n := 1) rfl
theorem p122_95 : pd_G xs Ls d pd_m122 (95, L, st, S) o ↔ pd_K xs Ls d pd_m122 (mm_lI L 4 fun x => mm_go 98 (mm_sto L 0 4 (.int (x + 1))) st S) o := pd_Gs (i := .iinc 4 1) (n := 3) rfl
theorem p122_98 : pd_G xs Ls d pd_m122 (98, L, st, S) o ↔ pd_K xs Ls d pd_m122 (mm_go 70 L st S) o := pd_Gs (i := .goto (-28)) (n := 3) rfl
theorem p122_101 : pd_G xs Ls d pd_m122 (101, L, st, S) o ↔ pd_K xs Ls d pd_m122 (mm_lA L 0 fun v => mm_go 102 L (v :: st) S) o := pd_Gs (i := .aload_n 0) (n := 1) rfl
theorem p122_102 : pd_G xs Ls d pd_m122 (102, L, st, S) o ↔ pd_K xs Ls d pd_m122 (mm_getf pd_ck 102 L st S 7 24) o := pd_Gs (i := .getfield 58) (n := 3) rfl
theorem p122_105 : pd_G xs Ls d pd_m122 (105, L, st, S) o ↔ pd_K xs Ls d pd_m122 (mm_lI L 3 fun x => mm_go 106 L (.int x :: st) S) o := pd_Gs (i := .iload_n 3) (n := 1) rfl
theorem p122_106 : pd_G xs Ls d pd_m122 (106, L, st, S) o ↔ pd_K xs Ls d pd_m122 (mm_go 107 L (.int 1 :: st) S) o := pd_Gs (i := .iconst 1) (n := 1) rfl
theorem p122_107 : pd_G xs Ls d pd_m122 (107, L, st, S) o ↔ pd_K xs Ls d pd_m122 (mm_i st fun x st => mm_ai pd_ak S st 0 fun i a r => mm_go 108 L r (mm_sI S a i.toNatClampNeg x)) o := pd_Gs (i := .iastore) (n := 1) rfl
theorem p122_108 : pd_G xs Ls d pd_m122 (108, L, st, S) o ↔ pd_K xs Ls d pd_m122 (mm_lA L 0 fun v => mm_go 109 L (v :: st) S) o := pd_Gs (i := .aload_n 0) (n := 1) rfl
theorem p122_109 : pd_G xs Ls d pd_m122 (109, L, st, S) o ↔ pd_K xs Ls d pd_m122 (mm_lI L 3 fun x => mm_go 110 L (.int x :: st) S) o := pd_Gs (i := .iload_n 3) (n := 1) rfl
theorem p122_110 : pd_G xs Ls d pd_m122 (110, L, st, S) o ↔ pd_K xs Ls d pd_m122 (mm_inv (mm_ev xs Ls pd_ck pd_ak pd_mj d) pd_m122 110 L st S 123 1 7) o := pd_Gs (i := .invokevirtual 196) (n := 3) rfl
theorem p122_113 : pd_G xs Ls d pd_m122 (113, L, st, S) o ↔ pd_K xs Ls d pd_m122 (mm_rV S st) o := pd_Gs (i := .return_) (n := 1) rfl
theorem p123_0 : pd_G xs Ls d pd_m123 (0, L, st, S) o ↔ pd_K xs Ls d pd_m123 (mm_lI L 1 fun x => mm_go 1 L (.int x :: st) S) o := pd_Gs (i := .iload_n 1) (n := 1) rfl
theorem p123_1 : pd_G xs Ls d pd_m123 (1, L, st, S) o ↔ pd_K xs Ls d pd_m123 (mm_i st fun x r => mm_go 2 (mm_sto L 0 2 (.int x)) r S) o := pd_Gs (i := .istore_n 2) (n := 1) rfl
theorem p123_2 : pd_G xs Ls d pd_m123 (2, L, st, S) o ↔ pd_K xs Ls d pd_m123 (mm_lI L 2 fun x => mm_go 3 L (.int x :: st) S) o := pd_Gs (i := .iload_n 2) (n := 1) rfl
theorem p123_3 : pd_G xs Ls d pd_m123 (3, L, st, S) o ↔ pd_K xs Ls d pd_m123 (mm_i st fun x r => mm_icmp .lt x 0 (mm_go 166 L r S) (mm_go 6 L r S)) o := pd_Gs (i := .ifCond .lt 163) (n := 3) rfl
theorem p123_6 : pd_G xs Ls d pd_m123 (6, L, st, S) o ↔ pd_K xs Ls d pd_m123 (mm_lA L 0 fun v => mm_go 7 L (v :: st) S) o := pd_Gs (i := .aload_n 0) (n := 1) rfl
theorem p123_7 : pd_G xs Ls d pd_m123 (7, L, st, S) o ↔ pd_K xs Ls d pd_m123 (mm_getf pd_ck 7 L st S 7 1) o := pd_Gs (i := .getfield 13) (n := 3) rfl
theorem p123_10 : pd_G xs Ls d pd_m123 (10, L, st, S) o ↔ pd_K xs Ls d pd_m123 (mm_lA L 0 fun v => mm_go 11 L (v :: st) S) o := pd_Gs (i := .aload_n 0) (n := 1) rfl
theorem p123_11 : pd_G xs Ls d pd_m123 (11, L, st, S) o ↔ pd_K xs Ls d pd_m123 (mm_getf pd_ck 11 L st S 7 25) o := pd_Gs (i := .getfield 61) (n := 3) rfl
theorem p123_14 : pd_G xs Ls d pd_m123 (14, L, st, S) o ↔ pd_K xs Ls d pd_m123 (mm_lI L 2 fun x => mm_go 15 L (.int x :: st) S) o := pd_Gs (i := .iload_n 2) (n := 1) rfl
theorem p123_15 : pd_G xs Ls d pd_m123 (15, L, st, S) o ↔ pd_K xs Ls d pd_m123 (mm_ial xs Ls pd_ak 15 L S st) o := pd_Gs (i := .iaload) (n := 1) rfl
theorem p123_16 : pd_G xs Ls d pd_m123 (16, L, st, S) o ↔ pd_K xs Ls d pd_m123 (mm_ial xs Ls pd_ak 16 L S st) o := pd_Gs (i := .iaload) (n := 1) rfl
theorem p123_17 : pd_G xs Ls d pd_m123 (17, L, st, S) o ↔ pd_K xs Ls d pd_m123 (mm_i st fun x r => mm_go 18 (mm_sto L 0 3 (.int x)) r S) o := pd_Gs (i := .istore_n 3) (n := 1) rfl
theorem p123_18 : pd_G xs Ls d pd_m123 (18, L, st, S) o ↔ pd_K xs Ls d pd_m123 (mm_lI L 3 fun x => mm_go 19 L (.int x :: st) S) o := pd_Gs (i := .iload_n 3) (n := 1) rfl
theorem p123_19 : pd_G xs Ls d pd_m123 (19, L, st, S) o ↔ pd_K xs Ls d pd_m123 (mm_go 21 L (.int 29 :: st) S) o := pd_Gs (i := .bipush 29) (n := 2) rfl
theorem p123_21 : pd_G xs Ls d pd_m123 (21, L, st, S) o ↔ pd_K xs Ls d pd_m123 (mm_ii st fun x y r => mm_icmp .ne x y (mm_go 59 L r S) (mm_go 24 L r S)) o := pd_Gs (i := .if_icmp .ne 38) (n := 3) rfl
theorem p123_24 : pd_G xs Ls d pd_m123 (24, L, st, S) o ↔ pd_K xs Ls d pd_m123 (mm_lA L 0 fun v => mm_go 25 L (v :: st) S) o := pd_Gs (i := .aload_n 0) (n := 1) rfl
theorem p123_25 : pd_G xs Ls d pd_m123 (25, L, st, S) o ↔ pd_K xs Ls d pd_m123 (mm_getf pd_ck 25 L st S 7 25) o := pd_Gs (i := .getfield 61) (n := 3) rfl
theorem p123_28 : pd_G xs Ls d pd_m123 (28, L, st, S) o ↔ pd_K xs Ls d pd_m123 (mm_lI L 2 fun x => mm_go 29 L (.int x :: st) S) o := pd_Gs (i := .iload_n 2) (n := 1) rfl
theorem p123_29 : pd_G xs Ls d pd_m123 (29, L, st, S) o ↔ pd_K xs Ls d pd_m123 (mm_lA L 0 fun v => mm_go 30 L (v :: st) S) o := pd_Gs (i := .aload_n 0) (n := 1) rfl
theorem p123_30 : pd_G xs Ls d pd_m123 (30, L, st, S) o ↔ pd_K xs Ls d pd_m123 (mm_getf pd_ck 30 L st S 7 25) o := pd_Gs (i := .getfield 61) (n := 3) rfl
theorem p123_33 : pd_G xs Ls d pd_m123 (33, L, st, S) o ↔ pd_K xs Ls d pd_m123 (mm_lI L 2 fun x => mm_go 34 L (.int x :: st) S) o := pd_Gs (i := .iload_n 2) (n := 1) rfl
theorem p123_34 : pd_G xs Ls d pd_m123 (34, L, st, S) o ↔ pd_K xs Ls d pd_m123 (mm_ial xs Ls pd_ak 34 L S st) o := pd_Gs (i := .iaload) (n := 1) rfl
theorem p123_35 : pd_G xs Ls d pd_m123 (35, L, st, S) o ↔ pd_K xs Ls d pd_m123 (mm_go 38 L (.int 128 :: st) S) o := pd_Gs (i := .sipush 128) (n := 3) rfl
theorem p123_38 : pd_G xs Ls d pd_m123 (38, L, st, S) o ↔ pd_K xs Ls d pd_m123 (mm_ii st fun x y r => if y = 0 then none else mm_go 39 L (.int (x / y) :: r) S) o := pd_Gs (i := .idiv) (n := 1) rfl
theorem p123_39 : pd_G xs Ls d pd_m123 (39, L, st, S) o ↔ pd_K xs Ls d pd_m123 (mm_go 42 L (.int 128 :: st) S) o := pd_Gs (i := .sipush 128) (n := 3) rfl
theorem p123_42 : pd_G xs Ls d pd_m123 (42, L, st, S) o ↔ pd_K xs Ls d pd_m123 (mm_ii st fun x y r => mm_go 43 L (.int (x * y) :: r) S) o := pd_Gs (i := .imul) (n := 1) rfl
theorem p123_43 : pd_G xs Ls d pd_m123 (43, L, st, S) o ↔ pd_K xs Ls d pd_m123 (mm_lA L 0 fun v => mm_go 44 L (v :: st) S) o := pd_Gs (i := .aload_n 0) (n := 1) rfl
theorem p123_44 : pd_G xs Ls d pd_m123 (44, L, st, S) o ↔ pd_K xs Ls d pd_m123 (mm_getf pd_ck 44 L st S 7 2) o := pd_Gs (i := .getfield 16) (n := 3) rfl
theorem p123_47 : pd_G xs Ls d pd_m123 (47, L, st, S) o ↔ pd_K xs Ls d pd_m123 (mm_lA L 0 fun v => mm_go 48 L (v :: st) S) o := pd_Gs (i := .aload_n 0) (n := 1) rfl
theorem p123_48 : pd_G xs Ls d pd_m123 (48, L, st, S) o ↔ pd_K xs Ls d pd_m123 (mm_getf pd_ck 48 L st S 7 25) o := pd_Gs (i := .getfield 61) (n := 3) rfl
theorem p123_51 : pd_G xs Ls d pd_m123 (51, L, st, S) o ↔ pd_K xs Ls d pd_m123 (mm_lI L 2 fun x => mm_go 52 L (.int x :: st) S) o := pd_Gs (i := .iload_n 2) (n := 1) rfl
theorem p123_52 : pd_G xs Ls d pd_m123 (52, L, st, S) o ↔ pd_K xs Ls d pd_m123 (mm_ial xs Ls pd_ak 52 L S st) o := pd_Gs (i := .iaload) (n := 1) rfl
theorem p123_53 : pd_G xs Ls d pd_m123 (53, L, st, S) o ↔ pd_K xs Ls d pd_m123 (mm_ial xs Ls pd_ak 53 L S st) o := pd_Gs (i := .iaload) (n := 1) rfl
theorem p123_54 : pd_G xs Ls d pd_m123 (54, L, st, S) o ↔ pd_K xs Ls d pd_m123 (mm_ii st fun x y r => mm_go 55 L (.int (x + y) :: r) S) o := pd_Gs (i := .iadd) (n := 1) rfl
theorem p123_55 : pd_G xs Ls d pd_m123 (55, L, st, S) o ↔ pd_K xs Ls d pd_m123 (mm_i st fun x st => mm_ai pd_ak S st 0 fun i a r => mm_go 56 L r (mm_sI S a i.toNatClampNeg x)) o := pd_Gs (i := .iastore) (n := 1) rfl
theorem p123_56 : pd_G xs Ls d pd_m123 (56, L, st, S) o ↔ pd_K xs Ls d pd_m123 (mm_go 163 L st S) o := pd_Gs (i := .goto 107) (n := 3) rfl
theorem p123_59 : pd_G xs Ls d pd_m123 (59, L, st, S) o ↔ pd_K xs Ls d pd_m123 (mm_lI L 3 fun x => mm_go 60 L (.int x :: st) S) o := pd_Gs (i := .iload_n 3) (n := 1) rfl
theorem p123_60 : pd_G xs Ls d pd_m123 (60, L, st, S) o ↔ pd_K xs Ls d pd_m123 (mm_go 62 L (.int 30 :: st) S) o := pd_Gs (i := .bipush 30) (n := 2) rfl
theorem p123_62 : pd_G xs Ls d pd_m123 (62, L, st, S) o ↔ pd_K xs Ls d pd_m123 (mm_ii st fun x y r => mm_icmp .eq x y (mm_go 70 L r S) (mm_go 65 L r S)) o := pd_Gs (i := .if_icmp .eq 8) (n := 3) rfl
theorem p123_65 : pd_G xs Ls d pd_m123 (65, L, st, S) o ↔ pd_K xs Ls d pd_m123 (mm_go 66 L (.int (-1) :: st) S) o := pd_Gs (i := .iconst (-1)) (n := 1) rfl
theorem p123_66 : pd_G xs Ls d pd_m123 (66, L, st, S) o ↔ pd_K xs Ls d pd_m123 (mm_i st fun x r => mm_go 67 (mm_sto L 0 2 (.int x)) r S) o := pd_Gs (i := .istore_n 2) (n := 1) rfl
theorem p123_67 : pd_G xs Ls d pd_m123 (67, L, st, S) o ↔ pd_K xs Ls d pd_m123 (mm_go 163 L st S) o := pd_Gs (i := .goto 96) (n := 3) rfl
theorem p123_70 : pd_G xs Ls d pd_m123 (70, L, st, S) o ↔ pd_K xs Ls d pd_m123 (mm_lA L 0 fun v => mm_go 71 L (v :: st) S) o := pd_Gs (i := .aload_n 0) (n := 1) rfl
theorem p123_71 : pd_G xs Ls d pd_m123 (71, L, st, S) o ↔ pd_K xs Ls d pd_m123 (mm_getf pd_ck 71 L st S 7 29) o := pd_Gs (i := .getfield 73) (n := 3) rfl
theorem p123_74 : pd_G xs Ls d pd_m123 (74, L, st, S) o ↔ pd_K xs Ls d pd_m123 (mm_lI L 2 fun x => mm_go 75 L (.int x :: st) S) o := pd_Gs (i := .iload_n 2) (n := 1) rfl
theorem p123_75 : pd_G xs Ls d pd_m123 (75, L, st, S) o ↔ pd_K xs Ls d pd_m123 (mm_ial xs Ls pd_ak 75 L S st) o := pd_Gs (i := .iaload) (n := 1) rfl
theorem p123_76 : pd_G xs Ls d pd_m123 (76, L, st, S) o ↔ pd_K xs Ls d pd_m123 (mm_i st fun x r => mm_icmp .le x 0 (mm_go 114 L r S) (mm_go 79 L r S)) o := pd_Gs (i := .ifCond .le 38) (n := 3) rfl
theorem p123_79 : pd_G xs Ls d pd_m123 (79, L, st, S) o ↔ pd_K xs Ls d pd_m123 (mm_lA L 0 fun v => mm_go 80 L (v :: st) S) o := pd_Gs (i := .aload_n 0) (n := 1) rfl
theorem p123_80 : pd_G xs Ls d pd_m123 (80, L, st, S) o ↔ pd_K xs Ls d pd_m123 (mm_getf pd_ck 80 L st S 7 29) o := pd_Gs (i := .getfield 73) (n := 3) rfl
theorem p123_83 : pd_G xs Ls d pd_m123 (83, L, st, S) o ↔ pd_K xs Ls d pd_m123 (mm_lI L 2 fun x => mm_go 84 L (.int x :: st) S) o := pd_Gs (i := .iload_n 2) (n := 1) rfl
theorem p123_84 : pd_G xs Ls d pd_m123 (84, L, st, S) o ↔ pd_K xs Ls d pd_m123 (mm_2 st fun v w r => cond (mm_c2 v || mm_c2 w) none (mm_go 85 L (v :: w :: v :: w :: r) S)) o := pd_Gs (i := .dup2) (n := 1) rfl
theorem p123_85 : pd_G xs Ls d pd_m123 (85, L, st, S) o ↔ pd_K xs Ls d pd_m123 (mm_ial xs Ls pd_ak 85 L S st) o := pd_Gs (i := .iaload) (n := 1) rfl
theorem p123_86 : pd_G xs Ls d pd_m123 (86, L, st, S) o ↔ pd_K xs Ls d pd_m123 (mm_go 87 L (.int 1 :: st) S) o := pd_Gs (i := .iconst 1) (n := 1) rfl
theorem p123_87 : pd_G xs Ls d pd_m123 (87, L, st, S) o ↔ pd_K xs Ls d pd_m123 (mm_ii st fun x y r => mm_go 88 L (.int (x - y) :: r) S) o := pd_Gs (i := .isub) (n := 1) rfl
theorem p123_88 : pd_G xs Ls d pd_m123 (88, L, st, S) o ↔ pd_K xs Ls d pd_m123 (mm_i st fun x st => mm_ai pd_ak S st 0 fun i a r => mm_go 89 L r (mm_sI S a i.toNatClampNeg x)) o := pd_Gs (i := .iastore) (n := 1) rfl
theorem p123_89 : pd_G xs Ls d pd_m123 (89, L, st, S) o ↔ pd_K xs Ls d pd_m123 (mm_lA L 0 fun v => mm_go 90 L (v :: st) S) o := pd_Gs (i := .aload_n 0) (n := 1) rfl
theorem p123_90 : pd_G xs Ls d pd_m123 (90, L, st, S) o ↔ pd_K xs Ls d pd_m123 (mm_getf pd_ck 90 L st S 7 25) o := pd_Gs (i := .getfield 61) (n := 3) rfl
theorem p123_93 : pd_G xs Ls d pd_m123 (93, L, st, S) o ↔ pd_K xs Ls d pd_m123 (mm_lI L 2 fun x => mm_go 94 L (.int x :: st) S) o := pd_Gs (i := .iload_n 2) (n := 1) rfl
theorem p123_94 : pd_G xs Ls d pd_m123 (94, L, st, S) o ↔ pd_K xs Ls d pd_m123 (mm_lA L 0 fun v => mm_go 95 L (v :: st) S) o := pd_Gs (i := .aload_n 0) (n := 1) rfl
theorem p123_95 : pd_G xs Ls d pd_m123 (95, L, st, S) o ↔ pd_K xs Ls d pd_m123 (mm_getf pd_ck 95 L st S 7 30) o := pd_Gs (i := .getfield 76) (n := 3) rfl
theorem p123_98 : pd_G xs Ls d pd_m123 (98, L, st, S) o ↔ pd_K xs Ls d pd_m123 (mm_lI L 2 fun x => mm_go 99 L (.int x :: st) S) o := pd_Gs (i := .iload_n 2) (n := 1) rfl
theorem p123_99 : pd_G xs Ls d pd_m123 (99, L, st, S) o ↔ pd_K xs Ls d pd_m123 (mm_go 101 L (.int 8 :: st) S) o := pd_Gs (i := .bipush 8) (n := 2) rfl
theorem p123_101 : pd_G xs Ls d pd_m123 (101, L, st, S) o ↔ pd_K xs Ls d pd_m123 (mm_ii st fun x y r => mm_go 102 L (.int (x * y) :: r) S) o := pd_Gs (i := .imul) (n := 1) rfl
theorem p123_102 : pd_G xs Ls d pd_m123 (102, L, st, S) o ↔ pd_K xs Ls d pd_m123 (mm_lA L 0 fun v => mm_go 103 L (v :: st) S) o := pd_Gs (i := .aload_n 0) (n := 1) rfl
theorem p123_103 : pd_G xs Ls d pd_m123 (103, L, st, S) o ↔ pd_K xs Ls d pd_m123 (mm_getf pd_ck 103 L st S 7 29) o := pd_Gs (i := .getfield 73) (n := 3) rfl
theorem p123_106 : pd_G xs Ls d pd_m123 (106, L, st, S) o ↔ pd_K xs Ls d pd_m123 (mm_lI L 2 fun x => mm_go 107 L (.int x :: st) S) o := pd_Gs (i := .iload_n 2) (n := 1) rfl
theorem p123_107 : pd_G xs Ls d pd_m123 (107, L, st, S) o ↔ pd_K xs Ls d pd_m123 (mm_ial xs Ls pd_ak 107 L S st) o := pd_Gs (i := .iaload) (n := 1) rfl
theorem p123_108 : pd_G xs Ls d pd_m123 (108, L, st, S) o ↔ pd_K xs Ls d pd_m123 (mm_ii st fun x y r => mm_go 109 L (.int (x + y) :: r) S) o := pd_Gs (i := .iadd) (n := 1) rfl
theorem p123_109 : pd_G xs Ls d pd_m123 (109, L, st, S) o ↔ pd_K xs Ls d pd_m123 (mm_ial xs Ls pd_ak 109 L S st) o := pd_Gs (i := .iaload) (n := 1) rfl
theorem p123_110 : pd_G xs Ls d pd_m123 (110, L, st, S) o ↔ pd_K xs Ls d pd_m123 (mm_i st fun x st => mm_ai pd_ak S st 0 fun i a r => mm_go 111 L r (mm_sI S a i.toNatClampNeg x)) o := pd_Gs (i := .iastore) (n := 1) rfl
theorem p123_111 : pd_G xs Ls d pd_m123 (111, L, st, S) o ↔ pd_K xs Ls d pd_m123 (mm_go 163 L st S) o := pd_Gs (i := .goto 52) (n := 3) rfl
theorem p123_114 : pd_G xs Ls d pd_m123 (114, L, st, S) o ↔ pd_K xs Ls d pd_m123 (mm_lA L 0 fun v => mm_go 115 L (v :: st) S) o := pd_Gs (i := .aload_n 0) (n := 1) rfl
theorem p123_115 : pd_G xs Ls d pd_m123 (115, L, st, S) o ↔ pd_K xs Ls d pd_m123 (mm_getf pd_ck 115 L st S 7 24) o := pd_Gs (i := .getfield 58) (n := 3) rfl
theorem p123_118 : pd_G xs Ls d pd_m123 (118, L, st, S) o ↔ pd_K xs Ls d pd_m123 (mm_lI L 2 fun x => mm_go 119 L (.int x :: st) S) o := pd_Gs (i := .iload_n 2) (n := 1) rfl
theorem p123_119 : pd_G xs Ls d pd_m123 (119, L, st, S) o ↔ pd_K xs Ls d pd_m123 (mm_go 120 L (.int 0 :: st) S) o := pd_Gs (i := .iconst 0) (n := 1) rfl
theorem p123_120 : pd_G xs Ls d pd_m123 (120, L, st, S) o ↔ pd_K xs Ls d pd_m123 (mm_i st fun x st => mm_ai pd_ak S st 0 fun i a r => mm_go 121 L r (mm_sI S a i.toNatClampNeg x)) o := pd_Gs (i := .iastore) (n := 1) rfl
theorem p123_121 : pd_G xs Ls d pd_m123 (121, L, st, S) o ↔ pd_K xs Ls d pd_m123 (mm_lA L 0 fun v => mm_go 122 L (v :: st) S) o := pd_Gs (i := .aload_n 0) (n := 1) rfl
theorem p123_122 : pd_G xs Ls d pd_m123 (122, L, st, S) o ↔ pd_K xs Ls d pd_m123 (mm_getf pd_ck 122 L st S 7 26) o := pd_Gs (i := .getfield 64) (n := 3) rfl
theorem p123_125 : pd_G xs Ls d pd_m123 (125, L, st, S) o ↔ pd_K xs Ls d pd_m123 (mm_lI L 2 fun x => mm_go 126 L (.int x :: st) S) o := pd_Gs (i := .iload_n 2) (n := 1) rfl
theorem p123_126 : pd_G xs Ls d pd_m123 (126, L, st, S) o ↔ pd_K xs Ls d pd_m123 (mm_ial xs Ls pd_ak 126 L S st) o := pd_Gs (i := .iaload) (n := 1) rfl
theorem p123_127 : pd_G xs Ls d pd_m123 (127, L, st, S) o ↔ pd_K xs Ls d pd_m123 (mm_i st fun x r => mm_go 128 (mm_sto L 0 2 (.int x)) r S) o := pd_Gs (i := .istore_n 2) (n := 1) rfl
theorem p123_128 : pd_G xs Ls d pd_m123 (128, L, st, S) o ↔ pd_K xs Ls d pd_m123 (mm_lI L 2 fun x => mm_go 129 L (.int x :: st) S) o := pd_Gs (i := .iload_n 2) (n := 1) rfl
theorem p123_129 : pd_G xs Ls d pd_m123 (129, L, st, S) o ↔ pd_K xs Ls d pd_m123 (mm_i st fun x r => mm_icmp .lt x 0 (mm_go 163 L r S) (mm_go 132 L r S)) o := pd_Gs (i := .ifCond .lt 34) (n := 3) rfl
theorem p123_132 : pd_G xs Ls d pd_m123 (132, L, st, S) o ↔ pd_K xs Ls d pd_m123 (mm_lA L 0 fun v => mm_go 133 L (v :: st) S) o := pd_Gs (i := .aload_n 0) (n := 1) rfl
theorem p123_133 : pd_G xs Ls d pd_m123 (133, L, st, S) o ↔ pd_K xs Ls d pd_m123 (mm_getf pd_ck 133 L st S 7 27) o := pd_Gs (i := .getfield 67) (n := 3) rfl
theorem p123_136 : pd_G xs Ls d pd_m123 (136, L, st, S) o ↔ pd_K xs Ls d pd_m123 (mm_lI L 2 fun x => mm_go 137 L (.int x :: st) S) o := pd_Gs (i := .iload_n 2) (n := 1) rfl
theorem p123_137 : pd_G xs Ls d pd_m123 (137, L, st, S) o ↔ pd_K xs Ls d pd_m123 (mm_2 st fun v w r => cond (mm_c2 v || mm_c2 w) none (mm_go 138 L (v :: w :: v :: w :: r) S)) o := pd_Gs (i := .dup2) (n := 1) rfl
theorem p123_138 : pd_G xs Ls d pd_m123 (138, L, st, S) o ↔ pd_K xs Ls d pd_m123 (mm_ial xs Ls pd_ak 138 L S st) o := pd_Gs (i := .iaload) (n := 1) rfl
theorem p123_139 : pd_G xs Ls d pd_m123 (139, L, st, S) o ↔ pd_K xs Ls d pd_m123 (mm_go 140 L (.int 1 :: st) S) o := pd_Gs (i := .iconst 1) (n := 1) rfl
theorem p123_140 : pd_G xs Ls d pd_m123 (140, L, st, S) o ↔ pd_K xs Ls d pd_m123 (mm_ii st fun x y r => mm_go 141 L (.int (x - y) :: r) S) o := pd_Gs (i := .isub) (n := 1) rfl
theorem p123_141 : pd_G xs Ls d pd_m123 (141, L, st, S) o ↔ pd_K xs Ls d pd_m123 (mm_i st fun x st => mm_ai pd_ak S st 0 fun i a r => mm_go 142 L r (mm_sI S a i.toNatClampNeg x)) o := pd_Gs (i := .iastore) (n := 1) rfl
theorem p123_142 : pd_G xs Ls d pd_m123 (142, L, st, S) o ↔ pd_K xs Ls d pd_m123 (mm_lA L 0 fun v => mm_go 143 L (v :: st) S) o := pd_Gs (i := .aload_n 0) (n := 1) rfl
theorem p123_143 : pd_G xs Ls d pd_m123 (143, L, st, S) o ↔ pd_K xs Ls d pd_m123 (mm_getf pd_ck 143 L st S 7 27) o := pd_Gs (i := .getfield 67) (n := 3) rfl
theorem p123_146 : pd_G xs Ls d pd_m123 (146, L, st, S) o ↔ pd_K xs Ls d pd_m123 (mm_lI L 2 fun x => mm_go 147 L (.int x :: st) S) o := pd_Gs (i := .iload_n 2) (n := 1) rfl
theorem p123_147 : pd_G xs Ls d pd_m123 (147, L, st, S) o ↔ pd_K xs Ls d pd_m123 (mm_ial xs Ls pd_ak 147 L S st) o := pd_Gs (i := .iaload) (n := 1) rfl
theorem p123_148 : pd_G xs Ls d pd_m123 (148, L, st, S) o ↔ pd_K xs Ls d pd_m123 (mm_i st fun x r => mm_icmp .le x 0 (mm_go 156 L r S) (mm_go 151 L r S)) o := pd_Gs (i := .ifCond .le 8) (n := 3) rfl
theorem p123_151 : pd_G xs Ls d pd_m123 (151, L, st, S) o ↔ pd_K xs Ls d pd_m123 (mm_go 152 L (.int (-1) :: st) S) o := pd_Gs (i := .iconst (-1)) (n := 1) rfl
theorem p123_152 : pd_G xs Ls d pd_m123 (152, L, st, S) o ↔ pd_K xs Ls d pd_m123 (mm_i st fun x r => mm_go 153 (mm_sto L 0 2 (.int x)) r S) o := pd_Gs (i := .istore_n 2) (n := 1) rfl
theorem p123_153 : pd_G xs Ls d pd_m123 (153, L, st, S) o ↔ pd_K xs Ls d pd_m123 (mm_go 163 L st S) o := pd_Gs (i := .goto 10) (n := 3) rfl
theorem p123_156 : pd_G xs Ls d pd_m123 (156, L, st, S) o ↔ pd_K xs Ls d pd_m123 (mm_lA L 0 fun v => mm_go 157 L (v :: st) S) o := pd_Gs (i := .aload_n 0) (n := 1) rfl
theorem p123_157 : pd_G xs Ls d pd_m123 (157, L, st, S) o ↔ pd_K xs Ls d pd_m123 (mm_getf pd_ck 157 L st S 7 24) o := pd_Gs (i := .getfield 58) (n := 3) rfl
theorem p123_160 : pd_G xs Ls d pd_m123 (160, L, st, S) o ↔ pd_K xs Ls d pd_m123 (mm_lI L 2 fun x => mm_go 161 L (.int x :: st) S) o := pd_Gs (i := .iload_n 2) (n := 1) rfl
theorem p123_161 : pd_G xs Ls d pd_m123 (161, L, st, S) o ↔ pd_K xs Ls d pd_m123 (mm_go 162 L (.int 1 :: st) S) o := pd_Gs (i := .iconst 1) (n := 1) rfl
theorem p123_162 : pd_G xs Ls d pd_m123 (162, L, st, S) o ↔ pd_K xs Ls d pd_m123 (mm_i st fun x st => mm_ai pd_ak S st 0 fun i a r => mm_go 163 L r (mm_sI S a i.toNatClampNeg x)) o := pd_Gs (i := .iastore) (n := 1) rfl
theorem p123_163 : pd_G xs Ls d pd_m123 (163, L, st, S) o ↔ pd_K xs Ls d pd_m123 (mm_go 2 L st S) o := pd_Gs (i := .goto (-161)) (n := 3) rfl
theorem p123_166 : pd_G xs Ls d pd_m123 (166, L, st, S) o ↔ pd_K xs Ls d pd_m123 (mm_rV S st) o := pd_Gs (i := .return_) (n := 1) rfl
theorem p124_0 : pd_G xs Ls d pd_m124 (0, L, st, S) o ↔ pd_K xs Ls d pd_m124 (mm_lA L 0 fun v => mm_go 1 L (v :: st) S) o := pd_Gs (i := .aload_n 0) (n := 1) rfl
theorem p124_1 : pd_G xs Ls d pd_m124 (1, L, st, S) o ↔ pd_K xs Ls d pd_m124 (mm_lI L 1 fun x => mm_go 2 L (.int x :: st) S) o := pd_Gs (i := .iload_n 1) (n := 1) rfl
theorem p124_2 : pd_G xs Ls d pd_m124 (2, L, st, S) o ↔ pd_K xs Ls d pd_m124 (mm_i st fun x r => mm_icmp .lt x 0 (mm_go 11 L r S) (mm_go 5 L r S)) o := pd_Gs (i := .ifCond .lt 9) (n := 3) rfl
theorem p124_5 : pd_G xs Ls d pd_m124 (5, L, st, S) o ↔ pd_K xs Ls d pd_m124 (mm_lI L 1 fun x => mm_go 6 L (.int x :: st) S) o := pd_Gs (i := .iload_n 1) (n := 1) rfl
theorem p124_6 : pd_G xs Ls d pd_m124 (6, L, st, S) o ↔ pd_K xs Ls d pd_m124 (mm_go 8 L (.int 10 :: st) S) o := pd_Gs (i := .bipush 10) (n := 2) rfl
theorem p124_8 : pd_G xs Ls d pd_m124 (8, L, st, S) o ↔ pd_K xs Ls d pd_m124 (mm_ii st fun x y r => mm_icmp .le x y (mm_go 15 L r S) (mm_go 11 L r S)) o := pd_Gs (i := .if_icmp .le 7) (n := 3) rfl
theorem p124_11 : pd_G xs Ls d pd_m124 (11, L, st, S) o ↔ pd_K xs Ls d pd_m124 (mm_go 12 L (.int 1 :: st) S) o := pd_Gs (i := .iconst 1) (n := 1) rfl
theorem p124_12 : pd_G xs Ls d pd_m124 (12, L, st, S) o ↔ pd_K xs Ls d pd_m124 (mm_go 16 L st S) o := pd_Gs (i := .goto 4) (n := 3) rfl
theorem p124_15 : pd_G xs Ls d pd_m124 (15, L, st, S) o ↔ pd_K xs Ls d pd_m124 (mm_go 16 L (.int 0 :: st) S) o := pd_Gs (i := .iconst 0) (n := 1) rfl
theorem p124_16 : pd_G xs Ls d pd_m124 (16, L, st, S) o ↔ pd_K xs Ls d pd_m124 (mm_putf pd_ck 16 L st S 7 39) o := pd_Gs (i := .putfield 85) (n := 3) rfl
theorem p124_19 : pd_G xs Ls d pd_m124 (19, L, st, S) o ↔ pd_K xs Ls d pd_m124 (mm_lA L 0 fun v => mm_go 20 L (v :: st) S) o := pd_Gs (i := .aload_n 0) (n := 1) rfl
theorem p124_20 : pd_G xs Ls d pd_m124 (20, L, st, S) o ↔ pd_K xs Ls d pd_m124 (mm_getf pd_ck 20 L st S 7 39) o := pd_Gs (i := .getfield 85) (n := 3) rfl
theorem p124_23 : pd_G xs Ls d pd_m124 (23, L, st, S) o ↔ pd_K xs Ls d pd_m124 (mm_i st fun x r => mm_icmp .ne x 0 (mm_go 35 L r S) (mm_go 26 L r S)) o := pd_Gs (i := .ifCond .ne 12) (n := 3) rfl
theorem p124_26 : pd_G xs Ls d pd_m124 (26, L, st, S) o ↔ pd_K xs Ls d pd_m124 (mm_lA L 0 fun v => mm_go 27 L (v :: st) S) o := pd_Gs (i := .aload_n 0) (n := 1) rfl
theorem p124_27 : pd_G xs Ls d pd_m124 (27, L, st, S) o ↔ pd_K xs Ls d pd_m124 (mm_getf pd_ck 27 L st S 7 20) o := pd_Gs (i := .getfield 45) (n := 3) rfl
theorem p124_30 : pd_G xs Ls d pd_m124 (30, L, st, S) o ↔ pd_K xs Ls d pd_m124 (mm_lI L 1 fun x => mm_go 31 L (.int x :: st) S) o := pd_Gs (i := .iload_n 1) (n := 1) rfl
theorem p124_31 : pd_G xs Ls d pd_m124 (31, L, st, S) o ↔ pd_K xs Ls d pd_m124 (mm_ai pd_ak S st 2 fun i a r => mm_go 32 L (.double (S.2.1.2.1 a i.toNatClampNeg) :: r) S) o := pd_Gs (i := .daload) (n := 1) rfl
theorem p124_32 : pd_G xs Ls d pd_m124 (32, L, st, S) o ↔ pd_K xs Ls d pd_m124 (mm_go 36 L st S) o := pd_Gs (i := .goto 4) (n := 3) rfl
theorem p124_35 : pd_G xs Ls d pd_m124 (35, L, st, S) o ↔ pd_K xs Ls d pd_m124 (mm_go 36 L (.double FP.dconst0 :: st) S) o := pd_Gs (i := .dconst 0) (n := 1) rfl
theorem p124_36 : pd_G xs Ls d pd_m124 (36, L, st, S) o ↔ pd_K xs Ls d pd_m124 (mm_rD S st) o := pd_Gs (i := .dreturn) (n := 1) rfl
theorem p125_0 : pd_G xs Ls d pd_m125 (0, L, st, S) o ↔ pd_K xs Ls d pd_m125 (mm_lI L 1 fun x => mm_go 1 L (.int x :: st) S) o := pd_Gs (i := .iload_n 1) (n := 1) rfl
theorem p125_1 : pd_G xs Ls d pd_m125 (1, L, st, S) o ↔ pd_K xs Ls d pd_m125 (mm_i st fun x r => mm_icmp .lt x 0 (mm_go 26 L r S) (mm_go 4 L r S)) o := pd_Gs (i := .ifCond .lt 25) (n := 3) rfl
theorem p125_4 : pd_G xs Ls d pd_m125 (4, L, st, S) o ↔ pd_K xs Ls d pd_m125 (mm_lI L 1 fun x => mm_go 5 L (.int x :: st) S) o := pd_Gs (i := .iload_n 1) (n := 1) rfl
theorem p125_5 : pd_G xs Ls d pd_m125 (5, L, st, S) o ↔ pd_K xs Ls d pd_m125 (mm_go 7 L (.int 10 :: st) S) o := pd_Gs (i := .bipush 10) (n := 2) rfl
theorem p125_7 : pd_G xs Ls d pd_m125 (7, L, st, S) o ↔ pd_K xs Ls d pd_m125 (mm_ii st fun x y r => mm_icmp .gt x y (mm_go 26 L r S) (mm_go 10 L r S)) o := pd_Gs (i := .if_icmp .gt 19) (n := 3) rfl
theorem p125_10 : pd_G xs Ls d pd_m125 (10, L, st, S) o ↔ pd_K xs Ls d pd_m125 (mm_lD L 2 fun x => mm_go 11 L (.double x :: st) S) o := pd_Gs (i := .dload_n 2) (n := 1) rfl
theorem p125_11 : pd_G xs Ls d pd_m125 (11, L, st, S) o ↔ pd_K xs Ls d pd_m125 (mm_go 14 L (.double 13875379345695965184 :: st) S) o := pd_Gs (i := .ldc2_w 230) (n := 3) rfl
theorem p125_14 : pd_G xs Ls d pd_m125 (14, L, st, S) o ↔ pd_K xs Ls d pd_m125 (mm_dd st fun x y r => mm_go 15 L (.int (Op.cmpValue (FP.dcmp x y) .l) :: r) S) o := pd_Gs (i := .dcmp .l) (n := 1) rfl
theorem p125_15 : pd_G xs Ls d pd_m125 (15, L, st, S) o ↔ pd_K xs Ls d pd_m125 (mm_i st fun x r => mm_icmp .lt x 0 (mm_go 26 L r S) (mm_go 18 L r S)) o := pd_Gs (i := .ifCond .lt 11) (n := 3) rfl
theorem p125_18 : pd_G xs Ls d pd_m125 (18, L, st, S) o ↔ pd_K xs Ls d pd_m125 (mm_lD L 2 fun x => mm_go 19 L (.double x :: st) S) o := pd_Gs (i := .dload_n 2) (n := 1) rfl
theorem p125_19 : pd_G xs Ls d pd_m125 (19, L, st, S) o ↔ pd_K xs Ls d pd_m125 (mm_go 22 L (.double 4652007308841189376 :: st) S) o := pd_Gs (i := .ldc2_w 232) (n := 3) rfl
theorem p125_22 : pd_G xs Ls d pd_m125 (22, L, st, S) o ↔ pd_K xs Ls d pd_m125 (mm_dd st fun x y r => mm_go 23 L (.int (Op.cmpValue (FP.dcmp x y) .g) :: r) S) o := pd_Gs (i := .dcmp .g) (n := 1) rfl
theorem p125_23 : pd_G xs Ls d pd_m125 (23, L, st, S) o ↔ pd_K xs Ls d pd_m125 (mm_i st fun x r => mm_icmp .le x 0 (mm_go 30 L r S) (mm_go 26 L r S)) o := pd_Gs (i := .ifCond .le 7) (n := 3) rfl
theorem p125_26 : pd_G xs Ls d pd_m125 (26, L, st, S) o ↔ pd_K xs Ls d pd_m125 (mm_go 27 L (.int 1 :: st) S) o := pd_Gs (i := .iconst 1) (n := 1) rfl
theorem p125_27 : pd_G xs Ls d pd_m125 (27, L, st, S) o ↔ pd_K xs Ls d pd_m125 (mm_go 31 L st S) o := pd_Gs (i := .goto 4) (n := 3) rfl
theorem p125_30 : pd_G xs Ls d pd_m125 (30, L, st, S) o ↔ pd_K xs Ls d pd_m125 (mm_go 31 L (.int 0 :: st) S) o := pd_Gs (i := .iconst 0) (n := 1) rfl
theorem p125_31 : pd_G xs Ls d pd_m125 (31, L, st, S) o ↔ pd_K xs Ls d pd_m125 (mm_i st fun x r => mm_go 33 (mm_sto L 0 4 (.int x)) r S) o := pd_Gs (i := .istore 4) (n := 2) rfl
theorem p125_33 : pd_G xs Ls d pd_m125 (33, L, st, S) o ↔ pd_K xs Ls d pd_m125 (mm_lA L 0 fun v => mm_go 34 L (v :: st) S) o := pd_Gs (i := .aload_n 0) (n := 1) rfl
theorem p125_34 : pd_G xs Ls d pd_m125 (34, L, st, S) o ↔ pd_K xs Ls d pd_m125 (mm_lI L 4 fun x => mm_go 36 L (.int x :: st) S) o := pd_Gs (i := .iload 4) (n := 2) rfl
theorem p125_36 : pd_G xs Ls d pd_m125 (36, L, st, S) o ↔ pd_K xs Ls d pd_m125 (mm_i st fun x r => mm_icmp .ne x 0 (mm_go 58 L r S) (mm_go 39 L r S)) o := pd_Gs (i := .ifCond .ne 22) (n := 3) rfl
theorem p125_39 : pd_G xs Ls d pd_m125 (39, L, st, S) o ↔ pd_K xs Ls d pd_m125 (mm_lI L 1 fun x => mm_go 40 L (.int x :: st) S) o := pd_Gs (i := .iload_n 1) (n := 1) rfl
theorem p125_40 : pd_G xs Ls d pd_m125 (40, L, st, S) o ↔ pd_K xs Ls d pd_m125 (mm_go 41 L (.int 4 :: st) S) o := pd_Gs (i := .iconst 4) (n := 1) rfl
theorem p125_41 : pd_G xs Ls d pd_m125 (41, L, st, S) o ↔ pd_K xs Ls d pd_m125 (mm_ii st fun x y r => mm_icmp .lt x y (mm_go 50 L r S) (mm_go 44 L r S)) o := pd_Gs (i := .if_icmp .lt 9) (n := 3) rfl
theorem p125_44 : pd_G xs Ls d pd_m125 (44, L, st, S) o ↔ pd_K xs Ls d pd_m125 (mm_lI L 1 fun x => mm_go 45 L (.int x :: st) S) o := pd_Gs (i := .iload_n 1) (n := 1) rfl
theorem p125_45 : pd_G xs Ls d pd_m125 (45, L, st, S) o ↔ pd_K xs Ls d pd_m125 (mm_go 47 L (.int 6 :: st) S) o := pd_Gs (i := .bipush 6) (n := 2) rfl
theorem p125_47 : pd_G xs Ls d pd_m125 (47, L, st, S) o ↔ pd_K xs Ls d pd_m125 (mm_ii st fun x y r => mm_icmp .le x y (mm_go 62 L r S) (mm_go 50 L r S)) o := pd_Gs (i := .if_icmp .le 15) (n := 3) rfl
theorem p125_50 : pd_G xs Ls d pd_m125 (50, L, st, S) o ↔ pd_K xs Ls d pd_m125 (mm_lD L 2 fun x => mm_go 51 L (.double x :: st) S) o := pd_Gs (i := .dload_n 2) (n := 1) rfl
theorem p125_51 : pd_G xs Ls d pd_m125 (51, L, st, S) o ↔ pd_K xs Ls d pd_m125 (mm_lD L 2 fun x => mm_go 52 L (.double x :: st) S) o := pd_Gs (i := .dload_n 2) (n := 1) rfl
theorem p125_52 : pd_G xs Ls d pd_m125 (52, L, st, S) o ↔ pd_K xs Ls d pd_m125 (mm_d st fun x r => mm_go 53 L (.int (FP.d2i x) :: r) S) o := pd_Gs (i := .d2i) (n := 1) rfl
theorem p125_53 : pd_G xs Ls d pd_m125 (53, L, st, S) o ↔ pd_K xs Ls d pd_m125 (mm_i st fun x r => mm_go 54 L (.double (FP.i2d x) :: r) S) o := pd_Gs (i := .i2d) (n := 1) rfl
theorem p125_54 : pd_G xs Ls d pd_m125 (54, L, st, S) o ↔ pd_K xs Ls d pd_m125 (mm_dd st fun x y r => mm_go 55 L (.int (Op.cmpValue (FP.dcmp x y) .l) :: r) S) o := pd_Gs (i := .dcmp .l) (n := 1) rfl
theorem p125_55 : pd_G xs Ls d pd_m125 (55, L, st, S) o ↔ pd_K xs Ls d pd_m125 (mm_i st fun x r => mm_icmp .eq x 0 (mm_go 62 L r S) (mm_go 58 L r S)) o := pd_Gs (i := .ifCond .eq 7) (n := 3) rfl
theorem p125_58 : pd_G xs Ls d pd_m125 (58, L, st, S) o ↔ pd_K xs Ls d pd_m125 (mm_go 59 L (.int 1 :: st) S) o := pd_Gs (i := .iconst 1) (n := 1) rfl
theorem p125_59 : pd_G xs Ls d pd_m125 (59, L, st, S) o ↔ pd_K xs Ls d pd_m125 (mm_go 63 L st S) o := pd_Gs (i := .goto 4) (n := 3) rfl
theorem p125_62 : pd_G xs Ls d pd_m125 (62, L, st, S) o ↔ pd_K xs Ls d pd_m125 (mm_go 63 L (.int 0 :: st) S) o := pd_Gs (i := .iconst 0) (n := 1) rfl
theorem p125_63 : pd_G xs Ls d pd_m125 (63, L, st, S) o ↔ pd_K xs Ls d pd_m125 (mm_putf pd_ck 63 L st S 7 39) o := pd_Gs (i := .putfield 85) (n := 3) rfl
theorem p125_66 : pd_G xs Ls d pd_m125 (66, L, st, S) o ↔ pd_K xs Ls d pd_m125 (mm_lA L 0 fun v => mm_go 67 L (v :: st) S) o := pd_Gs (i := .aload_n 0) (n := 1) rfl
theorem p125_67 : pd_G xs Ls d pd_m125 (67, L, st, S) o ↔ pd_K xs Ls d pd_m125 (mm_getf pd_ck 67 L st S 7 39) o := pd_Gs (i := .getfield 85) (n := 3) rfl
theorem p125_70 : pd_G xs Ls d pd_m125 (70, L, st, S) o ↔ pd_K xs Ls d pd_m125 (mm_i st fun x r => mm_icmp .ne x 0 (mm_go 97 L r S) (mm_go 73 L r S)) o := pd_Gs (i := .ifCond .ne 27) (n := 3) rfl
theorem p125_73 : pd_G xs Ls d pd_m125 (73, L, st, S) o ↔ pd_K xs Ls d pd_m125 (mm_lA L 0 fun v => mm_go 74 L (v :: st) S) o := pd_Gs (i := .aload_n 0) (n := 1) rfl
theorem p125_74 : pd_G xs Ls d pd_m125 (74, L, st, S) o ↔ pd_K xs Ls d pd_m125 (mm_getf pd_ck 74 L st S 7 20) o := pd_Gs (i := .getfield 45) (n := 3) rfl
theorem p125_77 : pd_G xs Ls d pd_m125 (77, L, st, S) o ↔ pd_K xs Ls d pd_m125 (mm_lI L 1 fun x => mm_go 78 L (.int x :: st) S) o := pd_Gs (i := .iload_n 1) (n := 1) rfl
theorem p125_78 : pd_G xs Ls d pd_m125 (78, L, st, S) o ↔ pd_K xs Ls d pd_m125 (mm_lI L 1 fun x => mm_go 79 L (.int x :: st) S) o := pd_Gs (i := .iload_n 1) (n := 1) rfl
theorem p125_79 : pd_G xs Ls d pd_m125 (79, L, st, S) o ↔ pd_K xs Ls d pd_m125 (mm_go 80 L (.int 4 :: st) S) o := pd_Gs (i := .iconst 4) (n := 1) rfl
theorem p125_80 : pd_G xs Ls d pd_m125 (80, L, st, S) o ↔ pd_K xs Ls d pd_m125 (mm_ii st fun x y r => mm_icmp .lt x y (mm_go 89 L r S) (mm_go 83 L r S)) o := pd_Gs (i := .if_icmp .lt 9) (n := 3) rfl
theorem p125_83 : pd_G xs Ls d pd_m125 (83, L, st, S) o ↔ pd_K xs Ls d pd_m125 (mm_lI L 1 fun x => mm_go 84 L (.int x :: st) S) o := pd_Gs (i := .iload_n 1) (n := 1) rfl
theorem p125_84 : pd_G xs Ls d pd_m125 (84, L, st, S) o ↔ pd_K xs Ls d pd_m125 (mm_go 86 L (.int 6 :: st) S) o := pd_Gs (i := .bipush 6) (n := 2) rfl
theorem p125_86 : pd_G xs Ls d pd_m125 (86, L, st, S) o ↔ pd_K xs Ls d pd_m125 (mm_ii st fun x y r => mm_icmp .le x y (mm_go 95 L r S) (mm_go 89 L r S)) o := pd_Gs (i := .if_icmp .le 9) (n := 3) rfl
theorem p125_89 : pd_G xs Ls d pd_m125 (89, L, st, S) o ↔ pd_K xs Ls d pd_m125 (mm_lD L 2 fun x => mm_go 90 L (.double x :: st) S) o := pd_Gs (i := .dload_n 2) (n := 1) rfl
theorem p125_90 : pd_G xs Ls d pd_m125 (90, L, st, S) o ↔ pd_K xs Ls d pd_m125 (mm_d st fun x r => mm_go 91 L (.int (FP.d2i x) :: r) S) o := pd_Gs (i := .d2i) (n := 1) rfl
theorem p125_91 : pd_G xs Ls d pd_m125 (91, L, st, S) o ↔ pd_K xs Ls d pd_m125 (mm_i st fun x r => mm_go 92 L (.double (FP.i2d x) :: r) S) o := pd_Gs (i := .i2d) (n := 1) rfl
theorem p125_92 : pd_G xs Ls d pd_m125 (92, L, st, S) o ↔ pd_K xs Ls d pd_m125 (mm_go 96 L st S) o := pd_Gs (i := .goto 4) (n := 3) rfl
theorem p125_95 : pd_G xs Ls d pd_m125 (95, L, st, S) o ↔ pd_K xs Ls d pd_m125 (mm_lD L 2 fun x => mm_go 96 L (.double x :: st) S) o := pd_Gs (i := .dload_n 2) (n := 1) rfl
theorem p125_96 : pd_G xs Ls d pd_m125 (96, L, st, S) o ↔ pd_K xs Ls d pd_m125 (mm_d st fun x st => mm_ai pd_ak S st 2 fun i a r => mm_go 97 L r (mm_sD S a i.toNatClampNeg x)) o := pd_Gs (i := .dastore) (n := 1) rfl
theorem p125_97 : pd_G xs Ls d pd_m125 (97, L, st, S) o ↔ pd_K xs Ls d pd_m125 (mm_rV S st) o := pd_Gs (i := .return_) (n := 1) rfl
theorem p126_0 : pd_G xs Ls d pd_m126 (0, L, st, S) o ↔ pd_K xs Ls d pd_m126 (mm_lA L 0 fun v => mm_go 1 L (v :: st) S) o := pd_Gs (i := .aload_n 0) (n := 1) rfl
theorem p126_1 : pd_G xs Ls d pd_m126 (1, L, st, S) o ↔ pd_K xs Ls d pd_m126 (mm_lI L 1 fun x => mm_go 2 L (.int x :: st) S) o := pd_Gs (i := .iload_n 1) (n := 1) rfl
theorem p126_2 : pd_G xs Ls d pd_m126 (2, L, st, S) o ↔ pd_K xs Ls d pd_m126 (mm_i st fun x r => mm_icmp .lt x 0 (mm_go 13 L r S) (mm_go 5 L r S)) o := pd_Gs (i := .ifCond .lt 11) (n := 3) rfl
theorem p126_5 : pd_G xs Ls d pd_m126 (5, L, st, S) o ↔ pd_K xs Ls d pd_m126 (mm_lI L 1 fun x => mm_go 6 L (.int x :: st) S) o := pd_Gs (i := .iload_n 1) (n := 1) rfl
theorem p126_6 : pd_G xs Ls d pd_m126 (6, L, st, S) o ↔ pd_K xs Ls d pd_m126 (mm_lA L 0 fun v => mm_go 7 L (v :: st) S) o := pd_Gs (i := .aload_n 0) (n := 1) rfl
theorem p126_7 : pd_G xs Ls d pd_m126 (7, L, st, S) o ↔ pd_K xs Ls d pd_m126 (mm_getf pd_ck 7 L st S 7 35) o := pd_Gs (i := .getfield 206) (n := 3) rfl
theorem p126_10 : pd_G xs Ls d pd_m126 (10, L, st, S) o ↔ pd_K xs Ls d pd_m126 (mm_ii st fun x y r => mm_icmp .lt x y (mm_go 17 L r S) (mm_go 13 L r S)) o := pd_Gs (i := .if_icmp .lt 7) (n := 3) rfl
theorem p126_13 : pd_G xs Ls d pd_m126 (13, L, st, S) o ↔ pd_K xs Ls d pd_m126 (mm_go 14 L (.int 1 :: st) S) o := pd_Gs (i := .iconst 1) (n := 1) rfl
theorem p126_14 : pd_G xs Ls d pd_m126 (14, L, st, S) o ↔ pd_K xs Ls d pd_m126 (mm_go 18 L st S) o := pd_Gs (i := .goto 4) (n := 3) rfl
theorem p126_17 : pd_G xs Ls d pd_m126 (17, L, st, S) o ↔ pd_K xs Ls d pd_m126 (mm_go 18 L (.int 0 :: st) S) o := pd_Gs (i := .iconst 0) (n := 1) rfl
theorem p126_18 : pd_G xs Ls d pd_m126 (18, L, st, S) o ↔ pd_K xs Ls d pd_m126 (mm_putf pd_ck 18 L st S 7 39) o := pd_Gs (i := .putfield 85) (n := 3) rfl
theorem p126_21 : pd_G xs Ls d pd_m126 (21, L, st, S) o ↔ pd_K xs Ls d pd_m126 (mm_lA L 0 fun v => mm_go 22 L (v :: st) S) o := pd_Gs (i := .aload_n 0) (n := 1) rfl
theorem p126_22 : pd_G xs Ls d pd_m126 (22, L, st, S) o ↔ pd_K xs Ls d pd_m126 (mm_getf pd_ck 22 L st S 7 39) o := pd_Gs (i := .getfield 85) (n := 3) rfl
theorem p126_25 : pd_G xs Ls d pd_m126 (25, L, st, S) o ↔ pd_K xs Ls d pd_m126 (mm_i st fun x r => mm_icmp .ne x 0 (mm_go 37 L r S) (mm_go 28 L r S)) o := pd_Gs (i := .ifCond .ne 12) (n := 3) rfl
theorem p126_28 : pd_G xs Ls d pd_m126 (28, L, st, S) o ↔ pd_K xs Ls d pd_m126 (mm_lA L 0 fun v => mm_go 29 L (v :: st) S) o := pd_Gs (i := .aload_n 0) (n := 1) rfl
theorem p126_29 : pd_G xs Ls d pd_m126 (29, L, st, S) o ↔ pd_K xs Ls d pd_m126 (mm_getf pd_ck 29 L st S 7 21) o := pd_Gs (i := .getfield 49) (n := 3) rfl
theorem p126_32 : pd_G xs Ls d pd_m126 (32, L, st, S) o ↔ pd_K xs Ls d pd_m126 (mm_lI L 1 fun x => mm_go 33 L (.int x :: st) S) o := pd_Gs (i := .iload_n 1) (n := 1) rfl
theorem p126_33 : pd_G xs Ls d pd_m126 (33, L, st, S) o ↔ pd_K xs Ls d pd_m126 (mm_ai pd_ak S st 2 fun i a r => mm_go 34 L (.double (S.2.1.2.1 a i.toNatClampNeg) :: r) S) o := pd_Gs (i := .daload) (n := 1) rfl
theorem p126_34 : pd_G xs Ls d pd_m126 (34, L, st, S) o ↔ pd_K xs Ls d pd_m126 (mm_go 38 L st S) o := pd_Gs (i := .goto 4) (n := 3) rfl
theorem p126_37 : pd_G xs Ls d pd_m126 (37, L, st, S) o ↔ pd_K xs Ls d pd_m126 (mm_go 38 L (.double FP.dconst0 :: st) S) o := pd_Gs (i := .dconst 0) (n := 1) rfl
theorem p126_38 : pd_G xs Ls d pd_m126 (38, L, st, S) o ↔ pd_K xs Ls d pd_m126 (mm_rD S st) o := pd_Gs (i := .dreturn) (n := 1) rfl
theorem p127_0 : pd_G xs Ls d pd_m127 (0, L, st, S) o ↔ pd_K xs Ls d pd_m127 (mm_lA L 0 fun v => mm_go 1 L (v :: st) S) o := pd_Gs (i := .aload_n 0) (n := 1) rfl
theorem p127_1 : pd_G xs Ls d pd_m127 (1, L, st, S) o ↔ pd_K xs Ls d pd_m127 (mm_go 2 L (.int 0 :: st) S) o := pd_Gs (i := .iconst 0) (n := 1) rfl
theorem p127_2 : pd_G xs Ls d pd_m127 (2, L, st, S) o ↔ pd_K xs Ls d pd_m127 (mm_putf pd_ck 2 L st S 7 39) o := pd_Gs (i := .putfield 85) (n := 3) rfl
theorem p127_5 : pd_G xs Ls d pd_m127 (5, L, st, S) o ↔ pd_K xs Ls d pd_m127 (mm_go 6 L (.int 0 :: st) S) o := pd_Gs (i := .iconst 0) (n := 1) rfl
theorem p127_6 : pd_G xs Ls d pd_m127 (6, L, st, S) o ↔ pd_K xs Ls d pd_m127 (mm_i st fun x r => mm_go 7 (mm_sto L 0 2 (.int x)) r S) o := pd_Gs (i := .istore_n 2) (n := 1) rfl
theorem p127_7 : pd_G xs Ls d pd_m127 (7, L, st, S) o ↔ pd_K xs Ls d pd_m127 (mm_go 8 L (.int 0 :: st) S) o := pd_Gs (i := .iconst 0) (n := 1) rfl
theorem p127_8 : pd_G xs Ls d pd_m127 (8, L, st, S) o ↔ pd_K xs Ls d pd_m127 (mm_i st fun x r => mm_go 9 (mm_sto L 0 3 (.int x)) r S) o := pd_Gs (i := .istore_n 3) (n := 1) rfl
theorem p127_9 : pd_G xs Ls d pd_m127 (9, L, st, S) o ↔ pd_K xs Ls d pd_m127 (mm_lI L 3 fun x => mm_go 10 L (.int x :: st) S) o := pd_Gs (i := .iload_n 3) (n := 1) rfl
theorem p127_10 : pd_G xs Ls d pd_m127 (10, L, st, S) o ↔ pd_K xs Ls d pd_m127 (mm_go 11 L (.int 4 :: st) S) o := pd_Gs (i := .iconst 4) (n := 1) rfl
theorem p127_11 : pd_G xs Ls d pd_m127 (11, L, st, S) o ↔ pd_K xs Ls d pd_m127 (mm_ii st fun x y r => mm_icmp .ge x y (mm_go 32 L r S) (mm_go 14 L r S)) o := pd_Gs (i := .if_icmp .ge 21) (n := 3) rfl
theorem p127_14 : pd_G xs Ls d pd_m127 (14, L, st, S) o ↔ pd_K xs Ls d pd_m127 (mm_lA L 0 fun v => mm_go 15 L (v :: st) S) o := pd_Gs (i := .aload_n 0) (n := 1) rfl
theorem p127_15 : pd_G xs Ls d pd_m127 (15, L, st, S) o ↔ pd_K xs Ls d pd_m127 (mm_getf pd_ck 15 L st S 7 4) o := pd_Gs (i := .getfield 22) (n := 3) rfl
theorem p127_18 : pd_G xs Ls d pd_m127 (18, L, st, S) o ↔ pd_K xs Ls d pd_m127 (mm_lI L 3 fun x => mm_go 19 L (.int x :: st) S) o := pd_Gs (i := .iload_n 3) (n := 1) rfl
theorem p127_19 : pd_G xs Ls d pd_m127 (19, L, st, S) o ↔ pd_K xs Ls d pd_m127 (mm_ai pd_ak S st 4 fun i a r => mm_go 20 L (.int (S.2.1.1 a i.toNatClampNeg) :: r) S) o := pd_Gs (i := .baload) (n := 1) rfl
theorem p127_20 : pd_G xs Ls d pd_m127 (20, L, st, S) o ↔ pd_K xs Ls d pd_m127 (mm_i st fun x r => mm_icmp .eq x 0 (mm_go 26 L r S) (mm_go 23 L r S)) o := pd_Gs (i := .ifCond .eq 6) (n := 3) rfl
theorem p127_23 : pd_G xs Ls d pd_m127 (23, L, st, S) o ↔ pd_K xs Ls d pd_m127 (mm_lI L 2 fun x => mm_go 26 (mm_sto L 0 2 (.int (x + 1))) st S) o := pd_Gs (i := .iinc 2 1) (n := 3) rfl
theorem p127_26 : pd_G xs Ls d pd_m127 (26, L, st, S) o ↔ pd_K xs Ls d pd_m127 (mm_lI L 3 fun x => mm_go 29 (mm_sto L 0 3 (.int (x + 1))) st S) o := pd_Gs (i := .iinc 3 1) (n := 3) rfl
theorem p127_29 : pd_G xs Ls d pd_m127 (29, L, st, S) o ↔ pd_K xs Ls d pd_m127 (mm_go 9 L st S) o := pd_Gs (i := .goto (-20)) (n := 3) rfl
theorem p127_32 : pd_G xs Ls d pd_m127 (32, L, st, S) o ↔ pd_K xs Ls d pd_m127 (mm_lI L 1 fun x => mm_go 33 L (.int x :: st) S) o := pd_Gs (i := .iload_n 1) (n := 1) rfl
theorem p127_33 : pd_G xs Ls d pd_m127 (33, L, st, S) o ↔ pd_K xs Ls d pd_m127 (mm_i st fun x r => if x = 0 then mm_go 88 L r S else if x = 1 then mm_go 93 L r S else if x = 2 then mm_go 98 L r S else if x = 3 then mm_go 100 L r S else if x = 4 then mm_go 105 L r S else if x = 5 then mm_go 110 L r S else if x = 6 then mm_go 110 L r S else if x = 7 then mm_go 119 L r S else if x = 8 then mm_go 124 L r S else if x = 9 then mm_go 129 L r S else mm_go 134 L r S) o := pd_Gs (i := .tableswitch 101 0 9 #[55, 60, 65, 67, 72, 77, 77, 86, 91, 96]) (n := 55) rfl
theorem p127_88 : pd_G xs Ls d pd_m127 (88, L, st, S) o ↔ pd_K xs Ls d pd_m127 (mm_lA L 0 fun v => mm_go 89 L (v :: st) S) o := pd_Gs (i := .aload_n 0) (n := 1) rfl
theorem p127_89 : pd_G xs Ls d pd_m127 (89, L, st, S) o ↔ pd_K xs Ls d pd_m127 (mm_getf pd_ck 89 L st S 7 9) o := pd_Gs (i := .getfield 35) (n := 3) rfl
theorem p127_92 : pd_G xs Ls d pd_m127 (92, L, st, S) o ↔ pd_K xs Ls d pd_m127 (mm_e0 S st) o := pd_Gs (i := .ireturn) (n := 1) rfl
theorem p127_93 : pd_G xs Ls d pd_m127 (93, L, st, S) o ↔ pd_K xs Ls d pd_m127 (mm_lA L 0 fun v => mm_go 94 L (v :: st) S) o := pd_Gs (i := .aload_n 0) (n := 1) rfl
theorem p127_94 : pd_G xs Ls d pd_m127 (94, L, st, S) o ↔ pd_K xs Ls d pd_m127 (mm_getf pd_ck 94 L st S 7 8) o := pd_Gs (i := .getfield 88) (n := 3) rfl
theorem p127_97 : pd_G xs Ls d pd_m127 (97, L, st, S) o ↔ pd_K xs Ls d pd_m127 (mm_e0 S st) o := pd_Gs (i := .ireturn) (n := 1) rfl
theorem p127_98 : pd_G xs Ls d pd_m127 (98, L, st, S) o ↔ pd_K xs Ls d pd_m127 (mm_lI L 2 fun x => mm_go 99 L (.int x :: st) S) o := pd_Gs (i := .iload_n 2) (n := 1) rfl
theorem p127_99 : pd_G xs Ls d pd_m127 (99, L, st, S) o ↔ pd_K xs Ls d pd_m127 (mm_e0 S st) o := pd_Gs (i := .ireturn) (n := 1) rfl
theorem p127_100 : pd_G xs Ls d pd_m127 (100, L, st, S) o ↔ pd_K xs Ls d pd_m127 (mm_lA L 0 fun v => mm_go 101 L (v :: st) S) o := pd_Gs (i := .aload_n 0) (n := 1) rfl
theorem p127_101 : pd_G xs Ls d pd_m127 (101, L, st, S) o ↔ pd_K xs Ls d pd_m127 (mm_getf pd_ck 101 L st S 7 34) o := pd_Gs (i := .getfield 218) (n := 3) rfl
theorem p127_104 : pd_G xs Ls d pd_m127 (104, L, st, S) o ↔ pd_K xs Ls d pd_m127 (mm_e0 S st) o := pd_Gs (i := .ireturn) (n := 1) rfl
theorem p127_105 : pd_G xs Ls d pd_m127 (105, L, st, S) o ↔ pd_K xs Ls d pd_m127 (mm_lA L 0 fun v => mm_go 106 L (v :: st) S) o := pd_Gs (i := .aload_n 0) (n := 1) rfl
theorem p127_106 : pd_G xs Ls d pd_m127 (106, L, st, S) o ↔ pd_K xs Ls d pd_m127 (mm_getf pd_ck 106 L st S 7 35) o := pd_Gs (i := .getfield 206) (n := 3) rfl
theorem p127_109 : pd_G xs Ls d pd_m127 (109, L, st, S) o ↔ pd_K xs Ls d pd_m127 (mm_e0 S st) o := pd_Gs (i := .ireturn) (n := 1) rfl
theorem p127_110 : pd_G xs Ls d pd_m127 (110, L, st, S) o ↔ pd_K xs Ls d pd_m127 (mm_lA L 0 fun v => mm_go 111 L (v :: st) S) o := pd_Gs (i := .aload_n 0) (n := 1) rfl
theorem p127_111 : pd_G xs Ls d pd_m127 (111, L, st, S) o ↔ pd_K xs Ls d pd_m127 (mm_getf pd_ck 111 L st S 7 23) o := pd_Gs (i := .getfield 55) (n := 3) rfl
theorem p127_114 : pd_G xs Ls d pd_m127 (114, L, st, S) o ↔ pd_K xs Ls d pd_m127 (mm_lI L 1 fun x => mm_go 115 L (.int x :: st) S) o := pd_Gs (i := .iload_n 1) (n := 1) rfl
theorem p127_115 : pd_G xs Ls d pd_m127 (115, L, st, S) o ↔ pd_K xs Ls d pd_m127 (mm_go 116 L (.int 5 :: st) S) o := pd_Gs (i := .iconst 5) (n := 1) rfl
theorem p127_116 : pd_G xs Ls d pd_m127 (116, L, st, S) o ↔ pd_K xs Ls d pd_m127 (mm_ii st fun x y r => mm_go 117 L (.int (x - y) :: r) S) o := pd_Gs (i := .isub) (n := 1) rfl
theorem p127_117 : pd_G xs Ls d pd_m127 (117, L, st, S) o ↔ pd_K xs Ls d pd_m127 (mm_ial xs Ls pd_ak 117 L S st) o := pd_Gs (i := .iaload) (n := 1) rfl
theorem p127_118 : pd_G xs Ls d pd_m127 (118, L, st, S) o ↔ pd_K xs Ls d pd_m127 (mm_e0 S st) o := pd_Gs (i := .ireturn) (n := 1) rfl
theorem p127_119 : pd_G xs Ls d pd_m127 (119, L, st, S) o ↔ pd_K xs Ls d pd_m127 (mm_lA L 0 fun v => mm_go 120 L (v :: st) S) o := pd_Gs (i := .aload_n 0) (n := 1) rfl
theorem p127_120 : pd_G xs Ls d pd_m127 (120, L, st, S) o ↔ pd_K xs Ls d pd_m127 (mm_getf pd_ck 120 L st S 7 36) o := pd_Gs (i := .getfield 184) (n := 3) rfl
theorem p127_123 : pd_G xs Ls d pd_m127 (123, L, st, S) o ↔ pd_K xs Ls d pd_m127 (mm_e0 S st) o := pd_Gs (i := .ireturn) (n := 1) rfl
theorem p127_124 : pd_G xs Ls d pd_m127 (124, L, st, S) o ↔ pd_K xs Ls d pd_m127 (mm_lA L 0 fun v => mm_go 125 L (v :: st) S) o := pd_Gs (i := .aload_n 0) (n := 1) rfl
theorem p127_125 : pd_G xs Ls d pd_m127 (125, L, st, S) o ↔ pd_K xs Ls d pd_m127 (mm_getf pd_ck 125 L st S 7 37) o := pd_Gs (i := .getfield 190) (n := 3) rfl
theorem p127_128 : pd_G xs Ls d pd_m127 (128, L, st, S) o ↔ pd_K xs Ls d pd_m127 (mm_e0 S st) o := pd_Gs (i := .ireturn) (n := 1) rfl
theorem p127_129 : pd_G xs Ls d pd_m127 (129, L, st, S) o ↔ pd_K xs Ls d pd_m127 (mm_lA L 0 fun v => mm_go 130 L (v :: st) S) o := pd_Gs (i := .aload_n 0) (n := 1) rfl
theorem p127_130 : pd_G xs Ls d pd_m127 (130, L, st, S) o ↔ pd_K xs Ls d pd_m127 (mm_getf pd_ck 130 L st S 7 38) o := pd_Gs (i := .getfield 215) (n := 3) rfl
theorem p127_133 : pd_G xs Ls d pd_m127 (133, L, st, S) o ↔ pd_K xs Ls d pd_m127 (mm_e0 S st) o := pd_Gs (i := .ireturn) (n := 1) rfl
theorem p127_134 : pd_G xs Ls d pd_m127 (134, L, st, S) o ↔ pd_K xs Ls d pd_m127 (mm_go 135 L (.int (-1) :: st) S) o := pd_Gs (i := .iconst (-1)) (n := 1) rfl
theorem p127_135 : pd_G xs Ls d pd_m127 (135, L, st, S) o ↔ pd_K xs Ls d pd_m127 (mm_e0 S st) o := pd_Gs (i := .ireturn) (n := 1) rfl
theorem p128_0 : pd_G xs Ls d pd_m128 (0, L, st, S) o ↔ pd_K xs Ls d pd_m128 (mm_lA L 3 fun v => mm_go 1 L (v :: st) S) o := pd_Gs (i := .aload_n 3) (n := 1) rfl
theorem p128_1 : pd_G xs Ls d pd_m128 (1, L, st, S) o ↔ pd_K xs Ls d pd_m128 (mm_go 2 L (.int 0 :: st) S) o := pd_Gs (i := .iconst 0) (n := 1) rfl
theorem p128_2 : pd_G xs Ls d pd_m128 (2, L, st, S) o ↔ pd_K xs Ls d pd_m128 (mm_lA L 0 fun v => mm_go 3 L (v :: st) S) o := pd_Gs (i := .aload_n 0) (n := 1) rfl
theorem p128_3 : pd_G xs Ls d pd_m128 (3, L, st, S) o ↔ pd_K xs Ls d pd_m128 (mm_lJ L 1 fun x => mm_go 4 L (.long x :: st) S) o := pd_Gs (i := .lload_n 1) (n := 1) rfl
theorem p128_4 : pd_G xs Ls d pd_m128 (4, L, st, S) o ↔ pd_K xs Ls d pd_m128 (mm_inv (mm_ev xs Ls pd_ck pd_ak pd_mj d) pd_m128 4 L st S 2 1 0) o := pd_Gs (i := .invokevirtual 7) (n := 3) rfl
theorem p128_7 : pd_G xs Ls d pd_m128 (7, L, st, S) o ↔ pd_K xs Ls d pd_m128 (mm_i st fun x r => mm_go 8 L (.long x.toInt64 :: r) S) o := pd_Gs (i := .i2l) (n := 1) rfl
theorem p128_8 : pd_G xs Ls d pd_m128 (8, L, st, S) o ↔ pd_K xs Ls d pd_m128 (mm_j st fun x st => mm_ai pd_ak S st 3 fun i a r => mm_go 9 L r (mm_sJ S a i.toNatClampNeg x)) o := pd_Gs (i := .lastore) (n := 1) rfl
theorem p128_9 : pd_G xs Ls d pd_m128 (9, L, st, S) o ↔ pd_K xs Ls d pd_m128 (mm_go 20 L st S) o := pd_Gs (i := .goto 11) (n := 3) rfl
theorem p128_12 : pd_G xs Ls d pd_m128 (12, L, st, S) o ↔ pd_K xs Ls d pd_m128 (mm_r st fun x r => mm_go 14 (mm_sto L 0 4 (.ref x)) r S) o := pd_Gs (i := .astore 4) (n := 2) rfl
theorem p128_14 : pd_G xs Ls d pd_m128 (14, L, st, S) o ↔ pd_K xs Ls d pd_m128 (mm_go 15 L (.int 1 :: st) S) o := pd_Gs (i := .iconst 1) (n := 1) rfl
theorem p128_15 : pd_G xs Ls d pd_m128 (15, L, st, S) o ↔ pd_K xs Ls d pd_m128 (mm_e0 S st) o := pd_Gs (i := .ireturn) (n := 1) rfl
theorem p128_16 : pd_G xs Ls d pd_m128 (16, L, st, S) o ↔ pd_K xs Ls d pd_m128 (mm_r st fun x r => mm_go 18 (mm_sto L 0 4 (.ref x)) r S) o := pd_Gs (i := .astore 4) (n := 2) rfl
theorem p128_18 : pd_G xs Ls d pd_m128 (18, L, st, S) o ↔ pd_K xs Ls d pd_m128 (mm_go 19 L (.int 2 :: st) S) o := pd_Gs (i := .iconst 2) (n := 1) rfl
theorem p128_19 : pd_G xs Ls d pd_m128 (19, L, st, S) o ↔ pd_K xs Ls d pd_m128 (mm_e0 S st) o := pd_Gs (i := .ireturn) (n := 1) rfl
theorem p128_20 : pd_G xs Ls d pd_m128 (20, L, st, S) o ↔ pd_K xs Ls d pd_m128 (mm_go 21 L (.int 0 :: st) S) o := pd_Gs (i := .iconst 0) (n := 1) rfl
theorem p128_21 : pd_G xs Ls d pd_m128 (21, L, st, S) o ↔ pd_K xs Ls d pd_m128 (mm_e0 S st) o := pd_Gs (i := .ireturn) (n := 1) rfl
theorem p129_0 : pd_G xs Ls d pd_m129 (0, L, st, S) o ↔ pd_K xs Ls d pd_m129 (mm_lA L 2 fun v => mm_go 1 L (v :: st) S) o := pd_Gs (i := .aload_n 2) (n := 1) rfl
theorem p129_1 : pd_G xs Ls d pd_m129 (1, L, st, S) o ↔ pd_K xs Ls d pd_m129 (mm_go 2 L (.int 0 :: st) S) o := pd_Gs (i := .iconst 0) (n := 1) rfl
theorem p129_2 : pd_G xs Ls d pd_m129 (2, L, st, S) o ↔ pd_K xs Ls d pd_m129 (mm_lA L 0 fun v => mm_go 3 L (v :: st) S) o := pd_Gs (i := .aload_n 0) (n := 1) rfl
theorem p129_3 : pd_G xs Ls d pd_m129 (3, L, st, S) o ↔ pd_K xs Ls d pd_m129 (mm_lI L 1 fun x => mm_go 4 L (.int x :: st) S) o := pd_Gs (i := .iload_n 1) (n := 1) rfl
theorem p129_4 : pd_G xs Ls d pd_m129 (4, L, st, S) o ↔ pd_K xs Ls d pd_m129 (mm_inv (mm_ev xs Ls pd_ck pd_ak pd_mj d) pd_m129 4 L st S 4 1 0) o := pd_Gs (i := .invokevirtual 17) (n := 3) rfl
theorem p129_7 : pd_G xs Ls d pd_m129 (7, L, st, S) o ↔ pd_K xs Ls d pd_m129 (mm_i st fun x r => mm_go 8 L (.long x.toInt64 :: r) S) o := pd_Gs (i := .i2l) (n := 1) rfl
theorem p129_8 : pd_G xs Ls d pd_m129 (8, L, st, S) o ↔ pd_K xs Ls d pd_m129 (mm_j st fun x st => mm_ai pd_ak S st 3 fun i a r => mm_go 9 L r (mm_sJ S a i.toNatClampNeg x)) o := pd_Gs (i := .lastore) (n := 1) rfl
theorem p129_9 : pd_G xs Ls d pd_m129 (9, L, st, S) o ↔ pd_K xs Ls d pd_m129 (mm_go 15 L st S) o := pd_Gs (i := .goto 6) (n := 3) rfl
theorem p129_12 : pd_G xs Ls d pd_m129 (12, L, st, S) o ↔ pd_K xs Ls d pd_m129 (mm_r st fun x r => mm_go 13 (mm_sto L 0 3 (.ref x)) r S) o := pd_Gs (i := .astore_n 3) (n := 1) rfl
theorem p129_13 : pd_G xs Ls d pd_m129 (13, L, st, S) o ↔ pd_K xs Ls d pd_m129 (mm_go 14 L (.int 1 :: st) S) o := pd_Gs (i := .iconst 1) (n := 1) rfl
theorem p129_14 : pd_G xs Ls d pd_m129 (14, L, st, S) o ↔ pd_K xs Ls d pd_m129 (mm_e0 S st) o := pd_Gs (i := .ireturn) (n := 1) rfl
theorem p129_15 : pd_G xs Ls d pd_m129 (15, L, st, S) o ↔ pd_K xs Ls d pd_m129 (mm_go 16 L (.int 0 :: st) S) o := pd_Gs (i := .iconst 0) (n := 1) rfl
theorem p129_16 : pd_G xs Ls d pd_m129 (16, L, st, S) o ↔ pd_K xs Ls d pd_m129 (mm_e0 S st) o := pd_Gs (i := .ireturn) (n := 1) rfl
theorem p130_0 : pd_G xs Ls d pd_m130 (0, L, st, S) o ↔ pd_K xs Ls d pd_m130 (mm_lA L 0 fun v => mm_go 1 L (v :: st) S) o := pd_Gs (i := .aload_n 0) (n := 1) rfl
theorem p130_1 : pd_G xs Ls d pd_m130 (1, L, st, S) o ↔ pd_K xs Ls d pd_m130 (mm_lJ L 1 fun x => mm_go 2 L (.long x :: st) S) o := pd_Gs (i := .lload_n 1) (n := 1) rfl
theorem p130_2 : pd_G xs Ls d pd_m130 (2, L, st, S) o ↔ pd_K xs Ls d pd_m130 (mm_lI L 3 fun x => mm_go 3 L (.int x :: st) S) o := pd_Gs (i := .iload_n 3) (n := 1) rfl
theorem p130_3 : pd_G xs Ls d pd_m130 (3, L, st, S) o ↔ pd_K xs Ls d pd_m130 (mm_inv (mm_ev xs Ls pd_ck pd_ak pd_mj d) pd_m130 3 L st S 6 2 0) o := pd_Gs (i := .invokevirtual 21) (n := 3) rfl
theorem p130_6 : pd_G xs Ls d pd_m130 (6, L, st, S) o ↔ pd_K xs Ls d pd_m130 (mm_go 13 L st S) o := pd_Gs (i := .goto 7) (n := 3) rfl
theorem p130_9 : pd_G xs Ls d pd_m130 (9, L, st, S) o ↔ pd_K xs Ls d pd_m130 (mm_r st fun x r => mm_go 11 (mm_sto L 0 4 (.ref x)) r S) o := pd_Gs (i := .astore 4) (n := 2) rfl
theorem p130_11 : pd_G xs Ls d pd_m130 (11, L, st, S) o ↔ pd_K xs Ls d pd_m130 (mm_go 12 L (.int 1 :: st) S) o := pd_Gs (i := .iconst 1) (n := 1) rfl
theorem p130_12 : pd_G xs Ls d pd_m130 (12, L, st, S) o ↔ pd_K xs Ls d pd_m130 (mm_e0 S st) o := pd_Gs (i := .ireturn) (n := 1) rfl
theorem p130_13 : pd_G xs Ls d pd_m130 (13, L, st, S) o ↔ pd_K xs Ls d pd_m130 (mm_go 14 L (.int 0 :: st) S) o := pd_Gs (i := .iconst 0) (n := 1) rfl
theorem p130_14 : pd_G xs Ls d pd_m130 (14, L, st, S) o ↔ pd_K xs Ls d pd_m130 (mm_e0 S st) o := pd_Gs (i := .ireturn) (n := 1) rfl
theorem p131_0 : pd_G xs Ls d pd_m131 (0, L, st, S) o ↔ pd_K xs Ls d pd_m131 (mm_lA L 4 fun v => mm_go 2 L (v :: st) S) o := pd_Gs (i := .aload 4) (n := 2) rfl
theorem p131_2 : pd_G xs Ls d pd_m131 (2, L, st, S) o ↔ pd_K xs Ls d pd_m131 (mm_go 3 L (.int 0 :: st) S) o := pd_Gs (i := .iconst 0) (n := 1) rfl
theorem p131_3 : pd_G xs Ls d pd_m131 (3, L, st, S) o ↔ pd_K xs Ls d pd_m131 (mm_lA L 0 fun v => mm_go 4 L (v :: st) S) o := pd_Gs (i := .aload_n 0) (n := 1) rfl
theorem p131_4 : pd_G xs Ls d pd_m131 (4, L, st, S) o ↔ pd_K xs Ls d pd_m131 (mm_lI L 1 fun x => mm_go 5 L (.int x :: st) S) o := pd_Gs (i := .iload_n 1) (n := 1) rfl
theorem p131_5 : pd_G xs Ls d pd_m131 (5, L, st, S) o ↔ pd_K xs Ls d pd_m131 (mm_lI L 2 fun x => mm_go 6 L (.int x :: st) S) o := pd_Gs (i := .iload_n 2) (n := 1) rfl
theorem p131_6 : pd_G xs Ls d pd_m131 (6, L, st, S) o ↔ pd_K xs Ls d pd_m131 (mm_lI L 3 fun x => mm_go 7 L (.int x :: st) S) o := pd_Gs (i := .iload_n 3) (n := 1) rfl
theorem p131_7 : pd_G xs Ls d pd_m131 (7, L, st, S) o ↔ pd_K xs Ls d pd_m131 (mm_inv (mm_ev xs Ls pd_ck pd_ak pd_mj d) pd_m131 7 L st S 7 3 0) o := pd_Gs (i := .invokevirtual 25) (n := 3) rfl
theorem p131_10 : pd_G xs Ls d pd_m131 (10, L, st, S) o ↔ pd_K xs Ls d pd_m131 (mm_i st fun x r => mm_go 11 L (.long x.toInt64 :: r) S) o := pd_Gs (i := .i2l) (n := 1) rfl
theorem p131_11 : pd_G xs Ls d pd_m131 (11, L, st, S) o ↔ pd_K xs Ls d pd_m131 (mm_j st fun x st => mm_ai pd_ak S st 3 fun i a r => mm_go 12 L r (mm_sJ S a i.toNatClampNeg x)) o := pd_Gs (i := .lastore) (n := 1) rfl
theorem p131_12 : pd_G xs Ls d pd_m131 (12, L, st, S) o ↔ pd_K xs Ls d pd_m131 (mm_go 35 L st S) o := pd_Gs (i := .goto 23) (n := 3) rfl
theorem p131_15 : pd_G xs Ls d pd_m131 (15, L, st, S) o ↔ pd_K xs Ls d pd_m131 (mm_r st fun x r => mm_go 17 (mm_sto L 0 5 (.ref x)) r S) o := pd_Gs (i := .astore 5) (n := 2) rfl
theorem p131_17 : pd_G xs Ls d pd_m131 (17, L, st, S) o ↔ pd_K xs Ls d pd_m131 (mm_go 18 L (.int 1 :: st) S) o := pd_Gs (i := .iconst 1) (n := 1) rfl
theorem p131_18 : pd_G xs Ls d pd_m131 (18, L, st, S) o ↔ pd_K xs Ls d pd_m131 (mm_e0 S st) o := pd_Gs (i := .ireturn) (n := 1) rfl
theorem p131_19 : pd_G xs Ls d pd_m131 (19, L, st, S) o ↔ pd_K xs Ls d pd_m131 (mm_r st fun x r => mm_go 21 (mm_sto L 0 5 (.ref x)) r S) o := pd_Gs (i := .astore 5) (n := 2) rfl
theorem p131_21 : pd_G xs Ls d pd_m131 (21, L, st, S) o ↔ pd_K xs Ls d pd_m131 (mm_go 22 L (.int 2 :: st) S) o := pd_Gs (i := .iconst 2) (n := 1) rfl
theorem p131_22 : pd_G xs Ls d pd_m131 (22, L, st, S) o ↔ pd_K xs Ls d pd_m131 (mm_e0 S st) o := pd_Gs (i := .ireturn) (n := 1) rfl
theorem p131_23 : pd_G xs Ls d pd_m131 (23, L, st, S) o ↔ pd_K xs Ls d pd_m131 (mm_r st fun x r => mm_go 25 (mm_sto L 0 5 (.ref x)) r S) o := pd_Gs (i := .astore 5) (n := 2) rfl
theorem p131_25 : pd_G xs Ls d pd_m131 (25, L, st, S) o ↔ pd_K xs Ls d pd_m131 (mm_go 26 L (.int 3 :: st) S) o := pd_Gs (i := .iconst 3) (n := 1) rfl
theorem p131_26 : pd_G xs Ls d pd_m131 (26, L, st, S) o ↔ pd_K xs Ls d pd_m131 (mm_e0 S st) o := pd_Gs (i := .ireturn) (n := 1) rfl
theorem p131_27 : pd_G xs Ls d pd_m131 (27, L, st, S) o ↔ pd_K xs Ls d pd_m131 (mm_r st fun x r => mm_go 29 (mm_sto L 0 5 (.ref x)) r S) o := pd_Gs (i := .astore 5) (n := 2) rfl
theorem p131_29 : pd_G xs Ls d pd_m131 (29, L, st, S) o ↔ pd_K xs Ls d pd_m131 (mm_go 30 L (.int 4 :: st) S) o := pd_Gs (i := .iconst 4) (n := 1) rfl
theorem p131_30 : pd_G xs Ls d pd_m131 (30, L, st, S) o ↔ pd_K xs Ls d pd_m131 (mm_e0 S st) o := pd_Gs (i := .ireturn) (n := 1) rfl
theorem p131_31 : pd_G xs Ls d pd_m131 (31, L, st, S) o ↔ pd_K xs Ls d pd_m131 (mm_r st fun x r => mm_go 33 (mm_sto L 0 5 (.ref x)) r S) o := pd_Gs (i := .astore 5) (n := 2) rfl
theorem p131_33 : pd_G xs Ls d pd_m131 (33, L, st, S) o ↔ pd_K xs Ls d pd_m131 (mm_go 34 L (.int 5 :: st) S) o := pd_Gs (i := .iconst 5) (n := 1) rfl
theorem p131_34 : pd_G xs Ls d pd_m131 (34, L, st, S) o ↔ pd_K xs Ls d pd_m131 (mm_e0 S st) o := pd_Gs (i := .ireturn) (n := 1) rfl
theorem p131_35 : pd_G xs Ls d pd_m131 (35, L, st, S) o ↔ pd_K xs Ls d pd_m131 (mm_go 36 L (.int 0 :: st) S) o := pd_Gs (i := .iconst 0) (n := 1) rfl
theorem p131_36 : pd_G xs Ls d pd_m131 (36, L, st, S) o ↔ pd_K xs Ls d pd_m131 (mm_e0 S st) o := pd_Gs (i := .ireturn) (n := 1) rfl
theorem p132_0 : pd_G xs Ls d pd_m132 (0, L, st, S) o ↔ pd_K xs Ls d pd_m132 (mm_lA L 2 fun v => mm_go 1 L (v :: st) S) o := pd_Gs (i := .aload_n 2) (n := 1) rfl
theorem p132_1 : pd_G xs Ls d pd_m132 (1, L, st, S) o ↔ pd_K xs Ls d pd_m132 (mm_go 2 L (.int 0 :: st) S) o := pd_Gs (i := .iconst 0) (n := 1) rfl
theorem p132_2 : pd_G xs Ls d pd_m132 (2, L, st, S) o ↔ pd_K xs Ls d pd_m132 (mm_lA L 0 fun v => mm_go 3 L (v :: st) S) o := pd_Gs (i := .aload_n 0) (n := 1) rfl
theorem p132_3 : pd_G xs Ls d pd_m132 (3, L, st, S) o ↔ pd_K xs Ls d pd_m132 (mm_lI L 1 fun x => mm_go 4 L (.int x :: st) S) o := pd_Gs (i := .iload_n 1) (n := 1) rfl
theorem p132_4 : pd_G xs Ls d pd_m132 (4, L, st, S) o ↔ pd_K xs Ls d pd_m132 (mm_inv (mm_ev xs Ls pd_ck pd_ak pd_mj d) pd_m132 4 L st S 9 1 0) o := pd_Gs (i := .invokevirtual 35) (n := 3) rfl
theorem p132_7 : pd_G xs Ls d pd_m132 (7, L, st, S) o ↔ pd_K xs Ls d pd_m132 (mm_d st fun x st => mm_ai pd_ak S st 2 fun i a r => mm_go 8 L r (mm_sD S a i.toNatClampNeg x)) o := pd_Gs (i := .dastore) (n := 1) rfl
theorem p132_8 : pd_G xs Ls d pd_m132 (8, L, st, S) o ↔ pd_K xs Ls d pd_m132 (mm_go 14 L st S) o := pd_Gs (i := .goto 6) (n := 3) rfl
theorem p132_11 : pd_G xs Ls d pd_m132 (11, L, st, S) o ↔ pd_K xs Ls d pd_m132 (mm_r st fun x r => mm_go 12 (mm_sto L 0 3 (.ref x)) r S) o := pd_Gs (i := .astore_n 3) (n := 1) rfl
theorem p132_12 : pd_G xs Ls d pd_m132 (12, L, st, S) o ↔ pd_K xs Ls d pd_m132 (mm_go 13 L (.int 1 :: st) S) o := pd_Gs (i := .iconst 1) (n := 1) rfl
theorem p132_13 : pd_G xs Ls d pd_m132 (13, L, st, S) o ↔ pd_K xs Ls d pd_m132 (mm_e0 S st) o := pd_Gs (i := .ireturn) (n := 1) rfl
theorem p132_14 : pd_G xs Ls d pd_m132 (14, L, st, S) o ↔ pd_K xs Ls d pd_m132 (mm_go 15 L (.int 0 :: st) S) o := pd_Gs (i := .iconst 0) (n := 1) rfl
theorem p132_15 : pd_G xs Ls d pd_m132 (15, L, st, S) o ↔ pd_K xs Ls d pd_m132 (mm_e0 S st) o := pd_Gs (i := .ireturn) (n := 1) rfl
theorem p133_0 : pd_G xs Ls d pd_m133 (0, L, st, S) o ↔ pd_K xs Ls d pd_m133 (mm_lA L 0 fun v => mm_go 1 L (v :: st) S) o := pd_Gs (i := .aload_n 0) (n := 1) rfl
theorem p133_1 : pd_G xs Ls d pd_m133 (1, L, st, S) o ↔ pd_K xs Ls d pd_m133 (mm_lI L 1 fun x => mm_go 2 L (.int x :: st) S) o := pd_Gs (i := .iload_n 1) (n := 1) rfl
theorem p133_2 : pd_G xs Ls d pd_m133 (2, L, st, S) o ↔ pd_K xs Ls d pd_m133 (mm_lD L 2 fun x => mm_go 3 L (.double x :: st) S) o := pd_Gs (i := .dload_n 2) (n := 1) rfl
theorem p133_3 : pd_G xs Ls d pd_m133 (3, L, st, S) o ↔ pd_K xs Ls d pd_m133 (mm_inv (mm_ev xs Ls pd_ck pd_ak pd_mj d) pd_m133 3 L st S 10 2 0) o := pd_Gs (i := .invokevirtual 39) (n := 3) rfl
theorem p133_6 : pd_G xs Ls d pd_m133 (6, L, st, S) o ↔ pd_K xs Ls d pd_m133 (mm_go 13 L st S) o := pd_Gs (i := .goto 7) (n := 3) rfl
theorem p133_9 : pd_G xs Ls d pd_m133 (9, L, st, S) o ↔ pd_K xs Ls d pd_m133 (mm_r st fun x r => mm_go 11 (mm_sto L 0 4 (.ref x)) r S) o := pd_Gs (i := .astore 4) (n := 2) rfl
theorem p133_11 : pd_G xs Ls d pd_m133 (11, L, st, S) o ↔ pd_K xs Ls d pd_m133 (mm_go 12 L (.int 1 :: st) S) o := pd_Gs (i := .iconst 1) (n := 1) rfl
theorem p133_12 : pd_G xs Ls d pd_m133 (12, L, st, S) o ↔ pd_K xs Ls d pd_m133 (mm_e0 S st) o := pd_Gs (i := .ireturn) (n := 1) rfl
theorem p133_13 : pd_G xs Ls d pd_m133 (13, L, st, S) o ↔ pd_K xs Ls d pd_m133 (mm_go 14 L (.int 0 :: st) S) o := pd_Gs (i := .iconst 0) (n := 1) rfl
theorem p133_14 : pd_G xs Ls d pd_m133 (14, L, st, S) o ↔ pd_K xs Ls d pd_m133 (mm_e0 S st) o := pd_Gs (i := .ireturn) (n := 1) rfl
theorem p134_0 : pd_G xs Ls d pd_m134 (0, L, st, S) o ↔ pd_K xs Ls d pd_m134 (mm_lA L 2 fun v => mm_go 1 L (v :: st) S) o := pd_Gs (i := .aload_n 2) (n := 1) rfl
theorem p134_1 : pd_G xs Ls d pd_m134 (1, L, st, S) o ↔ pd_K xs Ls d pd_m134 (mm_go 2 L (.int 0 :: st) S) o := pd_Gs (i := .iconst 0) (n := 1) rfl
theorem p134_2 : pd_G xs Ls d pd_m134 (2, L, st, S) o ↔ pd_K xs Ls d pd_m134 (mm_lA L 0 fun v => mm_go 3 L (v :: st) S) o := pd_Gs (i := .aload_n 0) (n := 1) rfl
theorem p134_3 : pd_G xs Ls d pd_m134 (3, L, st, S) o ↔ pd_K xs Ls d pd_m134 (mm_lI L 1 fun x => mm_go 4 L (.int x :: st) S) o := pd_Gs (i := .iload_n 1) (n := 1) rfl
theorem p134_4 : pd_G xs Ls d pd_m134 (4, L, st, S) o ↔ pd_K xs Ls d pd_m134 (mm_inv (mm_ev xs Ls pd_ck pd_ak pd_mj d) pd_m134 4 L st S 11 1 0) o := pd_Gs (i := .invokevirtual 43) (n := 3) rfl
theorem p134_7 : pd_G xs Ls d pd_m134 (7, L, st, S) o ↔ pd_K xs Ls d pd_m134 (mm_d st fun x st => mm_ai pd_ak S st 2 fun i a r => mm_go 8 L r (mm_sD S a i.toNatClampNeg x)) o := pd_Gs (i := .dastore) (n := 1) rfl
theorem p134_8 : pd_G xs Ls d pd_m134 (8, L, st, S) o ↔ pd_K xs Ls d pd_m134 (mm_go 14 L st S) o := pd_Gs (i := .goto 6) (n := 3) rfl
theorem p134_11 : pd_G xs Ls d pd_m134 (11, L, st, S) o ↔ pd_K xs Ls d pd_m134 (mm_r st fun x r => mm_go 12 (mm_sto L 0 3 (.ref x)) r S) o := pd_Gs (i := .astore_n 3) (n := 1) rfl
theorem p134_12 : pd_G xs Ls d pd_m134 (12, L, st, S) o ↔ pd_K xs Ls d pd_m134 (mm_go 13 L (.int 1 :: st) S) o := pd_Gs (i := .iconst 1) (n := 1) rfl
theorem p134_13 : pd_G xs Ls d pd_m134 (13, L, st, S) o ↔ pd_K xs Ls d pd_m134 (mm_e0 S st) o := pd_Gs (i := .ireturn) (n := 1) rfl
theorem p134_14 : pd_G xs Ls d pd_m134 (14, L, st, S) o ↔ pd_K xs Ls d pd_m134 (mm_go 15 L (.int 0 :: st) S) o := pd_Gs (i := .iconst 0) (n := 1) rfl
theorem p134_15 : pd_G xs Ls d pd_m134 (15, L, st, S) o ↔ pd_K xs Ls d pd_m134 (mm_e0 S st) o := pd_Gs (i := .ireturn) (n := 1) rfl
theorem p135_0 : pd_G xs Ls d pd_m135 (0, L, st, S) o ↔ pd_K xs Ls d pd_m135 (mm_lI L 0 fun x => mm_go 1 L (.int x :: st) S) o := pd_Gs (i := .iload_n 0) (n := 1) rfl
theorem p135_1 : pd_G xs Ls d pd_m135 (1, L, st, S) o ↔ pd_K xs Ls d pd_m135 (mm_lI L 1 fun x => mm_go 2 L (.int x :: st) S) o := pd_Gs (i := .iload_n 1) (n := 1) rfl
theorem p135_2 : pd_G xs Ls d pd_m135 (2, L, st, S) o ↔ pd_K xs Ls d pd_m135 (mm_ii st fun x y r => mm_icmp .lt x y (mm_go 9 L r S) (mm_go 5 L r S)) o := pd_Gs (i := .if_icmp .lt 7) (n := 3) rfl
theorem p135_5 : pd_G xs Ls d pd_m135 (5, L, st, S) o ↔ pd_K xs Ls d pd_m135 (mm_lI L 0 fun x => mm_go 6 L (.int x :: st) S) o := pd_Gs (i := .iload_n 0) (n := 1) rfl
theorem p135_6 : pd_G xs Ls d pd_m135 (6, L, st, S) o ↔ pd_K xs Ls d pd_m135 (mm_go 10 L st S) o := pd_Gs (i := .goto 4) (n := 3) rfl
theorem p135_9 : pd_G xs Ls d pd_m135 (9, L, st, S) o ↔ pd_K xs Ls d pd_m135 (mm_lI L 1 fun x => mm_go 10 L (.int x :: st) S) o := pd_Gs (i := .iload_n 1) (n := 1) rfl
theorem p135_10 : pd_G xs Ls d pd_m135 (10, L, st, S) o ↔ pd_K xs Ls d pd_m135 (mm_e0 S st) o := pd_Gs (i := .ireturn) (n := 1) rfl
theorem pL_0 : pd_G xs Ls d pd_mL (0, L, st, S) o ↔ pd_K xs Ls d pd_mL (mm_al S (mm_go 3 L (.ref S.1.length :: st) (mm_new S (.inl 0)))) o := pd_Gs (i := .new 8) (n := 3) rfl
theorem pL_3 : pd_G xs Ls d pd_mL (3, L, st, S) o ↔ pd_K xs Ls d pd_mL (mm_1 st fun v r => cond (mm_c2 v) none (mm_go 4 L (v :: v :: r) S)) o := pd_Gs (i := .dup) (n := 1) rfl
theorem pL_4 : pd_G xs Ls d pd_mL (4, L, st, S) o ↔ pd_K xs Ls d pd_mL (mm_noT (mm_inv (mm_ev xs Ls pd_ck pd_ak pd_mj d) pd_mL 4 L st S 0 0 0)) o := pd_Gs (i := .invokespecial 46) (n := 3) rfl
theorem pL_7 : pd_G xs Ls d pd_mL (7, L, st, S) o ↔ pd_K xs Ls d pd_mL (mm_r st fun x r => mm_go 8 (mm_sto L 0 1 (.ref x)) r S) o := pd_Gs (i := .astore_n 1) (n := 1) rfl
theorem pL_8 : pd_G xs Ls d pd_mL (8, L, st, S) o ↔ pd_K xs Ls d pd_mL (mm_al S (mm_go 11 L (.ref S.1.length :: st) (mm_new S (.inl 7)))) o := pd_Gs (i := .new 47) (n := 3) rfl
theorem pL_11 : pd_G xs Ls d pd_mL (11, L, st, S) o ↔ pd_K xs Ls d pd_mL (mm_1 st fun v r => cond (mm_c2 v) none (mm_go 12 L (v :: v :: r) S)) o := pd_Gs (i := .dup) (n := 1) rfl
theorem pL_12 : pd_G xs Ls d pd_mL (12, L, st, S) o ↔ pd_K xs Ls d pd_mL (mm_noT (mm_inv (mm_ev xs Ls pd_ck pd_ak pd_mj d) pd_mL 12 L st S 91 0 7)) o := pd_Gs (i := .invokespecial 49) (n := 3) rfl
theorem pL_15 : pd_G xs Ls d pd_mL (15, L, st, S) o ↔ pd_K xs Ls d pd_mL (mm_r st fun x r => mm_go 16 (mm_sto L 0 2 (.ref x)) r S) o := pd_Gs (i := .astore_n 2) (n := 1) rfl
theorem pL_16 : pd_G xs Ls d pd_mL (16, L, st, S) o ↔ pd_K xs Ls d pd_mL (mm_go 17 L (.int 1 :: st) S) o := pd_Gs (i := .iconst 1) (n := 1) rfl
theorem pL_17 : pd_G xs Ls d pd_mL (17, L, st, S) o ↔ pd_K xs Ls d pd_mL (mm_i st fun n r => mm_al S (if n < 0 then none else mm_go 19 L (.ref S.1.length :: r) (mm_new S (.inr (3, n.toNatClampNeg))))) o := pd_Gs (i := .newarray .long) (n := 2) rfl
theorem pL_19 : pd_G xs Ls d pd_mL (19, L, st, S) o ↔ pd_K xs Ls d pd_mL (mm_r st fun x r => mm_go 20 (mm_sto L 0 3 (.ref x)) r S) o := pd_Gs (i := .astore_n 3) (n := 1) rfl
theorem pL_20 : pd_G xs Ls d pd_mL (20, L, st, S) o ↔ pd_K xs Ls d pd_mL (mm_go 21 L (.int 1 :: st) S) o := pd_Gs (i := .iconst 1) (n := 1) rfl
theorem pL_21 : pd_G xs Ls d pd_mL (21, L, st, S) o ↔ pd_K xs Ls d pd_mL (mm_i st fun n r => mm_al S (if n < 0 then none else mm_go 23 L (.ref S.1.length :: r) (mm_new S (.inr (2, n.toNatClampNeg))))) o := pd_Gs (i := .newarray .double) (n := 2) rfl
theorem pL_23 : pd_G xs Ls d pd_mL (23, L, st, S) o ↔ pd_K xs Ls d pd_mL (mm_r st fun x r => mm_go 25 (mm_sto L 0 4 (.ref x)) r S) o := pd_Gs (i := .astore 4) (n := 2) rfl
theorem pL_25 : pd_G xs Ls d pd_mL (25, L, st, S) o ↔ pd_K xs Ls d pd_mL (mm_go 26 L (.int 0 :: st) S) o := pd_Gs (i := .iconst 0) (n := 1) rfl
theorem pL_26 : pd_G xs Ls d pd_mL (26, L, st, S) o ↔ pd_K xs Ls d pd_mL (mm_i st fun x r => mm_go 28 (mm_sto L 0 5 (.int x)) r S) o := pd_Gs (i := .istore 5) (n := 2) rfl
theorem pL_28 : pd_G xs Ls d pd_mL (28, L, st, S) o ↔ pd_K xs Ls d pd_mL (mm_lI L 5 fun x => mm_go 30 L (.int x :: st) S) o := pd_Gs (i := .iload 5) (n := 2) rfl
theorem pL_30 : pd_G xs Ls d pd_mL (30, L, st, S) o ↔ pd_K xs Ls d pd_mL (mm_lA L 0 fun v => mm_go 31 L (v :: st) S) o := pd_Gs (i := .aload_n 0) (n := 1) rfl
theorem pL_32 : pd_G xs Ls d pd_mL (32, L, st, S) o ↔ pd_K xs Ls d pd_mL (mm_go 33 L (.int 4 :: st) S) o := pd_Gs (i := .iconst 4) (n := 1) rfl
theorem pL_33 : pd_G xs Ls d pd_mL (33, L, st, S) o ↔ pd_K xs Ls d pd_mL (mm_ii st fun x y r => mm_go 34 L (.int (x - y) :: r) S) o := pd_Gs (i := .isub) (n := 1) rfl
theorem pL_34 : pd_G xs Ls d pd_mL (34, L, st, S) o ↔ pd_K xs Ls d pd_mL (mm_ii st fun x y r => mm_icmp .gt x y (mm_go 639 L r S) (mm_go 37 L r S)) o := pd_Gs (i := .if_icmp .gt 605) (n := 3) rfl
theorem pL_37 : pd_G xs Ls d pd_mL (37, L, st, S) o ↔ pd_K xs Ls d pd_mL (mm_lA L 0 fun v => mm_go 38 L (v :: st) S) o := pd_Gs (i := .aload_n 0) (n := 1) rfl
theorem pL_38 : pd_G xs Ls d pd_mL (38, L, st, S) o ↔ pd_K xs Ls d pd_mL (mm_lI L 5 fun x => mm_go 40 L (.int x :: st) S) o := pd_Gs (i := .iload 5) (n := 2) rfl
theorem pL_40 : pd_G xs Ls d pd_mL (40, L, st, S) o ↔ pd_K xs Ls d pd_mL (mm_ial xs Ls pd_ak 40 L S st) o := pd_Gs (i := .iaload) (n := 1) rfl
theorem pL_41 : pd_G xs Ls d pd_mL (41, L, st, S) o ↔ pd_K xs Ls d pd_mL (mm_go 43 L (.int 7 :: st) S) o := pd_Gs (i := .bipush 7) (n := 2) rfl
theorem pL_43 : pd_G xs Ls d pd_mL (43, L, st, S) o ↔ pd_K xs Ls d pd_mL (mm_ii st fun x y r => mm_go 44 L (.int (x &&& y) :: r) S) o := pd_Gs (i := .iand) (n := 1) rfl
theorem pL_44 : pd_G xs Ls d pd_mL (44, L, st, S) o ↔ pd_K xs Ls d pd_mL (mm_i st fun x r => if x = 0 then mm_go 92 L r S else if x = 1 then mm_go 180 L r S else if x = 2 then mm_go 236 L r S else if x = 3 then mm_go 316 L r S else if x = 4 then mm_go 396 L r S else if x = 5 then mm_go 473 L r S else if x = 6 then mm_go 531 L r S else if x = 7 then mm_go 608 L r S else mm_go 633 L r S) o := pd_Gs (i := .tableswitch 589 0 7 #[48, 136, 192, 272, 352, 429, 487, 564]) (n := 48) rfl
theorem pL_92 : pd_G xs Ls d pd_mL (92, L, st, S) o ↔ pd_K xs Ls d pd_mL (mm_lA L 1 fun v => mm_go 93 L (v :: st) S) o := pd_Gs (i := .aload_n 1) (n := 1) rfl
theorem pL_93 : pd_G xs Ls d pd_mL (93, L, st, S) o ↔ pd_K xs Ls d pd_mL (mm_lA L 0 fun v => mm_go 94 L (v :: st) S) o := pd_Gs (i := .aload_n 0) (n := 1) rfl
theorem pL_94 : pd_G xs Ls d pd_mL (94, L, st, S) o ↔ pd_K xs Ls d pd_mL (mm_lI L 5 fun x => mm_go 96 L (.int x :: st) S) o := pd_Gs (i := .iload 5) (n := 2) rfl
theorem pL_96 : pd_G xs Ls d pd_mL (96, L, st, S) o ↔ pd_K xs Ls d pd_mL (mm_go 97 L (.int 1 :: st) S) o := pd_Gs (i := .iconst 1) (n := 1) rfl
theorem pL_97 : pd_G xs Ls d pd_mL (97, L, st, S) o ↔ pd_K xs Ls d pd_mL (mm_ii st fun x y r => mm_go 98 L (.int (x + y) :: r) S) o := pd_Gs (i := .iadd) (n := 1) rfl
theorem pL_98 : pd_G xs Ls d pd_mL (98, L, st, S) o ↔ pd_K xs Ls d pd_mL (mm_ial xs Ls pd_ak 98 L S st) o := pd_Gs (i := .iaload) (n := 1) rfl
theorem pL_99 : pd_G xs Ls d pd_mL (99, L, st, S) o ↔ pd_K xs Ls d pd_mL (mm_i st fun x r => mm_go 100 L (.long x.toInt64 :: r) S) o := pd_Gs (i := .i2l) (n := 1) rfl
theorem pL_100 : pd_G xs Ls d pd_mL (100, L, st, S) o ↔ pd_K xs Ls d pd_mL (mm_go 102 L (.int 32 :: st) S) o := pd_Gs (i := .bipush 32) (n := 2) rfl
theorem pL_102 : pd_G xs Ls d pd_mL (102, L, st, S) o ↔ pd_K xs Ls d pd_mL (mm_ji st fun x y r => mm_go 103 L (.long (x <<< (y.toInt64 &&& 63)) :: r) S) o := pd_Gs (i := .lshl) (n := 1) rfl
theorem pL_103 : pd_G xs Ls d pd_mL (103, L, st, S) o ↔ pd_K xs Ls d pd_mL (mm_lA L 0 fun v => mm_go 104 L (v :: st) S) o := pd_Gs (i := .aload_n 0) (n := 1) rfl
theorem pL_104 : pd_G xs Ls d pd_mL (104, L, st, S) o ↔ pd_K xs Ls d pd_mL (mm_lI L 5 fun x => mm_go 106 L (.int x :: st) S) o := pd_Gs (i := .iload 5) (n := 2) rfl
theorem pL_106 : pd_G xs Ls d pd_mL (106, L, st, S) o ↔ pd_K xs Ls d pd_mL (mm_go 107 L (.int 2 :: st) S) o := pd_Gs (i := .iconst 2) (n := 1) rfl
theorem pL_107 : pd_G xs Ls d pd_mL (107, L, st, S) o ↔ pd_K xs Ls d pd_mL (mm_ii st fun x y r => mm_go 108 L (.int (x + y) :: r) S) o := pd_Gs (i := .iadd) (n := 1) rfl
theorem pL_108 : pd_G xs Ls d pd_mL (108, L, st, S) o ↔ pd_K xs Ls d pd_mL (mm_ial xs Ls pd_ak 108 L S st) o := pd_Gs (i := .iaload) (n := 1) rfl
theorem pL_109 : pd_G xs Ls d pd_mL (109, L, st, S) o ↔ pd_K xs Ls d pd_mL (mm_i st fun x r => mm_go 110 L (.long x.toInt64 :: r) S) o := pd_Gs (i := .i2l) (n := 1) rfl
theorem pL_110 : pd_G xs Ls d pd_mL (110, L, st, S) o ↔ pd_K xs Ls d pd_mL (mm_go 113 L (.long 4294967295 :: st) S) o := pd_Gs (i := .ldc2_w 50) (n := 3) rfl
theorem pL_113 : pd_G xs Ls d pd_mL (113, L, st, S) o ↔ pd_K xs Ls d pd_mL (mm_jj st fun x y r => mm_go 114 L (.long (x &&& y) :: r) S) o := pd_Gs (i := .land) (n := 1) rfl
theorem pL_114 : pd_G xs Ls d pd_mL (114, L, st, S) o ↔ pd_K xs Ls d pd_mL (mm_jj st fun x y r => mm_go 115 L (.long (x ||| y) :: r) S) o := pd_Gs (i := .lor) (n := 1) rfl
theorem pL_115 : pd_G xs Ls d pd_mL (115, L, st, S) o ↔ pd_K xs Ls d pd_mL (mm_lA L 3 fun v => mm_go 116 L (v :: st) S) o := pd_Gs (i := .aload_n 3) (n := 1) rfl
theorem pL_116 : pd_G xs Ls d pd_mL (116, L, st, S) o ↔ pd_K xs Ls d pd_mL (mm_noT (mm_invS (mm_ev xs Ls pd_ck pd_ak pd_mj d) pd_mL 116 L st S 128 3)) o := pd_Gs (i := .invokestatic 52) (n := 3) rfl
theorem pL_119 : pd_G xs Ls d pd_mL (119, L, st, S) o ↔ pd_K xs Ls d pd_mL (mm_i st fun x r => mm_go 121 (mm_sto L 0 6 (.int x)) r S) o := pd_Gs (i := .istore 6) (n := 2) rfl
theorem pL_121 : pd_G xs Ls d pd_mL (121, L, st, S) o ↔ pd_K xs Ls d pd_mL (mm_lA L 2 fun v => mm_go 122 L (v :: st) S) o := pd_Gs (i := .aload_n 2) (n := 1) rfl
theorem pL_122 : pd_G xs Ls d pd_mL (122, L, st, S) o ↔ pd_K xs Ls d pd_mL (mm_lA L 0 fun v => mm_go 123 L (v :: st) S) o := pd_Gs (i := .aload_n 0) (n := 1) rfl
theorem pL_123 : pd_G xs Ls d pd_mL (123, L, st, S) o ↔ pd_K xs Ls d pd_mL (mm_lI L 5 fun x => mm_go 125 L (.int x :: st) S) o := pd_Gs (i := .iload 5) (n := 2) rfl
theorem pL_125 : pd_G xs Ls d pd_mL (125, L, st, S) o ↔ pd_K xs Ls d pd_mL (mm_go 126 L (.int 1 :: st) S) o := pd_Gs (i := .iconst 1) (n := 1) rfl
theorem pL_126 : pd_G xs Ls d pd_mL (126, L, st, S) o ↔ pd_K xs Ls d pd_mL (mm_ii st fun x y r => mm_go 127 L (.int (x + y) :: r) S) o := pd_Gs (i := .iadd) (n := 1) rfl
theorem pL_127 : pd_G xs Ls d pd_mL (127, L, st, S) o ↔ pd_K xs Ls d pd_mL (mm_ial xs Ls pd_ak 127 L S st) o := pd_Gs (i := .iaload) (n := 1) rfl
theorem pL_128 : pd_G xs Ls d pd_mL (128, L, st, S) o ↔ pd_K xs Ls d pd_mL (mm_i st fun x r => mm_go 129 L (.long x.toInt64 :: r) S) o := pd_Gs (i := .i2l) (n := 1) rfl
theorem pL_129 : pd_G xs Ls d pd_mL (129, L, st, S) o ↔ pd_K xs Ls d pd_mL (mm_go 131 L (.int 32 :: st) S) o := pd_Gs (i := .bipush 32) (n := 2) rfl
theorem pL_131 : pd_G xs Ls d pd_mL (131, L, st, S) o ↔ pd_K xs Ls d pd_mL (mm_ji st fun x y r => mm_go 132 L (.long (x <<< (y.toInt64 &&& 63)) :: r) S) o := pd_Gs (i := .lshl) (n := 1) rfl
theorem pL_132 : pd_G xs Ls d pd_mL (132, L, st, S) o ↔ pd_K xs Ls d pd_mL (mm_lA L 0 fun v => mm_go 133 L (v :: st) S) o := pd_Gs (i := .aload_n 0) (n := 1) rfl
theorem pL_133 : pd_G xs Ls d pd_mL (133, L, st, S) o ↔ pd_K xs Ls d pd_mL (mm_lI L 5 fun x => mm_go 135 L (.int x :: st) S) o := pd_Gs (i := .iload 5) (n := 2) rfl
theorem pL_135 : pd_G xs Ls d pd_mL (135, L, st, S) o ↔ pd_K xs Ls d pd_mL (mm_go 136 L (.int 2 :: st) S) o := pd_Gs (i := .iconst 2) (n := 1) rfl
theorem pL_136 : pd_G xs Ls d pd_mL (136, L, st, S) o ↔ pd_K xs Ls d pd_mL (mm_ii st fun x y r => mm_go 137 L (.int (x + y) :: r) S) o := pd_Gs (i := .iadd) (n := 1) rfl
theorem pL_137 : pd_G xs Ls d pd_mL (137, L, st, S) o ↔ pd_K xs Ls d pd_mL (mm_ial xs Ls pd_ak 137 L S st) o := pd_Gs (i := .iaload) (n := 1) rfl
theorem pL_138 : pd_G xs Ls d pd_mL (138, L, st, S) o ↔ pd_K xs Ls d pd_mL (mm_i st fun x r => mm_go 139 L (.long x.toInt64 :: r) S) o := pd_Gs (i := .i2l) (n := 1) rfl
theorem pL_139 : pd_G xs Ls d pd_mL (139, L, st, S) o ↔ pd_K xs Ls d pd_mL (mm_go 142 L (.long 4294967295 :: st) S) o := pd_Gs (i := .ldc2_w 50) (n := 3) rfl
theorem pL_142 : pd_G xs Ls d pd_mL (142, L, st, S) o ↔ pd_K xs Ls d pd_mL (mm_jj st fun x y r => mm_go 143 L (.long (x &&& y) :: r) S) o := pd_Gs (i := .land) (n := 1) rfl
theorem pL_143 : pd_G xs Ls d pd_mL (143, L, st, S) o ↔ pd_K xs Ls d pd_mL (mm_jj st fun x y r => mm_go 144 L (.long (x ||| y) :: r) S) o := pd_Gs (i := .lor) (n := 1) rfl
theorem pL_144 : pd_G xs Ls d pd_mL (144, L, st, S) o ↔ pd_K xs Ls d pd_mL (mm_inv (mm_ev xs Ls pd_ck pd_ak pd_mj d) pd_mL 144 L st S 93 1 7) o := pd_Gs (i := .invokevirtual 57) (n := 3) rfl
theorem pL_147 : pd_G xs Ls d pd_mL (147, L, st, S) o ↔ pd_K xs Ls d pd_mL (mm_i st fun x r => mm_go 149 (mm_sto L 0 7 (.int x)) r S) o := pd_Gs (i := .istore 7) (n := 2) rfl
theorem pL_149 : pd_G xs Ls d pd_mL (149, L, st, S) o ↔ pd_K xs Ls d pd_mL (mm_lA L 2 fun v => mm_go 150 L (v :: st) S) o := pd_Gs (i := .aload_n 2) (n := 1) rfl
theorem pL_150 : pd_G xs Ls d pd_mL (150, L, st, S) o ↔ pd_K xs Ls d pd_mL (mm_inv (mm_ev xs Ls pd_ck pd_ak pd_mj d) pd_mL 150 L st S 92 0 7) o := pd_Gs (i := .invokevirtual 58) (n := 3) rfl
theorem pL_153 : pd_G xs Ls d pd_mL (153, L, st, S) o ↔ pd_K xs Ls d pd_mL (mm_lI L 6 fun x => mm_go 155 L (.int x :: st) S) o := pd_Gs (i := .iload 6) (n := 2) rfl
theorem pL_155 : pd_G xs Ls d pd_mL (155, L, st, S) o ↔ pd_K xs Ls d pd_mL (mm_ii st fun x y r => mm_icmp .eq x y (mm_go 160 L r S) (mm_go 158 L r S)) o := pd_Gs (i := .if_icmp .eq 5) (n := 3) rfl
theorem pL_158 : pd_G xs Ls d pd_mL (158, L, st, S) o ↔ pd_K xs Ls d pd_mL (mm_go 159 L (.int 0 :: st) S) o := pd_Gs (i := .iconst 0) (n := 1) rfl
theorem pL_159 : pd_G xs Ls d pd_mL (159, L, st, S) o ↔ pd_K xs Ls d pd_mL (mm_e4 S st) o := pd_Gs (i := .ireturn) (n := 1) rfl
theorem pL_160 : pd_G xs Ls d pd_mL (160, L, st, S) o ↔ pd_K xs Ls d pd_mL (mm_lI L 6 fun x => mm_go 162 L (.int x :: st) S) o := pd_Gs (i := .iload 6) (n := 2) rfl
theorem pL_162 : pd_G xs Ls d pd_mL (162, L, st, S) o ↔ pd_K xs Ls d pd_mL (mm_i st fun x r => mm_icmp .ne x 0 (mm_go 177 L r S) (mm_go 165 L r S)) o := pd_Gs (i := .ifCond .ne 15) (n := 3) rfl
theorem pL_165 : pd_G xs Ls d pd_mL (165, L, st, S) o ↔ pd_K xs Ls d pd_mL (mm_lA L 3 fun v => mm_go 166 L (v :: st) S) o := pd_Gs (i := .aload_n 3) (n := 1) rfl
theorem pL_166 : pd_G xs Ls d pd_mL (166, L, st, S) o ↔ pd_K xs Ls d pd_mL (mm_go 167 L (.int 0 :: st) S) o := pd_Gs (i := .iconst 0) (n := 1) rfl
theorem pL_167 : pd_G xs Ls d pd_mL (167, L, st, S) o ↔ pd_K xs Ls d pd_mL (mm_ai pd_ak S st 3 fun i a r => mm_go 168 L (.long (S.2.1.2.2.2 a i.toNatClampNeg) :: r) S) o := pd_Gs (i := .laload) (n := 1) rfl
theorem pL_168 : pd_G xs Ls d pd_mL (168, L, st, S) o ↔ pd_K xs Ls d pd_mL (mm_lI L 7 fun x => mm_go 170 L (.int x :: st) S) o := pd_Gs (i := .iload 7) (n := 2) rfl
theorem pL_170 : pd_G xs Ls d pd_mL (170, L, st, S) o ↔ pd_K xs Ls d pd_mL (mm_i st fun x r => mm_go 171 L (.long x.toInt64 :: r) S) o := pd_Gs (i := .i2l) (n := 1) rfl
theorem pL_171 : pd_G xs Ls d pd_mL (171, L, st, S) o ↔ pd_K xs Ls d pd_mL (mm_jj st fun x y r => mm_go 172 L (.int (lg_cmp x y) :: r) S) o := pd_Gs (i := .lcmp) (n := 1) rfl
theorem pL_172 : pd_G xs Ls d pd_mL (172, L, st, S) o ↔ pd_K xs Ls d pd_mL (mm_i st fun x r => mm_icmp .eq x 0 (mm_go 177 L r S) (mm_go 175 L r S)) o := pd_Gs (i := .ifCond .eq 5) (n := 3) rfl
theorem pL_175 : pd_G xs Ls d pd_mL (175, L, st, S) o ↔ pd_K xs Ls d pd_mL (mm_go 176 L (.int 0 :: st) S) o := pd_Gs (i := .iconst 0) (n := 1) rfl
theorem pL_176 : pd_G xs Ls d pd_mL (176, L, st, S) o ↔ pd_K xs Ls d pd_mL (mm_e4 S st) o := pd_Gs (i := .ireturn) (n := 1) rfl
theorem pL_177 : pd_G xs Ls d pd_mL (177, L, st, S) o ↔ pd_K xs Ls d pd_mL (mm_go 633 L st S) o := pd_Gs (i := .goto 456) (n := 3) rfl
theorem pL_180 : pd_G xs Ls d pd_mL (180, L, st, S) o ↔ pd_K xs Ls d pd_mL (mm_lA L 1 fun v => mm_go 181 L (v :: st) S) o := pd_Gs (i := .aload_n 1) (n := 1) rfl
theorem pL_181 : pd_G xs Ls d pd_mL (181, L, st, S) o ↔ pd_K xs Ls d pd_mL (mm_lA L 0 fun v => mm_go 182 L (v :: st) S) o := pd_Gs (i := .aload_n 0) (n := 1) rfl
theorem pL_182 : pd_G xs Ls d pd_mL (182, L, st, S) o ↔ pd_K xs Ls d pd_mL (mm_lI L 5 fun x => mm_go 184 L (.int x :: st) S) o := pd_Gs (i := .iload 5) (n := 2) rfl
theorem pL_184 : pd_G xs Ls d pd_mL (184, L, st, S) o ↔ pd_K xs Ls d pd_mL (mm_go 185 L (.int 1 :: st) S) o := pd_Gs (i := .iconst 1) (n := 1) rfl
theorem pL_185 : pd_G xs Ls d pd_mL (185, L, st, S) o ↔ pd_K xs Ls d pd_mL (mm_ii st fun x y r => mm_go 186 L (.int (x + y) :: r) S) o := pd_Gs (i := .iadd) (n := 1) rfl
theorem pL_186 : pd_G xs Ls d pd_mL (186, L, st, S) o ↔ pd_K xs Ls d pd_mL (mm_ial xs Ls pd_ak 186 L S st) o := pd_Gs (i := .iaload) (n := 1) rfl
theorem pL_187 : pd_G xs Ls d pd_mL (187, L, st, S) o ↔ pd_K xs Ls d pd_mL (mm_lA L 3 fun v => mm_go 188 L (v :: st) S) o := pd_Gs (i := .aload_n 3) (n := 1) rfl
theorem pL_188 : pd_G xs Ls d pd_mL (188, L, st, S) o ↔ pd_K xs Ls d pd_mL (mm_noT (mm_invS (mm_ev xs Ls pd_ck pd_ak pd_mj d) pd_mL 188 L st S 129 3)) o := pd_Gs (i := .invokestatic 62) (n := 3) rfl
theorem pL_191 : pd_G xs Ls d pd_mL (191, L, st, S) o ↔ pd_K xs Ls d pd_mL (mm_i st fun x r => mm_go 193 (mm_sto L 0 6 (.int x)) r S) o := pd_Gs (i := .istore 6) (n := 2) rfl
theorem pL_193 : pd_G xs Ls d pd_mL (193, L, st, S) o ↔ pd_K xs Ls d pd_mL (mm_lA L 2 fun v => mm_go 194 L (v :: st) S) o := pd_Gs (i := .aload_n 2) (n := 1) rfl
theorem pL_194 : pd_G xs Ls d pd_mL (194, L, st, S) o ↔ pd_K xs Ls d pd_mL (mm_lA L 0 fun v => mm_go 195 L (v :: st) S) o := pd_Gs (i := .aload_n 0) (n := 1) rfl
theorem pL_195 : pd_G xs Ls d pd_mL (195, L, st, S) o ↔ pd_K xs Ls d pd_mL (mm_lI L 5 fun x => mm_go 197 L (.int x :: st) S) o := pd_Gs (i := .iload 5) (n := 2) rfl
theorem pL_197 : pd_G xs Ls d pd_mL (197, L, st, S) o ↔ pd_K xs Ls d pd_mL (mm_go 198 L (.int 1 :: st) S) o := pd_Gs (i := .iconst 1) (n := 1) rfl
theorem pL_198 : pd_G xs Ls d pd_mL (198, L, st, S) o ↔ pd_K xs Ls d pd_mL (mm_ii st fun x y r => mm_go 199 L (.int (x + y) :: r) S) o := pd_Gs (i := .iadd) (n := 1) rfl
theorem pL_199 : pd_G xs Ls d pd_mL (199, L, st, S) o ↔ pd_K xs Ls d pd_mL (mm_ial xs Ls pd_ak 199 L S st) o := pd_Gs (i := .iaload) (n := 1) rfl
theorem pL_200 : pd_G xs Ls d pd_mL (200, L, st, S) o ↔ pd_K xs Ls d pd_mL (mm_inv (mm_ev xs Ls pd_ck pd_ak pd_mj d) pd_mL 200 L st S 94 1 7) o := pd_Gs (i := .invokevirtual 65) (n := 3) rfl
theorem pL_203 : pd_G xs Ls d pd_mL (203, L, st, S) o ↔ pd_K xs Ls d pd_mL (mm_i st fun x r => mm_go 205 (mm_sto L 0 7 (.int x)) r S) o := pd_Gs (i := .istore 7) (n := 2) rfl
theorem pL_205 : pd_G xs Ls d pd_mL (205, L, st, S) o ↔ pd_K xs Ls d pd_mL (mm_lA L 2 fun v => mm_go 206 L (v :: st) S) o := pd_Gs (i := .aload_n 2) (n := 1) rfl
theorem pL_206 : pd_G xs Ls d pd_mL (206, L, st, S) o ↔ pd_K xs Ls d pd_mL (mm_inv (mm_ev xs Ls pd_ck pd_ak pd_mj d) pd_mL 206 L st S 92 0 7) o := pd_Gs (i := .invokevirtual 58) (n := 3) rfl
theorem pL_209 : pd_G xs Ls d pd_mL (209, L, st, S) o ↔ pd_K xs Ls d pd_mL (mm_lI L 6 fun x => mm_go 211 L (.int x :: st) S) o := pd_Gs (i := .iload 6) (n := 2) rfl
theorem pL_211 : pd_G xs Ls d pd_mL (211, L, st, S) o ↔ pd_K xs Ls d pd_mL (mm_ii st fun x y r => mm_icmp .eq x y (mm_go 216 L r S) (mm_go 214 L r S)) o := pd_Gs (i := .if_icmp .eq 5) (n := 3) rfl
theorem pL_214 : pd_G xs Ls d pd_mL (214, L, st, S) o ↔ pd_K xs Ls d pd_mL (mm_go 215 L (.int 0 :: st) S) o := pd_Gs (i := .iconst 0) (n := 1) rfl
theorem pL_215 : pd_G xs Ls d pd_mL (215, L, st, S) o ↔ pd_K xs Ls d pd_mL (mm_e4 S st) o := pd_Gs (i := .ireturn) (n := 1) rfl
theorem pL_216 : pd_G xs Ls d pd_mL (216, L, st, S) o ↔ pd_K xs Ls d pd_mL (mm_lI L 6 fun x => mm_go 218 L (.int x :: st) S) o := pd_Gs (i := .iload 6) (n := 2) rfl
theorem pL_218 : pd_G xs Ls d pd_mL (218, L, st, S) o ↔ pd_K xs Ls d pd_mL (mm_i st fun x r => mm_icmp .ne x 0 (mm_go 233 L r S) (mm_go 221 L r S)) o := pd_Gs (i := .ifCond .ne 15) (n := 3) rfl
theorem pL_221 : pd_G xs Ls d pd_mL (221, L, st, S) o ↔ pd_K xs Ls d pd_mL (mm_lA L 3 fun v => mm_go 222 L (v :: st) S) o := pd_Gs (i := .aload_n 3) (n := 1) rfl
theorem pL_222 : pd_G xs Ls d pd_mL (222, L, st, S) o ↔ pd_K xs Ls d pd_mL (mm_go 223 L (.int 0 :: st) S) o := pd_Gs (i := .iconst 0) (n := 1) rfl
theorem pL_223 : pd_G xs Ls d pd_mL (223, L, st, S) o ↔ pd_K xs Ls d pd_mL (mm_ai pd_ak S st 3 fun i a r => mm_go 224 L (.long (S.2.1.2.2.2 a i.toNatClampNeg) :: r) S) o := pd_Gs (i := .laload) (n := 1) rfl
theorem pL_224 : pd_G xs Ls d pd_mL (224, L, st, S) o ↔ pd_K xs Ls d pd_mL (mm_lI L 7 fun x => mm_go 226 L (.int x :: st) S) o := pd_Gs (i := .iload 7) (n := 2) rfl
theorem pL_226 : pd_G xs Ls d pd_mL (226, L, st, S) o ↔ pd_K xs Ls d pd_mL (mm_i st fun x r => mm_go 227 L (.long x.toInt64 :: r) S) o := pd_Gs (i := .i2l) (n := 1) rfl
theorem pL_227 : pd_G xs Ls d pd_mL (227, L, st, S) o ↔ pd_K xs Ls d pd_mL (mm_jj st fun x y r => mm_go 228 L (.int (lg_cmp x y) :: r) S) o := pd_Gs (i := .lcmp) (n := 1) rfl
theorem pL_228 : pd_G xs Ls d pd_mL (228, L, st, S) o ↔ pd_K xs Ls d pd_mL (mm_i st fun x r => mm_icmp .eq x 0 (mm_go 233 L r S) (mm_go 231 L r S)) o := pd_Gs (i := .ifCond .eq 5) (n := 3) rfl
theorem pL_231 : pd_G xs Ls d pd_mL (231, L, st, S) o ↔ pd_K xs Ls d pd_mL (mm_go 232 L (.int 0 :: st) S) o := pd_Gs (i := .iconst 0) (n := 1) rfl
theorem pL_232 : pd_G xs Ls d pd_mL (232, L, st, S) o ↔ pd_K xs Ls d pd_mL (mm_e4 S st) o := pd_Gs (i := .ireturn) (n := 1) rfl
theorem pL_233 : pd_G xs Ls d pd_mL (233, L, st, S) o ↔ pd_K xs Ls d pd_mL (mm_go 633 L st S) o := pd_Gs (i := .goto 400) (n := 3) rfl
theorem pL_236 : pd_G xs Ls d pd_mL (236, L, st, S) o ↔ pd_K xs Ls d pd_mL (mm_lA L 1 fun v => mm_go 237 L (v :: st) S) o := pd_Gs (i := .aload_n 1) (n := 1) rfl
theorem pL_237 : pd_G xs Ls d pd_mL (237, L, st, S) o ↔ pd_K xs Ls d pd_mL (mm_lA L 0 fun v => mm_go 238 L (v :: st) S) o := pd_Gs (i := .aload_n 0) (n := 1) rfl
theorem pL_238 : pd_G xs Ls d pd_mL (238, L, st, S) o ↔ pd_K xs Ls d pd_mL (mm_lI L 5 fun x => mm_go 240 L (.int x :: st) S) o := pd_Gs (i := .iload 5) (n := 2) rfl
theorem pL_240 : pd_G xs Ls d pd_mL (240, L, st, S) o ↔ pd_K xs Ls d pd_mL (mm_go 241 L (.int 1 :: st) S) o := pd_Gs (i := .iconst 1) (n := 1) rfl
theorem pL_241 : pd_G xs Ls d pd_mL (241, L, st, S) o ↔ pd_K xs Ls d pd_mL (mm_ii st fun x y r => mm_go 242 L (.int (x + y) :: r) S) o := pd_Gs (i := .iadd) (n := 1) rfl
theorem pL_242 : pd_G xs Ls d pd_mL (242, L, st, S) o ↔ pd_K xs Ls d pd_mL (mm_ial xs Ls pd_ak 242 L S st) o := pd_Gs (i := .iaload) (n := 1) rfl
theorem pL_243 : pd_G xs Ls d pd_mL (243, L, st, S) o ↔ pd_K xs Ls d pd_mL (mm_i st fun x r => mm_go 244 L (.long x.toInt64 :: r) S) o := pd_Gs (i := .i2l) (n := 1) rfl
theorem pL_244 : pd_G xs Ls d pd_mL (244, L, st, S) o ↔ pd_K xs Ls d pd_mL (mm_go 246 L (.int 32 :: st) S) o := pd_Gs (i := .bipush 32) (n := 2) rfl
theorem pL_246 : pd_G xs Ls d pd_mL (246, L, st, S) o ↔ pd_K xs Ls d pd_mL (mm_ji st fun x y r => mm_go 247 L (.long (x <<< (y.toInt64 &&& 63)) :: r) S) o := pd_Gs (i := .lshl) (n := 1) rfl
theorem pL_247 : pd_G xs Ls d pd_mL (247, L, st, S) o ↔ pd_K xs Ls d pd_mL (mm_lA L 0 fun v => mm_go 248 L (v :: st) S) o := pd_Gs (i := .aload_n 0) (n := 1) rfl
theorem pL_248 : pd_G xs Ls d pd_mL (248, L, st, S) o ↔ pd_K xs Ls d pd_mL (mm_lI L 5 fun x => mm_go 250 L (.int x :: st) S) o := pd_Gs (i := .iload 5) (n := 2) rfl
theorem pL_250 : pd_G xs Ls d pd_mL (250, L, st, S) o ↔ pd_K xs Ls d pd_mL (mm_go 251 L (.int 2 :: st) S) o := pd_Gs (i := .iconst 2) (n := 1) rfl
theorem pL_251 : pd_G xs Ls d pd_mL (251, L, st, S) o ↔ pd_K xs Ls d pd_mL (mm_ii st fun x y r => mm_go 252 L (.int (x + y) :: r) S) o := pd_Gs (i := .iadd) (n := 1) rfl
theorem pL_252 : pd_G xs Ls d pd_mL (252, L, st, S) o ↔ pd_K xs Ls d pd_mL (mm_ial xs Ls pd_ak 252 L S st) o := pd_Gs (i := .iaload) (n := 1) rfl
theorem pL_253 : pd_G xs Ls d pd_mL (253, L, st, S) o ↔ pd_K xs Ls d pd_mL (mm_i st fun x r => mm_go 254 L (.long x.toInt64 :: r) S) o := pd_Gs (i := .i2l) (n := 1) rfl
theorem pL_254 : pd_G xs Ls d pd_mL (254, L, st, S) o ↔ pd_K xs Ls d pd_mL (mm_go 257 L (.long 4294967295 :: st) S) o := pd_Gs (i := .ldc2_w 50) (n := 3) rfl
theorem pL_257 : pd_G xs Ls d pd_mL (257, L, st, S) o ↔ pd_K xs Ls d pd_mL (mm_jj st fun x y r => mm_go 258 L (.long (x &&& y) :: r) S) o := pd_Gs (i := .land) (n := 1) rfl
theorem pL_258 : pd_G xs Ls d pd_mL (258, L, st, S) o ↔ pd_K xs Ls d pd_mL (mm_jj st fun x y r => mm_go 259 L (.long (x ||| y) :: r) S) o := pd_Gs (i := .lor) (n := 1) rfl
theorem pL_259 : pd_G xs Ls d pd_mL (259, L, st, S) o ↔ pd_K xs Ls d pd_mL (mm_lA L 0 fun v => mm_go 260 L (v :: st) S) o := pd_Gs (i := .aload_n 0) (n := 1) rfl
theorem pL_260 : pd_G xs Ls d pd_mL (260, L, st, S) o ↔ pd_K xs Ls d pd_mL (mm_lI L 5 fun x => mm_go 262 L (.int x :: st) S) o := pd_Gs (i := .iload 5) (n := 2) rfl
theorem pL_262 : pd_G xs Ls d pd_mL (262, L, st, S) o ↔ pd_K xs Ls d pd_mL (mm_go 263 L (.int 3 :: st) S) o := pd_Gs (i := .iconst 3) (n := 1) rfl
theorem pL_263 : pd_G xs Ls d pd_mL (263, L, st, S) o ↔ pd_K xs Ls d pd_mL (mm_ii st fun x y r => mm_go 264 L (.int (x + y) :: r) S) o := pd_Gs (i := .iadd) (n := 1) rfl
theorem pL_264 : pd_G xs Ls d pd_mL (264, L, st, S) o ↔ pd_K xs Ls d pd_mL (mm_ial xs Ls pd_ak 264 L S st) o := pd_Gs (i := .iaload) (n := 1) rfl
theorem pL_265 : pd_G xs Ls d pd_mL (265, L, st, S) o ↔ pd_K xs Ls d pd_mL (mm_noT (mm_invS (mm_ev xs Ls pd_ck pd_ak pd_mj d) pd_mL 265 L st S 130 3)) o := pd_Gs (i := .invokestatic 66) (n := 3) rfl
theorem pL_268 : pd_G xs Ls d pd_mL (268, L, st, S) o ↔ pd_K xs Ls d pd_mL (mm_i st fun x r => mm_go 270 (mm_sto L 0 6 (.int x)) r S) o := pd_Gs (i := .istore 6) (n := 2) rfl
theorem pL_270 : pd_G xs Ls d pd_mL (270, L, st, S) o ↔ pd_K xs Ls d pd_mL (mm_lA L 2 fun v => mm_go 271 L (v :: st) S) o := pd_Gs (i := .aload_n 2) (n := 1) rfl
theorem pL_271 : pd_G xs Ls d pd_mL (271, L, st, S) o ↔ pd_K xs Ls d pd_mL (mm_lA L 0 fun v => mm_go 272 L (v :: st) S) o := pd_Gs (i := .aload_n 0) (n := 1) rfl
theorem pL_272 : pd_G xs Ls d pd_mL (272, L, st, S) o ↔ pd_K xs Ls d pd_mL (mm_lI L 5 fun x => mm_go 274 L (.int x :: st) S) o := pd_Gs (i := .iload 5) (n := 2) rfl
theorem pL_274 : pd_G xs Ls d pd_mL (274, L, st, S) o ↔ pd_K xs Ls d pd_mL (mm_go 275 L (.int 1 :: st) S) o := pd_Gs (i := .iconst 1) (n := 1) rfl
theorem pL_275 : pd_G xs Ls d pd_mL (275, L, st, S) o ↔ pd_K xs Ls d pd_mL (mm_ii st fun x y r => mm_go 276 L (.int (x + y) :: r) S) o := pd_Gs (i := .iadd) (n := 1) rfl
theorem pL_276 : pd_G xs Ls d pd_mL (276, L, st, S) o ↔ pd_K xs Ls d pd_mL (mm_ial xs Ls pd_ak 276 L S st) o := pd_Gs (i := .iaload) (n := 1) rfl
theorem pL_277 : pd_G xs Ls d pd_mL (277, L, st, S) o ↔ pd_K xs Ls d pd_mL (mm_i st fun x r => mm_go 278 L (.long x.toInt64 :: r) S) o := pd_Gs (i := .i2l) (n := 1) rfl
theorem pL_278 : pd_G xs Ls d pd_mL (278, L, st, S) o ↔ pd_K xs Ls d pd_mL (mm_go 280 L (.int 32 :: st) S) o := pd_Gs (i := .bipush 32) (n := 2) rfl
theorem pL_280 : pd_G xs Ls d pd_mL (280, L, st, S) o ↔ pd_K xs Ls d pd_mL (mm_ji st fun x y r => mm_go 281 L (.long (x <<< (y.toInt64 &&& 63)) :: r) S) o := pd_Gs (i := .lshl) (n := 1) rfl
theorem pL_281 : pd_G xs Ls d pd_mL (281, L, st, S) o ↔ pd_K xs Ls d pd_mL (mm_lA L 0 fun v => mm_go 282 L (v :: st) S) o := pd_Gs (i := .aload_n 0) (n := 1) rfl
theorem pL_282 : pd_G xs Ls d pd_mL (282, L, st, S) o ↔ pd_K xs Ls d pd_mL (mm_lI L 5 fun x => mm_go 284 L (.int x :: st) S) o := pd_Gs (i := .iload 5) (n := 2) rfl
theorem pL_284 : pd_G xs Ls d pd_mL (284, L, st, S) o ↔ pd_K xs Ls d pd_mL (mm_go 285 L (.int 2 :: st) S) o := pd_Gs (i := .iconst 2) (n := 1) rfl
theorem pL_285 : pd_G xs Ls d pd_mL (285, L, st, S) o ↔ pd_K xs Ls d pd_mL (mm_ii st fun x y r => mm_go 286 L (.int (x + y) :: r) S) o := pd_Gs (i := .iadd) (n := 1) rfl
theorem pL_286 : pd_G xs Ls d pd_mL (286, L, st, S) o ↔ pd_K xs Ls d pd_mL (mm_ial xs Ls pd_ak 286 L S st) o := pd_Gs (i := .iaload) (n := 1) rfl
theorem pL_287 : pd_G xs Ls d pd_mL (287, L, st, S) o ↔ pd_K xs Ls d pd_mL (mm_i st fun x r => mm_go 288 L (.long x.toInt64 :: r) S) o := pd_Gs (i := .i2l) (n := 1) rfl
theorem pL_288 : pd_G xs Ls d pd_mL (288, L, st, S) o ↔ pd_K xs Ls d pd_mL (mm_go 291 L (.long 4294967295 :: st) S) o := pd_Gs (i := .ldc2_w 50) (n := 3) rfl
theorem pL_291 : pd_G xs Ls d pd_mL (291, L, st, S) o ↔ pd_K xs Ls d pd_mL (mm_jj st fun x y r => mm_go 292 L (.long (x &&& y) :: r) S) o := pd_Gs (i := .land) (n := 1) rfl
theorem pL_292 : pd_G xs Ls d pd_mL (292, L, st, S) o ↔ pd_K xs Ls d pd_mL (mm_jj st fun x y r => mm_go 293 L (.long (x ||| y) :: r) S) o := pd_Gs (i := .lor) (n := 1) rfl
theorem pL_293 : pd_G xs Ls d pd_mL (293, L, st, S) o ↔ pd_K xs Ls d pd_mL (mm_lA L 0 fun v => mm_go 294 L (v :: st) S) o := pd_Gs (i := .aload_n 0) (n := 1) rfl
theorem pL_294 : pd_G xs Ls d pd_mL (294, L, st, S) o ↔ pd_K xs Ls d pd_mL (mm_lI L 5 fun x => mm_go 296 L (.int x :: st) S) o := pd_Gs (i := .iload 5) (n := 2) rfl
theorem pL_296 : pd_G xs Ls d pd_mL (296, L, st, S) o ↔ pd_K xs Ls d pd_mL (mm_go 297 L (.int 3 :: st) S) o := pd_Gs (i := .iconst 3) (n := 1) rfl
theorem pL_297 : pd_G xs Ls d pd_mL (297, L, st, S) o ↔ pd_K xs Ls d pd_mL (mm_ii st fun x y r => mm_go 298 L (.int (x + y) :: r) S) o := pd_Gs (i := .iadd) (n := 1) rfl
theorem pL_298 : pd_G xs Ls d pd_mL (298, L, st, S) o ↔ pd_K xs Ls d pd_mL (mm_ial xs Ls pd_ak 298 L S st) o := pd_Gs (i := .iaload) (n := 1) rfl
theorem pL_299 : pd_G xs Ls d pd_mL (299, L, st, S) o ↔ pd_K xs Ls d pd_mL (mm_inv (mm_ev xs Ls pd_ck pd_ak pd_mj d) pd_mL 299 L st S 113 2 7) o := pd_Gs (i := .invokevirtual 69) (n := 3) rfl
theorem pL_302 : pd_G xs Ls d pd_mL (302, L, st, S) o ↔ pd_K xs Ls d pd_mL (mm_lA L 2 fun v => mm_go 303 L (v :: st) S) o := pd_Gs (i := .aload_n 2) (n := 1) rfl
theorem pL_303 : pd_G xs Ls d pd_mL (303, L, st, S) o ↔ pd_K xs Ls d pd_mL (mm_inv (mm_ev xs Ls pd_ck pd_ak pd_mj d) pd_mL 303 L st S 92 0 7) o := pd_Gs (i := .invokevirtual 58) (n := 3) rfl
theorem pL_306 : pd_G xs Ls d pd_mL (306, L, st, S) o ↔ pd_K xs Ls d pd_mL (mm_lI L 6 fun x => mm_go 308 L (.int x :: st) S) o := pd_Gs (i := .iload 6) (n := 2) rfl
theorem pL_308 : pd_G xs Ls d pd_mL (308, L, st, S) o ↔ pd_K xs Ls d pd_mL (mm_ii st fun x y r => mm_icmp .eq x y (mm_go 313 L r S) (mm_go 311 L r S)) o := pd_Gs (i := .if_icmp .eq 5) (n := 3) rfl
theorem pL_311 : pd_G xs Ls d pd_mL (311, L, st, S) o ↔ pd_K xs Ls d pd_mL (mm_go 312 L (.int 0 :: st) S) o := pd_Gs (i := .iconst 0) (n := 1) rfl
theorem pL_312 : pd_G xs Ls d pd_mL (312, L, st, S) o ↔ pd_K xs Ls d pd_mL (mm_e4 S st) o := pd_Gs (i := .ireturn) (n := 1) rfl
theorem pL_313 : pd_G xs Ls d pd_mL (313, L, st, S) o ↔ pd_K xs Ls d pd_mL (mm_go 633 L st S) o := pd_Gs (i := .goto 320) (n := 3) rfl
theorem pL_316 : pd_G xs Ls d pd_mL (316, L, st, S) o ↔ pd_K xs Ls d pd_mL (mm_lA L 1 fun v => mm_go 317 L (v :: st) S) o := pd_Gs (i := .aload_n 1) (n := 1) rfl
theorem pL_317 : pd_G xs Ls d pd_mL (317, L, st, S) o ↔ pd_K xs Ls d pd_mL (mm_lA L 0 fun v => mm_go 318 L (v :: st) S) o := pd_Gs (i := .aload_n 0) (n := 1) rfl
theorem pL_318 : pd_G xs Ls d pd_mL (318, L, st, S) o ↔ pd_K xs Ls d pd_mL (mm_lI L 5 fun x => mm_go 320 L (.int x :: st) S) o := pd_Gs (i := .iload 5) (n := 2) rfl
theorem pL_320 : pd_G xs Ls d pd_mL (320, L, st, S) o ↔ pd_K xs Ls d pd_mL (mm_go 321 L (.int 1 :: st) S) o := pd_Gs (i := .iconst 1) (n := 1) rfl
theorem pL_321 : pd_G xs Ls d pd_mL (321, L, st, S) o ↔ pd_K xs Ls d pd_mL (mm_ii st fun x y r => mm_go 322 L (.int (x + y) :: r) S) o := pd_Gs (i := .iadd) (n := 1) rfl
theorem pL_322 : pd_G xs Ls d pd_mL (322, L, st, S) o ↔ pd_K xs Ls d pd_mL (mm_ial xs Ls pd_ak 322 L S st) o := pd_Gs (i := .iaload) (n := 1) rfl
theorem pL_323 : pd_G xs Ls d pd_mL (323, L, st, S) o ↔ pd_K xs Ls d pd_mL (mm_lA L 0 fun v => mm_go 324 L (v :: st) S) o := pd_Gs (i := .aload_n 0) (n := 1) rfl
theorem pL_324 : pd_G xs Ls d pd_mL (324, L, st, S) o ↔ pd_K xs Ls d pd_mL (mm_lI L 5 fun x => mm_go 326 L (.int x :: st) S) o := pd_Gs (i := .iload 5) (n := 2) rfl
theorem pL_326 : pd_G xs Ls d pd_mL (326, L, st, S) o ↔ pd_K xs Ls d pd_mL (mm_go 327 L (.int 2 :: st) S) o := pd_Gs (i := .iconst 2) (n := 1) rfl
theorem pL_327 : pd_G xs Ls d pd_mL (327, L, st, S) o ↔ pd_K xs Ls d pd_mL (mm_ii st fun x y r => mm_go 328 L (.int (x + y) :: r) S) o := pd_Gs (i := .iadd) (n := 1) rfl
theorem pL_328 : pd_G xs Ls d pd_mL (328, L, st, S) o ↔ pd_K xs Ls d pd_mL (mm_ial xs Ls pd_ak 328 L S st) o := pd_Gs (i := .iaload) (n := 1) rfl
theorem pL_329 : pd_G xs Ls d pd_mL (329, L, st, S) o ↔ pd_K xs Ls d pd_mL (mm_lA L 0 fun v => mm_go 330 L (v :: st) S) o := pd_Gs (i := .aload_n 0) (n := 1) rfl
theorem pL_330 : pd_G xs Ls d pd_mL (330, L, st, S) o ↔ pd_K xs Ls d pd_mL (mm_lI L 5 fun x => mm_go 332 L (.int x :: st) S) o := pd_Gs (i := .iload 5) (n := 2) rfl
theorem pL_332 : pd_G xs Ls d pd_mL (332, L, st, S) o ↔ pd_K xs Ls d pd_mL (mm_go 333 L (.int 3 :: st) S) o := pd_Gs (i := .iconst 3) (n := 1) rfl
theorem pL_333 : pd_G xs Ls d pd_mL (333, L, st, S) o ↔ pd_K xs Ls d pd_mL (mm_ii st fun x y r => mm_go 334 L (.int (x + y) :: r) S) o := pd_Gs (i := .iadd) (n := 1) rfl
theorem pL_334 : pd_G xs Ls d pd_mL (334, L, st, S) o ↔ pd_K xs Ls d pd_mL (mm_ial xs Ls pd_ak 334 L S st) o := pd_Gs (i := .iaload) (n := 1) rfl
theorem pL_335 : pd_G xs Ls d pd_mL (335, L, st, S) o ↔ pd_K xs Ls d pd_mL (mm_lA L 3 fun v => mm_go 336 L (v :: st) S) o := pd_Gs (i := .aload_n 3) (n := 1) rfl
theorem pL_336 : pd_G xs Ls d pd_mL (336, L, st, S) o ↔ pd_K xs Ls d pd_mL (mm_noT (mm_invS (mm_ev xs Ls pd_ck pd_ak pd_mj d) pd_mL 336 L st S 131 5)) o := pd_Gs (i := .invokestatic 70) (n := 3) rfl
theorem pL_339 : pd_G xs Ls d pd_mL (339, L, st, S) o ↔ pd_K xs Ls d pd_mL (mm_i st fun x r => mm_go 341 (mm_sto L 0 6 (.int x)) r S) o := pd_Gs (i := .istore 6) (n := 2) rfl
theorem pL_341 : pd_G xs Ls d pd_mL (341, L, st, S) o ↔ pd_K xs Ls d pd_mL (mm_lA L 2 fun v => mm_go 342 L (v :: st) S) o := pd_Gs (i := .aload_n 2) (n := 1) rfl
theorem pL_342 : pd_G xs Ls d pd_mL (342, L, st, S) o ↔ pd_K xs Ls d pd_mL (mm_lA L 0 fun v => mm_go 343 L (v :: st) S) o := pd_Gs (i := .aload_n 0) (n := 1) rfl
theorem pL_343 : pd_G xs Ls d pd_mL (343, L, st, S) o ↔ pd_K xs Ls d pd_mL (mm_lI L 5 fun x => mm_go 345 L (.int x :: st) S) o := pd_Gs (i := .iload 5) (n := 2) rfl
theorem pL_345 : pd_G xs Ls d pd_mL (345, L, st, S) o ↔ pd_K xs Ls d pd_mL (mm_go 346 L (.int 1 :: st) S) o := pd_Gs (i := .iconst 1) (n := 1) rfl
theorem pL_346 : pd_G xs Ls d pd_mL (346, L, st, S) o ↔ pd_K xs Ls d pd_mL (mm_ii st fun x y r => mm_go 347 L (.int (x + y) :: r) S) o := pd_Gs (i := .iadd) (n := 1) rfl
theorem pL_347 : pd_G xs Ls d pd_mL (347, L, st, S) o ↔ pd_K xs Ls d pd_mL (mm_ial xs Ls pd_ak 347 L S st) o := pd_Gs (i := .iaload) (n := 1) rfl
theorem pL_348 : pd_G xs Ls d pd_mL (348, L, st, S) o ↔ pd_K xs Ls d pd_mL (mm_lA L 0 fun v => mm_go 349 L (v :: st) S) o := pd_Gs (i := .aload_n 0) (n := 1) rfl
theorem pL_349 : pd_G xs Ls d pd_mL (349, L, st, S) o ↔ pd_K xs Ls d pd_mL (mm_lI L 5 fun x => mm_go 351 L (.int x :: st) S) o := pd_Gs (i := .iload 5) (n := 2) rfl
theorem pL_351 : pd_G xs Ls d pd_mL (351, L, st, S) o ↔ pd_K xs Ls d pd_mL (mm_go 352 L (.int 2 :: st) S) o := pd_Gs (i := .iconst 2) (n := 1) rfl
theorem pL_352 : pd_G xs Ls d pd_mL (352, L, st, S) o ↔ pd_K xs Ls d pd_mL (mm_ii st fun x y r => mm_go 353 L (.int (x + y) :: r) S) o := pd_Gs (i := .iadd) (n := 1) rfl
theorem pL_353 : pd_G xs Ls d pd_mL (353, L, st, S) o ↔ pd_K xs Ls d pd_mL (mm_ial xs Ls pd_ak 353 L S st) o := pd_Gs (i := .iaload) (n := 1) rfl
theorem pL_354 : pd_G xs Ls d pd_mL (354, L, st, S) o ↔ pd_K xs Ls d pd_mL (mm_lA L 0 fun v => mm_go 355 L (v :: st) S) o := pd_Gs (i := .aload_n 0) (n := 1) rfl
theorem pL_355 : pd_G xs Ls d pd_mL (355, L, st, S) o ↔ pd_K xs Ls d pd_mL (mm_lI L 5 fun x => mm_go 357 L (.int x :: st) S) o := pd_Gs (i := .iload 5) (n := 2) rfl
theorem pL_357 : pd_G xs Ls d pd_mL (357, L, st, S) o ↔ pd_K xs Ls d pd_mL (mm_go 358 L (.int 3 :: st) S) o := pd_Gs (i := .iconst 3) (n := 1) rfl
theorem pL_358 : pd_G xs Ls d pd_mL (358, L, st, S) o ↔ pd_K xs Ls d pd_mL (mm_ii st fun x y r => mm_go 359 L (.int (x + y) :: r) S) o := pd_Gs (i := .iadd) (n := 1) rfl
theorem pL_359 : pd_G xs Ls d pd_mL (359, L, st, S) o ↔ pd_K xs Ls d pd_mL (mm_ial xs Ls pd_ak 359 L S st) o := pd_Gs (i := .iaload) (n := 1) rfl
theorem pL_360 : pd_G xs Ls d pd_mL (360, L, st, S) o ↔ pd_K xs Ls d pd_mL (mm_inv (mm_ev xs Ls pd_ck pd_ak pd_mj d) pd_mL 360 L st S 114 3 7) o := pd_Gs (i := .invokevirtual 73) (n := 3) rfl
theorem pL_363 : pd_G xs Ls d pd_mL (363, L, st, S) o ↔ pd_K xs Ls d pd_mL (mm_i st fun x r => mm_go 365 (mm_sto L 0 7 (.int x)) r S) o := pd_Gs (i := .istore 7) (n := 2) rfl
theorem pL_365 : pd_G xs Ls d pd_mL (365, L, st, S) o ↔ pd_K xs Ls d pd_mL (mm_lA L 2 fun v => mm_go 366 L (v :: st) S) o := pd_Gs (i := .aload_n 2) (n := 1) rfl
theorem pL_366 : pd_G xs Ls d pd_mL (366, L, st, S) o ↔ pd_K xs Ls d pd_mL (mm_inv (mm_ev xs Ls pd_ck pd_ak pd_mj d) pd_mL 366 L st S 92 0 7) o := pd_Gs (i := .invokevirtual 58) (n := 3) rfl
theorem pL_369 : pd_G xs Ls d pd_mL (369, L, st, S) o ↔ pd_K xs Ls d pd_mL (mm_lI L 6 fun x => mm_go 371 L (.int x :: st) S) o := pd_Gs (i := .iload 6) (n := 2) rfl
theorem pL_371 : pd_G xs Ls d pd_mL (371, L, st, S) o ↔ pd_K xs Ls d pd_mL (mm_ii st fun x y r => mm_icmp .eq x y (mm_go 376 L r S) (mm_go 374 L r S)) o := pd_Gs (i := .if_icmp .eq 5) (n := 3) rfl
theorem pL_374 : pd_G xs Ls d pd_mL (374, L, st, S) o ↔ pd_K xs Ls d pd_mL (mm_go 375 L (.int 0 :: st) S) o := pd_Gs (i := .iconst 0) (n := 1) rfl
theorem pL_375 : pd_G xs Ls d pd_mL (375, L, st, S) o ↔ pd_K xs Ls d pd_mL (mm_e4 S st) o := pd_Gs (i := .ireturn) (n := 1) rfl
theorem pL_376 : pd_G xs Ls d pd_mL (376, L, st, S) o ↔ pd_K xs Ls d pd_mL (mm_lI L 6 fun x => mm_go 378 L (.int x :: st) S) o := pd_Gs (i := .iload 6) (n := 2) rfl
theorem pL_378 : pd_G xs Ls d pd_mL (378, L, st, S) o ↔ pd_K xs Ls d pd_mL (mm_i st fun x r => mm_icmp .ne x 0 (mm_go 393 L r S) (mm_go 381 L r S)) o := pd_Gs (i := .ifCond .ne 15) (n := 3) rfl
theorem pL_381 : pd_G xs Ls d pd_mL (381, L, st, S) o ↔ pd_K xs Ls d pd_mL (mm_lA L 3 fun v => mm_go 382 L (v :: st) S) o := pd_Gs (i := .aload_n 3) (n := 1) rfl
theorem pL_382 : pd_G xs Ls d pd_mL (382, L, st, S) o ↔ pd_K xs Ls d pd_mL (mm_go 383 L (.int 0 :: st) S) o := pd_Gs (i := .iconst 0) (n := 1) rfl
theorem pL_383 : pd_G xs Ls d pd_mL (383, L, st, S) o ↔ pd_K xs Ls d pd_mL (mm_ai pd_ak S st 3 fun i a r => mm_go 384 L (.long (S.2.1.2.2.2 a i.toNatClampNeg) :: r) S) o := pd_Gs (i := .laload) (n := 1) rfl
theorem pL_384 : pd_G xs Ls d pd_mL (384, L, st, S) o ↔ pd_K xs Ls d pd_mL (mm_lI L 7 fun x => mm_go 386 L (.int x :: st) S) o := pd_Gs (i := .iload 7) (n := 2) rfl
theorem pL_386 : pd_G xs Ls d pd_mL (386, L, st, S) o ↔ pd_K xs Ls d pd_mL (mm_i st fun x r => mm_go 387 L (.long x.toInt64 :: r) S) o := pd_Gs (i := .i2l) (n := 1) rfl
theorem pL_387 : pd_G xs Ls d pd_mL (387, L, st, S) o ↔ pd_K xs Ls d pd_mL (mm_jj st fun x y r => mm_go 388 L (.int (lg_cmp x y) :: r) S) o := pd_Gs (i := .lcmp) (n := 1) rfl
theorem pL_388 : pd_G xs Ls d pd_mL (388, L, st, S) o ↔ pd_K xs Ls d pd_mL (mm_i st fun x r => mm_icmp .eq x 0 (mm_go 393 L r S) (mm_go 391 L r S)) o := pd_Gs (i := .ifCond .eq 5) (n := 3) rfl
theorem pL_391 : pd_G xs Ls d pd_mL (391, L, st, S) o ↔ pd_K xs Ls d pd_mL (mm_go 392 L (.int 0 :: st) S) o := pd_Gs (i := .iconst 0) (n := 1) rfl
theorem pL_392 : pd_G xs Ls d pd_mL (392, L, st, S) o ↔ pd_K xs Ls d pd_mL (mm_e4 S st) o := pd_Gs (i := .ireturn) (n := 1) rfl
theorem pL_393 : pd_G xs Ls d pd_mL (393, L, st, S) o ↔ pd_K xs Ls d pd_mL (mm_go 633 L st S) o := pd_Gs (i := .goto 240) (n := 3) rfl
theorem pL_396 : pd_G xs Ls d pd_mL (396, L, st, S) o ↔ pd_K xs Ls d pd_mL (mm_lA L 1 fun v => mm_go 397 L (v :: st) S) o := pd_Gs (i := .aload_n 1) (n := 1) rfl
theorem pL_397 : pd_G xs Ls d pd_mL (397, L, st, S) o ↔ pd_K xs Ls d pd_mL (mm_lA L 0 fun v => mm_go 398 L (v :: st) S) o := pd_Gs (i := .aload_n 0) (n := 1) rfl
theorem pL_398 : pd_G xs Ls d pd_mL (398, L, st, S) o ↔ pd_K xs Ls d pd_mL (mm_lI L 5 fun x => mm_go 400 L (.int x :: st) S) o := pd_Gs (i := .iload 5) (n := 2) rfl
theorem pL_400 : pd_G xs Ls d pd_mL (400, L, st, S) o ↔ pd_K xs Ls d pd_mL (mm_go 401 L (.int 1 :: st) S) o := pd_Gs (i := .iconst 1) (n := 1) rfl
set_option maxRecDepth 8000 in
theorem pL_401 : pd_G xs Ls d pd_mL (401, L, st, S) o ↔ pd_K xs Ls d pd_mL (mm_ii st fun x y r => mm_go 402 L (.int (x + y) :: r) S) o := pd_Gs (i := .iadd) (n := 1) rfl
set_option maxRecDepth 8000 in
theorem pL_402 : pd_G xs Ls d pd_mL (402, L, st, S) o ↔ pd_K xs Ls d pd_mL (mm_ial xs Ls pd_ak 402 L S st) o := pd_Gs (i := .iaload) (n := 1) rfl
set_option maxRecDepth 8000 in
theorem pL_403 : pd_G xs Ls d pd_mL (403, L, st, S) o ↔ pd_K xs Ls d pd_mL (mm_lA L 4 fun v => mm_go 405 L (v :: st) S) o := pd_Gs (i := .aload 4) (n := 2) rfl
set_option maxRecDepth 8000 in
theorem pL_405 : pd_G xs Ls d pd_mL (405, L, st, S) o ↔ pd_K xs Ls d pd_mL (mm_noT (mm_invS (mm_ev xs Ls pd_ck pd_ak pd_mj d) pd_mL 405 L st S 132 3)) o := pd_Gs (i := .invokestatic 74) (n := 3) rfl
set_option maxRecDepth 8000 in
theorem pL_408 : pd_G xs Ls d pd_mL (408, L, st, S) o ↔ pd_K xs Ls d pd_mL (mm_i st fun x r => mm_go 410 (mm_sto L 0 6 (.int x)) r S) o := pd_Gs (i := .istore 6) (n := 2) rfl
set_option maxRecDepth 8000 in
theorem pL_410 : pd_G xs Ls d pd_mL (410, L, st, S) o ↔ pd_K xs Ls d pd_mL (mm_lA L 2 fun v => mm_go 411 L (v :: st) S) o := pd_Gs (i := .aload_n 2) (n := 1) rfl
set_option maxRecDepth 8000 in
theorem pL_411 : pd_G xs Ls d pd_mL (411, L, st, S) o ↔ pd_K xs Ls d pd_mL (mm_lA L 0 fun v => mm_go 412 L (v :: st) S) o := pd_Gs (i := .aload_n 0) (n := 1) rfl
set_option maxRecDepth 8000 in
theorem pL_412 : pd_G xs Ls d pd_mL (412, L, st, S) o ↔ pd_K xs Ls d pd_mL (mm_lI L 5 fun x => mm_go 414 L (.int x :: st) S) o := pd_Gs (i := .iload 5) (n := 2) rfl
set_option maxRecDepth 8000 in
theorem pL_414 : pd_G xs Ls d pd_mL (414, L, st, S) o ↔ pd_K xs Ls d pd_mL (mm_go 415 L (.int 1 :: st) S) o := pd_Gs (i := .iconst 1) (n := 1) rfl
set_option maxRecDepth 8000 in
theorem pL_415 : pd_G xs Ls d pd_mL (415, L, st, S) o ↔ pd_K xs Ls d pd_mL (mm_ii st fun x y r => mm_go 416 L (.int (x + y) :: r) S) o := pd_Gs (i := .iadd) (n := 1) rfl
set_option maxRecDepth 8000 in
theorem pL_416 : pd_G xs Ls d pd_mL (416, L, st, S) o ↔ pd_K xs Ls d pd_mL (mm_ial xs Ls pd_ak 416 L S st) o := pd_Gs (i := .iaload) (n := 1) rfl
set_option maxRecDepth 8000 in
theorem pL_417 : pd_G xs Ls d pd_mL (417, L, st, S) o ↔ pd_K xs Ls d pd_mL (mm_inv (mm_ev xs Ls pd_ck pd_ak pd_mj d) pd_mL 417 L st S 124 1 7) o := pd_Gs (i := .invokevirtual 77) (n := 3) rfl
set_option maxRecDepth 8000 in
theorem pL_420 : pd_G xs Ls d pd_mL (420, L, st, S) o ↔ pd_K xs Ls d pd_mL (mm_d st fun x r => mm_go 422 (mm_sto L 0 7 (.double x)) r S) o := pd_Gs (i := .dstore 7) (n := 2) rfl
set_option maxRecDepth 8000 in
theorem pL_422 : pd_G xs Ls d pd_mL (422, L, st, S) o ↔ pd_K xs Ls d pd_mL (mm_lA L 2 fun v => mm_go 423 L (v :: st) S) o := pd_Gs (i := .aload_n 2) (n := 1) rfl
set_option maxRecDepth 8000 in
theorem pL_423 : pd_G xs Ls d pd_mL (423, L, st, S) o ↔ pd_K xs Ls d pd_mL (mm_inv (mm_ev xs Ls pd_ck pd_ak pd_mj d) pd_mL 423 L st S 92 0 7) o := pd_Gs (i := .invokevirtual 58) (n := 3) rfl
set_option maxRecDepth 8000 in
theorem pL_426 : pd_G xs Ls d pd_mL (426, L, st, S) o ↔ pd_K xs Ls d pd_mL (mm_lI L 6 fun x => mm_go 428 L (.int x :: st) S) o := pd_Gs (i := .iload 6) (n := 2) rfl
set_option maxRecDepth 8000 in
theorem pL_428 : pd_G xs Ls d pd_mL (428, L, st, S) o ↔ pd_K xs Ls d pd_mL (mm_ii st fun x y r => mm_icmp .eq x y (mm_go 433 L r S) (mm_go 431 L r S)) o := pd_Gs (i := .if_icmp .eq 5) (n := 3) rfl
set_option maxRecDepth 8000 in
theorem pL_431 : pd_G xs Ls d pd_mL (431, L, st, S) o ↔ pd_K xs Ls d pd_mL (mm_go 432 L (.int 0 :: st) S) o := pd_Gs (i := .iconst 0) (n := 1) rfl
set_option maxRecDepth 8000 in
theorem pL_432 : pd_G xs Ls d pd_mL (432, L, st, S) o ↔ pd_K xs Ls d pd_mL (mm_e4 S st) o := pd_Gs (i := .ireturn) (n := 1) rfl
set_option maxRecDepth 8000 in
theorem pL_433 : pd_G xs Ls d pd_mL (433, L, st, S) o ↔ pd_K xs Ls d pd_mL (mm_lI L 6 fun x => mm_go 435 L (.int x :: st) S) o := pd_Gs (i := .iload 6) (n := 2) rfl
set_option maxRecDepth 8000 in
theorem pL_435 : pd_G xs Ls d pd_mL (435, L, st, S) o ↔ pd_K xs Ls d pd_mL (mm_i st fun x r => mm_icmp .ne x 0 (mm_go 470 L r S) (mm_go 438 L r S)) o := pd_Gs (i := .ifCond .ne 35) (n := 3) rfl
set_option maxRecDepth 8000 in
theorem pL_438 : pd_G xs Ls d pd_mL (438, L, st, S) o ↔ pd_K xs Ls d pd_mL (mm_lA L 4 fun v => mm_go 440 L (v :: st) S) o := pd_Gs (i := .aload 4) (n := 2) rfl
set_option maxRecDepth 8000 in
theorem pL_440 : pd_G xs Ls d pd_mL (440, L, st, S) o ↔ pd_K xs Ls d pd_mL (mm_go 441 L (.int 0 :: st) S) o := pd_Gs (i := .iconst 0) (n := 1) rfl
set_option maxRecDepth 8000 in
theorem pL_441 : pd_G xs Ls d pd_mL (441, L, st, S) o ↔ pd_K xs Ls d pd_mL (mm_ai pd_ak S st 2 fun i a r => mm_go 442 L (.double (S.2.1.2.1 a i.toNatClampNeg) :: r) S) o := pd_Gs (i := .daload) (n := 1) rfl
set_option maxRecDepth 8000 in
theorem pL_442 : pd_G xs Ls d pd_mL (442, L, st, S) o ↔ pd_K xs Ls d pd_mL (mm_lD L 7 fun x => mm_go 444 L (.double x :: st) S) o := pd_Gs (i := .dload 7) (n := 2) rfl
set_option maxRecDepth 8000 in
theorem pL_444 : pd_G xs Ls d pd_mL (444, L, st, S) o ↔ pd_K xs Ls d pd_mL (mm_dd st fun x y r => mm_go 445 L (.int (Op.cmpValue (FP.dcmp x y) .l) :: r) S) o := pd_Gs (i := .dcmp .l) (n := 1) rfl
set_option maxRecDepth 8000 in
theorem pL_445 : pd_G xs Ls d pd_mL (445, L, st, S) o ↔ pd_K xs Ls d pd_mL (mm_i st fun x r => mm_icmp .eq x 0 (mm_go 470 L r S) (mm_go 448 L r S)) o := pd_Gs (i := .ifCond .eq 25) (n := 3) rfl
set_option maxRecDepth 8000 in
theorem pL_448 : pd_G xs Ls d pd_mL (448, L, st, S) o ↔ pd_K xs Ls d pd_mL (mm_lA L 4 fun v => mm_go 450 L (v :: st) S) o := pd_Gs (i := .aload 4) (n := 2) rfl
set_option maxRecDepth 8000 in
theorem pL_450 : pd_G xs Ls d pd_mL (450, L, st, S) o ↔ pd_K xs Ls d pd_mL (mm_go 451 L (.int 0 :: st) S) o := pd_Gs (i := .iconst 0) (n := 1) rfl
set_option maxRecDepth 8000 in
theorem pL_451 : pd_G xs Ls d pd_mL (451, L, st, S) o ↔ pd_K xs Ls d pd_mL (mm_ai pd_ak S st 2 fun i a r => mm_go 452 L (.double (S.2.1.2.1 a i.toNatClampNeg) :: r) S) o := pd_Gs (i := .daload) (n := 1) rfl
set_option maxRecDepth 8000 in
theorem pL_452 : pd_G xs Ls d pd_mL (452, L, st, S) o ↔ pd_K xs Ls d pd_mL (mm_lA L 4 fun v => mm_go 454 L (v :: st) S) o := pd_Gs (i := .aload 4) (n := 2) rfl
set_option maxRecDepth 8000 in
theorem pL_454 : pd_G xs Ls d pd_mL (454, L, st, S) o ↔ pd_K xs Ls d pd_mL (mm_go 455 L (.int 0 :: st) S) o := pd_Gs (i := .iconst 0) (n := 1) rfl
set_option maxRecDepth 8000 in
theorem pL_455 : pd_G xs Ls d pd_mL (455, L, st, S) o ↔ pd_K xs Ls d pd_mL (mm_ai pd_ak S st 2 fun i a r => mm_go 456 L (.double (S.2.1.2.1 a i.toNatClampNeg) :: r) S) o := pd_Gs (i := .daload) (n := 1) rfl
set_option maxRecDepth 8000 in
theorem pL_456 : pd_G xs Ls d pd_mL (456, L, st, S) o ↔ pd_K xs Ls d pd_mL (mm_dd st fun x y r => mm_go 457 L (.int (Op.cmpValue (FP.dcmp x y) .l) :: r) S) o := pd_Gs (i := .dcmp .l) (n := 1) rfl
set_option maxRecDepth 8000 in
theorem pL_457 : pd_G xs Ls d pd_mL (457, L, st, S) o ↔ pd_K xs Ls d pd_mL (mm_i st fun x r => mm_icmp .eq x 0 (mm_go 468 L r S) (mm_go 460 L r S)) o := pd_Gs (i := .ifCond .eq 11) (n := 3) rfl
set_option maxRecDepth 8000 in
theorem pL_460 : pd_G xs Ls d pd_mL (460, L, st, S) o ↔ pd_K xs Ls d pd_mL (mm_lD L 7 fun x => mm_go 462 L (.double x :: st) S) o := pd_Gs (i := .dload 7) (n := 2) rfl
set_option maxRecDepth 8000 in
theorem pL_462 : pd_G xs Ls d pd_mL (462, L, st, S) o ↔ pd_K xs Ls d pd_mL (mm_lD L 7 fun x => mm_go 464 L (.double x :: st) S) o := pd_Gs (i := .dload 7) (n := 2) rfl
set_option maxRecDepth 8000 in
theorem pL_464 : pd_G xs Ls d pd_mL (464, L, st, S) o ↔ pd_K xs Ls d pd_mL (mm_dd st fun x y r => mm_go 465 L (.int (Op.cmpValue (FP.dcmp x y) .l) :: r) S) o := pd_Gs (i := .dcmp .l) (n := 1) rfl
set_option maxRecDepth 8000 in
theorem pL_465 : pd_G xs Ls d pd_mL (465, L, st, S) o ↔ pd_K xs Ls d pd_mL (mm_i st fun x r => mm_icmp .ne x 0 (mm_go 470 L r S) (mm_go 468 L r S)) o := pd_Gs (i := .ifCond .ne 5) (n := 3) rfl
set_option maxRecDepth 8000 in
theorem pL_468 : pd_G xs Ls d pd_mL (468, L, st, S) o ↔ pd_K xs Ls d pd_mL (mm_go 469 L (.int 0 :: st) S) o := pd_Gs (i := .iconst 0) (n := 1) rfl
set_option maxRecDepth 8000 in
theorem pL_469 : pd_G xs Ls d pd_mL (469, L, st, S) o ↔ pd_K xs Ls d pd_mL (mm_e4 S st) o := pd_Gs (i := .ireturn) (n := 1) rfl
set_option maxRecDepth 8000 in
theorem pL_470 : pd_G xs Ls d pd_mL (470, L, st, S) o ↔ pd_K xs Ls d pd_mL (mm_go 633 L st S) o := pd_Gs (i := .goto 163) (n := 3) rfl
set_option maxRecDepth 8000 in
theorem pL_473 : pd_G xs Ls d pd_mL (473, L, st, S) o ↔ pd_K xs Ls d pd_mL (mm_lA L 1 fun v => mm_go 474 L (v :: st) S) o := pd_Gs (i := .aload_n 1) (n := 1) rfl
set_option maxRecDepth 8000 in
theorem pL_474 : pd_G xs Ls d pd_mL (474, L, st, S) o ↔ pd_K xs Ls d pd_mL (mm_lA L 0 fun v => mm_go 475 L (v :: st) S) o := pd_Gs (i := .aload_n 0) (n := 1) rfl
set_option maxRecDepth 8000 in
theorem pL_475 : pd_G xs Ls d pd_mL (475, L, st, S) o ↔ pd_K xs Ls d pd_mL (mm_lI L 5 fun x => mm_go 477 L (.int x :: st) S) o := pd_Gs (i := .iload 5) (n := 2) rfl
set_option maxRecDepth 8000 in
theorem pL_477 : pd_G xs Ls d pd_mL (477, L, st, S) o ↔ pd_K xs Ls d pd_mL (mm_go 478 L (.int 1 :: st) S) o := pd_Gs (i := .iconst 1) (n := 1) rfl
set_option maxRecDepth 8000 in
theorem pL_478 : pd_G xs Ls d pd_mL (478, L, st, S) o ↔ pd_K xs Ls d pd_mL (mm_ii st fun x y r => mm_go 479 L (.int (x + y) :: r) S) o := pd_Gs (i := .iadd) (n := 1) rfl
set_option maxRecDepth 8000 in
theorem pL_479 : pd_G xs Ls d pd_mL (479, L, st, S) o ↔ pd_K xs Ls d pd_mL (mm_ial xs Ls pd_ak 479 L S st) o := pd_Gs (i := .iaload) (n := 1) rfl
set_option maxRecDepth 8000 in
theorem pL_480 : pd_G xs Ls d pd_mL (480, L, st, S) o ↔ pd_K xs Ls d pd_mL (mm_lA L 0 fun v => mm_go 481 L (v :: st) S) o := pd_Gs (i := .aload_n 0) (n := 1) rfl
set_option maxRecDepth 8000 in
theorem pL_481 : pd_G xs Ls d pd_mL (481, L, st, S) o ↔ pd_K xs Ls d pd_mL (mm_lI L 5 fun x => mm_go 483 L (.int x :: st) S) o := pd_Gs (i := .iload 5) (n := 2) rfl
set_option maxRecDepth 8000 in
theorem pL_483 : pd_G xs Ls d pd_mL (483, L, st, S) o ↔ pd_K xs Ls d pd_mL (mm_go 484 L (.int 2 :: st) S) o := pd_Gs (i := .iconst 2) (n := 1) rfl
set_option maxRecDepth 8000 in
theorem pL_484 : pd_G xs Ls d pd_mL (484, L, st, S) o ↔ pd_K xs Ls d pd_mL (mm_ii st fun x y r => mm_go 485 L (.int (x + y) :: r) S) o := pd_Gs (i := .iadd) (n := 1) rfl
set_option maxRecDepth 8000 in
theorem pL_485 : pd_G xs Ls d pd_mL (485, L, st, S) o ↔ pd_K xs Ls d pd_mL (mm_ial xs Ls pd_ak 485 L S st) o := pd_Gs (i := .iaload) (n := 1) rfl
set_option maxRecDepth 8000 in
theorem pL_486 : pd_G xs Ls d pd_mL (486, L, st, S) o ↔ pd_K xs Ls d pd_mL (mm_i st fun x r => mm_go 487 L (.double (FP.i2d x) :: r) S) o := pd_Gs (i := .i2d) (n := 1) rfl
set_option maxRecDepth 8000 in
theorem pL_487 : pd_G xs Ls d pd_mL (487, L, st, S) o ↔ pd_K xs Ls d pd_mL (mm_go 490 L (.double 4593671619917905920 :: st) S) o := pd_Gs (i := .ldc2_w 78) (n := 3) rfl
set_option maxRecDepth 8000 in
theorem pL_490 : pd_G xs Ls d pd_mL (490, L, st, S) o ↔ pd_K xs Ls d pd_mL (mm_dd st fun x y r => cond (mm_n64 (FP.dmul x y)) (mm_go 491 L (.double (FP.dmul x y) :: r) S) none) o := pd_Gs (i := .dmul) (n := 1) rfl
set_option maxRecDepth 8000 in
theorem pL_491 : pd_G xs Ls d pd_mL (491, L, st, S) o ↔ pd_K xs Ls d pd_mL (mm_noT (mm_invS (mm_ev xs Ls pd_ck pd_ak pd_mj d) pd_mL 491 L st S 133 3)) o := pd_Gs (i := .invokestatic 80) (n := 3) rfl
set_option maxRecDepth 8000 in
theorem pL_494 : pd_G xs Ls d pd_mL (494, L, st, S) o ↔ pd_K xs Ls d pd_mL (mm_i st fun x r => mm_go 496 (mm_sto L 0 6 (.int x)) r S) o := pd_Gs (i := .istore 6) (n := 2) rfl
set_option maxRecDepth 8000 in
theorem pL_496 : pd_G xs Ls d pd_mL (496, L, st, S) o ↔ pd_K xs Ls d pd_mL (mm_lA L 2 fun v => mm_go 497 L (v :: st) S) o := pd_Gs (i := .aload_n 2) (n := 1) rfl
set_option maxRecDepth 8000 in
theorem pL_497 : pd_G xs Ls d pd_mL (497, L, st, S) o ↔ pd_K xs Ls d pd_mL (mm_lA L 0 fun v => mm_go 498 L (v :: st) S) o := pd_Gs (i := .aload_n 0) (n := 1) rfl
set_option maxRecDepth 8000 in
theorem pL_498 : pd_G xs Ls d pd_mL (498, L, st, S) o ↔ pd_K xs Ls d pd_mL (mm_lI L 5 fun x => mm_go 500 L (.int x :: st) S) o := pd_Gs (i := .iload 5) (n := 2) rfl
set_option maxRecDepth 8000 in
theorem pL_500 : pd_G xs Ls d pd_mL (500, L, st, S) o ↔ pd_K xs Ls d pd_mL (mm_go 501 L (.int 1 :: st) S) o := pd_Gs (i := .iconst 1) (n := 1) rfl
set_option maxRecDepth 8000 in
theorem pL_501 : pd_G xs Ls d pd_mL (501, L, st, S) o ↔ pd_K xs Ls d pd_mL (mm_ii st fun x y r => mm_go 502 L (.int (x + y) :: r) S) o := pd_Gs (i := .iadd) (n := 1) rfl
set_option maxRecDepth 8000 in
theorem pL_502 : pd_G xs Ls d pd_mL (502, L, st, S) o ↔ pd_K xs Ls d pd_mL (mm_ial xs Ls pd_ak 502 L S st) o := pd_Gs (i := .iaload) (n := 1) rfl
set_option maxRecDepth 8000 in
theorem pL_503 : pd_G xs Ls d pd_mL (503, L, st, S) o ↔ pd_K xs Ls d pd_mL (mm_lA L 0 fun v => mm_go 504 L (v :: st) S) o := pd_Gs (i := .aload_n 0) (n := 1) rfl
set_option maxRecDepth 8000 in
theorem pL_504 : pd_G xs Ls d pd_mL (504, L, st, S) o ↔ pd_K xs Ls d pd_mL (mm_lI L 5 fun x => mm_go 506 L (.int x :: st) S) o := pd_Gs (i := .iload 5) (n := 2) rfl
set_option maxRecDepth 8000 in
theorem pL_506 : pd_G xs Ls d pd_mL (506, L, st, S) o ↔ pd_K xs Ls d pd_mL (mm_go 507 L (.int 2 :: st) S) o := pd_Gs (i := .iconst 2) (n := 1) rfl
set_option maxRecDepth 8000 in
theorem pL_507 : pd_G xs Ls d pd_mL (507, L, st, S) o ↔ pd_K xs Ls d pd_mL (mm_ii st fun x y r => mm_go 508 L (.int (x + y) :: r) S) o := pd_Gs (i := .iadd) (n := 1) rfl
set_option maxRecDepth 8000 in
theorem pL_508 : pd_G xs Ls d pd_mL (508, L, st, S) o ↔ pd_K xs Ls d pd_mL (mm_ial xs Ls pd_ak 508 L S st) o := pd_Gs (i := .iaload) (n := 1) rfl
set_option maxRecDepth 8000 in
theorem pL_509 : pd_G xs Ls d pd_mL (509, L, st, S) o ↔ pd_K xs Ls d pd_mL (mm_i st fun x r => mm_go 510 L (.double (FP.i2d x) :: r) S) o := pd_Gs (i := .i2d) (n := 1) rfl
set_option maxRecDepth 8000 in
theorem pL_510 : pd_G xs Ls d pd_mL (510, L, st, S) o ↔ pd_K xs Ls d pd_mL (mm_go 513 L (.double 4593671619917905920 :: st) S) o := pd_Gs (i := .ldc2_w 78) (n := 3) rfl
set_option maxRecDepth 8000 in
theorem pL_513 : pd_G xs Ls d pd_mL (513, L, st, S) o ↔ pd_K xs Ls d pd_mL (mm_dd st fun x y r => cond (mm_n64 (FP.dmul x y)) (mm_go 514 L (.double (FP.dmul x y) :: r) S) none) o := pd_Gs (i := .dmul) (n := 1) rfl
set_option maxRecDepth 8000 in
theorem pL_514 : pd_G xs Ls d pd_mL (514, L, st, S) o ↔ pd_K xs Ls d pd_mL (mm_inv (mm_ev xs Ls pd_ck pd_ak pd_mj d) pd_mL 514 L st S 125 2 7) o := pd_Gs (i := .invokevirtual 83) (n := 3) rfl
set_option maxRecDepth 8000 in
theorem pL_517 : pd_G xs Ls d pd_mL (517, L, st, S) o ↔ pd_K xs Ls d pd_mL (mm_lA L 2 fun v => mm_go 518 L (v :: st) S) o := pd_Gs (i := .aload_n 2) (n := 1) rfl
set_option maxRecDepth 8000 in
theorem pL_518 : pd_G xs Ls d pd_mL (518, L, st, S) o ↔ pd_K xs Ls d pd_mL (mm_inv (mm_ev xs Ls pd_ck pd_ak pd_mj d) pd_mL 518 L st S 92 0 7) o := pd_Gs (i := .invokevirtual 58) (n := 3) rfl
set_option maxRecDepth 8000 in
theorem pL_521 : pd_G xs Ls d pd_mL (521, L, st, S) o ↔ pd_K xs Ls d pd_mL (mm_lI L 6 fun x => mm_go 523 L (.int x :: st) S) o := pd_Gs (i := .iload 6) (n := 2) rfl
set_option maxRecDepth 8000 in
theorem pL_523 : pd_G xs Ls d pd_mL (523, L, st, S) o ↔ pd_K xs Ls d pd_mL (mm_ii st fun x y r => mm_icmp .eq x y (mm_go 528 L r S) (mm_go 526 L r S)) o := pd_Gs (i := .if_icmp .eq 5) (n := 3) rfl
set_option maxRecDepth 8000 in
theorem pL_526 : pd_G xs Ls d pd_mL (526, L, st, S) o ↔ pd_K xs Ls d pd_mL (mm_go 527 L (.int 0 :: st) S) o := pd_Gs (i := .iconst 0) (n := 1) rfl
set_option maxRecDepth 8000 in
theorem pL_527 : pd_G xs Ls d pd_mL (527, L, st, S) o ↔ pd_K xs Ls d pd_mL (mm_e4 S st) o := pd_Gs (i := .ireturn) (n := 1) rfl
set_option maxRecDepth 8000 in
theorem pL_528 : pd_G xs Ls d pd_mL (528, L, st, S) o ↔ pd_K xs Ls d pd_mL (mm_go 633 L st S) o := pd_Gs (i := .goto 105) (n := 3) rfl
set_option maxRecDepth 8000 in
theorem pL_531 : pd_G xs Ls d pd_mL (531, L, st, S) o ↔ pd_K xs Ls d pd_mL (mm_lA L 1 fun v => mm_go 532 L (v :: st) S) o := pd_Gs (i := .aload_n 1) (n := 1) rfl
set_option maxRecDepth 8000 in
theorem pL_532 : pd_G xs Ls d pd_mL (532, L, st, S) o ↔ pd_K xs Ls d pd_mL (mm_lA L 0 fun v => mm_go 533 L (v :: st) S) o := pd_Gs (i := .aload_n 0) (n := 1) rfl
set_option maxRecDepth 8000 in
theorem pL_533 : pd_G xs Ls d pd_mL (533, L, st, S) o ↔ pd_K xs Ls d pd_mL (mm_lI L 5 fun x => mm_go 535 L (.int x :: st) S) o := pd_Gs (i := .iload 5) (n := 2) rfl
set_option maxRecDepth 8000 in
theorem pL_535 : pd_G xs Ls d pd_mL (535, L, st, S) o ↔ pd_K xs Ls d pd_mL (mm_go 536 L (.int 1 :: st) S) o := pd_Gs (i := .iconst 1) (n := 1) rfl
set_option maxRecDepth 8000 in
theorem pL_536 : pd_G xs Ls d pd_mL (536, L, st, S) o ↔ pd_K xs Ls d pd_mL (mm_ii st fun x y r => mm_go 537 L (.int (x + y) :: r) S) o := pd_Gs (i := .iadd) (n := 1) rfl
set_option maxRecDepth 8000 in
theorem pL_537 : pd_G xs Ls d pd_mL (537, L, st, S) o ↔ pd_K xs Ls d pd_mL (mm_ial xs Ls pd_ak 537 L S st) o := pd_Gs (i := .iaload) (n := 1) rfl
set_option maxRecDepth 8000 in
theorem pL_538 : pd_G xs Ls d pd_mL (538, L, st, S) o ↔ pd_K xs Ls d pd_mL (mm_lA L 4 fun v => mm_go 540 L (v :: st) S) o := pd_Gs (i := .aload 4) (n := 2) rfl
set_option maxRecDepth 8000 in
theorem pL_540 : pd_G xs Ls d pd_mL (540, L, st, S) o ↔ pd_K xs Ls d pd_mL (mm_noT (mm_invS (mm_ev xs Ls pd_ck pd_ak pd_mj d) pd_mL 540 L st S 134 3)) o := pd_Gs (i := .invokestatic 84) (n := 3) rfl
set_option maxRecDepth 8000 in
theorem pL_543 : pd_G xs Ls d pd_mL (543, L, st, S) o ↔ pd_K xs Ls d pd_mL (mm_i st fun x r => mm_go 545 (mm_sto L 0 6 (.int x)) r S) o := pd_Gs (i := .istore 6) (n := 2) rfl
set_option maxRecDepth 8000 in
theorem pL_545 : pd_G xs Ls d pd_mL (545, L, st, S) o ↔ pd_K xs Ls d pd_mL (mm_lA L 2 fun v => mm_go 546 L (v :: st) S) o := pd_Gs (i := .aload_n 2) (n := 1) rfl
set_option maxRecDepth 8000 in
theorem pL_546 : pd_G xs Ls d pd_mL (546, L, st, S) o ↔ pd_K xs Ls d pd_mL (mm_lA L 0 fun v => mm_go 547 L (v :: st) S) o := pd_Gs (i := .aload_n 0) (n := 1) rfl
set_option maxRecDepth 8000 in
theorem pL_547 : pd_G xs Ls d pd_mL (547, L, st, S) o ↔ pd_K xs Ls d pd_mL (mm_lI L 5 fun x => mm_go 549 L (.int x :: st) S) o := pd_Gs (i := .iload 5) (n := 2) rfl
set_option maxRecDepth 8000 in
theorem pL_549 : pd_G xs Ls d pd_mL (549, L, st, S) o ↔ pd_K xs Ls d pd_mL (mm_go 550 L (.int 1 :: st) S) o := pd_Gs (i := .iconst 1) (n := 1) rfl
set_option maxRecDepth 8000 in
theorem pL_550 : pd_G xs Ls d pd_mL (550, L, st, S) o ↔ pd_K xs Ls d pd_mL (mm_ii st fun x y r => mm_go 551 L (.int (x + y) :: r) S) o := pd_Gs (i := .iadd) (n := 1) rfl
set_option maxRecDepth 8000 in
theorem pL_551 : pd_G xs Ls d pd_mL (551, L, st, S) o ↔ pd_K xs Ls d pd_mL (mm_ial xs Ls pd_ak 551 L S st) o := pd_Gs (i := .iaload) (n := 1) rfl
set_option maxRecDepth 8000 in
theorem pL_552 : pd_G xs Ls d pd_mL (552, L, st, S) o ↔ pd_K xs Ls d pd_mL (mm_inv (mm_ev xs Ls pd_ck pd_ak pd_mj d) pd_mL 552 L st S 126 1 7) o := pd_Gs (i := .invokevirtual 86) (n := 3) rfl
set_option maxRecDepth 8000 in
theorem pL_555 : pd_G xs Ls d pd_mL (555, L, st, S) o ↔ pd_K xs Ls d pd_mL (mm_d st fun x r => mm_go 557 (mm_sto L 0 7 (.double x)) r S) o := pd_Gs (i := .dstore 7) (n := 2) rfl
set_option maxRecDepth 8000 in
theorem pL_557 : pd_G xs Ls d pd_mL (557, L, st, S) o ↔ pd_K xs Ls d pd_mL (mm_lA L 2 fun v => mm_go 558 L (v :: st) S) o := pd_Gs (i := .aload_n 2) (n := 1) rfl
set_option maxRecDepth 8000 in
theorem pL_558 : pd_G xs Ls d pd_mL (558, L, st, S) o ↔ pd_K xs Ls d pd_mL (mm_inv (mm_ev xs Ls pd_ck pd_ak pd_mj d) pd_mL 558 L st S 92 0 7) o := pd_Gs (i := .invokevirtual 58) (n := 3) rfl
set_option maxRecDepth 8000 in
theorem pL_561 : pd_G xs Ls d pd_mL (561, L, st, S) o ↔ pd_K xs Ls d pd_mL (mm_lI L 6 fun x => mm_go 563 L (.int x :: st) S) o := pd_Gs (i := .iload 6) (n := 2) rfl
set_option maxRecDepth 8000 in
theorem pL_563 : pd_G xs Ls d pd_mL (563, L, st, S) o ↔ pd_K xs Ls d pd_mL (mm_ii st fun x y r => mm_icmp .eq x y (mm_go 568 L r S) (mm_go 566 L r S)) o := pd_Gs (i := .if_icmp .eq 5) (n := 3) rfl
set_option maxRecDepth 8000 in
theorem pL_566 : pd_G xs Ls d pd_mL (566, L, st, S) o ↔ pd_K xs Ls d pd_mL (mm_go 567 L (.int 0 :: st) S) o := pd_Gs (i := .iconst 0) (n := 1) rfl
set_option maxRecDepth 8000 in
theorem pL_567 : pd_G xs Ls d pd_mL (567, L, st, S) o ↔ pd_K xs Ls d pd_mL (mm_e4 S st) o := pd_Gs (i := .ireturn) (n := 1) rfl
set_option maxRecDepth 8000 in
theorem pL_568 : pd_G xs Ls d pd_mL (568, L, st, S) o ↔ pd_K xs Ls d pd_mL (mm_lI L 6 fun x => mm_go 570 L (.int x :: st) S) o := pd_Gs (i := .iload 6) (n := 2) rfl
set_option maxRecDepth 8000 in
theorem pL_570 : pd_G xs Ls d pd_mL (570, L, st, S) o ↔ pd_K xs Ls d pd_mL (mm_i st fun x r => mm_icmp .ne x 0 (mm_go 605 L r S) (mm_go 573 L r S)) o := pd_Gs (i := .ifCond .ne 35) (n := 3) rfl
set_option maxRecDepth 8000 in
theorem pL_573 : pd_G xs Ls d pd_mL (573, L, st, S) o ↔ pd_K xs Ls d pd_mL (mm_lA L 4 fun v => mm_go 575 L (v :: st) S) o := pd_Gs (i := .aload 4) (n := 2) rfl
set_option maxRecDepth 8000 in
theorem pL_575 : pd_G xs Ls d pd_mL (575, L, st, S) o ↔ pd_K xs Ls d pd_mL (mm_go 576 L (.int 0 :: st) S) o := pd_Gs (i := .iconst 0) (n := 1) rfl
set_option maxRecDepth 8000 in
theorem pL_576 : pd_G xs Ls d pd_mL (576, L, st, S) o ↔ pd_K xs Ls d pd_mL (mm_ai pd_ak S st 2 fun i a r => mm_go 577 L (.double (S.2.1.2.1 a i.toNatClampNeg) :: r) S) o := pd_Gs (i := .daload) (n := 1) rfl
set_option maxRecDepth 8000 in
theorem pL_577 : pd_G xs Ls d pd_mL (577, L, st, S) o ↔ pd_K xs Ls d pd_mL (mm_lD L 7 fun x => mm_go 579 L (.double x :: st) S) o := pd_Gs (i := .dload 7) (n := 2) rfl
set_option maxRecDepth 8000 in
theorem pL_579 : pd_G xs Ls d pd_mL (579, L, st, S) o ↔ pd_K xs Ls d pd_mL (mm_dd st fun x y r => mm_go 580 L (.int (Op.cmpValue (FP.dcmp x y) .l) :: r) S) o := pd_Gs (i := .dcmp .l) (n := 1) rfl
set_option maxRecDepth 8000 in
theorem pL_580 : pd_G xs Ls d pd_mL (580, L, st, S) o ↔ pd_K xs Ls d pd_mL (mm_i st fun x r => mm_icmp .eq x 0 (mm_go 605 L r S) (mm_go 583 L r S)) o := pd_Gs (i := .ifCond .eq 25) (n := 3) rfl
set_option maxRecDepth 8000 in
theorem pL_583 : pd_G xs Ls d pd_mL (583, L, st, S) o ↔ pd_K xs Ls d pd_mL (mm_lA L 4 fun v => mm_go 585 L (v :: st) S) o := pd_Gs (i := .aload 4) (n := 2) rfl
set_option maxRecDepth 8000 in
theorem pL_585 : pd_G xs Ls d pd_mL (585, L, st, S) o ↔ pd_K xs Ls d pd_mL (mm_go 586 L (.int 0 :: st) S) o := pd_Gs (i := .iconst 0) (n := 1) rfl
set_option maxRecDepth 8000 in
theorem pL_586 : pd_G xs Ls d pd_mL (586, L, st, S) o ↔ pd_K xs Ls d pd_mL (mm_ai pd_ak S st 2 fun i a r => mm_go 587 L (.double (S.2.1.2.1 a i.toNatClampNeg) :: r) S) o := pd_Gs (i := .daload) (n := 1) rfl
set_option maxRecDepth 8000 in
theorem pL_587 : pd_G xs Ls d pd_mL (587, L, st, S) o ↔ pd_K xs Ls d pd_mL (mm_lA L 4 fun v => mm_go 589 L (v :: st) S) o := pd_Gs (i := .aload 4) (n := 2) rfl
set_option maxRecDepth 8000 in
theorem pL_589 : pd_G xs Ls d pd_mL (589, L, st, S) o ↔ pd_K xs Ls d pd_mL (mm_go 590 L (.int 0 :: st) S) o := pd_Gs (i := .iconst 0) (n := 1) rfl
set_option maxRecDepth 8000 in
theorem pL_590 : pd_G xs Ls d pd_mL (590, L, st, S) o ↔ pd_K xs Ls d pd_mL (mm_ai pd_ak S st 2 fun i a r => mm_go 591 L (.double (S.2.1.2.1 a i.toNatClampNeg) :: r) S) o := pd_Gs (i := .daload) (n := 1) rfl
set_option maxRecDepth 8000 in
theorem pL_591 : pd_G xs Ls d pd_mL (591, L, st, S) o ↔ pd_K xs Ls d pd_mL (mm_dd st fun x y r => mm_go 592 L (.int (Op.cmpValue (FP.dcmp x y) .l) :: r) S) o := pd_Gs (i := .dcmp .l) (n := 1) rfl
set_option maxRecDepth 8000 in
theorem pL_592 : pd_G xs Ls d pd_mL (592, L, st, S) o ↔ pd_K xs Ls d pd_mL (mm_i st fun x r => mm_icmp .eq x 0 (mm_go 603 L r S) (mm_go 595 L r S)) o := pd_Gs (i := .ifCond .eq 11) (n := 3) rfl
set_option maxRecDepth 8000 in
theorem pL_595 : pd_G xs Ls d pd_mL (595, L, st, S) o ↔ pd_K xs Ls d pd_mL (mm_lD L 7 fun x => mm_go 597 L (.double x :: st) S) o := pd_Gs (i := .dload 7) (n := 2) rfl
set_option maxRecDepth 8000 in
theorem pL_597 : pd_G xs Ls d pd_mL (597, L, st, S) o ↔ pd_K xs Ls d pd_mL (mm_lD L 7 fun x => mm_go 599 L (.double x :: st) S) o := pd_Gs (i := .dload 7) (n := 2) rfl
set_option maxRecDepth 8000 in
theorem pL_599 : pd_G xs Ls d pd_mL (599, L, st, S) o ↔ pd_K xs Ls d pd_mL (mm_dd st fun x y r => mm_go 600 L (.int (Op.cmpValue (FP.dcmp x y) .l) :: r) S) o := pd_Gs (i := .dcmp .l) (n := 1) rfl
set_option maxRecDepth 8000 in
theorem pL_600 : pd_G xs Ls d pd_mL (600, L, st, S) o ↔ pd_K xs Ls d pd_mL (mm_i st fun x r => mm_icmp .ne x 0 (mm_go 605 L r S) (mm_go 603 L r S)) o := pd_Gs (i := .ifCond .ne 5) (n := 3) rfl
set_option maxRecDepth 8000 in
theorem pL_603 : pd_G xs Ls d pd_mL (603, L, st, S) o ↔ pd_K xs Ls d pd_mL (mm_go 604 L (.int 0 :: st) S) o := pd_Gs (i := .iconst 0) (n := 1) rfl
set_option maxRecDepth 8000 in
theorem pL_604 : pd_G xs Ls d pd_mL (604, L, st, S) o ↔ pd_K xs Ls d pd_mL (mm_e4 S st) o := pd_Gs (i := .ireturn) (n := 1) rfl
set_option maxRecDepth 8000 in
theorem pL_605 : pd_G xs Ls d pd_mL (605, L, st, S) o ↔ pd_K xs Ls d pd_mL (mm_go 633 L st S) o := pd_Gs (i := .goto 28) (n := 3) rfl
set_option maxRecDepth 8000 in
theorem pL_608 : pd_G xs Ls d pd_mL (608, L, st, S) o ↔ pd_K xs Ls d pd_mL (mm_lA L 1 fun v => mm_go 609 L (v :: st) S) o := pd_Gs (i := .aload_n 1) (n := 1) rfl
set_option maxRecDepth 8000 in
theorem pL_609 : pd_G xs Ls d pd_mL (609, L, st, S) o ↔ pd_K xs Ls d pd_mL (mm_lA L 0 fun v => mm_go 610 L (v :: st) S) o := pd_Gs (i := .aload_n 0) (n := 1) rfl
set_option maxRecDepth 8000 in
theorem pL_610 : pd_G xs Ls d pd_mL (610, L, st, S) o ↔ pd_K xs Ls d pd_mL (mm_lI L 5 fun x => mm_go 612 L (.int x :: st) S) o := pd_Gs (i := .iload 5) (n := 2) rfl
set_option maxRecDepth 8000 in
theorem pL_612 : pd_G xs Ls d pd_mL (612, L, st, S) o ↔ pd_K xs Ls d pd_mL (mm_go 613 L (.int 1 :: st) S) o := pd_Gs (i := .iconst 1) (n := 1) rfl
set_option maxRecDepth 8000 in
theorem pL_613 : pd_G xs Ls d pd_mL (613, L, st, S) o ↔ pd_K xs Ls d pd_mL (mm_ii st fun x y r => mm_go 614 L (.int (x + y) :: r) S) o := pd_Gs (i := .iadd) (n := 1) rfl
set_option maxRecDepth 8000 in
theorem pL_614 : pd_G xs Ls d pd_mL (614, L, st, S) o ↔ pd_K xs Ls d pd_mL (mm_ial xs Ls pd_ak 614 L S st) o := pd_Gs (i := .iaload) (n := 1) rfl
set_option maxRecDepth 8000 in
theorem pL_615 : pd_G xs Ls d pd_mL (615, L, st, S) o ↔ pd_K xs Ls d pd_mL (mm_inv (mm_ev xs Ls pd_ck pd_ak pd_mj d) pd_mL 615 L st S 1 1 0) o := pd_Gs (i := .invokevirtual 87) (n := 3) rfl
set_option maxRecDepth 8000 in
theorem pL_618 : pd_G xs Ls d pd_mL (618, L, st, S) o ↔ pd_K xs Ls d pd_mL (mm_lA L 2 fun v => mm_go 619 L (v :: st) S) o := pd_Gs (i := .aload_n 2) (n := 1) rfl
set_option maxRecDepth 8000 in
theorem pL_619 : pd_G xs Ls d pd_mL (619, L, st, S) o ↔ pd_K xs Ls d pd_mL (mm_lA L 0 fun v => mm_go 620 L (v :: st) S) o := pd_Gs (i := .aload_n 0) (n := 1) rfl
set_option maxRecDepth 8000 in
theorem pL_620 : pd_G xs Ls d pd_mL (620, L, st, S) o ↔ pd_K xs Ls d pd_mL (mm_lI L 5 fun x => mm_go 622 L (.int x :: st) S) o := pd_Gs (i := .iload 5) (n := 2) rfl
set_option maxRecDepth 8000 in
theorem pL_622 : pd_G xs Ls d pd_mL (622, L, st, S) o ↔ pd_K xs Ls d pd_mL (mm_go 623 L (.int 1 :: st) S) o := pd_Gs (i := .iconst 1) (n := 1) rfl
set_option maxRecDepth 8000 in
theorem pL_623 : pd_G xs Ls d pd_mL (623, L, st, S) o ↔ pd_K xs Ls d pd_mL (mm_ii st fun x y r => mm_go 624 L (.int (x + y) :: r) S) o := pd_Gs (i := .iadd) (n := 1) rfl
set_option maxRecDepth 8000 in
theorem pL_624 : pd_G xs Ls d pd_mL (624, L, st, S) o ↔ pd_K xs Ls d pd_mL (mm_ial xs Ls pd_ak 624 L S st) o := pd_Gs (i := .iaload) (n := 1) rfl
set_option maxRecDepth 8000 in
theorem pL_625 : pd_G xs Ls d pd_mL (625, L, st, S) o ↔ pd_K xs Ls d pd_mL (mm_inv (mm_ev xs Ls pd_ck pd_ak pd_mj d) pd_mL 625 L st S 127 1 7) o := pd_Gs (i := .invokevirtual 90) (n := 3) rfl
set_option maxRecDepth 8000 in
theorem pL_628 : pd_G xs Ls d pd_mL (628, L, st, S) o ↔ pd_K xs Ls d pd_mL (mm_ii st fun x y r => mm_icmp .eq x y (mm_go 633 L r S) (mm_go 631 L r S)) o := pd_Gs (i := .if_icmp .eq 5) (n := 3) rfl
set_option maxRecDepth 8000 in
theorem pL_631 : pd_G xs Ls d pd_mL (631, L, st, S) o ↔ pd_K xs Ls d pd_mL (mm_go 632 L (.int 0 :: st) S) o := pd_Gs (i := .iconst 0) (n := 1) rfl
set_option maxRecDepth 8000 in
theorem pL_632 : pd_G xs Ls d pd_mL (632, L, st, S) o ↔ pd_K xs Ls d pd_mL (mm_e4 S st) o := pd_Gs (i := .ireturn) (n := 1) rfl
set_option maxRecDepth 8000 in
theorem pL_633 : pd_G xs Ls d pd_mL (633, L, st, S) o ↔ pd_K xs Ls d pd_mL (mm_lI L 5 fun x => mm_go 636 (mm_sto L 0 5 (.int (x + 4))) st S) o := pd_Gs (i := .iinc 5 4) (n := 3) rfl
set_option maxRecDepth 8000 in
theorem pL_636 : pd_G xs Ls d pd_mL (636, L, st, S) o ↔ pd_K xs Ls d pd_mL (mm_go 28 L st S) o := pd_Gs (i := .goto (-608)) (n := 3) rfl
set_option maxRecDepth 8000 in
theorem pL_639 : pd_G xs Ls d pd_mL (639, L, st, S) o ↔ pd_K xs Ls d pd_mL (mm_go 640 L (.int 1 :: st) S) o := pd_Gs (i := .iconst 1) (n := 1) rfl
set_option maxRecDepth 8000 in
theorem pL_640 : pd_G xs Ls d pd_mL (640, L, st, S) o ↔ pd_K xs Ls d pd_mL (mm_e4 S st) o := pd_Gs (i := .ireturn) (n := 1) rfl
end PCS
