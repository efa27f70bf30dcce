/-! one row an instruction (printed by gen_pc.py) -/
section PCS
variable {xs : Nat → Int32} {Ls d : Nat} {L : mm_L} {st : List Value} {S : mm_St} {o : mm_O}
theorem p91_0 : pd_G xs Ls d pd_m91 (0, L, st, S) o ↔ pd_K xs Ls d pd_m91 (mm_lA L 0 fun v => mm_go 1 L (v :: st) S) o := pd_Gs (i := .aload_n 0) (n := 1) rfl
theorem p91_1 : pd_G xs Ls d pd_m91 (1, L, st, S) o ↔ pd_K xs Ls d pd_m91 (mm_r st fun _ r => cond (Nat.ble (mm_wt r) 8) (mm_go 4 L r S) none) o := pd_Gs (i := .invokespecial 1) (n := 3) rfl
theorem p91_4 : pd_G xs Ls d pd_m91 (4, L, st, S) o ↔ pd_K xs Ls d pd_m91 (mm_lA L 0 fun v => mm_go 5 L (v :: st) S) o := pd_Gs (i := .aload_n 0) (n := 1) rfl
theorem p91_5 : pd_G xs Ls d pd_m91 (5, L, st, S) o ↔ pd_K xs Ls d pd_m91 (mm_go 7 L (.int 48 :: st) S) o := pd_Gs (i := .bipush 48) (n := 2) rfl
theorem p91_7 : pd_G xs Ls d pd_m91 (7, L, st, S) o ↔ pd_K xs Ls d pd_m91 (mm_i st fun n r => mm_al S (if n < 0 then none else mm_go 9 L (.ref S.1.length :: r) (mm_new S (.inr (0, n.toNatClampNeg))))) o := pd_Gs (i := .newarray .int) (n := 2) rfl
theorem p91_9 : pd_G xs Ls d pd_m91 (9, L, st, S) o ↔ pd_K xs Ls d pd_m91 (mm_putf pd_ck 9 L st S 7 0) o := pd_Gs (i := .putfield 7) (n := 3) rfl
theorem p91_12 : pd_G xs Ls d pd_m91 (12, L, st, S) o ↔ pd_K xs Ls d pd_m91 (mm_lA L 0 fun v => mm_go 13 L (v :: st) S) o := pd_Gs (i := .aload_n 0) (n := 1) rfl
theorem p91_13 : pd_G xs Ls d pd_m91 (13, L, st, S) o ↔ pd_K xs Ls d pd_m91 (mm_go 16 L (.int 640 :: st) S) o := pd_Gs (i := .sipush 640) (n := 3) rfl
theorem p91_16 : pd_G xs Ls d pd_m91 (16, L, st, S) o ↔ pd_K xs Ls d pd_m91 (mm_i st fun n r => mm_al S (if n < 0 then none else mm_go 18 L (.ref S.1.length :: r) (mm_new S (.inr (0, n.toNatClampNeg))))) o := pd_Gs (i := .newarray .int) (n := 2) rfl
theorem p91_18 : pd_G xs Ls d pd_m91 (18, L, st, S) o ↔ pd_K xs Ls d pd_m91 (mm_putf pd_ck 18 L st S 7 1) o := pd_Gs (i := .putfield 13) (n := 3) rfl
theorem p91_21 : pd_G xs Ls d pd_m91 (21, L, st, S) o ↔ pd_K xs Ls d pd_m91 (mm_lA L 0 fun v => mm_go 22 L (v :: st) S) o := pd_Gs (i := .aload_n 0) (n := 1) rfl
theorem p91_22 : pd_G xs Ls d pd_m91 (22, L, st, S) o ↔ pd_K xs Ls d pd_m91 (mm_go 25 L (.int 640 :: st) S) o := pd_Gs (i := .sipush 640) (n := 3) rfl
theorem p91_25 : pd_G xs Ls d pd_m91 (25, L, st, S) o ↔ pd_K xs Ls d pd_m91 (mm_i st fun n r => mm_al S (if n < 0 then none else mm_go 27 L (.ref S.1.length :: r) (mm_new S (.inr (0, n.toNatClampNeg))))) o := pd_Gs (i := .newarray .int) (n := 2) rfl
theorem p91_27 : pd_G xs Ls d pd_m91 (27, L, st, S) o ↔ pd_K xs Ls d pd_m91 (mm_putf pd_ck 27 L st S 7 2) o := pd_Gs (i := .putfield 16) (n := 3) rfl
theorem p91_30 : pd_G xs Ls d pd_m91 (30, L, st, S) o ↔ pd_K xs Ls d pd_m91 (mm_lA L 0 fun v => mm_go 31 L (v :: st) S) o := pd_Gs (i := .aload_n 0) (n := 1) rfl
theorem p91_31 : pd_G xs Ls d pd_m91 (31, L, st, S) o ↔ pd_K xs Ls d pd_m91 (mm_go 34 L (.int 640 :: st) S) o := pd_Gs (i := .sipush 640) (n := 3) rfl
theorem p91_34 : pd_G xs Ls d pd_m91 (34, L, st, S) o ↔ pd_K xs Ls d pd_m91 (mm_i st fun n r => mm_al S (if n < 0 then none else mm_go 36 L (.ref S.1.length :: r) (mm_new S (.inr (0, n.toNatClampNeg))))) o := pd_Gs (i := .newarray .int) (n := 2) rfl
theorem p91_36 : pd_G xs Ls d pd_m91 (36, L, st, S) o ↔ pd_K xs Ls d pd_m91 (mm_putf pd_ck 36 L st S 7 3) o := pd_Gs (i := .putfield 19) (n := 3) rfl
theorem p91_39 : pd_G xs Ls d pd_m91 (39, L, st, S) o ↔ pd_K xs Ls d pd_m91 (mm_lA L 0 fun v => mm_go 40 L (v :: st) S) o := pd_Gs (i := .aload_n 0) (n := 1) rfl
theorem p91_40 : pd_G xs Ls d pd_m91 (40, L, st, S) o ↔ pd_K xs Ls d pd_m91 (mm_go 41 L (.int 4 :: st) S) o := pd_Gs (i := .iconst 4) (n := 1) rfl
theorem p91_41 : pd_G xs Ls d pd_m91 (41, L, st, S) o ↔ pd_K xs Ls d pd_m91 (mm_i st fun n r => mm_al S (if n < 0 then none else mm_go 43 L (.ref S.1.length :: r) (mm_new S (.inr (4, n.toNatClampNeg))))) o := pd_Gs (i := .newarray .boolean) (n := 2) rfl
theorem p91_43 : pd_G xs Ls d pd_m91 (43, L, st, S) o ↔ pd_K xs Ls d pd_m91 (mm_putf pd_ck 43 L st S 7 4) o := pd_Gs (i := .putfield 22) (n := 3) rfl
theorem p91_46 : pd_G xs Ls d pd_m91 (46, L, st, S) o ↔ pd_K xs Ls d pd_m91 (mm_lA L 0 fun v => mm_go 47 L (v :: st) S) o := pd_Gs (i := .aload_n 0) (n := 1) rfl
theorem p91_47 : pd_G xs Ls d pd_m91 (47, L, st, S) o ↔ pd_K xs Ls d pd_m91 (mm_go 49 L (.int 64 :: st) S) o := pd_Gs (i := .bipush 64) (n := 2) rfl
theorem p91_49 : pd_G xs Ls d pd_m91 (49, L, st, S) o ↔ pd_K xs Ls d pd_m91 (mm_i st fun n r => mm_al S (if n < 0 then none else mm_go 51 L (.ref S.1.length :: r) (mm_new S (.inr (0, n.toNatClampNeg))))) o := pd_Gs (i := .newarray .int) (n := 2) rfl
theorem p91_51 : pd_G xs Ls d pd_m91 (51, L, st, S) o ↔ pd_K xs Ls d pd_m91 (mm_putf pd_ck 51 L st S 7 5) o := pd_Gs (i := .putfield 26) (n := 3) rfl
theorem p91_54 : pd_G xs Ls d pd_m91 (54, L, st, S) o ↔ pd_K xs Ls d pd_m91 (mm_lA L 0 fun v => mm_go 55 L (v :: st) S) o := pd_Gs (i := .aload_n 0) (n := 1) rfl
theorem p91_55 : pd_G xs Ls d pd_m91 (55, L, st, S) o ↔ pd_K xs Ls d pd_m91 (mm_go 57 L (.int 64 :: st) S) o := pd_Gs (i := .bipush 64) (n := 2) rfl
theorem p91_57 : pd_G xs Ls d pd_m91 (57, L, st, S) o ↔ pd_K xs Ls d pd_m91 (mm_i st fun n r => mm_al S (if n < 0 then none else mm_go 59 L (.ref S.1.length :: r) (mm_new S (.inr (0, n.toNatClampNeg))))) o := pd_Gs (i := .newarray .int) (n := 2) rfl
theorem p91_59 : pd_G xs Ls d pd_m91 (59, L, st, S) o ↔ pd_K xs Ls d pd_m91 (mm_putf pd_ck 59 L st S 7 6) o := pd_Gs (i := .putfield 29) (n := 3) rfl
theorem p91_62 : pd_G xs Ls d pd_m91 (62, L, st, S) o ↔ pd_K xs Ls d pd_m91 (mm_lA L 0 fun v => mm_go 63 L (v :: st) S) o := pd_Gs (i := .aload_n 0) (n := 1) rfl
theorem p91_63 : pd_G xs Ls d pd_m91 (63, L, st, S) o ↔ pd_K xs Ls d pd_m91 (mm_go 65 L (.int 64 :: st) S) o := pd_Gs (i := .bipush 64) (n := 2) rfl
theorem p91_65 : pd_G xs Ls d pd_m91 (65, L, st, S) o ↔ pd_K xs Ls d pd_m91 (mm_i st fun n r => mm_al S (if n < 0 then none else mm_go 67 L (.ref S.1.length :: r) (mm_new S (.inr (4, n.toNatClampNeg))))) o := pd_Gs (i := .newarray .boolean) (n := 2) rfl
theorem p91_67 : pd_G xs Ls d pd_m91 (67, L, st, S) o ↔ pd_K xs Ls d pd_m91 (mm_putf pd_ck 67 L st S 7 7) o := pd_Gs (i := .putfield 32) (n := 3) rfl
theorem p91_70 : pd_G xs Ls d pd_m91 (70, L, st, S) o ↔ pd_K xs Ls d pd_m91 (mm_lA L 0 fun v => mm_go 71 L (v :: st) S) o := pd_Gs (i := .aload_n 0) (n := 1) rfl
theorem p91_71 : pd_G xs Ls d pd_m91 (71, L, st, S) o ↔ pd_K xs Ls d pd_m91 (mm_go 72 L (.int (-1) :: st) S) o := pd_Gs (i := .iconst (-1)) (n := 1) rfl
theorem p91_72 : pd_G xs Ls d pd_m91 (72, L, st, S) o ↔ pd_K xs Ls d pd_m91 (mm_putf pd_ck 72 L st S 7 9) o := pd_Gs (i := .putfield 35) (n := 3) rfl
theorem p91_75 : pd_G xs Ls d pd_m91 (75, L, st, S) o ↔ pd_K xs Ls d pd_m91 (mm_lA L 0 fun v => mm_go 76 L (v :: st) S) o := pd_Gs (i := .aload_n 0) (n := 1) rfl
theorem p91_76 : pd_G xs Ls d pd_m91 (76, L, st, S) o ↔ pd_K xs Ls d pd_m91 (mm_go 78 L (.int 16 :: st) S) o := pd_Gs (i := .bipush 16) (n := 2) rfl
theorem p91_78 : pd_G xs Ls d pd_m91 (78, L, st, S) o ↔ pd_K xs Ls d pd_m91 (mm_i st fun n r => mm_al S (if n < 0 then none else mm_go 80 L (.ref S.1.length :: r) (mm_new S (.inr (0, n.toNatClampNeg))))) o := pd_Gs (i := .newarray .int) (n := 2) rfl
theorem p91_80 : pd_G xs Ls d pd_m91 (80, L, st, S) o ↔ pd_K xs Ls d pd_m91 (mm_putf pd_ck 80 L st S 7 17) o := pd_Gs (i := .putfield 39) (n := 3) rfl
theorem p91_83 : pd_G xs Ls d pd_m91 (83, L, st, S) o ↔ pd_K xs Ls d pd_m91 (mm_lA L 0 fun v => mm_go 84 L (v :: st) S) o := pd_Gs (i := .aload_n 0) (n := 1) rfl
theorem p91_84 : pd_G xs Ls d pd_m91 (84, L, st, S) o ↔ pd_K xs Ls d pd_m91 (mm_go 85 L (.int 1 :: st) S) o := pd_Gs (i := .iconst 1) (n := 1) rfl
theorem p91_85 : pd_G xs Ls d pd_m91 (85, L, st, S) o ↔ pd_K xs Ls d pd_m91 (mm_putf pd_ck 85 L st S 7 18) o := pd_Gs (i := .putfield 42) (n := 3) rfl
theorem p91_88 : pd_G xs Ls d pd_m91 (88, L, st, S) o ↔ pd_K xs Ls d pd_m91 (mm_lA L 0 fun v => mm_go 89 L (v :: st) S) o := pd_Gs (i := .aload_n 0) (n := 1) rfl
theorem p91_89 : pd_G xs Ls d pd_m91 (89, L, st, S) o ↔ pd_K xs Ls d pd_m91 (mm_go 91 L (.int 11 :: st) S) o := pd_Gs (i := .bipush 11) (n := 2) rfl
theorem p91_91 : pd_G xs Ls d pd_m91 (91, L, st, S) o ↔ pd_K xs Ls d pd_m91 (mm_i st fun n r => mm_al S (if n < 0 then none else mm_go 93 L (.ref S.1.length :: r) (mm_new S (.inr (2, n.toNatClampNeg))))) o := pd_Gs (i := .newarray .double) (n := 2) rfl
theorem p91_93 : pd_G xs Ls d pd_m91 (93, L, st, S) o ↔ pd_K xs Ls d pd_m91 (mm_putf pd_ck 93 L st S 7 20) o := pd_Gs (i := .putfield 45) (n := 3) rfl
theorem p91_96 : pd_G xs Ls d pd_m91 (96, L, st, S) o ↔ pd_K xs Ls d pd_m91 (mm_lA L 0 fun v => mm_go 97 L (v :: st) S) o := pd_Gs (i := .aload_n 0) (n := 1) rfl
theorem p91_97 : pd_G xs Ls d pd_m91 (97, L, st, S) o ↔ pd_K xs Ls d pd_m91 (mm_go 99 L (.int 12 :: st) S) o := pd_Gs (i := .bipush 12) (n := 2) rfl
theorem p91_99 : pd_G xs Ls d pd_m91 (99, L, st, S) o ↔ pd_K xs Ls d pd_m91 (mm_i st fun n r => mm_al S (if n < 0 then none else mm_go 101 L (.ref S.1.length :: r) (mm_new S (.inr (2, n.toNatClampNeg))))) o := pd_Gs (i := .newarray .double) (n := 2) rfl
theorem p91_101 : pd_G xs Ls d pd_m91 (101, L, st, S) o ↔ pd_K xs Ls d pd_m91 (mm_putf pd_ck 101 L st S 7 21) o := pd_Gs (i := .putfield 49) (n := 3) rfl
theorem p91_104 : pd_G xs Ls d pd_m91 (104, L, st, S) o ↔ pd_K xs Ls d pd_m91 (mm_lA L 0 fun v => mm_go 105 L (v :: st) S) o := pd_Gs (i := .aload_n 0) (n := 1) rfl
theorem p91_105 : pd_G xs Ls d pd_m91 (105, L, st, S) o ↔ pd_K xs Ls d pd_m91 (mm_go 107 L (.int 64 :: st) S) o := pd_Gs (i := .bipush 64) (n := 2) rfl
theorem p91_107 : pd_G xs Ls d pd_m91 (107, L, st, S) o ↔ pd_K xs Ls d pd_m91 (mm_i st fun n r => mm_al S (if n < 0 then none else mm_go 109 L (.ref S.1.length :: r) (mm_new S (.inr (2, n.toNatClampNeg))))) o := pd_Gs (i := .newarray .double) (n := 2) rfl
theorem p91_109 : pd_G xs Ls d pd_m91 (109, L, st, S) o ↔ pd_K xs Ls d pd_m91 (mm_putf pd_ck 109 L st S 7 22) o := pd_Gs (i := .putfield 52) (n := 3) rfl
theorem p91_112 : pd_G xs Ls d pd_m91 (112, L, st, S) o ↔ pd_K xs Ls d pd_m91 (mm_lA L 0 fun v => mm_go 113 L (v :: st) S) o := pd_Gs (i := .aload_n 0) (n := 1) rfl
theorem p91_113 : pd_G xs Ls d pd_m91 (113, L, st, S) o ↔ pd_K xs Ls d pd_m91 (mm_go 114 L (.int 2 :: st) S) o := pd_Gs (i := .iconst 2) (n := 1) rfl
theorem p91_114 : pd_G xs Ls d pd_m91 (114, L, st, S) o ↔ pd_K xs Ls d pd_m91 (mm_i st fun n r => mm_al S (if n < 0 then none else mm_go 116 L (.ref S.1.length :: r) (mm_new S (.inr (0, n.toNatClampNeg))))) o := pd_Gs (i := .newarray .int) (n := 2) rfl
theorem p91_116 : pd_G xs Ls d pd_m91 (116, L, st, S) o ↔ pd_K xs Ls d pd_m91 (mm_putf pd_ck 116 L st S 7 23) o := pd_Gs (i := .putfield 55) (n := 3) rfl
theorem p91_119 : pd_G xs Ls d pd_m91 (119, L, st, S) o ↔ pd_K xs Ls d pd_m91 (mm_lA L 0 fun v => mm_go 120 L (v :: st) S) o := pd_Gs (i := .aload_n 0) (n := 1) rfl
theorem p91_120 : pd_G xs Ls d pd_m91 (120, L, st, S) o ↔ pd_K xs Ls d pd_m91 (mm_go 121 L (.int 5 :: st) S) o := pd_Gs (i := .iconst 5) (n := 1) rfl
theorem p91_121 : pd_G xs Ls d pd_m91 (121, L, st, S) o ↔ pd_K xs Ls d pd_m91 (mm_i st fun n r => mm_al S (if n < 0 then none else mm_go 123 L (.ref S.1.length :: r) (mm_new S (.inr (0, n.toNatClampNeg))))) o := pd_Gs (i := .newarray .int) (n := 2) rfl
theorem p91_123 : pd_G xs Ls d pd_m91 (123, L, st, S) o ↔ pd_K xs Ls d pd_m91 (mm_putf pd_ck 123 L st S 7 24) o := pd_Gs (i := .putfield 58) (n := 3) rfl
theorem p91_126 : pd_G xs Ls d pd_m91 (126, L, st, S) o ↔ pd_K xs Ls d pd_m91 (mm_lA L 0 fun v => mm_go 127 L (v :: st) S) o := pd_Gs (i := .aload_n 0) (n := 1) rfl
theorem p91_127 : pd_G xs Ls d pd_m91 (127, L, st, S) o ↔ pd_K xs Ls d pd_m91 (mm_go 128 L (.int 5 :: st) S) o := pd_Gs (i := .iconst 5) (n := 1) rfl
theorem p91_128 : pd_G xs Ls d pd_m91 (128, L, st, S) o ↔ pd_K xs Ls d pd_m91 (mm_i st fun n r => mm_al S (if n < 0 then none else mm_go 130 L (.ref S.1.length :: r) (mm_new S (.inr (0, n.toNatClampNeg))))) o := pd_Gs (i := .newarray .int) (n := 2) rfl
theorem p91_130 : pd_G xs Ls d pd_m91 (130, L, st, S) o ↔ pd_K xs Ls d pd_m91 (mm_putf pd_ck 130 L st S 7 25) o := pd_Gs (i := .putfield 61) (n := 3) rfl
theorem p91_133 : pd_G xs Ls d pd_m91 (133, L, st, S) o ↔ pd_K xs Ls d pd_m91 (mm_lA L 0 fun v => mm_go 134 L (v :: st) S) o := pd_Gs (i := .aload_n 0) (n := 1) rfl
theorem p91_134 : pd_G xs Ls d pd_m91 (134, L, st, S) o ↔ pd_K xs Ls d pd_m91 (mm_go 135 L (.int 5 :: st) S) o := pd_Gs (i := .iconst 5) (n := 1) rfl
theorem p91_135 : pd_G xs Ls d pd_m91 (135, L, st, S) o ↔ pd_K xs Ls d pd_m91 (mm_i st fun n r => mm_al S (if n < 0 then none else mm_go 137 L (.ref S.1.length :: r) (mm_new S (.inr (0, n.toNatClampNeg))))) o := pd_Gs (i := .newarray .int) (n := 2) rfl
theorem p91_137 : pd_G xs Ls d pd_m91 (137, L, st, S) o ↔ pd_K xs Ls d pd_m91 (mm_putf pd_ck 137 L st S 7 26) o := pd_Gs (i := .putfield 64) (n := 3) rfl
theorem p91_140 : pd_G xs Ls d pd_m91 (140, L, st, S) o ↔ pd_K xs Ls d pd_m91 (mm_lA L 0 fun v => mm_go 141 L (v :: st) S) o := pd_Gs (i := .aload_n 0) (n := 1) rfl
theorem p91_141 : pd_G xs Ls d pd_m91 (141, L, st, S) o ↔ pd_K xs Ls d pd_m91 (mm_go 142 L (.int 5 :: st) S) o := pd_Gs (i := .iconst 5) (n := 1) rfl
theorem p91_142 : pd_G xs Ls d pd_m91 (142, L, st, S) o ↔ pd_K xs Ls d pd_m91 (mm_i st fun n r => mm_al S (if n < 0 then none else mm_go 144 L (.ref S.1.length :: r) (mm_new S (.inr (0, n.toNatClampNeg))))) o := pd_Gs (i := .newarray .int) (n := 2) rfl
theorem p91_144 : pd_G xs Ls d pd_m91 (144, L, st, S) o ↔ pd_K xs Ls d pd_m91 (mm_putf pd_ck 144 L st S 7 27) o := pd_Gs (i := .putfield 67) (n := 3) rfl
theorem p91_147 : pd_G xs Ls d pd_m91 (147, L, st, S) o ↔ pd_K xs Ls d pd_m91 (mm_lA L 0 fun v => mm_go 148 L (v :: st) S) o := pd_Gs (i := .aload_n 0) (n := 1) rfl
theorem p91_148 : pd_G xs Ls d pd_m91 (148, L, st, S) o ↔ pd_K xs Ls d pd_m91 (mm_go 149 L (.int 5 :: st) S) o := pd_Gs (i := .iconst 5) (n := 1) rfl
theorem p91_149 : pd_G xs Ls d pd_m91 (149, L, st, S) o ↔ pd_K xs Ls d pd_m91 (mm_i st fun n r => mm_al S (if n < 0 then none else mm_go 151 L (.ref S.1.length :: r) (mm_new S (.inr (0, n.toNatClampNeg))))) o := pd_Gs (i := .newarray .int) (n := 2) rfl
theorem p91_151 : pd_G xs Ls d pd_m91 (151, L, st, S) o ↔ pd_K xs Ls d pd_m91 (mm_putf pd_ck 151 L st S 7 28) o := pd_Gs (i := .putfield 70) (n := 3) rfl
theorem p91_154 : pd_G xs Ls d pd_m91 (154, L, st, S) o ↔ pd_K xs Ls d pd_m91 (mm_lA L 0 fun v => mm_go 155 L (v :: st) S) o := pd_Gs (i := .aload_n 0) (n := 1) rfl
theorem p91_155 : pd_G xs Ls d pd_m91 (155, L, st, S) o ↔ pd_K xs Ls d pd_m91 (mm_go 156 L (.int 5 :: st) S) o := pd_Gs (i := .iconst 5) (n := 1) rfl
theorem p91_156 : pd_G xs Ls d pd_m91 (156, L, st, S) o ↔ pd_K xs Ls d pd_m91 (mm_i st fun n r => mm_al S (if n < 0 then none else mm_go 158 L (.ref S.1.length :: r) (mm_new S (.inr (0, n.toNatClampNeg))))) o := pd_Gs (i := .newarray .int) (n := 2) rfl
theorem p91_158 : pd_G xs Ls d pd_m91 (158, L, st, S) o ↔ pd_K xs Ls d pd_m91 (mm_putf pd_ck 158 L st S 7 29) o := pd_Gs (i := .putfield 73) (n := 3) rfl
theorem p91_161 : pd_G xs Ls d pd_m91 (161, L, st, S) o ↔ pd_K xs Ls d pd_m91 (mm_lA L 0 fun v => mm_go 162 L (v :: st) S) o := pd_Gs (i := .aload_n 0) (n := 1) rfl
theorem p91_162 : pd_G xs Ls d pd_m91 (162, L, st, S) o ↔ pd_K xs Ls d pd_m91 (mm_go 164 L (.int 40 :: st) S) o := pd_Gs (i := .bipush 40) (n := 2) rfl
theorem p91_164 : pd_G xs Ls d pd_m91 (164, L, st, S) o ↔ pd_K xs Ls d pd_m91 (mm_i st fun n r => mm_al S (if n < 0 then none else mm_go 166 L (.ref S.1.length :: r) (mm_new S (.inr (0, n.toNatClampNeg))))) o := pd_Gs (i := .newarray .int) (n := 2) rfl
theorem p91_166 : pd_G xs Ls d pd_m91 (166, L, st, S) o ↔ pd_K xs Ls d pd_m91 (mm_putf pd_ck 166 L st S 7 30) o := pd_Gs (i := .putfield 76) (n := 3) rfl
theorem p91_169 : pd_G xs Ls d pd_m91 (169, L, st, S) o ↔ pd_K xs Ls d pd_m91 (mm_lA L 0 fun v => mm_go 170 L (v :: st) S) o := pd_Gs (i := .aload_n 0) (n := 1) rfl
theorem p91_170 : pd_G xs Ls d pd_m91 (170, L, st, S) o ↔ pd_K xs Ls d pd_m91 (mm_go 171 L (.int 5 :: st) S) o := pd_Gs (i := .iconst 5) (n := 1) rfl
theorem p91_171 : pd_G xs Ls d pd_m91 (171, L, st, S) o ↔ pd_K xs Ls d pd_m91 (mm_i st fun n r => mm_al S (if n < 0 then none else mm_go 173 L (.ref S.1.length :: r) (mm_new S (.inr (0, n.toNatClampNeg))))) o := pd_Gs (i := .newarray .int) (n := 2) rfl
theorem p91_173 : pd_G xs Ls d pd_m91 (173, L, st, S) o ↔ pd_K xs Ls d pd_m91 (mm_putf pd_ck 173 L st S 7 31) o := pd_Gs (i := .putfield 79) (n := 3) rfl
theorem p91_176 : pd_G xs Ls d pd_m91 (176, L, st, S) o ↔ pd_K xs Ls d pd_m91 (mm_lA L 0 fun v => mm_go 177 L (v :: st) S) o := pd_Gs (i := .aload_n 0) (n := 1) rfl
theorem p91_177 : pd_G xs Ls d pd_m91 (177, L, st, S) o ↔ pd_K xs Ls d pd_m91 (mm_go 178 L (.int 5 :: st) S) o := pd_Gs (i := .iconst 5) (n := 1) rfl
theorem p91_178 : pd_G xs Ls d pd_m91 (178, L, st, S) o ↔ pd_K xs Ls d pd_m91 (mm_i st fun n r => mm_al S (if n < 0 then none else mm_go 180 L (.ref S.1.length :: r) (mm_new S (.inr (0, n.toNatClampNeg))))) o := pd_Gs (i := .newarray .int) (n := 2) rfl
theorem p91_180 : pd_G xs Ls d pd_m91 (180, L, st, S) o ↔ pd_K xs Ls d pd_m91 (mm_putf pd_ck 180 L st S 7 32) o := pd_Gs (i := .putfield 82) (n := 3) rfl
theorem p91_183 : pd_G xs Ls d pd_m91 (183, L, st, S) o ↔ pd_K xs Ls d pd_m91 (mm_rV S st) o := pd_Gs (i := .return_) (n := 1) rfl
theorem p92_0 : pd_G xs Ls d pd_m92 (0, L, st, S) o ↔ pd_K xs Ls d pd_m92 (mm_lA L 0 fun v => mm_go 1 L (v :: st) S) o := pd_Gs (i := .aload_n 0) (n := 1) rfl
theorem p92_1 : pd_G xs Ls d pd_m92 (1, L, st, S) o ↔ pd_K xs Ls d pd_m92 (mm_getf pd_ck 1 L st S 7 39) o := pd_Gs (i := .getfield 85) (n := 3) rfl
theorem p92_4 : pd_G xs Ls d pd_m92 (4, L, st, S) o ↔ pd_K xs Ls d pd_m92 (mm_e0 S st) o := pd_Gs (i := .ireturn) (n := 1) rfl
theorem p93_0 : pd_G xs Ls d pd_m93 (0, L, st, S) o ↔ pd_K xs Ls d pd_m93 (mm_lA L 0 fun v => mm_go 1 L (v :: st) S) o := pd_Gs (i := .aload_n 0) (n := 1) rfl
theorem p93_1 : pd_G xs Ls d pd_m93 (1, L, st, S) o ↔ pd_K xs Ls d pd_m93 (mm_go 2 L (.int 0 :: st) S) o := pd_Gs (i := .iconst 0) (n := 1) rfl
theorem p93_2 : pd_G xs Ls d pd_m93 (2, L, st, S) o ↔ pd_K xs Ls d pd_m93 (mm_putf pd_ck 2 L st S 7 39) o := pd_Gs (i := .putfield 85) (n := 3) rfl
theorem p93_5 : pd_G xs Ls d pd_m93 (5, L, st, S) o ↔ pd_K xs Ls d pd_m93 (mm_go 6 L (.int 0 :: st) S) o := pd_Gs (i := .iconst 0) (n := 1) rfl
theorem p93_6 : pd_G xs Ls d pd_m93 (6, L, st, S) o ↔ pd_K xs Ls d pd_m93 (mm_i st fun x r => mm_go 7 (mm_sto L 0 3 (.int x)) r S) o := pd_Gs (i := .istore_n 3) (n := 1) rfl
theorem p93_7 : pd_G xs Ls d pd_m93 (7, L, st, S) o ↔ pd_K xs Ls d pd_m93 (mm_go 9 L (.int 56 :: st) S) o := pd_Gs (i := .bipush 56) (n := 2) rfl
theorem p93_9 : pd_G xs Ls d pd_m93 (9, L, st, S) o ↔ pd_K xs Ls d pd_m93 (mm_i st fun x r => mm_go 11 (mm_sto L 0 4 (.int x)) r S) o := pd_Gs (i := .istore 4) (n := 2) rfl
theorem p93_11 : pd_G xs Ls d pd_m93 (11, L, st, S) o ↔ pd_K xs Ls d pd_m93 (mm_lI L 4 fun x => mm_go 13 L (.int x :: st) S) o := pd_Gs (i := .iload 4) (n := 2) rfl
theorem p93_13 : pd_G xs Ls d pd_m93 (13, L, st, S) o ↔ pd_K xs Ls d pd_m93 (mm_i st fun x r => mm_icmp .lt x 0 (mm_go 65 L r S) (mm_go 16 L r S)) o := pd_Gs (i := .ifCond .lt 52) (n := 3) rfl
theorem p93_16 : pd_G xs Ls d pd_m93 (16, L, st, S) o ↔ pd_K xs Ls d pd_m93 (mm_lJ L 1 fun x => mm_go 17 L (.long x :: st) S) o := pd_Gs (i := .lload_n 1) (n := 1) rfl
theorem p93_17 : pd_G xs Ls d pd_m93 (17, L, st, S) o ↔ pd_K xs Ls d pd_m93 (mm_lI L 4 fun x => mm_go 19 L (.int x :: st) S) o := pd_Gs (i := .iload 4) (n := 2) rfl
theorem p93_19 : pd_G xs Ls d pd_m93 (19, L, st, S) o ↔ pd_K xs Ls d pd_m93 (mm_ji st fun x y r => mm_go 20 L (.long (x.toUInt64 >>> (y.toInt64.toUInt64 &&& Int64.toUInt64 63)).toInt64 :: r) S) o := pd_Gs (i := .lushr) (n := 1) rfl
theorem p93_20 : pd_G xs Ls d pd_m93 (20, L, st, S) o ↔ pd_K xs Ls d pd_m93 (mm_j st fun x r => mm_go 21 L (.int x.toInt32 :: r) S) o := pd_Gs (i := .l2i) (n := 1) rfl
theorem p93_21 : pd_G xs Ls d pd_m93 (21, L, st, S) o ↔ pd_K xs Ls d pd_m93 (mm_go 24 L (.int 255 :: st) S) o := pd_Gs (i := .sipush 255) (n := 3) rfl
theorem p93_24 : pd_G xs Ls d pd_m93 (24, L, st, S) o ↔ pd_K xs Ls d pd_m93 (mm_ii st fun x y r => mm_go 25 L (.int (x &&& y) :: r) S) o := pd_Gs (i := .iand) (n := 1) rfl
theorem p93_25 : pd_G xs Ls d pd_m93 (25, L, st, S) o ↔ pd_K xs Ls d pd_m93 (mm_i st fun x r => mm_go 27 (mm_sto L 0 5 (.int x)) r S) o := pd_Gs (i := .istore 5) (n := 2) rfl
theorem p93_27 : pd_G xs Ls d pd_m93 (27, L, st, S) o ↔ pd_K xs Ls d pd_m93 (mm_lI L 5 fun x => mm_go 29 L (.int x :: st) S) o := pd_Gs (i := .iload 5) (n := 2) rfl
theorem p93_29 : pd_G xs Ls d pd_m93 (29, L, st, S) o ↔ pd_K xs Ls d pd_m93 (mm_i st fun x r => mm_icmp .eq x 0 (mm_go 35 L r S) (mm_go 32 L r S)) o := pd_Gs (i := .ifCond .eq 6) (n := 3) rfl
theorem p93_32 : pd_G xs Ls d pd_m93 (32, L, st, S) o ↔ pd_K xs Ls d pd_m93 (mm_lI L 3 fun x => mm_go 35 (mm_sto L 0 3 (.int (x + 1))) st S) o := pd_Gs (i := .iinc 3 1) (n := 3) rfl
theorem p93_35 : pd_G xs Ls d pd_m93 (35, L, st, S) o ↔ pd_K xs Ls d pd_m93 (mm_lI L 5 fun x => mm_go 37 L (.int x :: st) S) o := pd_Gs (i := .iload 5) (n := 2) rfl
theorem p93_37 : pd_G xs Ls d pd_m93 (37, L, st, S) o ↔ pd_K xs Ls d pd_m93 (mm_i st fun x r => mm_icmp .eq x 0 (mm_go 59 L r S) (mm_go 40 L r S)) o := pd_Gs (i := .ifCond .eq 22) (n := 3) rfl
theorem p93_40 : pd_G xs Ls d pd_m93 (40, L, st, S) o ↔ pd_K xs Ls d pd_m93 (mm_lI L 5 fun x => mm_go 42 L (.int x :: st) S) o := pd_Gs (i := .iload 5) (n := 2) rfl
theorem p93_42 : pd_G xs Ls d pd_m93 (42, L, st, S) o ↔ pd_K xs Ls d pd_m93 (mm_go 44 L (.int 33 :: st) S) o := pd_Gs (i := .bipush 33) (n := 2) rfl
theorem p93_44 : pd_G xs Ls d pd_m93 (44, L, st, S) o ↔ pd_K xs Ls d pd_m93 (mm_ii st fun x y r => mm_icmp .lt x y (mm_go 54 L r S) (mm_go 47 L r S)) o := pd_Gs (i := .if_icmp .lt 10) (n := 3) rfl
theorem p93_47 : pd_G xs Ls d pd_m93 (47, L, st, S) o ↔ pd_K xs Ls d pd_m93 (mm_lI L 5 fun x => mm_go 49 L (.int x :: st) S) o := pd_Gs (i := .iload 5) (n := 2) rfl
theorem p93_49 : pd_G xs Ls d pd_m93 (49, L, st, S) o ↔ pd_K xs Ls d pd_m93 (mm_go 51 L (.int 126 :: st) S) o := pd_Gs (i := .bipush 126) (n := 2) rfl
theorem p93_51 : pd_G xs Ls d pd_m93 (51, L, st, S) o ↔ pd_K xs Ls d pd_m93 (mm_ii st fun x y r => mm_icmp .le x y (mm_go 59 L r S) (mm_go 54 L r S)) o := pd_Gs (i := .if_icmp .le 8) (n := 3) rfl
theorem p93_54 : pd_G xs Ls d pd_m93 (54, L, st, S) o ↔ pd_K xs Ls d pd_m93 (mm_lA L 0 fun v => mm_go 55 L (v :: st) S) o := pd_Gs (i := .aload_n 0) (n := 1) rfl
theorem p93_55 : pd_G xs Ls d pd_m93 (55, L, st, S) o ↔ pd_K xs Ls d pd_m93 (mm_go 56 L (.int 1 :: st) S) o := pd_Gs (i := .iconst 1) (n := 1) rfl
theorem p93_56 : pd_G xs Ls d pd_m93 (56, L, st, S) o ↔ pd_K xs Ls d pd_m93 (mm_putf pd_ck 56 L st S 7 39) o := pd_Gs (i := .putfield 85) (n := 3) rfl
theorem p93_59 : pd_G xs Ls d pd_m93 (59, L, st, S) o ↔ pd_K xs Ls d pd_m93 (mm_lI L 4 fun x => mm_go 62 (mm_sto L 0 4 (.int (x + Int32.ofInt (-8)))) st S) o := pd_Gs (i := .iinc 4 (-8)) (n := 3) rfl
theorem p93_62 : pd_G xs Ls d pd_m93 (62, L, st, S) o ↔ pd_K xs Ls d pd_m93 (mm_go 11 L st S) o := pd_Gs (i := .goto (-51)) (n := 3) rfl
theorem p93_65 : pd_G xs Ls d pd_m93 (65, L, st, S) o ↔ pd_K xs Ls d pd_m93 (mm_lA L 0 fun v => mm_go 66 L (v :: st) S) o := pd_Gs (i := .aload_n 0) (n := 1) rfl
theorem p93_66 : pd_G xs Ls d pd_m93 (66, L, st, S) o ↔ pd_K xs Ls d pd_m93 (mm_getf pd_ck 66 L st S 7 39) o := pd_Gs (i := .getfield 85) (n := 3) rfl
theorem p93_69 : pd_G xs Ls d pd_m93 (69, L, st, S) o ↔ pd_K xs Ls d pd_m93 (mm_i st fun x r => mm_icmp .ne x 0 (mm_go 88 L r S) (mm_go 72 L r S)) o := pd_Gs (i := .ifCond .ne 19) (n := 3) rfl
theorem p93_72 : pd_G xs Ls d pd_m93 (72, L, st, S) o ↔ pd_K xs Ls d pd_m93 (mm_lA L 0 fun v => mm_go 73 L (v :: st) S) o := pd_Gs (i := .aload_n 0) (n := 1) rfl
theorem p93_73 : pd_G xs Ls d pd_m93 (73, L, st, S) o ↔ pd_K xs Ls d pd_m93 (mm_getf pd_ck 73 L st S 7 8) o := pd_Gs (i := .getfield 88) (n := 3) rfl
theorem p93_76 : pd_G xs Ls d pd_m93 (76, L, st, S) o ↔ pd_K xs Ls d pd_m93 (mm_lI L 3 fun x => mm_go 77 L (.int x :: st) S) o := pd_Gs (i := .iload_n 3) (n := 1) rfl
theorem p93_77 : pd_G xs Ls d pd_m93 (77, L, st, S) o ↔ pd_K xs Ls d pd_m93 (mm_ii st fun x y r => mm_go 78 L (.int (x + y) :: r) S) o := pd_Gs (i := .iadd) (n := 1) rfl
theorem p93_78 : pd_G xs Ls d pd_m93 (78, L, st, S) o ↔ pd_K xs Ls d pd_m93 (mm_go 80 L (.int 48 :: st) S) o := pd_Gs (i := .bipush 48) (n := 2) rfl
theorem p93_80 : pd_G xs Ls d pd_m93 (80, L, st, S) o ↔ pd_K xs Ls d pd_m93 (mm_ii st fun x y r => mm_icmp .le x y (mm_go 88 L r S) (mm_go 83 L r S)) o := pd_Gs (i := .if_icmp .le 8) (n := 3) rfl
theorem p93_83 : pd_G xs Ls d pd_m93 (83, L, st, S) o ↔ pd_K xs Ls d pd_m93 (mm_lA L 0 fun v => mm_go 84 L (v :: st) S) o := pd_Gs (i := .aload_n 0) (n := 1) rfl
theorem p93_84 : pd_G xs Ls d pd_m93 (84, L, st, S) o ↔ pd_K xs Ls d pd_m93 (mm_go 85 L (.int 2 :: st) S) o := pd_Gs (i := .iconst 2) (n := 1) rfl
theorem p93_85 : pd_G xs Ls d pd_m93 (85, L, st, S) o ↔ pd_K xs Ls d pd_m93 (mm_putf pd_ck 85 L st S 7 39) o := pd_Gs (i := .putfield 85) (n := 3) rfl
theorem p93_88 : pd_G xs Ls d pd_m93 (88, L, st, S) o ↔ pd_K xs Ls d pd_m93 (mm_go 90 L (.int 56 :: st) S) o := pd_Gs (i := .bipush 56) (n := 2) rfl
theorem p93_90 : pd_G xs Ls d pd_m93 (90, L, st, S) o ↔ pd_K xs Ls d pd_m93 (mm_i st fun x r => mm_go 92 (mm_sto L 0 4 (.int x)) r S) o := pd_Gs (i := .istore 4) (n := 2) rfl
theorem p93_92 : pd_G xs Ls d pd_m93 (92, L, st, S) o ↔ pd_K xs Ls d pd_m93 (mm_lI L 4 fun x => mm_go 94 L (.int x :: st) S) o := pd_Gs (i := .iload 4) (n := 2) rfl
theorem p93_94 : pd_G xs Ls d pd_m93 (94, L, st, S) o ↔ pd_K xs Ls d pd_m93 (mm_i st fun x r => mm_icmp .lt x 0 (mm_go 144 L r S) (mm_go 97 L r S)) o := pd_Gs (i := .ifCond .lt 50) (n := 3) rfl
theorem p93_97 : pd_G xs Ls d pd_m93 (97, L, st, S) o ↔ pd_K xs Ls d pd_m93 (mm_lA L 0 fun v => mm_go 98 L (v :: st) S) o := pd_Gs (i := .aload_n 0) (n := 1) rfl
theorem p93_98 : pd_G xs Ls d pd_m93 (98, L, st, S) o ↔ pd_K xs Ls d pd_m93 (mm_getf pd_ck 98 L st S 7 39) o := pd_Gs (i := .getfield 85) (n := 3) rfl
theorem p93_101 : pd_G xs Ls d pd_m93 (101, L, st, S) o ↔ pd_K xs Ls d pd_m93 (mm_i st fun x r => mm_icmp .ne x 0 (mm_go 144 L r S) (mm_go 104 L r S)) o := pd_Gs (i := .ifCond .ne 43) (n := 3) rfl
theorem p93_104 : pd_G xs Ls d pd_m93 (104, L, st, S) o ↔ pd_K xs Ls d pd_m93 (mm_lJ L 1 fun x => mm_go 105 L (.long x :: st) S) o := pd_Gs (i := .lload_n 1) (n := 1) rfl
theorem p93_105 : pd_G xs Ls d pd_m93 (105, L, st, S) o ↔ pd_K xs Ls d pd_m93 (mm_lI L 4 fun x => mm_go 107 L (.int x :: st) S) o := pd_Gs (i := .iload 4) (n := 2) rfl
theorem p93_107 : pd_G xs Ls d pd_m93 (107, L, st, S) o ↔ pd_K xs Ls d pd_m93 (mm_ji st fun x y r => mm_go 108 L (.long (x.toUInt64 >>> (y.toInt64.toUInt64 &&& Int64.toUInt64 63)).toInt64 :: r) S) o := pd_Gs (i := .lushr) (n := 1) rfl
theorem p93_108 : pd_G xs Ls d pd_m93 (108, L, st, S) o ↔ pd_K xs Ls d pd_m93 (mm_j st fun x r => mm_go 109 L (.int x.toInt32 :: r) S) o := pd_Gs (i := .l2i) (n := 1) rfl
theorem p93_109 : pd_G xs Ls d pd_m93 (109, L, st, S) o ↔ pd_K xs Ls d pd_m93 (mm_go 112 L (.int 255 :: st) S) o := pd_Gs (i := .sipush 255) (n := 3) rfl
theorem p93_112 : pd_G xs Ls d pd_m93 (112, L, st, S) o ↔ pd_K xs Ls d pd_m93 (mm_ii st fun x y r => mm_go 113 L (.int (x &&& y) :: r) S) o := pd_Gs (i := .iand) (n := 1) rfl
theorem p93_113 : pd_G xs Ls d pd_m93 (113, L, st, S) o ↔ pd_K xs Ls d pd_m93 (mm_i st fun x r => mm_go 115 (mm_sto L 0 5 (.int x)) r S) o := pd_Gs (i := .istore 5) (n := 2) rfl
theorem p93_115 : pd_G xs Ls d pd_m93 (115, L, st, S) o ↔ pd_K xs Ls d pd_m93 (mm_lI L 5 fun x => mm_go 117 L (.int x :: st) S) o := pd_Gs (i := .iload 5) (n := 2) rfl
theorem p93_117 : pd_G xs Ls d pd_m93 (117, L, st, S) o ↔ pd_K xs Ls d pd_m93 (mm_i st fun x r => mm_icmp .eq x 0 (mm_go 138 L r S) (mm_go 120 L r S)) o := pd_Gs (i := .ifCond .eq 21) (n := 3) rfl
theorem p93_120 : pd_G xs Ls d pd_m93 (120, L, st, S) o ↔ pd_K xs Ls d pd_m93 (mm_lA L 0 fun v => mm_go 121 L (v :: st) S) o := pd_Gs (i := .aload_n 0) (n := 1) rfl
theorem p93_121 : pd_G xs Ls d pd_m93 (121, L, st, S) o ↔ pd_K xs Ls d pd_m93 (mm_getf pd_ck 121 L st S 7 0) o := pd_Gs (i := .getfield 7) (n := 3) rfl
theorem p93_124 : pd_G xs Ls d pd_m93 (124, L, st, S) o ↔ pd_K xs Ls d pd_m93 (mm_lA L 0 fun v => mm_go 125 L (v :: st) S) o := pd_Gs (i := .aload_n 0) (n := 1) rfl
theorem p93_125 : pd_G xs Ls d pd_m93 (125, L, st, S) o ↔ pd_K xs Ls d pd_m93 (mm_1 st fun v r => cond (mm_c2 v) none (mm_go 126 L (v :: v :: r) S)) o := pd_Gs (i := .dup) (n := 1) rfl
theorem p93_126 : pd_G xs Ls d pd_m93 (126, L, st, S) o ↔ pd_K xs Ls d pd_m93 (mm_getf pd_ck 126 L st S 7 8) o := pd_Gs (i := .getfield 88) (n := 3) rfl
theorem p93_129 : pd_G xs Ls d pd_m93 (129, L, st, S) o ↔ pd_K xs Ls d pd_m93 (mm_2 st fun v w r => cond (mm_c2 v || mm_c2 w) none (mm_go 130 L (v :: w :: v :: r) S)) o := pd_Gs (i := .dup_x1) (n := 1) rfl
theorem p93_130 : pd_G xs Ls d pd_m93 (130, L, st, S) o ↔ pd_K xs Ls d pd_m93 (mm_go 131 L (.int 1 :: st) S) o := pd_Gs (i := .iconst 1) (n := 1) rfl
theorem p93_131 : pd_G xs Ls d pd_m93 (131, L, st, S) o ↔ pd_K xs Ls d pd_m93 (mm_ii st fun x y r => mm_go 132 L (.int (x + y) :: r) S) o := pd_Gs (i := .iadd) (n := 1) rfl
theorem p93_132 : pd_G xs Ls d pd_m93 (132, L, st, S) o ↔ pd_K xs Ls d pd_m93 (mm_putf pd_ck 132 L st S 7 8) o := pd_Gs (i := .putfield 88) (n := 3) rfl
theorem p93_135 : pd_G xs Ls d pd_m93 (135, L, st, S) o ↔ pd_K xs Ls d pd_m93 (mm_lI L 5 fun x => mm_go 137 L (.int x :: st) S) o := pd_Gs (i := .iload 5) (n := 2) rfl
theorem p93_137 : pd_G xs Ls d pd_m93 (137, L, st, S) o ↔ pd_K xs Ls d pd_m93 (mm_i st fun x st => mm_ai pd_ak S st 0 fun i a r => mm_go 138 L r (mm_sI S a i.toNatClampNeg x)) o := pd_Gs (i := .iastore) (n := 1) rfl
theorem p93_138 : pd_G xs Ls d pd_m93 (138, L, st, S) o ↔ pd_K xs Ls d pd_m93 (mm_lI L 4 fun x => mm_go 141 (mm_sto L 0 4 (.int (x + Int32.ofInt (-8)))) st S) o := pd_Gs (i := .iinc 4 (-8)) (n := 3) rfl
theorem p93_141 : pd_G xs Ls d pd_m93 (141, L, st, S) o ↔ pd_K xs Ls d pd_m93 (mm_go 92 L st S) o := pd_Gs (i := .goto (-49)) (n := 3) rfl
theorem p93_144 : pd_G xs Ls d pd_m93 (144, L, st, S) o ↔ pd_K xs Ls d pd_m93 (mm_lA L 0 fun v => mm_go 145 L (v :: st) S) o := pd_Gs (i := .aload_n 0) (n := 1) rfl
theorem p93_145 : pd_G xs Ls d pd_m93 (145, L, st, S) o ↔ pd_K xs Ls d pd_m93 (mm_getf pd_ck 145 L st S 7 39) o := pd_Gs (i := .getfield 85) (n := 3) rfl
theorem p93_148 : pd_G xs Ls d pd_m93 (148, L, st, S) o ↔ pd_K xs Ls d pd_m93 (mm_i st fun x r => mm_icmp .ne x 0 (mm_go 158 L r S) (mm_go 151 L r S)) o := pd_Gs (i := .ifCond .ne 10) (n := 3) rfl
theorem p93_151 : pd_G xs Ls d pd_m93 (151, L, st, S) o ↔ pd_K xs Ls d pd_m93 (mm_lA L 0 fun v => mm_go 152 L (v :: st) S) o := pd_Gs (i := .aload_n 0) (n := 1) rfl
theorem p93_152 : pd_G xs Ls d pd_m93 (152, L, st, S) o ↔ pd_K xs Ls d pd_m93 (mm_getf pd_ck 152 L st S 7 8) o := pd_Gs (i := .getfield 88) (n := 3) rfl
theorem p93_155 : pd_G xs Ls d pd_m93 (155, L, st, S) o ↔ pd_K xs Ls d pd_m93 (mm_go 159 L st S) o := pd_Gs (i := .goto 4) (n := 3) rfl
theorem p93_158 : pd_G xs Ls d pd_m93 (158, L, st, S) o ↔ pd_K xs Ls d pd_m93 (mm_go 159 L (.int 0 :: st) S) o := pd_Gs (i := .iconst 0) (n := 1) rfl
theorem p93_159 : pd_G xs Ls d pd_m93 (159, L, st, S) o ↔ pd_K xs Ls d pd_m93 (mm_e0 S st) o := pd_Gs (i := .ireturn) (n := 1) rfl
theorem p94_0 : pd_G xs Ls d pd_m94 (0, L, st, S) o ↔ pd_K xs Ls d pd_m94 (mm_lA L 0 fun v => mm_go 1 L (v :: st) S) o := pd_Gs (i := .aload_n 0) (n := 1) rfl
theorem p94_1 : pd_G xs Ls d pd_m94 (1, L, st, S) o ↔ pd_K xs Ls d pd_m94 (mm_lI L 1 fun x => mm_go 2 L (.int x :: st) S) o := pd_Gs (i := .iload_n 1) (n := 1) rfl
theorem p94_2 : pd_G xs Ls d pd_m94 (2, L, st, S) o ↔ pd_K xs Ls d pd_m94 (mm_i st fun x r => mm_icmp .lt x 0 (mm_go 10 L r S) (mm_go 5 L r S)) o := pd_Gs (i := .ifCond .lt 8) (n := 3) rfl
theorem p94_5 : pd_G xs Ls d pd_m94 (5, L, st, S) o ↔ pd_K xs Ls d pd_m94 (mm_lI L 1 fun x => mm_go 6 L (.int x :: st) S) o := pd_Gs (i := .iload_n 1) (n := 1) rfl
theorem p94_6 : pd_G xs Ls d pd_m94 (6, L, st, S) o ↔ pd_K xs Ls d pd_m94 (mm_go 7 L (.int 3 :: st) S) o := pd_Gs (i := .iconst 3) (n := 1) rfl
theorem p94_7 : pd_G xs Ls d pd_m94 (7, L, st, S) o ↔ pd_K xs Ls d pd_m94 (mm_ii st fun x y r => mm_icmp .le x y (mm_go 14 L r S) (mm_go 10 L r S)) o := pd_Gs (i := .if_icmp .le 7) (n := 3) rfl
theorem p94_10 : pd_G xs Ls d pd_m94 (10, L, st, S) o ↔ pd_K xs Ls d pd_m94 (mm_go 11 L (.int 1 :: st) S) o := pd_Gs (i := .iconst 1) (n := 1) rfl
theorem p94_11 : pd_G xs Ls d pd_m94 (11, L, st, S) o ↔ pd_K xs Ls d pd_m94 (mm_go 15 L st S) o := pd_Gs (i := .goto 4) (n := 3) rfl
theorem p94_14 : pd_G xs Ls d pd_m94 (14, L, st, S) o ↔ pd_K xs Ls d pd_m94 (mm_go 15 L (.int 0 :: st) S) o := pd_Gs (i := .iconst 0) (n := 1) rfl
theorem p94_15 : pd_G xs Ls d pd_m94 (15, L, st, S) o ↔ pd_K xs Ls d pd_m94 (mm_putf pd_ck 15 L st S 7 39) o := pd_Gs (i := .putfield 85) (n := 3) rfl
theorem p94_18 : pd_G xs Ls d pd_m94 (18, L, st, S) o ↔ pd_K xs Ls d pd_m94 (mm_lA L 0 fun v => mm_go 19 L (v :: st) S) o := pd_Gs (i := .aload_n 0) (n := 1) rfl
theorem p94_19 : pd_G xs Ls d pd_m94 (19, L, st, S) o ↔ pd_K xs Ls d pd_m94 (mm_getf pd_ck 19 L st S 7 39) o := pd_Gs (i := .getfield 85) (n := 3) rfl
theorem p94_22 : pd_G xs Ls d pd_m94 (22, L, st, S) o ↔ pd_K xs Ls d pd_m94 (mm_i st fun x r => mm_icmp .eq x 0 (mm_go 27 L r S) (mm_go 25 L r S)) o := pd_Gs (i := .ifCond .eq 5) (n := 3) rfl
theorem p94_25 : pd_G xs Ls d pd_m94 (25, L, st, S) o ↔ pd_K xs Ls d pd_m94 (mm_go 26 L (.int 0 :: st) S) o := pd_Gs (i := .iconst 0) (n := 1) rfl
theorem p94_26 : pd_G xs Ls d pd_m94 (26, L, st, S) o ↔ pd_K xs Ls d pd_m94 (mm_e0 S st) o := pd_Gs (i := .ireturn) (n := 1) rfl
theorem p94_27 : pd_G xs Ls d pd_m94 (27, L, st, S) o ↔ pd_K xs Ls d pd_m94 (mm_lA L 0 fun v => mm_go 28 L (v :: st) S) o := pd_Gs (i := .aload_n 0) (n := 1) rfl
theorem p94_28 : pd_G xs Ls d pd_m94 (28, L, st, S) o ↔ pd_K xs Ls d pd_m94 (mm_inv (mm_ev xs Ls pd_ck pd_ak pd_mj d) pd_m94 28 L st S 95 0 7) o := pd_Gs (i := .invokevirtual 171) (n := 3) rfl
theorem p94_31 : pd_G xs Ls d pd_m94 (31, L, st, S) o ↔ pd_K xs Ls d pd_m94 (mm_i st fun x r => mm_go 32 (mm_sto L 0 2 (.int x)) r S) o := pd_Gs (i := .istore_n 2) (n := 1) rfl
theorem p94_32 : pd_G xs Ls d pd_m94 (32, L, st, S) o ↔ pd_K xs Ls d pd_m94 (mm_lA L 0 fun v => mm_go 33 L (v :: st) S) o := pd_Gs (i := .aload_n 0) (n := 1) rfl
theorem p94_33 : pd_G xs Ls d pd_m94 (33, L, st, S) o ↔ pd_K xs Ls d pd_m94 (mm_go 34 L (.int 0 :: st) S) o := pd_Gs (i := .iconst 0) (n := 1) rfl
theorem p94_34 : pd_G xs Ls d pd_m94 (34, L, st, S) o ↔ pd_K xs Ls d pd_m94 (mm_putf pd_ck 34 L st S 7 8) o := pd_Gs (i := .putfield 88) (n := 3) rfl
theorem p94_37 : pd_G xs Ls d pd_m94 (37, L, st, S) o ↔ pd_K xs Ls d pd_m94 (mm_lI L 2 fun x => mm_go 38 L (.int x :: st) S) o := pd_Gs (i := .iload_n 2) (n := 1) rfl
theorem p94_38 : pd_G xs Ls d pd_m94 (38, L, st, S) o ↔ pd_K xs Ls d pd_m94 (mm_i st fun x r => mm_icmp .lt x 0 (mm_go 53 L r S) (mm_go 41 L r S)) o := pd_Gs (i := .ifCond .lt 15) (n := 3) rfl
theorem p94_41 : pd_G xs Ls d pd_m94 (41, L, st, S) o ↔ pd_K xs Ls d pd_m94 (mm_lA L 0 fun v => mm_go 42 L (v :: st) S) o := pd_Gs (i := .aload_n 0) (n := 1) rfl
theorem p94_42 : pd_G xs Ls d pd_m94 (42, L, st, S) o ↔ pd_K xs Ls d pd_m94 (mm_lI L 2 fun x => mm_go 43 L (.int x :: st) S) o := pd_Gs (i := .iload_n 2) (n := 1) rfl
theorem p94_43 : pd_G xs Ls d pd_m94 (43, L, st, S) o ↔ pd_K xs Ls d pd_m94 (mm_putf pd_ck 43 L st S 7 9) o := pd_Gs (i := .putfield 35) (n := 3) rfl
theorem p94_46 : pd_G xs Ls d pd_m94 (46, L, st, S) o ↔ pd_K xs Ls d pd_m94 (mm_lA L 0 fun v => mm_go 47 L (v :: st) S) o := pd_Gs (i := .aload_n 0) (n := 1) rfl
theorem p94_47 : pd_G xs Ls d pd_m94 (47, L, st, S) o ↔ pd_K xs Ls d pd_m94 (mm_go 48 L (.int 1 :: st) S) o := pd_Gs (i := .iconst 1) (n := 1) rfl
theorem p94_48 : pd_G xs Ls d pd_m94 (48, L, st, S) o ↔ pd_K xs Ls d pd_m94 (mm_putf pd_ck 48 L st S 7 39) o := pd_Gs (i := .putfield 85) (n := 3) rfl
theorem p94_51 : pd_G xs Ls d pd_m94 (51, L, st, S) o ↔ pd_K xs Ls d pd_m94 (mm_go 52 L (.int 0 :: st) S) o := pd_Gs (i := .iconst 0) (n := 1) rfl
theorem p94_52 : pd_G xs Ls d pd_m94 (52, L, st, S) o ↔ pd_K xs Ls d pd_m94 (mm_e0 S st) o := pd_Gs (i := .ireturn) (n := 1) rfl
theorem p94_53 : pd_G xs Ls d pd_m94 (53, L, st, S) o ↔ pd_K xs Ls d pd_m94 (mm_go 54 L (.int 0 :: st) S) o := pd_Gs (i := .iconst 0) (n := 1) rfl
theorem p94_54 : pd_G xs Ls d pd_m94 (54, L, st, S) o ↔ pd_K xs Ls d pd_m94 (mm_i st fun x r => mm_go 55 (mm_sto L 0 3 (.int x)) r S) o := pd_Gs (i := .istore_n 3) (n := 1) rfl
theorem p94_55 : pd_G xs Ls d pd_m94 (55, L, st, S) o ↔ pd_K xs Ls d pd_m94 (mm_lI L 3 fun x => mm_go 56 L (.int x :: st) S) o := pd_Gs (i := .iload_n 3) (n := 1) rfl
theorem p94_56 : pd_G xs Ls d pd_m94 (56, L, st, S) o ↔ pd_K xs Ls d pd_m94 (mm_lA L 0 fun v => mm_go 57 L (v :: st) S) o := pd_Gs (i := .aload_n 0) (n := 1) rfl
theorem p94_57 : pd_G xs Ls d pd_m94 (57, L, st, S) o ↔ pd_K xs Ls d pd_m94 (mm_getf pd_ck 57 L st S 7 12) o := pd_Gs (i := .getfield 91) (n := 3) rfl
theorem p94_60 : pd_G xs Ls d pd_m94 (60, L, st, S) o ↔ pd_K xs Ls d pd_m94 (mm_ii st fun x y r => mm_icmp .ge x y (mm_go 135 L r S) (mm_go 63 L r S)) o := pd_Gs (i := .if_icmp .ge 75) (n := 3) rfl
theorem p94_63 : pd_G xs Ls d pd_m94 (63, L, st, S) o ↔ pd_K xs Ls d pd_m94 (mm_lA L 0 fun v => mm_go 64 L (v :: st) S) o := pd_Gs (i := .aload_n 0) (n := 1) rfl
theorem p94_64 : pd_G xs Ls d pd_m94 (64, L, st, S) o ↔ pd_K xs Ls d pd_m94 (mm_getf pd_ck 64 L st S 7 1) o := pd_Gs (i := .getfield 13) (n := 3) rfl
theorem p94_67 : pd_G xs Ls d pd_m94 (67, L, st, S) o ↔ pd_K xs Ls d pd_m94 (mm_lI L 1 fun x => mm_go 68 L (.int x :: st) S) o := pd_Gs (i := .iload_n 1) (n := 1) rfl
theorem p94_68 : pd_G xs Ls d pd_m94 (68, L, st, S) o ↔ pd_K xs Ls d pd_m94 (mm_go 71 L (.int 128 :: st) S) o := pd_Gs (i := .sipush 128) (n := 3) rfl
theorem p94_71 : pd_G xs Ls d pd_m94 (71, L, st, S) o ↔ pd_K xs Ls d pd_m94 (mm_ii st fun x y r => mm_go 72 L (.int (x * y) :: r) S) o := pd_Gs (i := .imul) (n := 1) rfl
theorem p94_72 : pd_G xs Ls d pd_m94 (72, L, st, S) o ↔ pd_K xs Ls d pd_m94 (mm_lI L 3 fun x => mm_go 73 L (.int x :: st) S) o := pd_Gs (i := .iload_n 3) (n := 1) rfl
theorem p94_73 : pd_G xs Ls d pd_m94 (73, L, st, S) o ↔ pd_K xs Ls d pd_m94 (mm_ii st fun x y r => mm_go 74 L (.int (x + y) :: r) S) o := pd_Gs (i := .iadd) (n := 1) rfl
theorem p94_74 : pd_G xs Ls d pd_m94 (74, L, st, S) o ↔ pd_K xs Ls d pd_m94 (mm_lA L 0 fun v => mm_go 75 L (v :: st) S) o := pd_Gs (i := .aload_n 0) (n := 1) rfl
theorem p94_75 : pd_G xs Ls d pd_m94 (75, L, st, S) o ↔ pd_K xs Ls d pd_m94 (mm_getf pd_ck 75 L st S 7 1) o := pd_Gs (i := .getfield 13) (n := 3) rfl
theorem p94_78 : pd_G xs Ls d pd_m94 (78, L, st, S) o ↔ pd_K xs Ls d pd_m94 (mm_go 81 L (.int 512 :: st) S) o := pd_Gs (i := .sipush 512) (n := 3) rfl
theorem p94_81 : pd_G xs Ls d pd_m94 (81, L, st, S) o ↔ pd_K xs Ls d pd_m94 (mm_lI L 3 fun x => mm_go 82 L (.int x :: st) S) o := pd_Gs (i := .iload_n 3) (n := 1) rfl
theorem p94_82 : pd_G xs Ls d pd_m94 (82, L, st, S) o ↔ pd_K xs Ls d pd_m94 (mm_ii st fun x y r => mm_go 83 L (.int (x + y) :: r) S) o := pd_Gs (i := .iadd) (n := 1) rfl
theorem p94_83 : pd_G xs Ls d pd_m94 (83, L, st, S) o ↔ pd_K xs Ls d pd_m94 (mm_ial xs Ls pd_ak 83 L S st) o := pd_Gs (i := .iaload) (n := 1) rfl
theorem p94_84 : pd_G xs Ls d pd_m94 (84, L, st, S) o ↔ pd_K xs Ls d pd_m94 (mm_i st fun x st => mm_ai pd_ak S st 0 fun i a r => mm_go 85 L r (mm_sI S a i.toNatClampNeg x)) o := pd_Gs (i := .iastore) (n := 1) rfl
theorem p94_85 : pd_G xs Ls d pd_m94 (85, L, st, S) o ↔ pd_K xs Ls d pd_m94 (mm_lA L 0 fun v => mm_go 86 L (v :: st) S) o := pd_Gs (i := .aload_n 0) (n := 1) rfl
theorem p94_86 : pd_G xs Ls d pd_m94 (86, L, st, S) o ↔ pd_K xs Ls d pd_m94 (mm_getf pd_ck 86 L st S 7 2) o := pd_Gs (i := .getfield 16) (n := 3) rfl
theorem p94_89 : pd_G xs Ls d pd_m94 (89, L, st, S) o ↔ pd_K xs Ls d pd_m94 (mm_lI L 1 fun x => mm_go 90 L (.int x :: st) S) o := pd_Gs (i := .iload_n 1) (n := 1) rfl
theorem p94_90 : pd_G xs Ls d pd_m94 (90, L, st, S) o ↔ pd_K xs Ls d pd_m94 (mm_go 93 L (.int 128 :: st) S) o := pd_Gs (i := .sipush 128) (n := 3) rfl
theorem p94_93 : pd_G xs Ls d pd_m94 (93, L, st, S) o ↔ pd_K xs Ls d pd_m94 (mm_ii st fun x y r => mm_go 94 L (.int (x * y) :: r) S) o := pd_Gs (i := .imul) (n := 1) rfl
theorem p94_94 : pd_G xs Ls d pd_m94 (94, L, st, S) o ↔ pd_K xs Ls d pd_m94 (mm_lI L 3 fun x => mm_go 95 L (.int x :: st) S) o := pd_Gs (i := .iload_n 3) (n := 1) rfl
theorem p94_95 : pd_G xs Ls d pd_m94 (95, L, st, S) o ↔ pd_K xs Ls d pd_m94 (mm_ii st fun x y r => mm_go 96 L (.int (x + y) :: r) S) o := pd_Gs (i := .iadd) (n := 1) rfl
theorem p94_96 : pd_G xs Ls d pd_m94 (96, L, st, S) o ↔ pd_K xs Ls d pd_m94 (mm_lA L 0 fun v => mm_go 97 L (v :: st) S) o := pd_Gs (i := .aload_n 0) (n := 1) rfl
theorem p94_97 : pd_G xs Ls d pd_m94 (97, L, st, S) o ↔ pd_K xs Ls d pd_m94 (mm_getf pd_ck 97 L st S 7 2) o := pd_Gs (i := .getfield 16) (n := 3) rfl
theorem p94_100 : pd_G xs Ls d pd_m94 (100, L, st, S) o ↔ pd_K xs Ls d pd_m94 (mm_go 103 L (.int 512 :: st) S) o := pd_Gs (i := .sipush 512) (n := 3) rfl
theorem p94_103 : pd_G xs Ls d pd_m94 (103, L, st, S) o ↔ pd_K xs Ls d pd_m94 (mm_lI L 3 fun x => mm_go 104 L (.int x :: st) S) o := pd_Gs (i := .iload_n 3) (n := 1) rfl
theorem p94_104 : pd_G xs Ls d pd_m94 (104, L, st, S) o ↔ pd_K xs Ls d pd_m94 (mm_ii st fun x y r => mm_go 105 L (.int (x + y) :: r) S) o := pd_Gs (i := .iadd) (n := 1) rfl
theorem p94_105 : pd_G xs Ls d pd_m94 (105, L, st, S) o ↔ pd_K xs Ls d pd_m94 (mm_ial xs Ls pd_ak 105 L S st) o := pd_Gs (i := .iaload) (n := 1) rfl
theorem p94_106 : pd_G xs Ls d pd_m94 (106, L, st, S) o ↔ pd_K xs Ls d pd_m94 (mm_i st fun x st => mm_ai pd_ak S st 0 fun i a r => mm_go 107 L r (mm_sI S a i.toNatClampNeg x)) o := pd_Gs (i := .iastore) (n := 1) rfl
theorem p94_107 : pd_G xs Ls d pd_m94 (107, L, st, S) o ↔ pd_K xs Ls d pd_m94 (mm_lA L 0 fun v => mm_go 108 L (v :: st) S) o := pd_Gs (i := .aload_n 0) (n := 1) rfl
theorem p94_108 : pd_G xs Ls d pd_m94 (108, L, st, S) o ↔ pd_K xs Ls d pd_m94 (mm_getf pd_ck 108 L st S 7 3) o := pd_Gs (i := .getfield 19) (n := 3) rfl
theorem p94_111 : pd_G xs Ls d pd_m94 (111, L, st, S) o ↔ pd_K xs Ls d pd_m94 (mm_lI L 1 fun x => mm_go 112 L (.int x :: st) S) o := pd_Gs (i := .iload_n 1) (n := 1) rfl
theorem p94_112 : pd_G xs Ls d pd_m94 (112, L, st, S) o ↔ pd_K xs Ls d pd_m94 (mm_go 115 L (.int 128 :: st) S) o := pd_Gs (i := .sipush 128) (n := 3) rfl
theorem p94_115 : pd_G xs Ls d pd_m94 (115, L, st, S) o ↔ pd_K xs Ls d pd_m94 (mm_ii st fun x y r => mm_go 116 L (.int (x * y) :: r) S) o := pd_Gs (i := .imul) (n := 1) rfl
theorem p94_116 : pd_G xs Ls d pd_m94 (116, L, st, S) o ↔ pd_K xs Ls d pd_m94 (mm_lI L 3 fun x => mm_go 117 L (.int x :: st) S) o := pd_Gs (i := .iload_n 3) (n := 1) rfl
theorem p94_117 : pd_G xs Ls d pd_m94 (117, L, st, S) o ↔ pd_K xs Ls d pd_m94 (mm_ii st fun x y r => mm_go 118 L (.int (x + y) :: r) S) o := pd_Gs (i := .iadd) (n := 1) rfl
theorem p94_118 : pd_G xs Ls d pd_m94 (118, L, st, S) o ↔ pd_K xs Ls d pd_m94 (mm_lA L 0 fun v => mm_go 119 L (v :: st) S) o := pd_Gs (i := .aload_n 0) (n := 1) rfl
theorem p94_119 : pd_G xs Ls d pd_m94 (119, L, st, S) o ↔ pd_K xs Ls d pd_m94 (mm_getf pd_ck 119 L st S 7 3) o := pd_Gs (i := .getfield 19) (n := 3) rfl
theorem p94_122 : pd_G xs Ls d pd_m94 (122, L, st, S) o ↔ pd_K xs Ls d pd_m94 (mm_go 125 L (.int 512 :: st) S) o := pd_Gs (i := .sipush 512) (n := 3) rfl
theorem p94_125 : pd_G xs Ls d pd_m94 (125, L, st, S) o ↔ pd_K xs Ls d pd_m94 (mm_lI L 3 fun x => mm_go 126 L (.int x :: st) S) o := pd_Gs (i := .iload_n 3) (n := 1) rfl
theorem p94_126 : pd_G xs Ls d pd_m94 (126, L, st, S) o ↔ pd_K xs Ls d pd_m94 (mm_ii st fun x y r => mm_go 127 L (.int (x + y) :: r) S) o := pd_Gs (i := .iadd) (n := 1) rfl
theorem p94_127 : pd_G xs Ls d pd_m94 (127, L, st, S) o ↔ pd_K xs Ls d pd_m94 (mm_ial xs Ls pd_ak 127 L S st) o := pd_Gs (i := .iaload) (n := 1) rfl
theorem p94_128 : pd_G xs Ls d pd_m94 (128, L, st, S) o ↔ pd_K xs Ls d pd_m94 (mm_i st fun x st => mm_ai pd_ak S st 0 fun i a r => mm_go 129 L r (mm_sI S a i.toNatClampNeg x)) o := pd_Gs (i := .iastore) (n := 1) rfl
theorem p94_129 : pd_G xs Ls d pd_m94 (129, L, st, S) o ↔ pd_K xs Ls d pd_m94 (mm_lI L 3 fun x => mm_go 132 (mm_sto L 0 3 (.int (x + 1))) st S) o := pd_Gs (i := .iinc 3 1) (n := 3) rfl
theorem p94_132 : pd_G xs Ls d pd_m94 (132, L, st, S) o ↔ pd_K xs Ls d pd_m94 (mm_go 55 L st S) o := pd_Gs (i := .goto (-77)) (n := 3) rfl
theorem p94_135 : pd_G xs Ls d pd_m94 (135, L, st, S) o ↔ pd_K xs Ls d pd_m94 (mm_lA L 0 fun v => mm_go 136 L (v :: st) S) o := pd_Gs (i := .aload_n 0) (n := 1) rfl
theorem p94_136 : pd_G xs Ls d pd_m94 (136, L, st, S) o ↔ pd_K xs Ls d pd_m94 (mm_getf pd_ck 136 L st S 7 4) o := pd_Gs (i := .getfield 22) (n := 3) rfl
theorem p94_139 : pd_G xs Ls d pd_m94 (139, L, st, S) o ↔ pd_K xs Ls d pd_m94 (mm_lI L 1 fun x => mm_go 140 L (.int x :: st) S) o := pd_Gs (i := .iload_n 1) (n := 1) rfl
theorem p94_140 : pd_G xs Ls d pd_m94 (140, L, st, S) o ↔ pd_K xs Ls d pd_m94 (mm_go 141 L (.int 1 :: st) S) o := pd_Gs (i := .iconst 1) (n := 1) rfl
theorem p94_141 : pd_G xs Ls d pd_m94 (141, L, st, S) o ↔ pd_K xs Ls d pd_m94 (mm_i st fun x st => mm_ai pd_ak S st 4 fun i a r => mm_go 142 L r (mm_sI S a i.toNatClampNeg (vp_nar .boolean x))) o := pd_Gs (i := .bastore) (n := 1) rfl
theorem p94_142 : pd_G xs Ls d pd_m94 (142, L, st, S) o ↔ pd_K xs Ls d pd_m94 (mm_lA L 0 fun v => mm_go 143 L (v :: st) S) o := pd_Gs (i := .aload_n 0) (n := 1) rfl
theorem p94_143 : pd_G xs Ls d pd_m94 (143, L, st, S) o ↔ pd_K xs Ls d pd_m94 (mm_getf pd_ck 143 L st S 7 14) o := pd_Gs (i := .getfield 123) (n := 3) rfl
theorem p94_146 : pd_G xs Ls d pd_m94 (146, L, st, S) o ↔ pd_K xs Ls d pd_m94 (mm_e0 S st) o := pd_Gs (i := .ireturn) (n := 1) rfl
theorem p95_0 : pd_G xs Ls d pd_m95 (0, L, st, S) o ↔ pd_K xs Ls d pd_m95 (mm_lA L 0 fun v => mm_go 1 L (v :: st) S) o := pd_Gs (i := .aload_n 0) (n := 1) rfl
theorem p95_1 : pd_G xs Ls d pd_m95 (1, L, st, S) o ↔ pd_K xs Ls d pd_m95 (mm_go 2 L (.int 0 :: st) S) o := pd_Gs (i := .iconst 0) (n := 1) rfl
theorem p95_2 : pd_G xs Ls d pd_m95 (2, L, st, S) o ↔ pd_K xs Ls d pd_m95 (mm_putf pd_ck 2 L st S 7 10) o := pd_Gs (i := .putfield 94) (n := 3) rfl
theorem p95_5 : pd_G xs Ls d pd_m95 (5, L, st, S) o ↔ pd_K xs Ls d pd_m95 (mm_lA L 0 fun v => mm_go 6 L (v :: st) S) o := pd_Gs (i := .aload_n 0) (n := 1) rfl
theorem p95_6 : pd_G xs Ls d pd_m95 (6, L, st, S) o ↔ pd_K xs Ls d pd_m95 (mm_go 7 L (.int 0 :: st) S) o := pd_Gs (i := .iconst 0) (n := 1) rfl
theorem p95_7 : pd_G xs Ls d pd_m95 (7, L, st, S) o ↔ pd_K xs Ls d pd_m95 (mm_putf pd_ck 7 L st S 7 11) o := pd_Gs (i := .putfield 97) (n := 3) rfl
theorem p95_10 : pd_G xs Ls d pd_m95 (10, L, st, S) o ↔ pd_K xs Ls d pd_m95 (mm_lA L 0 fun v => mm_go 11 L (v :: st) S) o := pd_Gs (i := .aload_n 0) (n := 1) rfl
theorem p95_11 : pd_G xs Ls d pd_m95 (11, L, st, S) o ↔ pd_K xs Ls d pd_m95 (mm_go 12 L (.int 0 :: st) S) o := pd_Gs (i := .iconst 0) (n := 1) rfl
theorem p95_12 : pd_G xs Ls d pd_m95 (12, L, st, S) o ↔ pd_K xs Ls d pd_m95 (mm_putf pd_ck 12 L st S 7 12) o := pd_Gs (i := .putfield 91) (n := 3) rfl
theorem p95_15 : pd_G xs Ls d pd_m95 (15, L, st, S) o ↔ pd_K xs Ls d pd_m95 (mm_lA L 0 fun v => mm_go 16 L (v :: st) S) o := pd_Gs (i := .aload_n 0) (n := 1) rfl
theorem p95_16 : pd_G xs Ls d pd_m95 (16, L, st, S) o ↔ pd_K xs Ls d pd_m95 (mm_go 17 L (.int 0 :: st) S) o := pd_Gs (i := .iconst 0) (n := 1) rfl
theorem p95_17 : pd_G xs Ls d pd_m95 (17, L, st, S) o ↔ pd_K xs Ls d pd_m95 (mm_putf pd_ck 17 L st S 7 14) o := pd_Gs (i := .putfield 123) (n := 3) rfl
theorem p95_20 : pd_G xs Ls d pd_m95 (20, L, st, S) o ↔ pd_K xs Ls d pd_m95 (mm_lA L 0 fun v => mm_go 21 L (v :: st) S) o := pd_Gs (i := .aload_n 0) (n := 1) rfl
theorem p95_21 : pd_G xs Ls d pd_m95 (21, L, st, S) o ↔ pd_K xs Ls d pd_m95 (mm_go 22 L (.int 0 :: st) S) o := pd_Gs (i := .iconst 0) (n := 1) rfl
theorem p95_22 : pd_G xs Ls d pd_m95 (22, L, st, S) o ↔ pd_K xs Ls d pd_m95 (mm_putf pd_ck 22 L st S 7 15) o := pd_Gs (i := .putfield 116) (n := 3) rfl
theorem p95_25 : pd_G xs Ls d pd_m95 (25, L, st, S) o ↔ pd_K xs Ls d pd_m95 (mm_lA L 0 fun v => mm_go 26 L (v :: st) S) o := pd_Gs (i := .aload_n 0) (n := 1) rfl
theorem p95_26 : pd_G xs Ls d pd_m95 (26, L, st, S) o ↔ pd_K xs Ls d pd_m95 (mm_go 27 L (.int 0 :: st) S) o := pd_Gs (i := .iconst 0) (n := 1) rfl
theorem p95_27 : pd_G xs Ls d pd_m95 (27, L, st, S) o ↔ pd_K xs Ls d pd_m95 (mm_putf pd_ck 27 L st S 7 16) o := pd_Gs (i := .putfield 108) (n := 3) rfl
theorem p95_30 : pd_G xs Ls d pd_m95 (30, L, st, S) o ↔ pd_K xs Ls d pd_m95 (mm_go 31 L (.int 0 :: st) S) o := pd_Gs (i := .iconst 0) (n := 1) rfl
theorem p95_31 : pd_G xs Ls d pd_m95 (31, L, st, S) o ↔ pd_K xs Ls d pd_m95 (mm_i st fun x r => mm_go 32 (mm_sto L 0 1 (.int x)) r S) o := pd_Gs (i := .istore_n 1) (n := 1) rfl
theorem p95_32 : pd_G xs Ls d pd_m95 (32, L, st, S) o ↔ pd_K xs Ls d pd_m95 (mm_go 33 L (.int 0 :: st) S) o := pd_Gs (i := .iconst 0) (n := 1) rfl
theorem p95_33 : pd_G xs Ls d pd_m95 (33, L, st, S) o ↔ pd_K xs Ls d pd_m95 (mm_i st fun x r => mm_go 34 (mm_sto L 0 2 (.int x)) r S) o := pd_Gs (i := .istore_n 2) (n := 1) rfl
theorem p95_34 : pd_G xs Ls d pd_m95 (34, L, st, S) o ↔ pd_K xs Ls d pd_m95 (mm_lI L 2 fun x => mm_go 35 L (.int x :: st) S) o := pd_Gs (i := .iload_n 2) (n := 1) rfl
theorem p95_35 : pd_G xs Ls d pd_m95 (35, L, st, S) o ↔ pd_K xs Ls d pd_m95 (mm_lA L 0 fun v => mm_go 36 L (v :: st) S) o := pd_Gs (i := .aload_n 0) (n := 1) rfl
theorem p95_36 : pd_G xs Ls d pd_m95 (36, L, st, S) o ↔ pd_K xs Ls d pd_m95 (mm_getf pd_ck 36 L st S 7 8) o := pd_Gs (i := .getfield 88) (n := 3) rfl
theorem p95_39 : pd_G xs Ls d pd_m95 (39, L, st, S) o ↔ pd_K xs Ls d pd_m95 (mm_ii st fun x y r => mm_icmp .gt x y (mm_go 294 L r S) (mm_go 42 L r S)) o := pd_Gs (i := .if_icmp .gt 255) (n := 3) rfl
theorem p95_42 : pd_G xs Ls d pd_m95 (42, L, st, S) o ↔ pd_K xs Ls d pd_m95 (mm_lI L 2 fun x => mm_go 43 L (.int x :: st) S) o := pd_Gs (i := .iload_n 2) (n := 1) rfl
theorem p95_43 : pd_G xs Ls d pd_m95 (43, L, st, S) o ↔ pd_K xs Ls d pd_m95 (mm_lA L 0 fun v => mm_go 44 L (v :: st) S) o := pd_Gs (i := .aload_n 0) (n := 1) rfl
theorem p95_44 : pd_G xs Ls d pd_m95 (44, L, st, S) o ↔ pd_K xs Ls d pd_m95 (mm_getf pd_ck 44 L st S 7 8) o := pd_Gs (i := .getfield 88) (n := 3) rfl
theorem p95_47 : pd_G xs Ls d pd_m95 (47, L, st, S) o ↔ pd_K xs Ls d pd_m95 (mm_ii st fun x y r => mm_icmp .ge x y (mm_go 59 L r S) (mm_go 50 L r S)) o := pd_Gs (i := .if_icmp .ge 12) (n := 3) rfl
theorem p95_50 : pd_G xs Ls d pd_m95 (50, L, st, S) o ↔ pd_K xs Ls d pd_m95 (mm_lA L 0 fun v => mm_go 51 L (v :: st) S) o := pd_Gs (i := .aload_n 0) (n := 1) rfl
theorem p95_51 : pd_G xs Ls d pd_m95 (51, L, st, S) o ↔ pd_K xs Ls d pd_m95 (mm_getf pd_ck 51 L st S 7 0) o := pd_Gs (i := .getfield 7) (n := 3) rfl
theorem p95_54 : pd_G xs Ls d pd_m95 (54, L, st, S) o ↔ pd_K xs Ls d pd_m95 (mm_lI L 2 fun x => mm_go 55 L (.int x :: st) S) o := pd_Gs (i := .iload_n 2) (n := 1) rfl
theorem p95_55 : pd_G xs Ls d pd_m95 (55, L, st, S) o ↔ pd_K xs Ls d pd_m95 (mm_ial xs Ls pd_ak 55 L S st) o := pd_Gs (i := .iaload) (n := 1) rfl
theorem p95_56 : pd_G xs Ls d pd_m95 (56, L, st, S) o ↔ pd_K xs Ls d pd_m95 (mm_go 60 L st S) o := pd_Gs (i := .goto 4) (n := 3) rfl
theorem p95_59 : pd_G xs Ls d pd_m95 (59, L, st, S) o ↔ pd_K xs Ls d pd_m95 (mm_go 60 L (.int 0 :: st) S) o := pd_Gs (i := .iconst 0) (n := 1) rfl
theorem p95_60 : pd_G xs Ls d pd_m95 (60, L, st, S) o ↔ pd_K xs Ls d pd_m95 (mm_i st fun x r => mm_go 61 (mm_sto L 0 3 (.int x)) r S) o := pd_Gs (i := .istore_n 3) (n := 1) rfl
theorem p95_61 : pd_G xs Ls d pd_m95 (61, L, st, S) o ↔ pd_K xs Ls d pd_m95 (mm_go 62 L (.int (-1) :: st) S) o := pd_Gs (i := .iconst (-1)) (n := 1) rfl
theorem p95_62 : pd_G xs Ls d pd_m95 (62, L, st, S) o ↔ pd_K xs Ls d pd_m95 (mm_i st fun x r => mm_go 64 (mm_sto L 0 4 (.int x)) r S) o := pd_Gs (i := .istore 4) (n := 2) rfl
theorem p95_64 : pd_G xs Ls d pd_m95 (64, L, st, S) o ↔ pd_K xs Ls d pd_m95 (mm_lI L 1 fun x => mm_go 65 L (.int x :: st) S) o := pd_Gs (i := .iload_n 1) (n := 1) rfl
theorem p95_65 : pd_G xs Ls d pd_m95 (65, L, st, S) o ↔ pd_K xs Ls d pd_m95 (mm_go 66 L (.int 1 :: st) S) o := pd_Gs (i := .iconst 1) (n := 1) rfl
theorem p95_66 : pd_G xs Ls d pd_m95 (66, L, st, S) o ↔ pd_K xs Ls d pd_m95 (mm_ii st fun x y r => mm_icmp .ne x y (mm_go 173 L r S) (mm_go 69 L r S)) o := pd_Gs (i := .if_icmp .ne 107) (n := 3) rfl
theorem p95_69 : pd_G xs Ls d pd_m95 (69, L, st, S) o ↔ pd_K xs Ls d pd_m95 (mm_lI L 3 fun x => mm_go 70 L (.int x :: st) S) o := pd_Gs (i := .iload_n 3) (n := 1) rfl
theorem p95_70 : pd_G xs Ls d pd_m95 (70, L, st, S) o ↔ pd_K xs Ls d pd_m95 (mm_go 72 L (.int 48 :: st) S) o := pd_Gs (i := .bipush 48) (n := 2) rfl
theorem p95_72 : pd_G xs Ls d pd_m95 (72, L, st, S) o ↔ pd_K xs Ls d pd_m95 (mm_ii st fun x y r => mm_icmp .lt x y (mm_go 173 L r S) (mm_go 75 L r S)) o := pd_Gs (i := .if_icmp .lt 101) (n := 3) rfl
theorem p95_75 : pd_G xs Ls d pd_m95 (75, L, st, S) o ↔ pd_K xs Ls d pd_m95 (mm_lI L 3 fun x => mm_go 76 L (.int x :: st) S) o := pd_Gs (i := .iload_n 3) (n := 1) rfl
theorem p95_76 : pd_G xs Ls d pd_m95 (76, L, st, S) o ↔ pd_K xs Ls d pd_m95 (mm_go 78 L (.int 57 :: st) S) o := pd_Gs (i := .bipush 57) (n := 2) rfl
theorem p95_78 : pd_G xs Ls d pd_m95 (78, L, st, S) o ↔ pd_K xs Ls d pd_m95 (mm_ii st fun x y r => mm_icmp .gt x y (mm_go 173 L r S) (mm_go 81 L r S)) o := pd_Gs (i := .if_icmp .gt 95) (n := 3) rfl
theorem p95_81 : pd_G xs Ls d pd_m95 (81, L, st, S) o ↔ pd_K xs Ls d pd_m95 (mm_go 82 L (.int 0 :: st) S) o := pd_Gs (i := .iconst 0) (n := 1) rfl
theorem p95_82 : pd_G xs Ls d pd_m95 (82, L, st, S) o ↔ pd_K xs Ls d pd_m95 (mm_i st fun x r => mm_go 84 (mm_sto L 0 5 (.int x)) r S) o := pd_Gs (i := .istore 5) (n := 2) rfl
theorem p95_84 : pd_G xs Ls d pd_m95 (84, L, st, S) o ↔ pd_K xs Ls d pd_m95 (mm_go 85 L (.int 0 :: st) S) o := pd_Gs (i := .iconst 0) (n := 1) rfl
theorem p95_85 : pd_G xs Ls d pd_m95 (85, L, st, S) o ↔ pd_K xs Ls d pd_m95 (mm_i st fun x r => mm_go 87 (mm_sto L 0 6 (.int x)) r S) o := pd_Gs (i := .istore 6) (n := 2) rfl
theorem p95_87 : pd_G xs Ls d pd_m95 (87, L, st, S) o ↔ pd_K xs Ls d pd_m95 (mm_lI L 6 fun x => mm_go 89 L (.int x :: st) S) o := pd_Gs (i := .iload 6) (n := 2) rfl
theorem p95_89 : pd_G xs Ls d pd_m95 (89, L, st, S) o ↔ pd_K xs Ls d pd_m95 (mm_go 90 L (.int 3 :: st) S) o := pd_Gs (i := .iconst 3) (n := 1) rfl
theorem p95_90 : pd_G xs Ls d pd_m95 (90, L, st, S) o ↔ pd_K xs Ls d pd_m95 (mm_ii st fun x y r => mm_icmp .ge x y (mm_go 149 L r S) (mm_go 93 L r S)) o := pd_Gs (i := .if_icmp .ge 59) (n := 3) rfl
theorem p95_93 : pd_G xs Ls d pd_m95 (93, L, st, S) o ↔ pd_K xs Ls d pd_m95 (mm_lI L 2 fun x => mm_go 94 L (.int x :: st) S) o := pd_Gs (i := .iload_n 2) (n := 1) rfl
theorem p95_94 : pd_G xs Ls d pd_m95 (94, L, st, S) o ↔ pd_K xs Ls d pd_m95 (mm_lA L 0 fun v => mm_go 95 L (v :: st) S) o := pd_Gs (i := .aload_n 0) (n := 1) rfl
theorem p95_95 : pd_G xs Ls d pd_m95 (95, L, st, S) o ↔ pd_K xs Ls d pd_m95 (mm_getf pd_ck 95 L st S 7 8) o := pd_Gs (i := .getfield 88) (n := 3) rfl
theorem p95_98 : pd_G xs Ls d pd_m95 (98, L, st, S) o ↔ pd_K xs Ls d pd_m95 (mm_ii st fun x y r => mm_icmp .ge x y (mm_go 149 L r S) (mm_go 101 L r S)) o := pd_Gs (i := .if_icmp .ge 51) (n := 3) rfl
theorem p95_101 : pd_G xs Ls d pd_m95 (101, L, st, S) o ↔ pd_K xs Ls d pd_m95 (mm_lA L 0 fun v => mm_go 102 L (v :: st) S) o := pd_Gs (i := .aload_n 0) (n := 1) rfl
theorem p95_102 : pd_G xs Ls d pd_m95 (102, L, st, S) o ↔ pd_K xs Ls d pd_m95 (mm_getf pd_ck 102 L st S 7 0) o := pd_Gs (i := .getfield 7) (n := 3) rfl
theorem p95_105 : pd_G xs Ls d pd_m95 (105, L, st, S) o ↔ pd_K xs Ls d pd_m95 (mm_lI L 2 fun x => mm_go 106 L (.int x :: st) S) o := pd_Gs (i := .iload_n 2) (n := 1) rfl
theorem p95_106 : pd_G xs Ls d pd_m95 (106, L, st, S) o ↔ pd_K xs Ls d pd_m95 (mm_ial xs Ls pd_ak 106 L S st) o := pd_Gs (i := .iaload) (n := 1) rfl
theorem p95_107 : pd_G xs Ls d pd_m95 (107, L, st, S) o ↔ pd_K xs Ls d pd_m95 (mm_go 109 L (.int 48 :: st) S) o := pd_Gs (i := .bipush 48) (n := 2) rfl
theorem p95_109 : pd_G xs Ls d pd_m95 (109, L, st, S) o ↔ pd_K xs Ls d pd_m95 (mm_ii st fun x y r => mm_icmp .lt x y (mm_go 149 L r S) (mm_go 112 L r S)) o := pd_Gs (i := .if_icmp .lt 40) (n := 3) rfl
theorem p95_112 : pd_G xs Ls d pd_m95 (112, L, st, S) o ↔ pd_K xs Ls d pd_m95 (mm_lA L 0 fun v => mm_go 113 L (v :: st) S) o := pd_Gs (i := .aload_n 0) (n := 1) rfl
theorem p95_113 : pd_G xs Ls d pd_m95 (113, L, st, S) o ↔ pd_K xs Ls d pd_m95 (mm_getf pd_ck 113 L st S 7 0) o := pd_Gs (i := .getfield 7) (n := 3) rfl
theorem p95_116 : pd_G xs Ls d pd_m95 (116, L, st, S) o ↔ pd_K xs Ls d pd_m95 (mm_lI L 2 fun x => mm_go 117 L (.int x :: st) S) o := pd_Gs (i := .iload_n 2) (n := 1) rfl
theorem p95_117 : pd_G xs Ls d pd_m95 (117, L, st, S) o ↔ pd_K xs Ls d pd_m95 (mm_ial xs Ls pd_ak 117 L S st) o := pd_Gs (i := .iaload) (n := 1) rfl
theorem p95_118 : pd_G xs Ls d pd_m95 (118, L, st, S) o ↔ pd_K xs Ls d pd_m95 (mm_go 120 L (.int 57 :: st) S) o := pd_Gs (i := .bipush 57) (n := 2) rfl
theorem p95_120 : pd_G xs Ls d pd_m95 (120, L, st, S) o ↔ pd_K xs Ls d pd_m95 (mm_ii st fun x y r => mm_icmp .gt x y (mm_go 149 L r S) (mm_go 123 L r S)) o := pd_Gs (i := .if_icmp .gt 29) (n := 3) rfl
theorem p95_123 : pd_G xs Ls d pd_m95 (123, L, st, S) o ↔ pd_K xs Ls d pd_m95 (mm_lI L 5 fun x => mm_go 125 L (.int x :: st) S) o := pd_Gs (i := .iload 5) (n := 2) rfl
theorem p95_125 : pd_G xs Ls d pd_m95 (125, L, st, S) o ↔ pd_K xs Ls d pd_m95 (mm_go 127 L (.int 10 :: st) S) o := pd_Gs (i := .bipush 10) (n := 2) rfl
theorem p95_127 : pd_G xs Ls d pd_m95 (127, L, st, S) o ↔ pd_K xs Ls d pd_m95 (mm_ii st fun x y r => mm_go 128 L (.int (x * y) :: r) S) o := pd_Gs (i := .imul) (n := 1) rfl
theorem p95_128 : pd_G xs Ls d pd_m95 (128, L, st, S) o ↔ pd_K xs Ls d pd_m95 (mm_lA L 0 fun v => mm_go 129 L (v :: st) S) o := pd_Gs (i := .aload_n 0) (n := 1) rfl
theorem p95_129 : pd_G xs Ls d pd_m95 (129, L, st, S) o ↔ pd_K xs Ls d pd_m95 (mm_getf pd_ck 129 L st S 7 0) o := pd_Gs (i := .getfield 7) (n := 3) rfl
theorem p95_132 : pd_G xs Ls d pd_m95 (132, L, st, S) o ↔ pd_K xs Ls d pd_m95 (mm_lI L 2 fun x => mm_go 133 L (.int x :: st) S) o := pd_Gs (i := .iload_n 2) (n := 1) rfl
theorem p95_133 : pd_G xs Ls d pd_m95 (133, L, st, S) o ↔ pd_K xs Ls d pd_m95 (mm_ial xs Ls pd_ak 133 L S st) o := pd_Gs (i := .iaload) (n := 1) rfl
theorem p95_134 : pd_G xs Ls d pd_m95 (134, L, st, S) o ↔ pd_K xs Ls d pd_m95 (mm_ii st fun x y r => mm_go 135 L (.int (x + y) :: r) S) o := pd_Gs (i := .iadd) (n := 1) rfl
theorem p95_135 : pd_G xs Ls d pd_m95 (135, L, st, S) o ↔ pd_K xs Ls d pd_m95 (mm_go 137 L (.int 48 :: st) S) o := pd_Gs (i := .bipush 48) (n := 2) rfl
theorem p95_137 : pd_G xs Ls d pd_m95 (137, L, st, S) o ↔ pd_K xs Ls d pd_m95 (mm_ii st fun x y r => mm_go 138 L (.int (x - y) :: r) S) o := pd_Gs (i := .isub) (n := 1) rfl
theorem p95_138 : pd_G xs Ls d pd_m95 (138, L, st, S) o ↔ pd_K xs Ls d pd_m95 (mm_i st fun x r => mm_go 140 (mm_sto L 0 5 (.int x)) r S) o := pd_Gs (i := .istore 5) (n := 2) rfl
theorem p95_140 : pd_G xs Ls d pd_m95 (140, L, st, S) o ↔ pd_K xs Ls d pd_m95 (mm_lI L 2 fun x => mm_go 143 (mm_sto L 0 2 (.int (x + 1))) st S) o := pd_Gs (i := .iinc 2 1) (n := 3) rfl
theorem p95_143 : pd_G xs Ls d pd_m95 (143, L, st, S) o ↔ pd_K xs Ls d pd_m95 (mm_lI L 6 fun x => mm_go 146 (mm_sto L 0 6 (.int (x + 1))) st S) o := pd_Gs (i := .iinc 6 1) (n := 3) rfl
theorem p95_146 : pd_G xs Ls d pd_m95 (146, L, st, S) o ↔ pd_K xs Ls d pd_m95 (mm_go 87 L st S) o := pd_Gs (i := .goto (-59)) (n := 3) rfl
theorem p95_149 : pd_G xs Ls d pd_m95 (149, L, st, S) o ↔ pd_K xs Ls d pd_m95 (mm_lA L 0 fun v => mm_go 150 L (v :: st) S) o := pd_Gs (i := .aload_n 0) (n := 1) rfl
theorem p95_150 : pd_G xs Ls d pd_m95 (150, L, st, S) o ↔ pd_K xs Ls d pd_m95 (mm_go 151 L (.int 1 :: st) S) o := pd_Gs (i := .iconst 1) (n := 1) rfl
theorem p95_151 : pd_G xs Ls d pd_m95 (151, L, st, S) o ↔ pd_K xs Ls d pd_m95 (mm_lI L 5 fun x => mm_go 153 L (.int x :: st) S) o := pd_Gs (i := .iload 5) (n := 2) rfl
theorem p95_153 : pd_G xs Ls d pd_m95 (153, L, st, S) o ↔ pd_K xs Ls d pd_m95 (mm_inv (mm_ev xs Ls pd_ck pd_ak pd_mj d) pd_m95 153 L st S 96 2 7) o := pd_Gs (i := .invokevirtual 112) (n := 3) rfl
theorem p95_156 : pd_G xs Ls d pd_m95 (156, L, st, S) o ↔ pd_K xs Ls d pd_m95 (mm_lA L 0 fun v => mm_go 157 L (v :: st) S) o := pd_Gs (i := .aload_n 0) (n := 1) rfl
theorem p95_157 : pd_G xs Ls d pd_m95 (157, L, st, S) o ↔ pd_K xs Ls d pd_m95 (mm_go 158 L (.int 0 :: st) S) o := pd_Gs (i := .iconst 0) (n := 1) rfl
theorem p95_158 : pd_G xs Ls d pd_m95 (158, L, st, S) o ↔ pd_K xs Ls d pd_m95 (mm_inv (mm_ev xs Ls pd_ck pd_ak pd_mj d) pd_m95 158 L st S 97 1 7) o := pd_Gs (i := .invokevirtual 136) (n := 3) rfl
theorem p95_161 : pd_G xs Ls d pd_m95 (161, L, st, S) o ↔ pd_K xs Ls d pd_m95 (mm_lA L 0 fun v => mm_go 162 L (v :: st) S) o := pd_Gs (i := .aload_n 0) (n := 1) rfl
theorem p95_162 : pd_G xs Ls d pd_m95 (162, L, st, S) o ↔ pd_K xs Ls d pd_m95 (mm_inv (mm_ev xs Ls pd_ck pd_ak pd_mj d) pd_m95 162 L st S 98 0 7) o := pd_Gs (i := .invokevirtual 140) (n := 3) rfl
theorem p95_165 : pd_G xs Ls d pd_m95 (165, L, st, S) o ↔ pd_K xs Ls d pd_m95 (mm_i st fun x r => mm_go 167 (mm_sto L 0 4 (.int x)) r S) o := pd_Gs (i := .istore 4) (n := 2) rfl
theorem p95_167 : pd_G xs Ls d pd_m95 (167, L, st, S) o ↔ pd_K xs Ls d pd_m95 (mm_lI L 2 fun x => mm_go 170 (mm_sto L 0 2 (.int (x + Int32.ofInt (-1)))) st S) o := pd_Gs (i := .iinc 2 (-1)) (n := 3) rfl
theorem p95_170 : pd_G xs Ls d pd_m95 (170, L, st, S) o ↔ pd_K xs Ls d pd_m95 (mm_go 268 L st S) o := pd_Gs (i := .goto 98) (n := 3) rfl
theorem p95_173 : pd_G xs Ls d pd_m95 (173, L, st, S) o ↔ pd_K xs Ls d pd_m95 (mm_lI L 3 fun x => mm_go 174 L (.int x :: st) S) o := pd_Gs (i := .iload_n 3) (n := 1) rfl
theorem p95_174 : pd_G xs Ls d pd_m95 (174, L, st, S) o ↔ pd_K xs Ls d pd_m95 (mm_i st fun x r => mm_icmp .eq x 0 (mm_go 191 L r S) (mm_go 177 L r S)) o := pd_Gs (i := .ifCond .eq 17) (n := 3) rfl
theorem p95_177 : pd_G xs Ls d pd_m95 (177, L, st, S) o ↔ pd_K xs Ls d pd_m95 (mm_lI L 1 fun x => mm_go 178 L (.int x :: st) S) o := pd_Gs (i := .iload_n 1) (n := 1) rfl
theorem p95_178 : pd_G xs Ls d pd_m95 (178, L, st, S) o ↔ pd_K xs Ls d pd_m95 (mm_i st fun x r => mm_icmp .ne x 0 (mm_go 191 L r S) (mm_go 181 L r S)) o := pd_Gs (i := .ifCond .ne 13) (n := 3) rfl
theorem p95_181 : pd_G xs Ls d pd_m95 (181, L, st, S) o ↔ pd_K xs Ls d pd_m95 (mm_lA L 0 fun v => mm_go 182 L (v :: st) S) o := pd_Gs (i := .aload_n 0) (n := 1) rfl
theorem p95_182 : pd_G xs Ls d pd_m95 (182, L, st, S) o ↔ pd_K xs Ls d pd_m95 (mm_lI L 3 fun x => mm_go 183 L (.int x :: st) S) o := pd_Gs (i := .iload_n 3) (n := 1) rfl
theorem p95_183 : pd_G xs Ls d pd_m95 (183, L, st, S) o ↔ pd_K xs Ls d pd_m95 (mm_inv (mm_ev xs Ls pd_ck pd_ak pd_mj d) pd_m95 183 L st S 100 1 7) o := pd_Gs (i := .invokevirtual 155) (n := 3) rfl
theorem p95_186 : pd_G xs Ls d pd_m95 (186, L, st, S) o ↔ pd_K xs Ls d pd_m95 (mm_i st fun x r => mm_go 188 (mm_sto L 0 4 (.int x)) r S) o := pd_Gs (i := .istore 4) (n := 2) rfl
theorem p95_188 : pd_G xs Ls d pd_m95 (188, L, st, S) o ↔ pd_K xs Ls d pd_m95 (mm_go 268 L st S) o := pd_Gs (i := .goto 80) (n := 3) rfl
theorem p95_191 : pd_G xs Ls d pd_m95 (191, L, st, S) o ↔ pd_K xs Ls d pd_m95 (mm_lI L 3 fun x => mm_go 192 L (.int x :: st) S) o := pd_Gs (i := .iload_n 3) (n := 1) rfl
theorem p95_192 : pd_G xs Ls d pd_m95 (192, L, st, S) o ↔ pd_K xs Ls d pd_m95 (mm_i st fun x r => mm_icmp .eq x 0 (mm_go 210 L r S) (mm_go 195 L r S)) o := pd_Gs (i := .ifCond .eq 18) (n := 3) rfl
theorem p95_195 : pd_G xs Ls d pd_m95 (195, L, st, S) o ↔ pd_K xs Ls d pd_m95 (mm_lI L 1 fun x => mm_go 196 L (.int x :: st) S) o := pd_Gs (i := .iload_n 1) (n := 1) rfl
theorem p95_196 : pd_G xs Ls d pd_m95 (196, L, st, S) o ↔ pd_K xs Ls d pd_m95 (mm_go 197 L (.int 1 :: st) S) o := pd_Gs (i := .iconst 1) (n := 1) rfl
theorem p95_197 : pd_G xs Ls d pd_m95 (197, L, st, S) o ↔ pd_K xs Ls d pd_m95 (mm_ii st fun x y r => mm_icmp .ne x y (mm_go 210 L r S) (mm_go 200 L r S)) o := pd_Gs (i := .if_icmp .ne 13) (n := 3) rfl
theorem p95_200 : pd_G xs Ls d pd_m95 (200, L, st, S) o ↔ pd_K xs Ls d pd_m95 (mm_lA L 0 fun v => mm_go 201 L (v :: st) S) o := pd_Gs (i := .aload_n 0) (n := 1) rfl
theorem p95_201 : pd_G xs Ls d pd_m95 (201, L, st, S) o ↔ pd_K xs Ls d pd_m95 (mm_lI L 3 fun x => mm_go 202 L (.int x :: st) S) o := pd_Gs (i := .iload_n 3) (n := 1) rfl
theorem p95_202 : pd_G xs Ls d pd_m95 (202, L, st, S) o ↔ pd_K xs Ls d pd_m95 (mm_inv (mm_ev xs Ls pd_ck pd_ak pd_mj d) pd_m95 202 L st S 104 1 7) o := pd_Gs (i := .invokevirtual 158) (n := 3) rfl
theorem p95_205 : pd_G xs Ls d pd_m95 (205, L, st, S) o ↔ pd_K xs Ls d pd_m95 (mm_i st fun x r => mm_go 207 (mm_sto L 0 4 (.int x)) r S) o := pd_Gs (i := .istore 4) (n := 2) rfl
theorem p95_207 : pd_G xs Ls d pd_m95 (207, L, st, S) o ↔ pd_K xs Ls d pd_m95 (mm_go 268 L st S) o := pd_Gs (i := .goto 61) (n := 3) rfl
theorem p95_210 : pd_G xs Ls d pd_m95 (210, L, st, S) o ↔ pd_K xs Ls d pd_m95 (mm_lI L 1 fun x => mm_go 211 L (.int x :: st) S) o := pd_Gs (i := .iload_n 1) (n := 1) rfl
theorem p95_211 : pd_G xs Ls d pd_m95 (211, L, st, S) o ↔ pd_K xs Ls d pd_m95 (mm_go 212 L (.int 2 :: st) S) o := pd_Gs (i := .iconst 2) (n := 1) rfl
theorem p95_212 : pd_G xs Ls d pd_m95 (212, L, st, S) o ↔ pd_K xs Ls d pd_m95 (mm_ii st fun x y r => mm_icmp .ne x y (mm_go 241 L r S) (mm_go 215 L r S)) o := pd_Gs (i := .if_icmp .ne 29) (n := 3) rfl
theorem p95_215 : pd_G xs Ls d pd_m95 (215, L, st, S) o ↔ pd_K xs Ls d pd_m95 (mm_lA L 0 fun v => mm_go 216 L (v :: st) S) o := pd_Gs (i := .aload_n 0) (n := 1) rfl
theorem p95_216 : pd_G xs Ls d pd_m95 (216, L, st, S) o ↔ pd_K xs Ls d pd_m95 (mm_lI L 3 fun x => mm_go 217 L (.int x :: st) S) o := pd_Gs (i := .iload_n 3) (n := 1) rfl
theorem p95_217 : pd_G xs Ls d pd_m95 (217, L, st, S) o ↔ pd_K xs Ls d pd_m95 (mm_inv (mm_ev xs Ls pd_ck pd_ak pd_mj d) pd_m95 217 L st S 106 1 7) o := pd_Gs (i := .invokevirtual 104) (n := 3) rfl
theorem p95_220 : pd_G xs Ls d pd_m95 (220, L, st, S) o ↔ pd_K xs Ls d pd_m95 (mm_i st fun x r => mm_icmp .le x 0 (mm_go 231 L r S) (mm_go 223 L r S)) o := pd_Gs (i := .ifCond .le 11) (n := 3) rfl
theorem p95_223 : pd_G xs Ls d pd_m95 (223, L, st, S) o ↔ pd_K xs Ls d pd_m95 (mm_lA L 0 fun v => mm_go 224 L (v :: st) S) o := pd_Gs (i := .aload_n 0) (n := 1) rfl
theorem p95_224 : pd_G xs Ls d pd_m95 (224, L, st, S) o ↔ pd_K xs Ls d pd_m95 (mm_lI L 3 fun x => mm_go 225 L (.int x :: st) S) o := pd_Gs (i := .iload_n 3) (n := 1) rfl
theorem p95_225 : pd_G xs Ls d pd_m95 (225, L, st, S) o ↔ pd_K xs Ls d pd_m95 (mm_inv (mm_ev xs Ls pd_ck pd_ak pd_mj d) pd_m95 225 L st S 107 1 7) o := pd_Gs (i := .invokevirtual 161) (n := 3) rfl
theorem p95_228 : pd_G xs Ls d pd_m95 (228, L, st, S) o ↔ pd_K xs Ls d pd_m95 (mm_go 236 L st S) o := pd_Gs (i := .goto 8) (n := 3) rfl
theorem p95_231 : pd_G xs Ls d pd_m95 (231, L, st, S) o ↔ pd_K xs Ls d pd_m95 (mm_lA L 0 fun v => mm_go 232 L (v :: st) S) o := pd_Gs (i := .aload_n 0) (n := 1) rfl
theorem p95_232 : pd_G xs Ls d pd_m95 (232, L, st, S) o ↔ pd_K xs Ls d pd_m95 (mm_lI L 3 fun x => mm_go 233 L (.int x :: st) S) o := pd_Gs (i := .iload_n 3) (n := 1) rfl
theorem p95_233 : pd_G xs Ls d pd_m95 (233, L, st, S) o ↔ pd_K xs Ls d pd_m95 (mm_inv (mm_ev xs Ls pd_ck pd_ak pd_mj d) pd_m95 233 L st S 109 1 7) o := pd_Gs (i := .invokevirtual 164) (n := 3) rfl
theorem p95_236 : pd_G xs Ls d pd_m95 (236, L, st, S) o ↔ pd_K xs Ls d pd_m95 (mm_i st fun x r => mm_go 238 (mm_sto L 0 4 (.int x)) r S) o := pd_Gs (i := .istore 4) (n := 2) rfl
theorem p95_238 : pd_G xs Ls d pd_m95 (238, L, st, S) o ↔ pd_K xs Ls d pd_m95 (mm_go 268 L st S) o := pd_Gs (i := .goto 30) (n := 3) rfl
theorem p95_241 : pd_G xs Ls d pd_m95 (241, L, st, S) o ↔ pd_K xs Ls d pd_m95 (mm_lI L 1 fun x => mm_go 242 L (.int x :: st) S) o := pd_Gs (i := .iload_n 1) (n := 1) rfl
theorem p95_242 : pd_G xs Ls d pd_m95 (242, L, st, S) o ↔ pd_K xs Ls d pd_m95 (mm_go 243 L (.int 3 :: st) S) o := pd_Gs (i := .iconst 3) (n := 1) rfl
theorem p95_243 : pd_G xs Ls d pd_m95 (243, L, st, S) o ↔ pd_K xs Ls d pd_m95 (mm_ii st fun x y r => mm_icmp .ne x y (mm_go 256 L r S) (mm_go 246 L r S)) o := pd_Gs (i := .if_icmp .ne 13) (n := 3) rfl
theorem p95_246 : pd_G xs Ls d pd_m95 (246, L, st, S) o ↔ pd_K xs Ls d pd_m95 (mm_lA L 0 fun v => mm_go 247 L (v :: st) S) o := pd_Gs (i := .aload_n 0) (n := 1) rfl
theorem p95_247 : pd_G xs Ls d pd_m95 (247, L, st, S) o ↔ pd_K xs Ls d pd_m95 (mm_lI L 3 fun x => mm_go 248 L (.int x :: st) S) o := pd_Gs (i := .iload_n 3) (n := 1) rfl
theorem p95_248 : pd_G xs Ls d pd_m95 (248, L, st, S) o ↔ pd_K xs Ls d pd_m95 (mm_inv (mm_ev xs Ls pd_ck pd_ak pd_mj d) pd_m95 248 L st S 111 1 7) o := pd_Gs (i := .invokevirtual 152) (n := 3) rfl
theorem p95_251 : pd_G xs Ls d pd_m95 (251, L, st, S) o ↔ pd_K xs Ls d pd_m95 (mm_i st fun x r => mm_go 253 (mm_sto L 0 4 (.int x)) r S) o := pd_Gs (i := .istore 4) (n := 2) rfl
theorem p95_253 : pd_G xs Ls d pd_m95 (253, L, st, S) o ↔ pd_K xs Ls d pd_m95 (mm_go 268 L st S) o := pd_Gs (i := .goto 15) (n := 3) rfl
theorem p95_256 : pd_G xs Ls d pd_m95 (256, L, st, S) o ↔ pd_K xs Ls d pd_m95 (mm_lI L 3 fun x => mm_go 257 L (.int x :: st) S) o := pd_Gs (i := .iload_n 3) (n := 1) rfl
theorem p95_257 : pd_G xs Ls d pd_m95 (257, L, st, S) o ↔ pd_K xs Ls d pd_m95 (mm_i st fun x r => mm_icmp .eq x 0 (mm_go 268 L r S) (mm_go 260 L r S)) o := pd_Gs (i := .ifCond .eq 11) (n := 3) rfl
theorem p95_260 : pd_G xs Ls d pd_m95 (260, L, st, S) o ↔ pd_K xs Ls d pd_m95 (mm_lA L 0 fun v => mm_go 261 L (v :: st) S) o := pd_Gs (i := .aload_n 0) (n := 1) rfl
theorem p95_261 : pd_G xs Ls d pd_m95 (261, L, st, S) o ↔ pd_K xs Ls d pd_m95 (mm_lI L 1 fun x => mm_go 262 L (.int x :: st) S) o := pd_Gs (i := .iload_n 1) (n := 1) rfl
theorem p95_262 : pd_G xs Ls d pd_m95 (262, L, st, S) o ↔ pd_K xs Ls d pd_m95 (mm_lI L 3 fun x => mm_go 263 L (.int x :: st) S) o := pd_Gs (i := .iload_n 3) (n := 1) rfl
theorem p95_263 : pd_G xs Ls d pd_m95 (263, L, st, S) o ↔ pd_K xs Ls d pd_m95 (mm_inv (mm_ev xs Ls pd_ck pd_ak pd_mj d) pd_m95 263 L st S 112 2 7) o := pd_Gs (i := .invokevirtual 167) (n := 3) rfl
theorem p95_266 : pd_G xs Ls d pd_m95 (266, L, st, S) o ↔ pd_K xs Ls d pd_m95 (mm_i st fun x r => mm_go 268 (mm_sto L 0 4 (.int x)) r S) o := pd_Gs (i := .istore 4) (n := 2) rfl
theorem p95_268 : pd_G xs Ls d pd_m95 (268, L, st, S) o ↔ pd_K xs Ls d pd_m95 (mm_lI L 4 fun x => mm_go 270 L (.int x :: st) S) o := pd_Gs (i := .iload 4) (n := 2) rfl
theorem p95_270 : pd_G xs Ls d pd_m95 (270, L, st, S) o ↔ pd_K xs Ls d pd_m95 (mm_i st fun x r => mm_icmp .ge x 0 (mm_go 275 L r S) (mm_go 273 L r S)) o := pd_Gs (i := .ifCond .ge 5) (n := 3) rfl
theorem p95_273 : pd_G xs Ls d pd_m95 (273, L, st, S) o ↔ pd_K xs Ls d pd_m95 (mm_lI L 2 fun x => mm_go 274 L (.int x :: st) S) o := pd_Gs (i := .iload_n 2) (n := 1) rfl
theorem p95_274 : pd_G xs Ls d pd_m95 (274, L, st, S) o ↔ pd_K xs Ls d pd_m95 (mm_e0 S st) o := pd_Gs (i := .ireturn) (n := 1) rfl
theorem p95_275 : pd_G xs Ls d pd_m95 (275, L, st, S) o ↔ pd_K xs Ls d pd_m95 (mm_lI L 4 fun x => mm_go 277 L (.int x :: st) S) o := pd_Gs (i := .iload 4) (n := 2) rfl
theorem p95_277 : pd_G xs Ls d pd_m95 (277, L, st, S) o ↔ pd_K xs Ls d pd_m95 (mm_go 279 L (.int 10 :: st) S) o := pd_Gs (i := .bipush 10) (n := 2) rfl
theorem p95_279 : pd_G xs Ls d pd_m95 (279, L, st, S) o ↔ pd_K xs Ls d pd_m95 (mm_ii st fun x y r => mm_icmp .ne x y (mm_go 285 L r S) (mm_go 282 L r S)) o := pd_Gs (i := .if_icmp .ne 6) (n := 3) rfl
theorem p95_282 : pd_G xs Ls d pd_m95 (282, L, st, S) o ↔ pd_K xs Ls d pd_m95 (mm_go 294 L st S) o := pd_Gs (i := .goto 12) (n := 3) rfl
theorem p95_285 : pd_G xs Ls d pd_m95 (285, L, st, S) o ↔ pd_K xs Ls d pd_m95 (mm_lI L 4 fun x => mm_go 287 L (.int x :: st) S) o := pd_Gs (i := .iload 4) (n := 2) rfl
theorem p95_287 : pd_G xs Ls d pd_m95 (287, L, st, S) o ↔ pd_K xs Ls d pd_m95 (mm_i st fun x r => mm_go 288 (mm_sto L 0 1 (.int x)) r S) o := pd_Gs (i := .istore_n 1) (n := 1) rfl
theorem p95_288 : pd_G xs Ls d pd_m95 (288, L, st, S) o ↔ pd_K xs Ls d pd_m95 (mm_lI L 2 fun x => mm_go 291 (mm_sto L 0 2 (.int (x + 1))) st S) o := pd_Gs (i := .iinc 2 1) (n := 3) rfl
theorem p95_291 : pd_G xs Ls d pd_m95 (291, L, st, S) o ↔ pd_K xs Ls d pd_m95 (mm_go 34 L st S) o := pd_Gs (i := .goto (-257)) (n := 3) rfl
theorem p95_294 : pd_G xs Ls d pd_m95 (294, L, st, S) o ↔ pd_K xs Ls d pd_m95 (mm_lA L 0 fun v => mm_go 295 L (v :: st) S) o := pd_Gs (i := .aload_n 0) (n := 1) rfl
theorem p95_295 : pd_G xs Ls d pd_m95 (295, L, st, S) o ↔ pd_K xs Ls d pd_m95 (mm_go 297 L (.int 30 :: st) S) o := pd_Gs (i := .bipush 30) (n := 2) rfl
theorem p95_297 : pd_G xs Ls d pd_m95 (297, L, st, S) o ↔ pd_K xs Ls d pd_m95 (mm_go 298 L (.int 0 :: st) S) o := pd_Gs (i := .iconst 0) (n := 1) rfl
theorem p95_298 : pd_G xs Ls d pd_m95 (298, L, st, S) o ↔ pd_K xs Ls d pd_m95 (mm_inv (mm_ev xs Ls pd_ck pd_ak pd_mj d) pd_m95 298 L st S 96 2 7) o := pd_Gs (i := .invokevirtual 112) (n := 3) rfl
theorem p95_301 : pd_G xs Ls d pd_m95 (301, L, st, S) o ↔ pd_K xs Ls d pd_m95 (mm_lA L 0 fun v => mm_go 302 L (v :: st) S) o := pd_Gs (i := .aload_n 0) (n := 1) rfl
theorem p95_302 : pd_G xs Ls d pd_m95 (302, L, st, S) o ↔ pd_K xs Ls d pd_m95 (mm_getf pd_ck 302 L st S 7 16) o := pd_Gs (i := .getfield 108) (n := 3) rfl
theorem p95_305 : pd_G xs Ls d pd_m95 (305, L, st, S) o ↔ pd_K xs Ls d pd_m95 (mm_i st fun x r => mm_icmp .eq x 0 (mm_go 315 L r S) (mm_go 308 L r S)) o := pd_Gs (i := .ifCond .eq 10) (n := 3) rfl
theorem p95_308 : pd_G xs Ls d pd_m95 (308, L, st, S) o ↔ pd_K xs Ls d pd_m95 (mm_lA L 0 fun v => mm_go 309 L (v :: st) S) o := pd_Gs (i := .aload_n 0) (n := 1) rfl
theorem p95_309 : pd_G xs Ls d pd_m95 (309, L, st, S) o ↔ pd_K xs Ls d pd_m95 (mm_getf pd_ck 309 L st S 7 8) o := pd_Gs (i := .getfield 88) (n := 3) rfl
theorem p95_312 : pd_G xs Ls d pd_m95 (312, L, st, S) o ↔ pd_K xs Ls d pd_m95 (mm_go 316 L st S) o := pd_Gs (i := .goto 4) (n := 3) rfl
theorem p95_315 : pd_G xs Ls d pd_m95 (315, L, st, S) o ↔ pd_K xs Ls d pd_m95 (mm_go 316 L (.int (-1) :: st) S) o := pd_Gs (i := .iconst (-1)) (n := 1) rfl
theorem p95_316 : pd_G xs Ls d pd_m95 (316, L, st, S) o ↔ pd_K xs Ls d pd_m95 (mm_e0 S st) o := pd_Gs (i := .ireturn) (n := 1) rfl
theorem p96_0 : pd_G xs Ls d pd_m96 (0, L, st, S) o ↔ pd_K xs Ls d pd_m96 (mm_lA L 0 fun v => mm_go 1 L (v :: st) S) o := pd_Gs (i := .aload_n 0) (n := 1) rfl
theorem p96_1 : pd_G xs Ls d pd_m96 (1, L, st, S) o ↔ pd_K xs Ls d pd_m96 (mm_getf pd_ck 1 L st S 7 1) o := pd_Gs (i := .getfield 13) (n := 3) rfl
theorem p96_4 : pd_G xs Ls d pd_m96 (4, L, st, S) o ↔ pd_K xs Ls d pd_m96 (mm_go 7 L (.int 512 :: st) S) o := pd_Gs (i := .sipush 512) (n := 3) rfl
theorem p96_7 : pd_G xs Ls d pd_m96 (7, L, st, S) o ↔ pd_K xs Ls d pd_m96 (mm_lA L 0 fun v => mm_go 8 L (v :: st) S) o := pd_Gs (i := .aload_n 0) (n := 1) rfl
theorem p96_8 : pd_G xs Ls d pd_m96 (8, L, st, S) o ↔ pd_K xs Ls d pd_m96 (mm_getf pd_ck 8 L st S 7 12) o := pd_Gs (i := .getfield 91) (n := 3) rfl
theorem p96_11 : pd_G xs Ls d pd_m96 (11, L, st, S) o ↔ pd_K xs Ls d pd_m96 (mm_ii st fun x y r => mm_go 12 L (.int (x + y) :: r) S) o := pd_Gs (i := .iadd) (n := 1) rfl
theorem p96_12 : pd_G xs Ls d pd_m96 (12, L, st, S) o ↔ pd_K xs Ls d pd_m96 (mm_lI L 1 fun x => mm_go 13 L (.int x :: st) S) o := pd_Gs (i := .iload_n 1) (n := 1) rfl
theorem p96_13 : pd_G xs Ls d pd_m96 (13, L, st, S) o ↔ pd_K xs Ls d pd_m96 (mm_i st fun x st => mm_ai pd_ak S st 0 fun i a r => mm_go 14 L r (mm_sI S a i.toNatClampNeg x)) o := pd_Gs (i := .iastore) (n := 1) rfl
theorem p96_14 : pd_G xs Ls d pd_m96 (14, L, st, S) o ↔ pd_K xs Ls d pd_m96 (mm_lA L 0 fun v => mm_go 15 L (v :: st) S) o := pd_Gs (i := .aload_n 0) (n := 1) rfl
theorem p96_15 : pd_G xs Ls d pd_m96 (15, L, st, S) o ↔ pd_K xs Ls d pd_m96 (mm_getf pd_ck 15 L st S 7 2) o := pd_Gs (i := .getfield 16) (n := 3) rfl
theorem p96_18 : pd_G xs Ls d pd_m96 (18, L, st, S) o ↔ pd_K xs Ls d pd_m96 (mm_go 21 L (.int 512 :: st) S) o := pd_Gs (i := .sipush 512) (n := 3) rfl
theorem p96_21 : pd_G xs Ls d pd_m96 (21, L, st, S) o ↔ pd_K xs Ls d pd_m96 (mm_lA L 0 fun v => mm_go 22 L (v :: st) S) o := pd_Gs (i := .aload_n 0) (n := 1) rfl
theorem p96_22 : pd_G xs Ls d pd_m96 (22, L, st, S) o ↔ pd_K xs Ls d pd_m96 (mm_getf pd_ck 22 L st S 7 12) o := pd_Gs (i := .getfield 91) (n := 3) rfl
theorem p96_25 : pd_G xs Ls d pd_m96 (25, L, st, S) o ↔ pd_K xs Ls d pd_m96 (mm_ii st fun x y r => mm_go 26 L (.int (x + y) :: r) S) o := pd_Gs (i := .iadd) (n := 1) rfl
theorem p96_26 : pd_G xs Ls d pd_m96 (26, L, st, S) o ↔ pd_K xs Ls d pd_m96 (mm_lI L 2 fun x => mm_go 27 L (.int x :: st) S) o := pd_Gs (i := .iload_n 2) (n := 1) rfl
theorem p96_27 : pd_G xs Ls d pd_m96 (27, L, st, S) o ↔ pd_K xs Ls d pd_m96 (mm_i st fun x st => mm_ai pd_ak S st 0 fun i a r => mm_go 28 L r (mm_sI S a i.toNatClampNeg x)) o := pd_Gs (i := .iastore) (n := 1) rfl
theorem p96_28 : pd_G xs Ls d pd_m96 (28, L, st, S) o ↔ pd_K xs Ls d pd_m96 (mm_lA L 0 fun v => mm_go 29 L (v :: st) S) o := pd_Gs (i := .aload_n 0) (n := 1) rfl
theorem p96_29 : pd_G xs Ls d pd_m96 (29, L, st, S) o ↔ pd_K xs Ls d pd_m96 (mm_1 st fun v r => cond (mm_c2 v) none (mm_go 30 L (v :: v :: r) S)) o := pd_Gs (i := .dup) (n := 1) rfl
theorem p96_30 : pd_G xs Ls d pd_m96 (30, L, st, S) o ↔ pd_K xs Ls d pd_m96 (mm_getf pd_ck 30 L st S 7 12) o := pd_Gs (i := .getfield 91) (n := 3) rfl
theorem p96_33 : pd_G xs Ls d pd_m96 (33, L, st, S) o ↔ pd_K xs Ls d pd_m96 (mm_go 34 L (.int 1 :: st) S) o := pd_Gs (i := .iconst 1) (n := 1) rfl
theorem p96_34 : pd_G xs Ls d pd_m96 (34, L, st, S) o ↔ pd_K xs Ls d pd_m96 (mm_ii st fun x y r => mm_go 35 L (.int (x + y) :: r) S) o := pd_Gs (i := .iadd) (n := 1) rfl
theorem p96_35 : pd_G xs Ls d pd_m96 (35, L, st, S) o ↔ pd_K xs Ls d pd_m96 (mm_putf pd_ck 35 L st S 7 12) o := pd_Gs (i := .putfield 91) (n := 3) rfl
theorem p96_38 : pd_G xs Ls d pd_m96 (38, L, st, S) o ↔ pd_K xs Ls d pd_m96 (mm_rV S st) o := pd_Gs (i := .return_) (n := 1) rfl
theorem p97_0 : pd_G xs Ls d pd_m97 (0, L, st, S) o ↔ pd_K xs Ls d pd_m97 (mm_lA L 0 fun v => mm_go 1 L (v :: st) S) o := pd_Gs (i := .aload_n 0) (n := 1) rfl
theorem p97_1 : pd_G xs Ls d pd_m97 (1, L, st, S) o ↔ pd_K xs Ls d pd_m97 (mm_getf pd_ck 1 L st S 7 7) o := pd_Gs (i := .getfield 32) (n := 3) rfl
theorem p97_4 : pd_G xs Ls d pd_m97 (4, L, st, S) o ↔ pd_K xs Ls d pd_m97 (mm_lA L 0 fun v => mm_go 5 L (v :: st) S) o := pd_Gs (i := .aload_n 0) (n := 1) rfl
theorem p97_5 : pd_G xs Ls d pd_m97 (5, L, st, S) o ↔ pd_K xs Ls d pd_m97 (mm_1 st fun v r => cond (mm_c2 v) none (mm_go 6 L (v :: v :: r) S)) o := pd_Gs (i := .dup) (n := 1) rfl
theorem p97_6 : pd_G xs Ls d pd_m97 (6, L, st, S) o ↔ pd_K xs Ls d pd_m97 (mm_getf pd_ck 6 L st S 7 11) o := pd_Gs (i := .getfield 97) (n := 3) rfl
theorem p97_9 : pd_G xs Ls d pd_m97 (9, L, st, S) o ↔ pd_K xs Ls d pd_m97 (mm_2 st fun v w r => cond (mm_c2 v || mm_c2 w) none (mm_go 10 L (v :: w :: v :: r) S)) o := pd_Gs (i := .dup_x1) (n := 1) rfl
theorem p97_10 : pd_G xs Ls d pd_m97 (10, L, st, S) o ↔ pd_K xs Ls d pd_m97 (mm_go 11 L (.int 1 :: st) S) o := pd_Gs (i := .iconst 1) (n := 1) rfl
theorem p97_11 : pd_G xs Ls d pd_m97 (11, L, st, S) o ↔ pd_K xs Ls d pd_m97 (mm_ii st fun x y r => mm_go 12 L (.int (x + y) :: r) S) o := pd_Gs (i := .iadd) (n := 1) rfl
theorem p97_12 : pd_G xs Ls d pd_m97 (12, L, st, S) o ↔ pd_K xs Ls d pd_m97 (mm_putf pd_ck 12 L st S 7 11) o := pd_Gs (i := .putfield 97) (n := 3) rfl
theorem p97_15 : pd_G xs Ls d pd_m97 (15, L, st, S) o ↔ pd_K xs Ls d pd_m97 (mm_lI L 1 fun x => mm_go 16 L (.int x :: st) S) o := pd_Gs (i := .iload_n 1) (n := 1) rfl
theorem p97_16 : pd_G xs Ls d pd_m97 (16, L, st, S) o ↔ pd_K xs Ls d pd_m97 (mm_i st fun x st => mm_ai pd_ak S st 4 fun i a r => mm_go 17 L r (mm_sI S a i.toNatClampNeg (vp_nar .boolean x))) o := pd_Gs (i := .bastore) (n := 1) rfl
theorem p97_17 : pd_G xs Ls d pd_m97 (17, L, st, S) o ↔ pd_K xs Ls d pd_m97 (mm_rV S st) o := pd_Gs (i := .return_) (n := 1) rfl
theorem p98_0 : pd_G xs Ls d pd_m98 (0, L, st, S) o ↔ pd_K xs Ls d pd_m98 (mm_lA L 0 fun v => mm_go 1 L (v :: st) S) o := pd_Gs (i := .aload_n 0) (n := 1) rfl
theorem p98_1 : pd_G xs Ls d pd_m98 (1, L, st, S) o ↔ pd_K xs Ls d pd_m98 (mm_inv (mm_ev xs Ls pd_ck pd_ak pd_mj d) pd_m98 1 L st S 99 0 7) o := pd_Gs (i := .invokevirtual 100) (n := 3) rfl
theorem p98_4 : pd_G xs Ls d pd_m98 (4, L, st, S) o ↔ pd_K xs Ls d pd_m98 (mm_go 6 L (.int 8 :: st) S) o := pd_Gs (i := .bipush 8) (n := 2) rfl
theorem p98_6 : pd_G xs Ls d pd_m98 (6, L, st, S) o ↔ pd_K xs Ls d pd_m98 (mm_ii st fun x y r => mm_icmp .ne x y (mm_go 50 L r S) (mm_go 9 L r S)) o := pd_Gs (i := .if_icmp .ne 44) (n := 3) rfl
theorem p98_9 : pd_G xs Ls d pd_m98 (9, L, st, S) o ↔ pd_K xs Ls d pd_m98 (mm_lA L 0 fun v => mm_go 10 L (v :: st) S) o := pd_Gs (i := .aload_n 0) (n := 1) rfl
theorem p98_10 : pd_G xs Ls d pd_m98 (10, L, st, S) o ↔ pd_K xs Ls d pd_m98 (mm_1 st fun v r => cond (mm_c2 v) none (mm_go 11 L (v :: v :: r) S)) o := pd_Gs (i := .dup) (n := 1) rfl
theorem p98_11 : pd_G xs Ls d pd_m98 (11, L, st, S) o ↔ pd_K xs Ls d pd_m98 (mm_getf pd_ck 11 L st S 7 10) o := pd_Gs (i := .getfield 94) (n := 3) rfl
theorem p98_14 : pd_G xs Ls d pd_m98 (14, L, st, S) o ↔ pd_K xs Ls d pd_m98 (mm_go 15 L (.int 1 :: st) S) o := pd_Gs (i := .iconst 1) (n := 1) rfl
theorem p98_15 : pd_G xs Ls d pd_m98 (15, L, st, S) o ↔ pd_K xs Ls d pd_m98 (mm_ii st fun x y r => mm_go 16 L (.int (x - y) :: r) S) o := pd_Gs (i := .isub) (n := 1) rfl
theorem p98_16 : pd_G xs Ls d pd_m98 (16, L, st, S) o ↔ pd_K xs Ls d pd_m98 (mm_putf pd_ck 16 L st S 7 10) o := pd_Gs (i := .putfield 94) (n := 3) rfl
theorem p98_19 : pd_G xs Ls d pd_m98 (19, L, st, S) o ↔ pd_K xs Ls d pd_m98 (mm_lA L 0 fun v => mm_go 20 L (v :: st) S) o := pd_Gs (i := .aload_n 0) (n := 1) rfl
theorem p98_20 : pd_G xs Ls d pd_m98 (20, L, st, S) o ↔ pd_K xs Ls d pd_m98 (mm_1 st fun v r => cond (mm_c2 v) none (mm_go 21 L (v :: v :: r) S)) o := pd_Gs (i := .dup) (n := 1) rfl
theorem p98_21 : pd_G xs Ls d pd_m98 (21, L, st, S) o ↔ pd_K xs Ls d pd_m98 (mm_getf pd_ck 21 L st S 7 15) o := pd_Gs (i := .getfield 116) (n := 3) rfl
theorem p98_24 : pd_G xs Ls d pd_m98 (24, L, st, S) o ↔ pd_K xs Ls d pd_m98 (mm_go 25 L (.int 1 :: st) S) o := pd_Gs (i := .iconst 1) (n := 1) rfl
theorem p98_25 : pd_G xs Ls d pd_m98 (25, L, st, S) o ↔ pd_K xs Ls d pd_m98 (mm_ii st fun x y r => mm_go 26 L (.int (x - y) :: r) S) o := pd_Gs (i := .isub) (n := 1) rfl
theorem p98_26 : pd_G xs Ls d pd_m98 (26, L, st, S) o ↔ pd_K xs Ls d pd_m98 (mm_putf pd_ck 26 L st S 7 15) o := pd_Gs (i := .putfield 116) (n := 3) rfl
theorem p98_29 : pd_G xs Ls d pd_m98 (29, L, st, S) o ↔ pd_K xs Ls d pd_m98 (mm_lA L 0 fun v => mm_go 30 L (v :: st) S) o := pd_Gs (i := .aload_n 0) (n := 1) rfl
theorem p98_30 : pd_G xs Ls d pd_m98 (30, L, st, S) o ↔ pd_K xs Ls d pd_m98 (mm_go 31 L (.int 5 :: st) S) o := pd_Gs (i := .iconst 5) (n := 1) rfl
theorem p98_31 : pd_G xs Ls d pd_m98 (31, L, st, S) o ↔ pd_K xs Ls d pd_m98 (mm_go 32 L (.int 0 :: st) S) o := pd_Gs (i := .iconst 0) (n := 1) rfl
theorem p98_32 : pd_G xs Ls d pd_m98 (32, L, st, S) o ↔ pd_K xs Ls d pd_m98 (mm_inv (mm_ev xs Ls pd_ck pd_ak pd_mj d) pd_m98 32 L st S 96 2 7) o := pd_Gs (i := .invokevirtual 112) (n := 3) rfl
theorem p98_35 : pd_G xs Ls d pd_m98 (35, L, st, S) o ↔ pd_K xs Ls d pd_m98 (mm_lA L 0 fun v => mm_go 36 L (v :: st) S) o := pd_Gs (i := .aload_n 0) (n := 1) rfl
theorem p98_36 : pd_G xs Ls d pd_m98 (36, L, st, S) o ↔ pd_K xs Ls d pd_m98 (mm_getf pd_ck 36 L st S 7 7) o := pd_Gs (i := .getfield 32) (n := 3) rfl
theorem p98_39 : pd_G xs Ls d pd_m98 (39, L, st, S) o ↔ pd_K xs Ls d pd_m98 (mm_lA L 0 fun v => mm_go 40 L (v :: st) S) o := pd_Gs (i := .aload_n 0) (n := 1) rfl
theorem p98_40 : pd_G xs Ls d pd_m98 (40, L, st, S) o ↔ pd_K xs Ls d pd_m98 (mm_getf pd_ck 40 L st S 7 11) o := pd_Gs (i := .getfield 97) (n := 3) rfl
theorem p98_43 : pd_G xs Ls d pd_m98 (43, L, st, S) o ↔ pd_K xs Ls d pd_m98 (mm_go 44 L (.int 1 :: st) S) o := pd_Gs (i := .iconst 1) (n := 1) rfl
theorem p98_44 : pd_G xs Ls d pd_m98 (44, L, st, S) o ↔ pd_K xs Ls d pd_m98 (mm_ii st fun x y r => mm_go 45 L (.int (x - y) :: r) S) o := pd_Gs (i := .isub) (n := 1) rfl
theorem p98_45 : pd_G xs Ls d pd_m98 (45, L, st, S) o ↔ pd_K xs Ls d pd_m98 (mm_go 46 L (.int 0 :: st) S) o := pd_Gs (i := .iconst 0) (n := 1) rfl
theorem p98_46 : pd_G xs Ls d pd_m98 (46, L, st, S) o ↔ pd_K xs Ls d pd_m98 (mm_i st fun x st => mm_ai pd_ak S st 4 fun i a r => mm_go 47 L r (mm_sI S a i.toNatClampNeg (vp_nar .boolean x))) o := pd_Gs (i := .bastore) (n := 1) rfl
theorem p98_47 : pd_G xs Ls d pd_m98 (47, L, st, S) o ↔ pd_K xs Ls d pd_m98 (mm_go 0 L st S) o := pd_Gs (i := .goto (-47)) (n := 3) rfl
theorem p98_50 : pd_G xs Ls d pd_m98 (50, L, st, S) o ↔ pd_K xs Ls d pd_m98 (mm_go 51 L (.int 2 :: st) S) o := pd_Gs (i := .iconst 2) (n := 1) rfl
theorem p98_51 : pd_G xs Ls d pd_m98 (51, L, st, S) o ↔ pd_K xs Ls d pd_m98 (mm_e0 S st) o := pd_Gs (i := .ireturn) (n := 1) rfl
theorem p99_0 : pd_G xs Ls d pd_m99 (0, L, st, S) o ↔ pd_K xs Ls d pd_m99 (mm_lA L 0 fun v => mm_go 1 L (v :: st) S) o := pd_Gs (i := .aload_n 0) (n := 1) rfl
theorem p99_1 : pd_G xs Ls d pd_m99 (1, L, st, S) o ↔ pd_K xs Ls d pd_m99 (mm_getf pd_ck 1 L st S 7 10) o := pd_Gs (i := .getfield 94) (n := 3) rfl
theorem p99_4 : pd_G xs Ls d pd_m99 (4, L, st, S) o ↔ pd_K xs Ls d pd_m99 (mm_i st fun x r => mm_icmp .ne x 0 (mm_go 11 L r S) (mm_go 7 L r S)) o := pd_Gs (i := .ifCond .ne 7) (n := 3) rfl
theorem p99_7 : pd_G xs Ls d pd_m99 (7, L, st, S) o ↔ pd_K xs Ls d pd_m99 (mm_go 8 L (.int 0 :: st) S) o := pd_Gs (i := .iconst 0) (n := 1) rfl
theorem p99_8 : pd_G xs Ls d pd_m99 (8, L, st, S) o ↔ pd_K xs Ls d pd_m99 (mm_go 22 L st S) o := pd_Gs (i := .goto 14) (n := 3) rfl
theorem p99_11 : pd_G xs Ls d pd_m99 (11, L, st, S) o ↔ pd_K xs Ls d pd_m99 (mm_lA L 0 fun v => mm_go 12 L (v :: st) S) o := pd_Gs (i := .aload_n 0) (n := 1) rfl
theorem p99_12 : pd_G xs Ls d pd_m99 (12, L, st, S) o ↔ pd_K xs Ls d pd_m99 (mm_getf pd_ck 12 L st S 7 5) o := pd_Gs (i := .getfield 26) (n := 3) rfl
theorem p99_15 : pd_G xs Ls d pd_m99 (15, L, st, S) o ↔ pd_K xs Ls d pd_m99 (mm_lA L 0 fun v => mm_go 16 L (v :: st) S) o := pd_Gs (i := .aload_n 0) (n := 1) rfl
theorem p99_16 : pd_G xs Ls d pd_m99 (16, L, st, S) o ↔ pd_K xs Ls d pd_m99 (mm_getf pd_ck 16 L st S 7 10) o := pd_Gs (i := .getfield 94) (n := 3) rfl
theorem p99_19 : pd_G xs Ls d pd_m99 (19, L, st, S) o ↔ pd_K xs Ls d pd_m99 (mm_go 20 L (.int 1 :: st) S) o := pd_Gs (i := .iconst 1) (n := 1) rfl
theorem p99_20 : pd_G xs Ls d pd_m99 (20, L, st, S) o ↔ pd_K xs Ls d pd_m99 (mm_ii st fun x y r => mm_go 21 L (.int (x - y) :: r) S) o := pd_Gs (i := .isub) (n := 1) rfl
theorem p99_21 : pd_G xs Ls d pd_m99 (21, L, st, S) o ↔ pd_K xs Ls d pd_m99 (mm_ial xs Ls pd_ak 21 L S st) o := pd_Gs (i := .iaload) (n := 1) rfl
theorem p99_22 : pd_G xs Ls d pd_m99 (22, L, st, S) o ↔ pd_K xs Ls d pd_m99 (mm_e0 S st) o := pd_Gs (i := .ireturn) (n := 1) rfl
theorem p100_0 : pd_G xs Ls d pd_m100 (0, L, st, S) o ↔ pd_K xs Ls d pd_m100 (mm_lA L 0 fun v => mm_go 1 L (v :: st) S) o := pd_Gs (i := .aload_n 0) (n := 1) rfl
theorem p100_1 : pd_G xs Ls d pd_m100 (1, L, st, S) o ↔ pd_K xs Ls d pd_m100 (mm_1 st fun v r => cond (mm_c2 v) none (mm_go 2 L (v :: v :: r) S)) o := pd_Gs (i := .dup) (n := 1) rfl
theorem p100_2 : pd_G xs Ls d pd_m100 (2, L, st, S) o ↔ pd_K xs Ls d pd_m100 (mm_getf pd_ck 2 L st S 7 14) o := pd_Gs (i := .getfield 123) (n := 3) rfl
theorem p100_5 : pd_G xs Ls d pd_m100 (5, L, st, S) o ↔ pd_K xs Ls d pd_m100 (mm_go 6 L (.int 1 :: st) S) o := pd_Gs (i := .iconst 1) (n := 1) rfl
theorem p100_6 : pd_G xs Ls d pd_m100 (6, L, st, S) o ↔ pd_K xs Ls d pd_m100 (mm_ii st fun x y r => mm_go 7 L (.int (x + y) :: r) S) o := pd_Gs (i := .iadd) (n := 1) rfl
theorem p100_7 : pd_G xs Ls d pd_m100 (7, L, st, S) o ↔ pd_K xs Ls d pd_m100 (mm_putf pd_ck 7 L st S 7 14) o := pd_Gs (i := .putfield 123) (n := 3) rfl
theorem p100_10 : pd_G xs Ls d pd_m100 (10, L, st, S) o ↔ pd_K xs Ls d pd_m100 (mm_lA L 0 fun v => mm_go 11 L (v :: st) S) o := pd_Gs (i := .aload_n 0) (n := 1) rfl
theorem p100_11 : pd_G xs Ls d pd_m100 (11, L, st, S) o ↔ pd_K xs Ls d pd_m100 (mm_lI L 1 fun x => mm_go 12 L (.int x :: st) S) o := pd_Gs (i := .iload_n 1) (n := 1) rfl
theorem p100_12 : pd_G xs Ls d pd_m100 (12, L, st, S) o ↔ pd_K xs Ls d pd_m100 (mm_inv (mm_ev xs Ls pd_ck pd_ak pd_mj d) pd_m100 12 L st S 101 1 7) o := pd_Gs (i := .invokevirtual 126) (n := 3) rfl
theorem p100_15 : pd_G xs Ls d pd_m100 (15, L, st, S) o ↔ pd_K xs Ls d pd_m100 (mm_i st fun x r => mm_icmp .ne x 0 (mm_go 26 L r S) (mm_go 18 L r S)) o := pd_Gs (i := .ifCond .ne 11) (n := 3) rfl
theorem p100_18 : pd_G xs Ls d pd_m100 (18, L, st, S) o ↔ pd_K xs Ls d pd_m100 (mm_lA L 0 fun v => mm_go 19 L (v :: st) S) o := pd_Gs (i := .aload_n 0) (n := 1) rfl
theorem p100_19 : pd_G xs Ls d pd_m100 (19, L, st, S) o ↔ pd_K xs Ls d pd_m100 (mm_lI L 1 fun x => mm_go 20 L (.int x :: st) S) o := pd_Gs (i := .iload_n 1) (n := 1) rfl
theorem p100_20 : pd_G xs Ls d pd_m100 (20, L, st, S) o ↔ pd_K xs Ls d pd_m100 (mm_inv (mm_ev xs Ls pd_ck pd_ak pd_mj d) pd_m100 20 L st S 102 1 7) o := pd_Gs (i := .invokevirtual 130) (n := 3) rfl
theorem p100_23 : pd_G xs Ls d pd_m100 (23, L, st, S) o ↔ pd_K xs Ls d pd_m100 (mm_i st fun x r => mm_icmp .eq x 0 (mm_go 54 L r S) (mm_go 26 L r S)) o := pd_Gs (i := .ifCond .eq 31) (n := 3) rfl
theorem p100_26 : pd_G xs Ls d pd_m100 (26, L, st, S) o ↔ pd_K xs Ls d pd_m100 (mm_lA L 0 fun v => mm_go 27 L (v :: st) S) o := pd_Gs (i := .aload_n 0) (n := 1) rfl
theorem p100_27 : pd_G xs Ls d pd_m100 (27, L, st, S) o ↔ pd_K xs Ls d pd_m100 (mm_lA L 0 fun v => mm_go 28 L (v :: st) S) o := pd_Gs (i := .aload_n 0) (n := 1) rfl
theorem p100_28 : pd_G xs Ls d pd_m100 (28, L, st, S) o ↔ pd_K xs Ls d pd_m100 (mm_lI L 1 fun x => mm_go 29 L (.int x :: st) S) o := pd_Gs (i := .iload_n 1) (n := 1) rfl
theorem p100_29 : pd_G xs Ls d pd_m100 (29, L, st, S) o ↔ pd_K xs Ls d pd_m100 (mm_inv (mm_ev xs Ls pd_ck pd_ak pd_mj d) pd_m100 29 L st S 101 1 7) o := pd_Gs (i := .invokevirtual 126) (n := 3) rfl
theorem p100_32 : pd_G xs Ls d pd_m100 (32, L, st, S) o ↔ pd_K xs Ls d pd_m100 (mm_i st fun x r => mm_icmp .eq x 0 (mm_go 42 L r S) (mm_go 35 L r S)) o := pd_Gs (i := .ifCond .eq 10) (n := 3) rfl
theorem p100_35 : pd_G xs Ls d pd_m100 (35, L, st, S) o ↔ pd_K xs Ls d pd_m100 (mm_lI L 1 fun x => mm_go 36 L (.int x :: st) S) o := pd_Gs (i := .iload_n 1) (n := 1) rfl
theorem p100_36 : pd_G xs Ls d pd_m100 (36, L, st, S) o ↔ pd_K xs Ls d pd_m100 (mm_go 38 L (.int 97 :: st) S) o := pd_Gs (i := .bipush 97) (n := 2) rfl
theorem p100_38 : pd_G xs Ls d pd_m100 (38, L, st, S) o ↔ pd_K xs Ls d pd_m100 (mm_ii st fun x y r => mm_go 39 L (.int (x - y) :: r) S) o := pd_Gs (i := .isub) (n := 1) rfl
theorem p100_39 : pd_G xs Ls d pd_m100 (39, L, st, S) o ↔ pd_K xs Ls d pd_m100 (mm_go 48 L st S) o := pd_Gs (i := .goto 9) (n := 3) rfl
theorem p100_42 : pd_G xs Ls d pd_m100 (42, L, st, S) o ↔ pd_K xs Ls d pd_m100 (mm_go 43 L (.int 4 :: st) S) o := pd_Gs (i := .iconst 4) (n := 1) rfl
theorem p100_43 : pd_G xs Ls d pd_m100 (43, L, st, S) o ↔ pd_K xs Ls d pd_m100 (mm_lI L 1 fun x => mm_go 44 L (.int x :: st) S) o := pd_Gs (i := .iload_n 1) (n := 1) rfl
theorem p100_44 : pd_G xs Ls d pd_m100 (44, L, st, S) o ↔ pd_K xs Ls d pd_m100 (mm_ii st fun x y r => mm_go 45 L (.int (x + y) :: r) S) o := pd_Gs (i := .iadd) (n := 1) rfl
theorem p100_45 : pd_G xs Ls d pd_m100 (45, L, st, S) o ↔ pd_K xs Ls d pd_m100 (mm_go 47 L (.int 114 :: st) S) o := pd_Gs (i := .bipush 114) (n := 2) rfl
theorem p100_47 : pd_G xs Ls d pd_m100 (47, L, st, S) o ↔ pd_K xs Ls d pd_m100 (mm_ii st fun x y r => mm_go 48 L (.int (x - y) :: r) S) o := pd_Gs (i := .isub) (n := 1) rfl
theorem p100_48 : pd_G xs Ls d pd_m100 (48, L, st, S) o ↔ pd_K xs Ls d pd_m100 (mm_putf pd_ck 48 L st S 7 13) o := pd_Gs (i := .putfield 133) (n := 3) rfl
theorem p100_51 : pd_G xs Ls d pd_m100 (51, L, st, S) o ↔ pd_K xs Ls d pd_m100 (mm_go 53 L (.int 7 :: st) S) o := pd_Gs (i := .bipush 7) (n := 2) rfl
theorem p100_53 : pd_G xs Ls d pd_m100 (53, L, st, S) o ↔ pd_K xs Ls d pd_m100 (mm_e0 S st) o := pd_Gs (i := .ireturn) (n := 1) rfl
theorem p100_54 : pd_G xs Ls d pd_m100 (54, L, st, S) o ↔ pd_K xs Ls d pd_m100 (mm_lI L 1 fun x => mm_go 55 L (.int x :: st) S) o := pd_Gs (i := .iload_n 1) (n := 1) rfl
theorem p100_55 : pd_G xs Ls d pd_m100 (55, L, st, S) o ↔ pd_K xs Ls d pd_m100 (mm_go 57 L (.int 118 :: st) S) o := pd_Gs (i := .bipush 118) (n := 2) rfl
theorem p100_57 : pd_G xs Ls d pd_m100 (57, L, st, S) o ↔ pd_K xs Ls d pd_m100 (mm_ii st fun x y r => mm_icmp .ne x y (mm_go 62 L r S) (mm_go 60 L r S)) o := pd_Gs (i := .if_icmp .ne 5) (n := 3) rfl
theorem p100_60 : pd_G xs Ls d pd_m100 (60, L, st, S) o ↔ pd_K xs Ls d pd_m100 (mm_go 61 L (.int 5 :: st) S) o := pd_Gs (i := .iconst 5) (n := 1) rfl
theorem p100_61 : pd_G xs Ls d pd_m100 (61, L, st, S) o ↔ pd_K xs Ls d pd_m100 (mm_e0 S st) o := pd_Gs (i := .ireturn) (n := 1) rfl
theorem p100_62 : pd_G xs Ls d pd_m100 (62, L, st, S) o ↔ pd_K xs Ls d pd_m100 (mm_lI L 1 fun x => mm_go 63 L (.int x :: st) S) o := pd_Gs (i := .iload_n 1) (n := 1) rfl
theorem p100_63 : pd_G xs Ls d pd_m100 (63, L, st, S) o ↔ pd_K xs Ls d pd_m100 (mm_go 65 L (.int 33 :: st) S) o := pd_Gs (i := .bipush 33) (n := 2) rfl
theorem p100_65 : pd_G xs Ls d pd_m100 (65, L, st, S) o ↔ pd_K xs Ls d pd_m100 (mm_ii st fun x y r => mm_icmp .eq x y (mm_go 80 L r S) (mm_go 68 L r S)) o := pd_Gs (i := .if_icmp .eq 15) (n := 3) rfl
theorem p100_68 : pd_G xs Ls d pd_m100 (68, L, st, S) o ↔ pd_K xs Ls d pd_m100 (mm_lI L 1 fun x => mm_go 69 L (.int x :: st) S) o := pd_Gs (i := .iload_n 1) (n := 1) rfl
theorem p100_69 : pd_G xs Ls d pd_m100 (69, L, st, S) o ↔ pd_K xs Ls d pd_m100 (mm_go 71 L (.int 63 :: st) S) o := pd_Gs (i := .bipush 63) (n := 2) rfl
theorem p100_71 : pd_G xs Ls d pd_m100 (71, L, st, S) o ↔ pd_K xs Ls d pd_m100 (mm_ii st fun x y r => mm_icmp .eq x y (mm_go 80 L r S) (mm_go 74 L r S)) o := pd_Gs (i := .if_icmp .eq 9) (n := 3) rfl
theorem p100_74 : pd_G xs Ls d pd_m100 (74, L, st, S) o ↔ pd_K xs Ls d pd_m100 (mm_lI L 1 fun x => mm_go 75 L (.int x :: st) S) o := pd_Gs (i := .iload_n 1) (n := 1) rfl
theorem p100_75 : pd_G xs Ls d pd_m100 (75, L, st, S) o ↔ pd_K xs Ls d pd_m100 (mm_go 77 L (.int 64 :: st) S) o := pd_Gs (i := .bipush 64) (n := 2) rfl
theorem p100_77 : pd_G xs Ls d pd_m100 (77, L, st, S) o ↔ pd_K xs Ls d pd_m100 (mm_ii st fun x y r => mm_icmp .ne x y (mm_go 107 L r S) (mm_go 80 L r S)) o := pd_Gs (i := .if_icmp .ne 30) (n := 3) rfl
theorem p100_80 : pd_G xs Ls d pd_m100 (80, L, st, S) o ↔ pd_K xs Ls d pd_m100 (mm_lA L 0 fun v => mm_go 81 L (v :: st) S) o := pd_Gs (i := .aload_n 0) (n := 1) rfl
theorem p100_81 : pd_G xs Ls d pd_m100 (81, L, st, S) o ↔ pd_K xs Ls d pd_m100 (mm_lI L 1 fun x => mm_go 82 L (.int x :: st) S) o := pd_Gs (i := .iload_n 1) (n := 1) rfl
theorem p100_82 : pd_G xs Ls d pd_m100 (82, L, st, S) o ↔ pd_K xs Ls d pd_m100 (mm_go 84 L (.int 33 :: st) S) o := pd_Gs (i := .bipush 33) (n := 2) rfl
theorem p100_84 : pd_G xs Ls d pd_m100 (84, L, st, S) o ↔ pd_K xs Ls d pd_m100 (mm_ii st fun x y r => mm_icmp .ne x y (mm_go 91 L r S) (mm_go 87 L r S)) o := pd_Gs (i := .if_icmp .ne 7) (n := 3) rfl
theorem p100_87 : pd_G xs Ls d pd_m100 (87, L, st, S) o ↔ pd_K xs Ls d pd_m100 (mm_go 88 L (.int 4 :: st) S) o := pd_Gs (i := .iconst 4) (n := 1) rfl
theorem p100_88 : pd_G xs Ls d pd_m100 (88, L, st, S) o ↔ pd_K xs Ls d pd_m100 (mm_go 102 L st S) o := pd_Gs (i := .goto 14) (n := 3) rfl
theorem p100_91 : pd_G xs Ls d pd_m100 (91, L, st, S) o ↔ pd_K xs Ls d pd_m100 (mm_lI L 1 fun x => mm_go 92 L (.int x :: st) S) o := pd_Gs (i := .iload_n 1) (n := 1) rfl
theorem p100_92 : pd_G xs Ls d pd_m100 (92, L, st, S) o ↔ pd_K xs Ls d pd_m100 (mm_go 94 L (.int 63 :: st) S) o := pd_Gs (i := .bipush 63) (n := 2) rfl
theorem p100_94 : pd_G xs Ls d pd_m100 (94, L, st, S) o ↔ pd_K xs Ls d pd_m100 (mm_ii st fun x y r => mm_icmp .ne x y (mm_go 101 L r S) (mm_go 97 L r S)) o := pd_Gs (i := .if_icmp .ne 7) (n := 3) rfl
theorem p100_97 : pd_G xs Ls d pd_m100 (97, L, st, S) o ↔ pd_K xs Ls d pd_m100 (mm_go 98 L (.int 2 :: st) S) o := pd_Gs (i := .iconst 2) (n := 1) rfl
theorem p100_98 : pd_G xs Ls d pd_m100 (98, L, st, S) o ↔ pd_K xs Ls d pd_m100 (mm_go 102 L st S) o := pd_Gs (i := .goto 4) (n := 3) rfl
theorem p100_101 : pd_G xs Ls d pd_m100 (101, L, st, S) o ↔ pd_K xs Ls d pd_m100 (mm_go 102 L (.int 3 :: st) S) o := pd_Gs (i := .iconst 3) (n := 1) rfl
theorem p100_102 : pd_G xs Ls d pd_m100 (102, L, st, S) o ↔ pd_K xs Ls d pd_m100 (mm_inv (mm_ev xs Ls pd_ck pd_ak pd_mj d) pd_m100 102 L st S 103 1 7) o := pd_Gs (i := .invokevirtual 119) (n := 3) rfl
theorem p100_105 : pd_G xs Ls d pd_m100 (105, L, st, S) o ↔ pd_K xs Ls d pd_m100 (mm_go 106 L (.int 1 :: st) S) o := pd_Gs (i := .iconst 1) (n := 1) rfl
theorem p100_106 : pd_G xs Ls d pd_m100 (106, L, st, S) o ↔ pd_K xs Ls d pd_m100 (mm_e0 S st) o := pd_Gs (i := .ireturn) (n := 1) rfl
theorem p100_107 : pd_G xs Ls d pd_m100 (107, L, st, S) o ↔ pd_K xs Ls d pd_m100 (mm_lI L 1 fun x => mm_go 108 L (.int x :: st) S) o := pd_Gs (i := .iload_n 1) (n := 1) rfl
theorem p100_108 : pd_G xs Ls d pd_m100 (108, L, st, S) o ↔ pd_K xs Ls d pd_m100 (mm_go 110 L (.int 38 :: st) S) o := pd_Gs (i := .bipush 38) (n := 2) rfl
theorem p100_110 : pd_G xs Ls d pd_m100 (110, L, st, S) o ↔ pd_K xs Ls d pd_m100 (mm_ii st fun x y r => mm_icmp .ne x y (mm_go 115 L r S) (mm_go 113 L r S)) o := pd_Gs (i := .if_icmp .ne 5) (n := 3) rfl
theorem p100_113 : pd_G xs Ls d pd_m100 (113, L, st, S) o ↔ pd_K xs Ls d pd_m100 (mm_go 114 L (.int 4 :: st) S) o := pd_Gs (i := .iconst 4) (n := 1) rfl
theorem p100_114 : pd_G xs Ls d pd_m100 (114, L, st, S) o ↔ pd_K xs Ls d pd_m100 (mm_e0 S st) o := pd_Gs (i := .ireturn) (n := 1) rfl
theorem p100_115 : pd_G xs Ls d pd_m100 (115, L, st, S) o ↔ pd_K xs Ls d pd_m100 (mm_lI L 1 fun x => mm_go 116 L (.int x :: st) S) o := pd_Gs (i := .iload_n 1) (n := 1) rfl
theorem p100_116 : pd_G xs Ls d pd_m100 (116, L, st, S) o ↔ pd_K xs Ls d pd_m100 (mm_go 118 L (.int 87 :: st) S) o := pd_Gs (i := .bipush 87) (n := 2) rfl
theorem p100_118 : pd_G xs Ls d pd_m100 (118, L, st, S) o ↔ pd_K xs Ls d pd_m100 (mm_ii st fun x y r => mm_icmp .eq x y (mm_go 133 L r S) (mm_go 121 L r S)) o := pd_Gs (i := .if_icmp .eq 15) (n := 3) rfl
theorem p100_121 : pd_G xs Ls d pd_m100 (121, L, st, S) o ↔ pd_K xs Ls d pd_m100 (mm_lI L 1 fun x => mm_go 122 L (.int x :: st) S) o := pd_Gs (i := .iload_n 1) (n := 1) rfl
theorem p100_122 : pd_G xs Ls d pd_m100 (122, L, st, S) o ↔ pd_K xs Ls d pd_m100 (mm_go 124 L (.int 83 :: st) S) o := pd_Gs (i := .bipush 83) (n := 2) rfl
theorem p100_124 : pd_G xs Ls d pd_m100 (124, L, st, S) o ↔ pd_K xs Ls d pd_m100 (mm_ii st fun x y r => mm_icmp .eq x y (mm_go 133 L r S) (mm_go 127 L r S)) o := pd_Gs (i := .if_icmp .eq 9) (n := 3) rfl
theorem p100_127 : pd_G xs Ls d pd_m100 (127, L, st, S) o ↔ pd_K xs Ls d pd_m100 (mm_lI L 1 fun x => mm_go 128 L (.int x :: st) S) o := pd_Gs (i := .iload_n 1) (n := 1) rfl
theorem p100_128 : pd_G xs Ls d pd_m100 (128, L, st, S) o ↔ pd_K xs Ls d pd_m100 (mm_go 130 L (.int 80 :: st) S) o := pd_Gs (i := .bipush 80) (n := 2) rfl
theorem p100_130 : pd_G xs Ls d pd_m100 (130, L, st, S) o ↔ pd_K xs Ls d pd_m100 (mm_ii st fun x y r => mm_icmp .ne x y (mm_go 152 L r S) (mm_go 133 L r S)) o := pd_Gs (i := .if_icmp .ne 22) (n := 3) rfl
theorem p100_133 : pd_G xs Ls d pd_m100 (133, L, st, S) o ↔ pd_K xs Ls d pd_m100 (mm_lA L 0 fun v => mm_go 134 L (v :: st) S) o := pd_Gs (i := .aload_n 0) (n := 1) rfl
theorem p100_134 : pd_G xs Ls d pd_m100 (134, L, st, S) o ↔ pd_K xs Ls d pd_m100 (mm_lI L 1 fun x => mm_go 135 L (.int x :: st) S) o := pd_Gs (i := .iload_n 1) (n := 1) rfl
theorem p100_135 : pd_G xs Ls d pd_m100 (135, L, st, S) o ↔ pd_K xs Ls d pd_m100 (mm_putf pd_ck 135 L st S 7 13) o := pd_Gs (i := .putfield 133) (n := 3) rfl
theorem p100_138 : pd_G xs Ls d pd_m100 (138, L, st, S) o ↔ pd_K xs Ls d pd_m100 (mm_lI L 1 fun x => mm_go 139 L (.int x :: st) S) o := pd_Gs (i := .iload_n 1) (n := 1) rfl
theorem p100_139 : pd_G xs Ls d pd_m100 (139, L, st, S) o ↔ pd_K xs Ls d pd_m100 (mm_go 141 L (.int 80 :: st) S) o := pd_Gs (i := .bipush 80) (n := 2) rfl
theorem p100_141 : pd_G xs Ls d pd_m100 (141, L, st, S) o ↔ pd_K xs Ls d pd_m100 (mm_ii st fun x y r => mm_icmp .ne x y (mm_go 149 L r S) (mm_go 144 L r S)) o := pd_Gs (i := .if_icmp .ne 8) (n := 3) rfl
theorem p100_144 : pd_G xs Ls d pd_m100 (144, L, st, S) o ↔ pd_K xs Ls d pd_m100 (mm_go 146 L (.int 9 :: st) S) o := pd_Gs (i := .bipush 9) (n := 2) rfl
theorem p100_146 : pd_G xs Ls d pd_m100 (146, L, st, S) o ↔ pd_K xs Ls d pd_m100 (mm_go 151 L st S) o := pd_Gs (i := .goto 5) (n := 3) rfl
theorem p100_149 : pd_G xs Ls d pd_m100 (149, L, st, S) o ↔ pd_K xs Ls d pd_m100 (mm_go 151 L (.int 8 :: st) S) o := pd_Gs (i := .bipush 8) (n := 2) rfl
theorem p100_151 : pd_G xs Ls d pd_m100 (151, L, st, S) o ↔ pd_K xs Ls d pd_m100 (mm_e0 S st) o := pd_Gs (i := .ireturn) (n := 1) rfl
theorem p100_152 : pd_G xs Ls d pd_m100 (152, L, st, S) o ↔ pd_K xs Ls d pd_m100 (mm_go 153 L (.int (-1) :: st) S) o := pd_Gs (i := .iconst (-1)) (n := 1) rfl
theorem p100_153 : pd_G xs Ls d pd_m100 (153, L, st, S) o ↔ pd_K xs Ls d pd_m100 (mm_e0 S st) o := pd_Gs (i := .ireturn) (n := 1) rfl
theorem p101_0 : pd_G xs Ls d pd_m101 (0, L, st, S) o ↔ pd_K xs Ls d pd_m101 (mm_lI L 1 fun x => mm_go 1 L (.int x :: st) S) o := pd_Gs (i := .iload_n 1) (n := 1) rfl
theorem p101_1 : pd_G xs Ls d pd_m101 (1, L, st, S) o ↔ pd_K xs Ls d pd_m101 (mm_go 3 L (.int 97 :: st) S) o := pd_Gs (i := .bipush 97) (n := 2) rfl
theorem p101_3 : pd_G xs Ls d pd_m101 (3, L, st, S) o ↔ pd_K xs Ls d pd_m101 (mm_ii st fun x y r => mm_icmp .lt x y (mm_go 16 L r S) (mm_go 6 L r S)) o := pd_Gs (i := .if_icmp .lt 13) (n := 3) rfl
theorem p101_6 : pd_G xs Ls d pd_m101 (6, L, st, S) o ↔ pd_K xs Ls d pd_m101 (mm_lI L 1 fun x => mm_go 7 L (.int x :: st) S) o := pd_Gs (i := .iload_n 1) (n := 1) rfl
theorem p101_7 : pd_G xs Ls d pd_m101 (7, L, st, S) o ↔ pd_K xs Ls d pd_m101 (mm_go 9 L (.int 100 :: st) S) o := pd_Gs (i := .bipush 100) (n := 2) rfl
theorem p101_9 : pd_G xs Ls d pd_m101 (9, L, st, S) o ↔ pd_K xs Ls d pd_m101 (mm_ii st fun x y r => mm_icmp .gt x y (mm_go 16 L r S) (mm_go 12 L r S)) o := pd_Gs (i := .if_icmp .gt 7) (n := 3) rfl
theorem p101_12 : pd_G xs Ls d pd_m101 (12, L, st, S) o ↔ pd_K xs Ls d pd_m101 (mm_go 13 L (.int 1 :: st) S) o := pd_Gs (i := .iconst 1) (n := 1) rfl
theorem p101_13 : pd_G xs Ls d pd_m101 (13, L, st, S) o ↔ pd_K xs Ls d pd_m101 (mm_go 17 L st S) o := pd_Gs (i := .goto 4) (n := 3) rfl
theorem p101_16 : pd_G xs Ls d pd_m101 (16, L, st, S) o ↔ pd_K xs Ls d pd_m101 (mm_go 17 L (.int 0 :: st) S) o := pd_Gs (i := .iconst 0) (n := 1) rfl
theorem p101_17 : pd_G xs Ls d pd_m101 (17, L, st, S) o ↔ pd_K xs Ls d pd_m101 (mm_e4 S st) o := pd_Gs (i := .ireturn) (n := 1) rfl
theorem p102_0 : pd_G xs Ls d pd_m102 (0, L, st, S) o ↔ pd_K xs Ls d pd_m102 (mm_lI L 1 fun x => mm_go 1 L (.int x :: st) S) o := pd_Gs (i := .iload_n 1) (n := 1) rfl
theorem p102_1 : pd_G xs Ls d pd_m102 (1, L, st, S) o ↔ pd_K xs Ls d pd_m102 (mm_go 3 L (.int 114 :: st) S) o := pd_Gs (i := .bipush 114) (n := 2) rfl
theorem p102_3 : pd_G xs Ls d pd_m102 (3, L, st, S) o ↔ pd_K xs Ls d pd_m102 (mm_ii st fun x y r => mm_icmp .lt x y (mm_go 16 L r S) (mm_go 6 L r S)) o := pd_Gs (i := .if_icmp .lt 13) (n := 3) rfl
theorem p102_6 : pd_G xs Ls d pd_m102 (6, L, st, S) o ↔ pd_K xs Ls d pd_m102 (mm_lI L 1 fun x => mm_go 7 L (.int x :: st) S) o := pd_Gs (i := .iload_n 1) (n := 1) rfl
theorem p102_7 : pd_G xs Ls d pd_m102 (7, L, st, S) o ↔ pd_K xs Ls d pd_m102 (mm_go 9 L (.int 116 :: st) S) o := pd_Gs (i := .bipush 116) (n := 2) rfl
theorem p102_9 : pd_G xs Ls d pd_m102 (9, L, st, S) o ↔ pd_K xs Ls d pd_m102 (mm_ii st fun x y r => mm_icmp .gt x y (mm_go 16 L r S) (mm_go 12 L r S)) o := pd_Gs (i := .if_icmp .gt 7) (n := 3) rfl
theorem p102_12 : pd_G xs Ls d pd_m102 (12, L, st, S) o ↔ pd_K xs Ls d pd_m102 (mm_go 13 L (.int 1 :: st) S) o := pd_Gs (i := .iconst 1) (n := 1) rfl
theorem p102_13 : pd_G xs Ls d pd_m102 (13, L, st, S) o ↔ pd_K xs Ls d pd_m102 (mm_go 17 L st S) o := pd_Gs (i := .goto 4) (n := 3) rfl
theorem p102_16 : pd_G xs Ls d pd_m102 (16, L, st, S) o ↔ pd_K xs Ls d pd_m102 (mm_go 17 L (.int 0 :: st) S) o := pd_Gs (i := .iconst 0) (n := 1) rfl
theorem p102_17 : pd_G xs Ls d pd_m102 (17, L, st, S) o ↔ pd_K xs Ls d pd_m102 (mm_e4 S st) o := pd_Gs (i := .ireturn) (n := 1) rfl
theorem p103_0 : pd_G xs Ls d pd_m103 (0, L, st, S) o ↔ pd_K xs Ls d pd_m103 (mm_lA L 0 fun v => mm_go 1 L (v :: st) S) o := pd_Gs (i := .aload_n 0) (n := 1) rfl
theorem p103_1 : pd_G xs Ls d pd_m103 (1, L, st, S) o ↔ pd_K xs Ls d pd_m103 (mm_getf pd_ck 1 L st S 7 5) o := pd_Gs (i := .getfield 26) (n := 3) rfl
theorem p103_4 : pd_G xs Ls d pd_m103 (4, L, st, S) o ↔ pd_K xs Ls d pd_m103 (mm_lA L 0 fun v => mm_go 5 L (v :: st) S) o := pd_Gs (i := .aload_n 0) (n := 1) rfl
theorem p103_5 : pd_G xs Ls d pd_m103 (5, L, st, S) o ↔ pd_K xs Ls d pd_m103 (mm_getf pd_ck 5 L st S 7 10) o := pd_Gs (i := .getfield 94) (n := 3) rfl
theorem p103_8 : pd_G xs Ls d pd_m103 (8, L, st, S) o ↔ pd_K xs Ls d pd_m103 (mm_lI L 1 fun x => mm_go 9 L (.int x :: st) S) o := pd_Gs (i := .iload_n 1) (n := 1) rfl
theorem p103_9 : pd_G xs Ls d pd_m103 (9, L, st, S) o ↔ pd_K xs Ls d pd_m103 (mm_i st fun x st => mm_ai pd_ak S st 0 fun i a r => mm_go 10 L r (mm_sI S a i.toNatClampNeg x)) o := pd_Gs (i := .iastore) (n := 1) rfl
theorem p103_10 : pd_G xs Ls d pd_m103 (10, L, st, S) o ↔ pd_K xs Ls d pd_m103 (mm_lA L 0 fun v => mm_go 11 L (v :: st) S) o := pd_Gs (i := .aload_n 0) (n := 1) rfl
theorem p103_11 : pd_G xs Ls d pd_m103 (11, L, st, S) o ↔ pd_K xs Ls d pd_m103 (mm_getf pd_ck 11 L st S 7 6) o := pd_Gs (i := .getfield 29) (n := 3) rfl
theorem p103_14 : pd_G xs Ls d pd_m103 (14, L, st, S) o ↔ pd_K xs Ls d pd_m103 (mm_lA L 0 fun v => mm_go 15 L (v :: st) S) o := pd_Gs (i := .aload_n 0) (n := 1) rfl
theorem p103_15 : pd_G xs Ls d pd_m103 (15, L, st, S) o ↔ pd_K xs Ls d pd_m103 (mm_getf pd_ck 15 L st S 7 10) o := pd_Gs (i := .getfield 94) (n := 3) rfl
theorem p103_18 : pd_G xs Ls d pd_m103 (18, L, st, S) o ↔ pd_K xs Ls d pd_m103 (mm_lA L 0 fun v => mm_go 19 L (v :: st) S) o := pd_Gs (i := .aload_n 0) (n := 1) rfl
theorem p103_19 : pd_G xs Ls d pd_m103 (19, L, st, S) o ↔ pd_K xs Ls d pd_m103 (mm_getf pd_ck 19 L st S 7 12) o := pd_Gs (i := .getfield 91) (n := 3) rfl
theorem p103_22 : pd_G xs Ls d pd_m103 (22, L, st, S) o ↔ pd_K xs Ls d pd_m103 (mm_i st fun x st => mm_ai pd_ak S st 0 fun i a r => mm_go 23 L r (mm_sI S a i.toNatClampNeg x)) o := pd_Gs (i := .iastore) (n := 1) rfl
theorem p103_23 : pd_G xs Ls d pd_m103 (23, L, st, S) o ↔ pd_K xs Ls d pd_m103 (mm_lA L 0 fun v => mm_go 24 L (v :: st) S) o := pd_Gs (i := .aload_n 0) (n := 1) rfl
theorem p103_24 : pd_G xs Ls d pd_m103 (24, L, st, S) o ↔ pd_K xs Ls d pd_m103 (mm_1 st fun v r => cond (mm_c2 v) none (mm_go 25 L (v :: v :: r) S)) o := pd_Gs (i := .dup) (n := 1) rfl
theorem p103_25 : pd_G xs Ls d pd_m103 (25, L, st, S) o ↔ pd_K xs Ls d pd_m103 (mm_getf pd_ck 25 L st S 7 10) o := pd_Gs (i := .getfield 94) (n := 3) rfl
theorem p103_28 : pd_G xs Ls d pd_m103 (28, L, st, S) o ↔ pd_K xs Ls d pd_m103 (mm_go 29 L (.int 1 :: st) S) o := pd_Gs (i := .iconst 1) (n := 1) rfl
theorem p103_29 : pd_G xs Ls d pd_m103 (29, L, st, S) o ↔ pd_K xs Ls d pd_m103 (mm_ii st fun x y r => mm_go 30 L (.int (x + y) :: r) S) o := pd_Gs (i := .iadd) (n := 1) rfl
theorem p103_30 : pd_G xs Ls d pd_m103 (30, L, st, S) o ↔ pd_K xs Ls d pd_m103 (mm_putf pd_ck 30 L st S 7 10) o := pd_Gs (i := .putfield 94) (n := 3) rfl
theorem p103_33 : pd_G xs Ls d pd_m103 (33, L, st, S) o ↔ pd_K xs Ls d pd_m103 (mm_rV S st) o := pd_Gs (i := .return_) (n := 1) rfl
theorem p104_0 : pd_G xs Ls d pd_m104 (0, L, st, S) o ↔ pd_K xs Ls d pd_m104 (mm_lA L 0 fun v => mm_go 1 L (v :: st) S) o := pd_Gs (i := .aload_n 0) (n := 1) rfl
theorem p104_1 : pd_G xs Ls d pd_m104 (1, L, st, S) o ↔ pd_K xs Ls d pd_m104 (mm_lI L 1 fun x => mm_go 2 L (.int x :: st) S) o := pd_Gs (i := .iload_n 1) (n := 1) rfl
theorem p104_2 : pd_G xs Ls d pd_m104 (2, L, st, S) o ↔ pd_K xs Ls d pd_m104 (mm_inv (mm_ev xs Ls pd_ck pd_ak pd_mj d) pd_m104 2 L st S 101 1 7) o := pd_Gs (i := .invokevirtual 126) (n := 3) rfl
theorem p104_5 : pd_G xs Ls d pd_m104 (5, L, st, S) o ↔ pd_K xs Ls d pd_m104 (mm_i st fun x r => mm_icmp .ne x 0 (mm_go 16 L r S) (mm_go 8 L r S)) o := pd_Gs (i := .ifCond .ne 11) (n := 3) rfl
theorem p104_8 : pd_G xs Ls d pd_m104 (8, L, st, S) o ↔ pd_K xs Ls d pd_m104 (mm_lA L 0 fun v => mm_go 9 L (v :: st) S) o := pd_Gs (i := .aload_n 0) (n := 1) rfl
theorem p104_9 : pd_G xs Ls d pd_m104 (9, L, st, S) o ↔ pd_K xs Ls d pd_m104 (mm_lI L 1 fun x => mm_go 10 L (.int x :: st) S) o := pd_Gs (i := .iload_n 1) (n := 1) rfl
theorem p104_10 : pd_G xs Ls d pd_m104 (10, L, st, S) o ↔ pd_K xs Ls d pd_m104 (mm_inv (mm_ev xs Ls pd_ck pd_ak pd_mj d) pd_m104 10 L st S 102 1 7) o := pd_Gs (i := .invokevirtual 130) (n := 3) rfl
theorem p104_13 : pd_G xs Ls d pd_m104 (13, L, st, S) o ↔ pd_K xs Ls d pd_m104 (mm_i st fun x r => mm_icmp .eq x 0 (mm_go 56 L r S) (mm_go 16 L r S)) o := pd_Gs (i := .ifCond .eq 43) (n := 3) rfl
theorem p104_16 : pd_G xs Ls d pd_m104 (16, L, st, S) o ↔ pd_K xs Ls d pd_m104 (mm_lA L 0 fun v => mm_go 17 L (v :: st) S) o := pd_Gs (i := .aload_n 0) (n := 1) rfl
theorem p104_17 : pd_G xs Ls d pd_m104 (17, L, st, S) o ↔ pd_K xs Ls d pd_m104 (mm_go 18 L (.int 2 :: st) S) o := pd_Gs (i := .iconst 2) (n := 1) rfl
theorem p104_18 : pd_G xs Ls d pd_m104 (18, L, st, S) o ↔ pd_K xs Ls d pd_m104 (mm_lA L 0 fun v => mm_go 19 L (v :: st) S) o := pd_Gs (i := .aload_n 0) (n := 1) rfl
theorem p104_19 : pd_G xs Ls d pd_m104 (19, L, st, S) o ↔ pd_K xs Ls d pd_m104 (mm_lI L 1 fun x => mm_go 20 L (.int x :: st) S) o := pd_Gs (i := .iload_n 1) (n := 1) rfl
theorem p104_20 : pd_G xs Ls d pd_m104 (20, L, st, S) o ↔ pd_K xs Ls d pd_m104 (mm_inv (mm_ev xs Ls pd_ck pd_ak pd_mj d) pd_m104 20 L st S 101 1 7) o := pd_Gs (i := .invokevirtual 126) (n := 3) rfl
theorem p104_23 : pd_G xs Ls d pd_m104 (23, L, st, S) o ↔ pd_K xs Ls d pd_m104 (mm_i st fun x r => mm_icmp .eq x 0 (mm_go 33 L r S) (mm_go 26 L r S)) o := pd_Gs (i := .ifCond .eq 10) (n := 3) rfl
theorem p104_26 : pd_G xs Ls d pd_m104 (26, L, st, S) o ↔ pd_K xs Ls d pd_m104 (mm_lI L 1 fun x => mm_go 27 L (.int x :: st) S) o := pd_Gs (i := .iload_n 1) (n := 1) rfl
theorem p104_27 : pd_G xs Ls d pd_m104 (27, L, st, S) o ↔ pd_K xs Ls d pd_m104 (mm_go 29 L (.int 97 :: st) S) o := pd_Gs (i := .bipush 97) (n := 2) rfl
theorem p104_29 : pd_G xs Ls d pd_m104 (29, L, st, S) o ↔ pd_K xs Ls d pd_m104 (mm_ii st fun x y r => mm_go 30 L (.int (x - y) :: r) S) o := pd_Gs (i := .isub) (n := 1) rfl
theorem p104_30 : pd_G xs Ls d pd_m104 (30, L, st, S) o ↔ pd_K xs Ls d pd_m104 (mm_go 39 L st S) o := pd_Gs (i := .goto 9) (n := 3) rfl
theorem p104_33 : pd_G xs Ls d pd_m104 (33, L, st, S) o ↔ pd_K xs Ls d pd_m104 (mm_go 34 L (.int 4 :: st) S) o := pd_Gs (i := .iconst 4) (n := 1) rfl
theorem p104_34 : pd_G xs Ls d pd_m104 (34, L, st, S) o ↔ pd_K xs Ls d pd_m104 (mm_lI L 1 fun x => mm_go 35 L (.int x :: st) S) o := pd_Gs (i := .iload_n 1) (n := 1) rfl
theorem p104_35 : pd_G xs Ls d pd_m104 (35, L, st, S) o ↔ pd_K xs Ls d pd_m104 (mm_ii st fun x y r => mm_go 36 L (.int (x + y) :: r) S) o := pd_Gs (i := .iadd) (n := 1) rfl
theorem p104_36 : pd_G xs Ls d pd_m104 (36, L, st, S) o ↔ pd_K xs Ls d pd_m104 (mm_go 38 L (.int 114 :: st) S) o := pd_Gs (i := .bipush 114) (n := 2) rfl
theorem p104_38 : pd_G xs Ls d pd_m104 (38, L, st, S) o ↔ pd_K xs Ls d pd_m104 (mm_ii st fun x y r => mm_go 39 L (.int (x - y) :: r) S) o := pd_Gs (i := .isub) (n := 1) rfl
theorem p104_39 : pd_G xs Ls d pd_m104 (39, L, st, S) o ↔ pd_K xs Ls d pd_m104 (mm_inv (mm_ev xs Ls pd_ck pd_ak pd_mj d) pd_m104 39 L st S 96 2 7) o := pd_Gs (i := .invokevirtual 112) (n := 3) rfl
theorem p104_42 : pd_G xs Ls d pd_m104 (42, L, st, S) o ↔ pd_K xs Ls d pd_m104 (mm_lA L 0 fun v => mm_go 43 L (v :: st) S) o := pd_Gs (i := .aload_n 0) (n := 1) rfl
theorem p104_43 : pd_G xs Ls d pd_m104 (43, L, st, S) o ↔ pd_K xs Ls d pd_m104 (mm_lA L 0 fun v => mm_go 44 L (v :: st) S) o := pd_Gs (i := .aload_n 0) (n := 1) rfl
theorem p104_44 : pd_G xs Ls d pd_m104 (44, L, st, S) o ↔ pd_K xs Ls d pd_m104 (mm_lI L 1 fun x => mm_go 45 L (.int x :: st) S) o := pd_Gs (i := .iload_n 1) (n := 1) rfl
theorem p104_45 : pd_G xs Ls d pd_m104 (45, L, st, S) o ↔ pd_K xs Ls d pd_m104 (mm_inv (mm_ev xs Ls pd_ck pd_ak pd_mj d) pd_m104 45 L st S 102 1 7) o := pd_Gs (i := .invokevirtual 130) (n := 3) rfl
theorem p104_48 : pd_G xs Ls d pd_m104 (48, L, st, S) o ↔ pd_K xs Ls d pd_m104 (mm_inv (mm_ev xs Ls pd_ck pd_ak pd_mj d) pd_m104 48 L st S 97 1 7) o := pd_Gs (i := .invokevirtual 136) (n := 3) rfl
theorem p104_51 : pd_G xs Ls d pd_m104 (51, L, st, S) o ↔ pd_K xs Ls d pd_m104 (mm_lA L 0 fun v => mm_go 52 L (v :: st) S) o := pd_Gs (i := .aload_n 0) (n := 1) rfl
theorem p104_52 : pd_G xs Ls d pd_m104 (52, L, st, S) o ↔ pd_K xs Ls d pd_m104 (mm_inv (mm_ev xs Ls pd_ck pd_ak pd_mj d) pd_m104 52 L st S 98 0 7) o := pd_Gs (i := .invokevirtual 140) (n := 3) rfl
theorem p104_55 : pd_G xs Ls d pd_m104 (55, L, st, S) o ↔ pd_K xs Ls d pd_m104 (mm_e0 S st) o := pd_Gs (i := .ireturn) (n := 1) rfl
theorem p104_56 : pd_G xs Ls d pd_m104 (56, L, st, S) o ↔ pd_K xs Ls d pd_m104 (mm_lI L 1 fun x => mm_go 57 L (.int x :: st) S) o := pd_Gs (i := .iload_n 1) (n := 1) rfl
theorem p104_57 : pd_G xs Ls d pd_m104 (57, L, st, S) o ↔ pd_K xs Ls d pd_m104 (mm_go 59 L (.int 118 :: st) S) o := pd_Gs (i := .bipush 118) (n := 2) rfl
theorem p104_59 : pd_G xs Ls d pd_m104 (59, L, st, S) o ↔ pd_K xs Ls d pd_m104 (mm_ii st fun x y r => mm_icmp .ne x y (mm_go 65 L r S) (mm_go 62 L r S)) o := pd_Gs (i := .if_icmp .ne 6) (n := 3) rfl
theorem p104_62 : pd_G xs Ls d pd_m104 (62, L, st, S) o ↔ pd_K xs Ls d pd_m104 (mm_go 64 L (.int 6 :: st) S) o := pd_Gs (i := .bipush 6) (n := 2) rfl
theorem p104_64 : pd_G xs Ls d pd_m104 (64, L, st, S) o ↔ pd_K xs Ls d pd_m104 (mm_e0 S st) o := pd_Gs (i := .ireturn) (n := 1) rfl
theorem p104_65 : pd_G xs Ls d pd_m104 (65, L, st, S) o ↔ pd_K xs Ls d pd_m104 (mm_lI L 1 fun x => mm_go 66 L (.int x :: st) S) o := pd_Gs (i := .iload_n 1) (n := 1) rfl
theorem p104_66 : pd_G xs Ls d pd_m104 (66, L, st, S) o ↔ pd_K xs Ls d pd_m104 (mm_go 68 L (.int 40 :: st) S) o := pd_Gs (i := .bipush 40) (n := 2) rfl
theorem p104_68 : pd_G xs Ls d pd_m104 (68, L, st, S) o ↔ pd_K xs Ls d pd_m104 (mm_ii st fun x y r => mm_icmp .ne x y (mm_go 78 L r S) (mm_go 71 L r S)) o := pd_Gs (i := .if_icmp .ne 10) (n := 3) rfl
theorem p104_71 : pd_G xs Ls d pd_m104 (71, L, st, S) o ↔ pd_K xs Ls d pd_m104 (mm_lA L 0 fun v => mm_go 72 L (v :: st) S) o := pd_Gs (i := .aload_n 0) (n := 1) rfl
theorem p104_72 : pd_G xs Ls d pd_m104 (72, L, st, S) o ↔ pd_K xs Ls d pd_m104 (mm_go 74 L (.int 6 :: st) S) o := pd_Gs (i := .bipush 6) (n := 2) rfl
theorem p104_74 : pd_G xs Ls d pd_m104 (74, L, st, S) o ↔ pd_K xs Ls d pd_m104 (mm_inv (mm_ev xs Ls pd_ck pd_ak pd_mj d) pd_m104 74 L st S 105 1 7) o := pd_Gs (i := .invokevirtual 143) (n := 3) rfl
theorem p104_77 : pd_G xs Ls d pd_m104 (77, L, st, S) o ↔ pd_K xs Ls d pd_m104 (mm_e0 S st) o := pd_Gs (i := .ireturn) (n := 1) rfl
theorem p104_78 : pd_G xs Ls d pd_m104 (78, L, st, S) o ↔ pd_K xs Ls d pd_m104 (mm_lI L 1 fun x => mm_go 79 L (.int x :: st) S) o := pd_Gs (i := .iload_n 1) (n := 1) rfl
theorem p104_79 : pd_G xs Ls d pd_m104 (79, L, st, S) o ↔ pd_K xs Ls d pd_m104 (mm_go 81 L (.int 35 :: st) S) o := pd_Gs (i := .bipush 35) (n := 2) rfl
theorem p104_81 : pd_G xs Ls d pd_m104 (81, L, st, S) o ↔ pd_K xs Ls d pd_m104 (mm_ii st fun x y r => mm_icmp .ne x y (mm_go 93 L r S) (mm_go 84 L r S)) o := pd_Gs (i := .if_icmp .ne 12) (n := 3) rfl
theorem p104_84 : pd_G xs Ls d pd_m104 (84, L, st, S) o ↔ pd_K xs Ls d pd_m104 (mm_lA L 0 fun v => mm_go 85 L (v :: st) S) o := pd_Gs (i := .aload_n 0) (n := 1) rfl
theorem p104_85 : pd_G xs Ls d pd_m104 (85, L, st, S) o ↔ pd_K xs Ls d pd_m104 (mm_go 87 L (.int 8 :: st) S) o := pd_Gs (i := .bipush 8) (n := 2) rfl
theorem p104_87 : pd_G xs Ls d pd_m104 (87, L, st, S) o ↔ pd_K xs Ls d pd_m104 (mm_inv (mm_ev xs Ls pd_ck pd_ak pd_mj d) pd_m104 87 L st S 105 1 7) o := pd_Gs (i := .invokevirtual 143) (n := 3) rfl
theorem p104_90 : pd_G xs Ls d pd_m104 (90, L, st, S) o ↔ pd_K xs Ls d pd_m104 (mm_go 94 L st S) o := pd_Gs (i := .goto 4) (n := 3) rfl
theorem p104_93 : pd_G xs Ls d pd_m104 (93, L, st, S) o ↔ pd_K xs Ls d pd_m104 (mm_go 94 L (.int (-1) :: st) S) o := pd_Gs (i := .iconst (-1)) (n := 1) rfl
theorem p104_94 : pd_G xs Ls d pd_m104 (94, L, st, S) o ↔ pd_K xs Ls d pd_m104 (mm_e0 S st) o := pd_Gs (i := .ireturn) (n := 1) rfl
theorem p105_0 : pd_G xs Ls d pd_m105 (0, L, st, S) o ↔ pd_K xs Ls d pd_m105 (mm_lA L 0 fun v => mm_go 1 L (v :: st) S) o := pd_Gs (i := .aload_n 0) (n := 1) rfl
theorem p105_1 : pd_G xs Ls d pd_m105 (1, L, st, S) o ↔ pd_K xs Ls d pd_m105 (mm_getf pd_ck 1 L st S 7 15) o := pd_Gs (i := .getfield 116) (n := 3) rfl
theorem p105_4 : pd_G xs Ls d pd_m105 (4, L, st, S) o ↔ pd_K xs Ls d pd_m105 (mm_go 5 L (.int 5 :: st) S) o := pd_Gs (i := .iconst 5) (n := 1) rfl
theorem p105_5 : pd_G xs Ls d pd_m105 (5, L, st, S) o ↔ pd_K xs Ls d pd_m105 (mm_ii st fun x y r => mm_icmp .ne x y (mm_go 10 L r S) (mm_go 8 L r S)) o := pd_Gs (i := .if_icmp .ne 5) (n := 3) rfl
theorem p105_8 : pd_G xs Ls d pd_m105 (8, L, st, S) o ↔ pd_K xs Ls d pd_m105 (mm_go 9 L (.int (-1) :: st) S) o := pd_Gs (i := .iconst (-1)) (n := 1) rfl
theorem p105_9 : pd_G xs Ls d pd_m105 (9, L, st, S) o ↔ pd_K xs Ls d pd_m105 (mm_e0 S st) o := pd_Gs (i := .ireturn) (n := 1) rfl
theorem p105_10 : pd_G xs Ls d pd_m105 (10, L, st, S) o ↔ pd_K xs Ls d pd_m105 (mm_lA L 0 fun v => mm_go 11 L (v :: st) S) o := pd_Gs (i := .aload_n 0) (n := 1) rfl
theorem p105_11 : pd_G xs Ls d pd_m105 (11, L, st, S) o ↔ pd_K xs Ls d pd_m105 (mm_1 st fun v r => cond (mm_c2 v) none (mm_go 12 L (v :: v :: r) S)) o := pd_Gs (i := .dup) (n := 1) rfl
theorem p105_12 : pd_G xs Ls d pd_m105 (12, L, st, S) o ↔ pd_K xs Ls d pd_m105 (mm_getf pd_ck 12 L st S 7 15) o := pd_Gs (i := .getfield 116) (n := 3) rfl
theorem p105_15 : pd_G xs Ls d pd_m105 (15, L, st, S) o ↔ pd_K xs Ls d pd_m105 (mm_go 16 L (.int 1 :: st) S) o := pd_Gs (i := .iconst 1) (n := 1) rfl
theorem p105_16 : pd_G xs Ls d pd_m105 (16, L, st, S) o ↔ pd_K xs Ls d pd_m105 (mm_ii st fun x y r => mm_go 17 L (.int (x + y) :: r) S) o := pd_Gs (i := .iadd) (n := 1) rfl
theorem p105_17 : pd_G xs Ls d pd_m105 (17, L, st, S) o ↔ pd_K xs Ls d pd_m105 (mm_putf pd_ck 17 L st S 7 15) o := pd_Gs (i := .putfield 116) (n := 3) rfl
theorem p105_20 : pd_G xs Ls d pd_m105 (20, L, st, S) o ↔ pd_K xs Ls d pd_m105 (mm_lA L 0 fun v => mm_go 21 L (v :: st) S) o := pd_Gs (i := .aload_n 0) (n := 1) rfl
theorem p105_21 : pd_G xs Ls d pd_m105 (21, L, st, S) o ↔ pd_K xs Ls d pd_m105 (mm_lI L 1 fun x => mm_go 22 L (.int x :: st) S) o := pd_Gs (i := .iload_n 1) (n := 1) rfl
theorem p105_22 : pd_G xs Ls d pd_m105 (22, L, st, S) o ↔ pd_K xs Ls d pd_m105 (mm_inv (mm_ev xs Ls pd_ck pd_ak pd_mj d) pd_m105 22 L st S 103 1 7) o := pd_Gs (i := .invokevirtual 119) (n := 3) rfl
theorem p105_25 : pd_G xs Ls d pd_m105 (25, L, st, S) o ↔ pd_K xs Ls d pd_m105 (mm_lI L 1 fun x => mm_go 26 L (.int x :: st) S) o := pd_Gs (i := .iload_n 1) (n := 1) rfl
theorem p105_26 : pd_G xs Ls d pd_m105 (26, L, st, S) o ↔ pd_K xs Ls d pd_m105 (mm_go 28 L (.int 10 :: st) S) o := pd_Gs (i := .bipush 10) (n := 2) rfl
theorem p105_28 : pd_G xs Ls d pd_m105 (28, L, st, S) o ↔ pd_K xs Ls d pd_m105 (mm_ii st fun x y r => mm_icmp .lt x y (mm_go 35 L r S) (mm_go 31 L r S)) o := pd_Gs (i := .if_icmp .lt 7) (n := 3) rfl
theorem p105_31 : pd_G xs Ls d pd_m105 (31, L, st, S) o ↔ pd_K xs Ls d pd_m105 (mm_go 32 L (.int 0 :: st) S) o := pd_Gs (i := .iconst 0) (n := 1) rfl
theorem p105_32 : pd_G xs Ls d pd_m105 (32, L, st, S) o ↔ pd_K xs Ls d pd_m105 (mm_go 36 L st S) o := pd_Gs (i := .goto 4) (n := 3) rfl
theorem p105_35 : pd_G xs Ls d pd_m105 (35, L, st, S) o ↔ pd_K xs Ls d pd_m105 (mm_go 36 L (.int 1 :: st) S) o := pd_Gs (i := .iconst 1) (n := 1) rfl
theorem p105_36 : pd_G xs Ls d pd_m105 (36, L, st, S) o ↔ pd_K xs Ls d pd_m105 (mm_e0 S st) o := pd_Gs (i := .ireturn) (n := 1) rfl
theorem p106_0 : pd_G xs Ls d pd_m106 (0, L, st, S) o ↔ pd_K xs Ls d pd_m106 (mm_lI L 1 fun x => mm_go 1 L (.int x :: st) S) o := pd_Gs (i := .iload_n 1) (n := 1) rfl
theorem p106_1 : pd_G xs Ls d pd_m106 (1, L, st, S) o ↔ pd_K xs Ls d pd_m106 (mm_go 3 L (.int 42 :: st) S) o := pd_Gs (i := .bipush 42) (n := 2) rfl
theorem p106_3 : pd_G xs Ls d pd_m106 (3, L, st, S) o ↔ pd_K xs Ls d pd_m106 (mm_ii st fun x y r => mm_icmp .eq x y (mm_go 18 L r S) (mm_go 6 L r S)) o := pd_Gs (i := .if_icmp .eq 15) (n := 3) rfl
theorem p106_6 : pd_G xs Ls d pd_m106 (6, L, st, S) o ↔ pd_K xs Ls d pd_m106 (mm_lI L 1 fun x => mm_go 7 L (.int x :: st) S) o := pd_Gs (i := .iload_n 1) (n := 1) rfl
theorem p106_7 : pd_G xs Ls d pd_m106 (7, L, st, S) o ↔ pd_K xs Ls d pd_m106 (mm_go 9 L (.int 47 :: st) S) o := pd_Gs (i := .bipush 47) (n := 2) rfl
theorem p106_9 : pd_G xs Ls d pd_m106 (9, L, st, S) o ↔ pd_K xs Ls d pd_m106 (mm_ii st fun x y r => mm_icmp .eq x y (mm_go 18 L r S) (mm_go 12 L r S)) o := pd_Gs (i := .if_icmp .eq 9) (n := 3) rfl
theorem p106_12 : pd_G xs Ls d pd_m106 (12, L, st, S) o ↔ pd_K xs Ls d pd_m106 (mm_lI L 1 fun x => mm_go 13 L (.int x :: st) S) o := pd_Gs (i := .iload_n 1) (n := 1) rfl
theorem p106_13 : pd_G xs Ls d pd_m106 (13, L, st, S) o ↔ pd_K xs Ls d pd_m106 (mm_go 15 L (.int 37 :: st) S) o := pd_Gs (i := .bipush 37) (n := 2) rfl
theorem p106_15 : pd_G xs Ls d pd_m106 (15, L, st, S) o ↔ pd_K xs Ls d pd_m106 (mm_ii st fun x y r => mm_icmp .ne x y (mm_go 22 L r S) (mm_go 18 L r S)) o := pd_Gs (i := .if_icmp .ne 7) (n := 3) rfl
theorem p106_18 : pd_G xs Ls d pd_m106 (18, L, st, S) o ↔ pd_K xs Ls d pd_m106 (mm_go 19 L (.int 3 :: st) S) o := pd_Gs (i := .iconst 3) (n := 1) rfl
theorem p106_19 : pd_G xs Ls d pd_m106 (19, L, st, S) o ↔ pd_K xs Ls d pd_m106 (mm_go 55 L st S) o := pd_Gs (i := .goto 36) (n := 3) rfl
theorem p106_22 : pd_G xs Ls d pd_m106 (22, L, st, S) o ↔ pd_K xs Ls d pd_m106 (mm_lI L 1 fun x => mm_go 23 L (.int x :: st) S) o := pd_Gs (i := .iload_n 1) (n := 1) rfl
theorem p106_23 : pd_G xs Ls d pd_m106 (23, L, st, S) o ↔ pd_K xs Ls d pd_m106 (mm_go 25 L (.int 43 :: st) S) o := pd_Gs (i := .bipush 43) (n := 2) rfl
theorem p106_25 : pd_G xs Ls d pd_m106 (25, L, st, S) o ↔ pd_K xs Ls d pd_m106 (mm_ii st fun x y r => mm_icmp .eq x y (mm_go 34 L r S) (mm_go 28 L r S)) o := pd_Gs (i := .if_icmp .eq 9) (n := 3) rfl
theorem p106_28 : pd_G xs Ls d pd_m106 (28, L, st, S) o ↔ pd_K xs Ls d pd_m106 (mm_lI L 1 fun x => mm_go 29 L (.int x :: st) S) o := pd_Gs (i := .iload_n 1) (n := 1) rfl
theorem p106_29 : pd_G xs Ls d pd_m106 (29, L, st, S) o ↔ pd_K xs Ls d pd_m106 (mm_go 31 L (.int 45 :: st) S) o := pd_Gs (i := .bipush 45) (n := 2) rfl
theorem p106_31 : pd_G xs Ls d pd_m106 (31, L, st, S) o ↔ pd_K xs Ls d pd_m106 (mm_ii st fun x y r => mm_icmp .ne x y (mm_go 38 L r S) (mm_go 34 L r S)) o := pd_Gs (i := .if_icmp .ne 7) (n := 3) rfl
theorem p106_34 : pd_G xs Ls d pd_m106 (34, L, st, S) o ↔ pd_K xs Ls d pd_m106 (mm_go 35 L (.int 2 :: st) S) o := pd_Gs (i := .iconst 2) (n := 1) rfl
theorem p106_35 : pd_G xs Ls d pd_m106 (35, L, st, S) o ↔ pd_K xs Ls d pd_m106 (mm_go 55 L st S) o := pd_Gs (i := .goto 20) (n := 3) rfl
theorem p106_38 : pd_G xs Ls d pd_m106 (38, L, st, S) o ↔ pd_K xs Ls d pd_m106 (mm_lI L 1 fun x => mm_go 39 L (.int x :: st) S) o := pd_Gs (i := .iload_n 1) (n := 1) rfl
theorem p106_39 : pd_G xs Ls d pd_m106 (39, L, st, S) o ↔ pd_K xs Ls d pd_m106 (mm_go 41 L (.int 60 :: st) S) o := pd_Gs (i := .bipush 60) (n := 2) rfl
theorem p106_41 : pd_G xs Ls d pd_m106 (41, L, st, S) o ↔ pd_K xs Ls d pd_m106 (mm_ii st fun x y r => mm_icmp .eq x y (mm_go 50 L r S) (mm_go 44 L r S)) o := pd_Gs (i := .if_icmp .eq 9) (n := 3) rfl
theorem p106_44 : pd_G xs Ls d pd_m106 (44, L, st, S) o ↔ pd_K xs Ls d pd_m106 (mm_lI L 1 fun x => mm_go 45 L (.int x :: st) S) o := pd_Gs (i := .iload_n 1) (n := 1) rfl
theorem p106_45 : pd_G xs Ls d pd_m106 (45, L, st, S) o ↔ pd_K xs Ls d pd_m106 (mm_go 47 L (.int 61 :: st) S) o := pd_Gs (i := .bipush 61) (n := 2) rfl
theorem p106_47 : pd_G xs Ls d pd_m106 (47, L, st, S) o ↔ pd_K xs Ls d pd_m106 (mm_ii st fun x y r => mm_icmp .ne x y (mm_go 54 L r S) (mm_go 50 L r S)) o := pd_Gs (i := .if_icmp .ne 7) (n := 3) rfl
theorem p106_50 : pd_G xs Ls d pd_m106 (50, L, st, S) o ↔ pd_K xs Ls d pd_m106 (mm_go 51 L (.int 1 :: st) S) o := pd_Gs (i := .iconst 1) (n := 1) rfl
theorem p106_51 : pd_G xs Ls d pd_m106 (51, L, st, S) o ↔ pd_K xs Ls d pd_m106 (mm_go 55 L st S) o := pd_Gs (i := .goto 4) (n := 3) rfl
theorem p106_54 : pd_G xs Ls d pd_m106 (54, L, st, S) o ↔ pd_K xs Ls d pd_m106 (mm_go 55 L (.int 0 :: st) S) o := pd_Gs (i := .iconst 0) (n := 1) rfl
theorem p106_55 : pd_G xs Ls d pd_m106 (55, L, st, S) o ↔ pd_K xs Ls d pd_m106 (mm_e0 S st) o := pd_Gs (i := .ireturn) (n := 1) rfl
theorem p107_0 : pd_G xs Ls d pd_m107 (0, L, st, S) o ↔ pd_K xs Ls d pd_m107 (mm_lA L 0 fun v => mm_go 1 L (v :: st) S) o := pd_Gs (i := .aload_n 0) (n := 1) rfl
theorem p107_1 : pd_G xs Ls d pd_m107 (1, L, st, S) o ↔ pd_K xs Ls d pd_m107 (mm_lI L 1 fun x => mm_go 2 L (.int x :: st) S) o := pd_Gs (i := .iload_n 1) (n := 1) rfl
theorem p107_2 : pd_G xs Ls d pd_m107 (2, L, st, S) o ↔ pd_K xs Ls d pd_m107 (mm_inv (mm_ev xs Ls pd_ck pd_ak pd_mj d) pd_m107 2 L st S 106 1 7) o := pd_Gs (i := .invokevirtual 104) (n := 3) rfl
theorem p107_5 : pd_G xs Ls d pd_m107 (5, L, st, S) o ↔ pd_K xs Ls d pd_m107 (mm_i st fun x r => mm_go 6 (mm_sto L 0 2 (.int x)) r S) o := pd_Gs (i := .istore_n 2) (n := 1) rfl
theorem p107_6 : pd_G xs Ls d pd_m107 (6, L, st, S) o ↔ pd_K xs Ls d pd_m107 (mm_lA L 0 fun v => mm_go 7 L (v :: st) S) o := pd_Gs (i := .aload_n 0) (n := 1) rfl
theorem p107_7 : pd_G xs Ls d pd_m107 (7, L, st, S) o ↔ pd_K xs Ls d pd_m107 (mm_lI L 2 fun x => mm_go 8 L (.int x :: st) S) o := pd_Gs (i := .iload_n 2) (n := 1) rfl
theorem p107_8 : pd_G xs Ls d pd_m107 (8, L, st, S) o ↔ pd_K xs Ls d pd_m107 (mm_go 9 L (.int 1 :: st) S) o := pd_Gs (i := .iconst 1) (n := 1) rfl
theorem p107_9 : pd_G xs Ls d pd_m107 (9, L, st, S) o ↔ pd_K xs Ls d pd_m107 (mm_ii st fun x y r => mm_icmp .ne x y (mm_go 16 L r S) (mm_go 12 L r S)) o := pd_Gs (i := .if_icmp .ne 7) (n := 3) rfl
theorem p107_12 : pd_G xs Ls d pd_m107 (12, L, st, S) o ↔ pd_K xs Ls d pd_m107 (mm_go 13 L (.int 2 :: st) S) o := pd_Gs (i := .iconst 2) (n := 1) rfl
theorem p107_13 : pd_G xs Ls d pd_m107 (13, L, st, S) o ↔ pd_K xs Ls d pd_m107 (mm_go 17 L st S) o := pd_Gs (i := .goto 4) (n := 3) rfl
theorem p107_16 : pd_G xs Ls d pd_m107 (16, L, st, S) o ↔ pd_K xs Ls d pd_m107 (mm_lI L 2 fun x => mm_go 17 L (.int x :: st) S) o := pd_Gs (i := .iload_n 2) (n := 1) rfl
theorem p107_17 : pd_G xs Ls d pd_m107 (17, L, st, S) o ↔ pd_K xs Ls d pd_m107 (mm_inv (mm_ev xs Ls pd_ck pd_ak pd_mj d) pd_m107 17 L st S 108 1 7) o := pd_Gs (i := .invokevirtual 146) (n := 3) rfl
theorem p107_20 : pd_G xs Ls d pd_m107 (20, L, st, S) o ↔ pd_K xs Ls d pd_m107 (mm_lI L 2 fun x => mm_go 21 L (.int x :: st) S) o := pd_Gs (i := .iload_n 2) (n := 1) rfl
theorem p107_21 : pd_G xs Ls d pd_m107 (21, L, st, S) o ↔ pd_K xs Ls d pd_m107 (mm_go 22 L (.int 1 :: st) S) o := pd_Gs (i := .iconst 1) (n := 1) rfl
theorem p107_22 : pd_G xs Ls d pd_m107 (22, L, st, S) o ↔ pd_K xs Ls d pd_m107 (mm_ii st fun x y r => mm_icmp .ne x y (mm_go 39 L r S) (mm_go 25 L r S)) o := pd_Gs (i := .if_icmp .ne 17) (n := 3) rfl
theorem p107_25 : pd_G xs Ls d pd_m107 (25, L, st, S) o ↔ pd_K xs Ls d pd_m107 (mm_lA L 0 fun v => mm_go 26 L (v :: st) S) o := pd_Gs (i := .aload_n 0) (n := 1) rfl
theorem p107_26 : pd_G xs Ls d pd_m107 (26, L, st, S) o ↔ pd_K xs Ls d pd_m107 (mm_lA L 0 fun v => mm_go 27 L (v :: st) S) o := pd_Gs (i := .aload_n 0) (n := 1) rfl
theorem p107_27 : pd_G xs Ls d pd_m107 (27, L, st, S) o ↔ pd_K xs Ls d pd_m107 (mm_inv (mm_ev xs Ls pd_ck pd_ak pd_mj d) pd_m107 27 L st S 99 0 7) o := pd_Gs (i := .invokevirtual 100) (n := 3) rfl
theorem p107_30 : pd_G xs Ls d pd_m107 (30, L, st, S) o ↔ pd_K xs Ls d pd_m107 (mm_inv (mm_ev xs Ls pd_ck pd_ak pd_mj d) pd_m107 30 L st S 106 1 7) o := pd_Gs (i := .invokevirtual 104) (n := 3) rfl
theorem p107_33 : pd_G xs Ls d pd_m107 (33, L, st, S) o ↔ pd_K xs Ls d pd_m107 (mm_go 34 L (.int 1 :: st) S) o := pd_Gs (i := .iconst 1) (n := 1) rfl
theorem p107_34 : pd_G xs Ls d pd_m107 (34, L, st, S) o ↔ pd_K xs Ls d pd_m107 (mm_ii st fun x y r => mm_icmp .ne x y (mm_go 39 L r S) (mm_go 37 L r S)) o := pd_Gs (i := .if_icmp .ne 5) (n := 3) rfl
theorem p107_37 : pd_G xs Ls d pd_m107 (37, L, st, S) o ↔ pd_K xs Ls d pd_m107 (mm_go 38 L (.int (-1) :: st) S) o := pd_Gs (i := .iconst (-1)) (n := 1) rfl
theorem p107_38 : pd_G xs Ls d pd_m107 (38, L, st, S) o ↔ pd_K xs Ls d pd_m107 (mm_e0 S st) o := pd_Gs (i := .ireturn) (n := 1) rfl
theorem p107_39 : pd_G xs Ls d pd_m107 (39, L, st, S) o ↔ pd_K xs Ls d pd_m107 (mm_lA L 0 fun v => mm_go 40 L (v :: st) S) o := pd_Gs (i := .aload_n 0) (n := 1) rfl
theorem p107_40 : pd_G xs Ls d pd_m107 (40, L, st, S) o ↔ pd_K xs Ls d pd_m107 (mm_lI L 1 fun x => mm_go 41 L (.int x :: st) S) o := pd_Gs (i := .iload_n 1) (n := 1) rfl
theorem p107_41 : pd_G xs Ls d pd_m107 (41, L, st, S) o ↔ pd_K xs Ls d pd_m107 (mm_inv (mm_ev xs Ls pd_ck pd_ak pd_mj d) pd_m107 41 L st S 103 1 7) o := pd_Gs (i := .invokevirtual 119) (n := 3) rfl
theorem p107_44 : pd_G xs Ls d pd_m107 (44, L, st, S) o ↔ pd_K xs Ls d pd_m107 (mm_go 45 L (.int 1 :: st) S) o := pd_Gs (i := .iconst 1) (n := 1) rfl
theorem p107_45 : pd_G xs Ls d pd_m107 (45, L, st, S) o ↔ pd_K xs Ls d pd_m107 (mm_e0 S st) o := pd_Gs (i := .ireturn) (n := 1) rfl
theorem p108_0 : pd_G xs Ls d pd_m108 (0, L, st, S) o ↔ pd_K xs Ls d pd_m108 (mm_lA L 0 fun v => mm_go 1 L (v :: st) S) o := pd_Gs (i := .aload_n 0) (n := 1) rfl
theorem p108_1 : pd_G xs Ls d pd_m108 (1, L, st, S) o ↔ pd_K xs Ls d pd_m108 (mm_lA L 0 fun v => mm_go 2 L (v :: st) S) o := pd_Gs (i := .aload_n 0) (n := 1) rfl
theorem p108_2 : pd_G xs Ls d pd_m108 (2, L, st, S) o ↔ pd_K xs Ls d pd_m108 (mm_inv (mm_ev xs Ls pd_ck pd_ak pd_mj d) pd_m108 2 L st S 99 0 7) o := pd_Gs (i := .invokevirtual 100) (n := 3) rfl
theorem p108_5 : pd_G xs Ls d pd_m108 (5, L, st, S) o ↔ pd_K xs Ls d pd_m108 (mm_inv (mm_ev xs Ls pd_ck pd_ak pd_mj d) pd_m108 5 L st S 106 1 7) o := pd_Gs (i := .invokevirtual 104) (n := 3) rfl
theorem p108_8 : pd_G xs Ls d pd_m108 (8, L, st, S) o ↔ pd_K xs Ls d pd_m108 (mm_lI L 1 fun x => mm_go 9 L (.int x :: st) S) o := pd_Gs (i := .iload_n 1) (n := 1) rfl
theorem p108_9 : pd_G xs Ls d pd_m108 (9, L, st, S) o ↔ pd_K xs Ls d pd_m108 (mm_ii st fun x y r => mm_icmp .lt x y (mm_go 152 L r S) (mm_go 12 L r S)) o := pd_Gs (i := .if_icmp .lt 143) (n := 3) rfl
theorem p108_12 : pd_G xs Ls d pd_m108 (12, L, st, S) o ↔ pd_K xs Ls d pd_m108 (mm_lA L 0 fun v => mm_go 13 L (v :: st) S) o := pd_Gs (i := .aload_n 0) (n := 1) rfl
theorem p108_13 : pd_G xs Ls d pd_m108 (13, L, st, S) o ↔ pd_K xs Ls d pd_m108 (mm_getf pd_ck 13 L st S 7 5) o := pd_Gs (i := .getfield 26) (n := 3) rfl
theorem p108_16 : pd_G xs Ls d pd_m108 (16, L, st, S) o ↔ pd_K xs Ls d pd_m108 (mm_lA L 0 fun v => mm_go 17 L (v :: st) S) o := pd_Gs (i := .aload_n 0) (n := 1) rfl
theorem p108_17 : pd_G xs Ls d pd_m108 (17, L, st, S) o ↔ pd_K xs Ls d pd_m108 (mm_1 st fun v r => cond (mm_c2 v) none (mm_go 18 L (v :: v :: r) S)) o := pd_Gs (i := .dup) (n := 1) rfl
theorem p108_18 : pd_G xs Ls d pd_m108 (18, L, st, S) o ↔ pd_K xs Ls d pd_m108 (mm_getf pd_ck 18 L st S 7 10) o := pd_Gs (i := .getfield 94) (n := 3) rfl
theorem p108_21 : pd_G xs Ls d pd_m108 (21, L, st, S) o ↔ pd_K xs Ls d pd_m108 (mm_go 22 L (.int 1 :: st) S) o := pd_Gs (i := .iconst 1) (n := 1) rfl
theorem p108_22 : pd_G xs Ls d pd_m108 (22, L, st, S) o ↔ pd_K xs Ls d pd_m108 (mm_ii st fun x y r => mm_go 23 L (.int (x - y) :: r) S) o := pd_Gs (i := .isub) (n := 1) rfl
theorem p108_23 : pd_G xs Ls d pd_m108 (23, L, st, S) o ↔ pd_K xs Ls d pd_m108 (mm_2 st fun v w r => cond (mm_c2 v || mm_c2 w) none (mm_go 24 L (v :: w :: v :: r) S)) o := pd_Gs (i := .dup_x1) (n := 1) rfl
theorem p108_24 : pd_G xs Ls d pd_m108 (24, L, st, S) o ↔ pd_K xs Ls d pd_m108 (mm_putf pd_ck 24 L st S 7 10) o := pd_Gs (i := .putfield 94) (n := 3) rfl
theorem p108_27 : pd_G xs Ls d pd_m108 (27, L, st, S) o ↔ pd_K xs Ls d pd_m108 (mm_ial xs Ls pd_ak 27 L S st) o := pd_Gs (i := .iaload) (n := 1) rfl
theorem p108_28 : pd_G xs Ls d pd_m108 (28, L, st, S) o ↔ pd_K xs Ls d pd_m108 (mm_i st fun x r => mm_go 29 (mm_sto L 0 2 (.int x)) r S) o := pd_Gs (i := .istore_n 2) (n := 1) rfl
theorem p108_29 : pd_G xs Ls d pd_m108 (29, L, st, S) o ↔ pd_K xs Ls d pd_m108 (mm_lA L 0 fun v => mm_go 30 L (v :: st) S) o := pd_Gs (i := .aload_n 0) (n := 1) rfl
theorem p108_30 : pd_G xs Ls d pd_m108 (30, L, st, S) o ↔ pd_K xs Ls d pd_m108 (mm_getf pd_ck 30 L st S 7 7) o := pd_Gs (i := .getfield 32) (n := 3) rfl
theorem p108_33 : pd_G xs Ls d pd_m108 (33, L, st, S) o ↔ pd_K xs Ls d pd_m108 (mm_lA L 0 fun v => mm_go 34 L (v :: st) S) o := pd_Gs (i := .aload_n 0) (n := 1) rfl
theorem p108_34 : pd_G xs Ls d pd_m108 (34, L, st, S) o ↔ pd_K xs Ls d pd_m108 (mm_getf pd_ck 34 L st S 7 11) o := pd_Gs (i := .getfield 97) (n := 3) rfl
theorem p108_37 : pd_G xs Ls d pd_m108 (37, L, st, S) o ↔ pd_K xs Ls d pd_m108 (mm_go 38 L (.int 2 :: st) S) o := pd_Gs (i := .iconst 2) (n := 1) rfl
theorem p108_38 : pd_G xs Ls d pd_m108 (38, L, st, S) o ↔ pd_K xs Ls d pd_m108 (mm_ii st fun x y r => mm_go 39 L (.int (x - y) :: r) S) o := pd_Gs (i := .isub) (n := 1) rfl
theorem p108_39 : pd_G xs Ls d pd_m108 (39, L, st, S) o ↔ pd_K xs Ls d pd_m108 (mm_ai pd_ak S st 4 fun i a r => mm_go 40 L (.int (S.2.1.1 a i.toNatClampNeg) :: r) S) o := pd_Gs (i := .baload) (n := 1) rfl
theorem p108_40 : pd_G xs Ls d pd_m108 (40, L, st, S) o ↔ pd_K xs Ls d pd_m108 (mm_i st fun x r => mm_icmp .ne x 0 (mm_go 57 L r S) (mm_go 43 L r S)) o := pd_Gs (i := .ifCond .ne 17) (n := 3) rfl
theorem p108_43 : pd_G xs Ls d pd_m108 (43, L, st, S) o ↔ pd_K xs Ls d pd_m108 (mm_lA L 0 fun v => mm_go 44 L (v :: st) S) o := pd_Gs (i := .aload_n 0) (n := 1) rfl
theorem p108_44 : pd_G xs Ls d pd_m108 (44, L, st, S) o ↔ pd_K xs Ls d pd_m108 (mm_getf pd_ck 44 L st S 7 7) o := pd_Gs (i := .getfield 32) (n := 3) rfl
theorem p108_47 : pd_G xs Ls d pd_m108 (47, L, st, S) o ↔ pd_K xs Ls d pd_m108 (mm_lA L 0 fun v => mm_go 48 L (v :: st) S) o := pd_Gs (i := .aload_n 0) (n := 1) rfl
theorem p108_48 : pd_G xs Ls d pd_m108 (48, L, st, S) o ↔ pd_K xs Ls d pd_m108 (mm_getf pd_ck 48 L st S 7 11) o := pd_Gs (i := .getfield 97) (n := 3) rfl
theorem p108_51 : pd_G xs Ls d pd_m108 (51, L, st, S) o ↔ pd_K xs Ls d pd_m108 (mm_go 52 L (.int 1 :: st) S) o := pd_Gs (i := .iconst 1) (n := 1) rfl
theorem p108_52 : pd_G xs Ls d pd_m108 (52, L, st, S) o ↔ pd_K xs Ls d pd_m108 (mm_ii st fun x y r => mm_go 53 L (.int (x - y) :: r) S) o := pd_Gs (i := .isub) (n := 1) rfl
theorem p108_53 : pd_G xs Ls d pd_m108 (53, L, st, S) o ↔ pd_K xs Ls d pd_m108 (mm_ai pd_ak S st 4 fun i a r => mm_go 54 L (.int (S.2.1.1 a i.toNatClampNeg) :: r) S) o := pd_Gs (i := .baload) (n := 1) rfl
theorem p108_54 : pd_G xs Ls d pd_m108 (54, L, st, S) o ↔ pd_K xs Ls d pd_m108 (mm_i st fun x r => mm_icmp .eq x 0 (mm_go 61 L r S) (mm_go 57 L r S)) o := pd_Gs (i := .ifCond .eq 7) (n := 3) rfl
theorem p108_57 : pd_G xs Ls d pd_m108 (57, L, st, S) o ↔ pd_K xs Ls d pd_m108 (mm_go 58 L (.int 1 :: st) S) o := pd_Gs (i := .iconst 1) (n := 1) rfl
theorem p108_58 : pd_G xs Ls d pd_m108 (58, L, st, S) o ↔ pd_K xs Ls d pd_m108 (mm_go 62 L st S) o := pd_Gs (i := .goto 4) (n := 3) rfl
theorem p108_61 : pd_G xs Ls d pd_m108 (61, L, st, S) o ↔ pd_K xs Ls d pd_m108 (mm_go 62 L (.int 0 :: st) S) o := pd_Gs (i := .iconst 0) (n := 1) rfl
theorem p108_62 : pd_G xs Ls d pd_m108 (62, L, st, S) o ↔ pd_K xs Ls d pd_m108 (mm_i st fun x r => mm_go 63 (mm_sto L 0 3 (.int x)) r S) o := pd_Gs (i := .istore_n 3) (n := 1) rfl
theorem p108_63 : pd_G xs Ls d pd_m108 (63, L, st, S) o ↔ pd_K xs Ls d pd_m108 (mm_lA L 0 fun v => mm_go 64 L (v :: st) S) o := pd_Gs (i := .aload_n 0) (n := 1) rfl
theorem p108_64 : pd_G xs Ls d pd_m108 (64, L, st, S) o ↔ pd_K xs Ls d pd_m108 (mm_1 st fun v r => cond (mm_c2 v) none (mm_go 65 L (v :: v :: r) S)) o := pd_Gs (i := .dup) (n := 1) rfl
theorem p108_65 : pd_G xs Ls d pd_m108 (65, L, st, S) o ↔ pd_K xs Ls d pd_m108 (mm_getf pd_ck 65 L st S 7 11) o := pd_Gs (i := .getfield 97) (n := 3) rfl
theorem p108_68 : pd_G xs Ls d pd_m108 (68, L, st, S) o ↔ pd_K xs Ls d pd_m108 (mm_go 69 L (.int 1 :: st) S) o := pd_Gs (i := .iconst 1) (n := 1) rfl
theorem p108_69 : pd_G xs Ls d pd_m108 (69, L, st, S) o ↔ pd_K xs Ls d pd_m108 (mm_ii st fun x y r => mm_go 70 L (.int (x - y) :: r) S) o := pd_Gs (i := .isub) (n := 1) rfl
theorem p108_70 : pd_G xs Ls d pd_m108 (70, L, st, S) o ↔ pd_K xs Ls d pd_m108 (mm_putf pd_ck 70 L st S 7 11) o := pd_Gs (i := .putfield 97) (n := 3) rfl
theorem p108_73 : pd_G xs Ls d pd_m108 (73, L, st, S) o ↔ pd_K xs Ls d pd_m108 (mm_lI L 2 fun x => mm_go 74 L (.int x :: st) S) o := pd_Gs (i := .iload_n 2) (n := 1) rfl
theorem p108_74 : pd_G xs Ls d pd_m108 (74, L, st, S) o ↔ pd_K xs Ls d pd_m108 (mm_go 76 L (.int 37 :: st) S) o := pd_Gs (i := .bipush 37) (n := 2) rfl
theorem p108_76 : pd_G xs Ls d pd_m108 (76, L, st, S) o ↔ pd_K xs Ls d pd_m108 (mm_ii st fun x y r => mm_icmp .ne x y (mm_go 88 L r S) (mm_go 79 L r S)) o := pd_Gs (i := .if_icmp .ne 12) (n := 3) rfl
theorem p108_79 : pd_G xs Ls d pd_m108 (79, L, st, S) o ↔ pd_K xs Ls d pd_m108 (mm_lI L 3 fun x => mm_go 80 L (.int x :: st) S) o := pd_Gs (i := .iload_n 3) (n := 1) rfl
theorem p108_80 : pd_G xs Ls d pd_m108 (80, L, st, S) o ↔ pd_K xs Ls d pd_m108 (mm_i st fun x r => mm_icmp .eq x 0 (mm_go 88 L r S) (mm_go 83 L r S)) o := pd_Gs (i := .ifCond .eq 8) (n := 3) rfl
theorem p108_83 : pd_G xs Ls d pd_m108 (83, L, st, S) o ↔ pd_K xs Ls d pd_m108 (mm_lA L 0 fun v => mm_go 84 L (v :: st) S) o := pd_Gs (i := .aload_n 0) (n := 1) rfl
theorem p108_84 : pd_G xs Ls d pd_m108 (84, L, st, S) o ↔ pd_K xs Ls d pd_m108 (mm_go 85 L (.int 1 :: st) S) o := pd_Gs (i := .iconst 1) (n := 1) rfl
theorem p108_85 : pd_G xs Ls d pd_m108 (85, L, st, S) o ↔ pd_K xs Ls d pd_m108 (mm_putf pd_ck 85 L st S 7 16) o := pd_Gs (i := .putfield 108) (n := 3) rfl
theorem p108_88 : pd_G xs Ls d pd_m108 (88, L, st, S) o ↔ pd_K xs Ls d pd_m108 (mm_lA L 0 fun v => mm_go 89 L (v :: st) S) o := pd_Gs (i := .aload_n 0) (n := 1) rfl
theorem p108_89 : pd_G xs Ls d pd_m108 (89, L, st, S) o ↔ pd_K xs Ls d pd_m108 (mm_lI L 2 fun x => mm_go 90 L (.int x :: st) S) o := pd_Gs (i := .iload_n 2) (n := 1) rfl
theorem p108_90 : pd_G xs Ls d pd_m108 (90, L, st, S) o ↔ pd_K xs Ls d pd_m108 (mm_lI L 2 fun x => mm_go 91 L (.int x :: st) S) o := pd_Gs (i := .iload_n 2) (n := 1) rfl
theorem p108_91 : pd_G xs Ls d pd_m108 (91, L, st, S) o ↔ pd_K xs Ls d pd_m108 (mm_go 93 L (.int 47 :: st) S) o := pd_Gs (i := .bipush 47) (n := 2) rfl
theorem p108_93 : pd_G xs Ls d pd_m108 (93, L, st, S) o ↔ pd_K xs Ls d pd_m108 (mm_ii st fun x y r => mm_icmp .eq x y (mm_go 100 L r S) (mm_go 96 L r S)) o := pd_Gs (i := .if_icmp .eq 7) (n := 3) rfl
theorem p108_96 : pd_G xs Ls d pd_m108 (96, L, st, S) o ↔ pd_K xs Ls d pd_m108 (mm_lI L 3 fun x => mm_go 97 L (.int x :: st) S) o := pd_Gs (i := .iload_n 3) (n := 1) rfl
theorem p108_97 : pd_G xs Ls d pd_m108 (97, L, st, S) o ↔ pd_K xs Ls d pd_m108 (mm_i st fun x r => mm_icmp .eq x 0 (mm_go 104 L r S) (mm_go 100 L r S)) o := pd_Gs (i := .ifCond .eq 7) (n := 3) rfl
theorem p108_100 : pd_G xs Ls d pd_m108 (100, L, st, S) o ↔ pd_K xs Ls d pd_m108 (mm_go 101 L (.int 1 :: st) S) o := pd_Gs (i := .iconst 1) (n := 1) rfl
theorem p108_101 : pd_G xs Ls d pd_m108 (101, L, st, S) o ↔ pd_K xs Ls d pd_m108 (mm_go 105 L st S) o := pd_Gs (i := .goto 4) (n := 3) rfl
theorem p108_104 : pd_G xs Ls d pd_m108 (104, L, st, S) o ↔ pd_K xs Ls d pd_m108 (mm_go 105 L (.int 0 :: st) S) o := pd_Gs (i := .iconst 0) (n := 1) rfl
theorem p108_105 : pd_G xs Ls d pd_m108 (105, L, st, S) o ↔ pd_K xs Ls d pd_m108 (mm_inv (mm_ev xs Ls pd_ck pd_ak pd_mj d) pd_m108 105 L st S 96 2 7) o := pd_Gs (i := .invokevirtual 112) (n := 3) rfl
theorem p108_108 : pd_G xs Ls d pd_m108 (108, L, st, S) o ↔ pd_K xs Ls d pd_m108 (mm_lA L 0 fun v => mm_go 109 L (v :: st) S) o := pd_Gs (i := .aload_n 0) (n := 1) rfl
theorem p108_109 : pd_G xs Ls d pd_m108 (109, L, st, S) o ↔ pd_K xs Ls d pd_m108 (mm_getf pd_ck 109 L st S 7 7) o := pd_Gs (i := .getfield 32) (n := 3) rfl
theorem p108_112 : pd_G xs Ls d pd_m108 (112, L, st, S) o ↔ pd_K xs Ls d pd_m108 (mm_lA L 0 fun v => mm_go 113 L (v :: st) S) o := pd_Gs (i := .aload_n 0) (n := 1) rfl
theorem p108_113 : pd_G xs Ls d pd_m108 (113, L, st, S) o ↔ pd_K xs Ls d pd_m108 (mm_getf pd_ck 113 L st S 7 11) o := pd_Gs (i := .getfield 97) (n := 3) rfl
theorem p108_116 : pd_G xs Ls d pd_m108 (116, L, st, S) o ↔ pd_K xs Ls d pd_m108 (mm_go 117 L (.int 1 :: st) S) o := pd_Gs (i := .iconst 1) (n := 1) rfl
theorem p108_117 : pd_G xs Ls d pd_m108 (117, L, st, S) o ↔ pd_K xs Ls d pd_m108 (mm_ii st fun x y r => mm_go 118 L (.int (x - y) :: r) S) o := pd_Gs (i := .isub) (n := 1) rfl
theorem p108_118 : pd_G xs Ls d pd_m108 (118, L, st, S) o ↔ pd_K xs Ls d pd_m108 (mm_lI L 2 fun x => mm_go 119 L (.int x :: st) S) o := pd_Gs (i := .iload_n 2) (n := 1) rfl
theorem p108_119 : pd_G xs Ls d pd_m108 (119, L, st, S) o ↔ pd_K xs Ls d pd_m108 (mm_go 121 L (.int 47 :: st) S) o := pd_Gs (i := .bipush 47) (n := 2) rfl
theorem p108_121 : pd_G xs Ls d pd_m108 (121, L, st, S) o ↔ pd_K xs Ls d pd_m108 (mm_ii st fun x y r => mm_icmp .eq x y (mm_go 143 L r S) (mm_go 124 L r S)) o := pd_Gs (i := .if_icmp .eq 22) (n := 3) rfl
theorem p108_124 : pd_G xs Ls d pd_m108 (124, L, st, S) o ↔ pd_K xs Ls d pd_m108 (mm_lA L 0 fun v => mm_go 125 L (v :: st) S) o := pd_Gs (i := .aload_n 0) (n := 1) rfl
theorem p108_125 : pd_G xs Ls d pd_m108 (125, L, st, S) o ↔ pd_K xs Ls d pd_m108 (mm_lI L 2 fun x => mm_go 126 L (.int x :: st) S) o := pd_Gs (i := .iload_n 2) (n := 1) rfl
theorem p108_126 : pd_G xs Ls d pd_m108 (126, L, st, S) o ↔ pd_K xs Ls d pd_m108 (mm_inv (mm_ev xs Ls pd_ck pd_ak pd_mj d) pd_m108 126 L st S 106 1 7) o := pd_Gs (i := .invokevirtual 104) (n := 3) rfl
theorem p108_129 : pd_G xs Ls d pd_m108 (129, L, st, S) o ↔ pd_K xs Ls d pd_m108 (mm_go 130 L (.int 1 :: st) S) o := pd_Gs (i := .iconst 1) (n := 1) rfl
theorem p108_130 : pd_G xs Ls d pd_m108 (130, L, st, S) o ↔ pd_K xs Ls d pd_m108 (mm_ii st fun x y r => mm_icmp .le x y (mm_go 147 L r S) (mm_go 133 L r S)) o := pd_Gs (i := .if_icmp .le 17) (n := 3) rfl
theorem p108_133 : pd_G xs Ls d pd_m108 (133, L, st, S) o ↔ pd_K xs Ls d pd_m108 (mm_lI L 2 fun x => mm_go 134 L (.int x :: st) S) o := pd_Gs (i := .iload_n 2) (n := 1) rfl
theorem p108_134 : pd_G xs Ls d pd_m108 (134, L, st, S) o ↔ pd_K xs Ls d pd_m108 (mm_go 136 L (.int 37 :: st) S) o := pd_Gs (i := .bipush 37) (n := 2) rfl
theorem p108_136 : pd_G xs Ls d pd_m108 (136, L, st, S) o ↔ pd_K xs Ls d pd_m108 (mm_ii st fun x y r => mm_icmp .eq x y (mm_go 147 L r S) (mm_go 139 L r S)) o := pd_Gs (i := .if_icmp .eq 11) (n := 3) rfl
theorem p108_139 : pd_G xs Ls d pd_m108 (139, L, st, S) o ↔ pd_K xs Ls d pd_m108 (mm_lI L 3 fun x => mm_go 140 L (.int x :: st) S) o := pd_Gs (i := .iload_n 3) (n := 1) rfl
theorem p108_140 : pd_G xs Ls d pd_m108 (140, L, st, S) o ↔ pd_K xs Ls d pd_m108 (mm_i st fun x r => mm_icmp .eq x 0 (mm_go 147 L r S) (mm_go 143 L r S)) o := pd_Gs (i := .ifCond .eq 7) (n := 3) rfl
theorem p108_143 : pd_G xs Ls d pd_m108 (143, L, st, S) o ↔ pd_K xs Ls d pd_m108 (mm_go 144 L (.int 1 :: st) S) o := pd_Gs (i := .iconst 1) (n := 1) rfl
theorem p108_144 : pd_G xs Ls d pd_m108 (144, L, st, S) o ↔ pd_K xs Ls d pd_m108 (mm_go 148 L st S) o := pd_Gs (i := .goto 4) (n := 3) rfl
theorem p108_147 : pd_G xs Ls d pd_m108 (147, L, st, S) o ↔ pd_K xs Ls d pd_m108 (mm_go 148 L (.int 0 :: st) S) o := pd_Gs (i := .iconst 0) (n := 1) rfl
theorem p108_148 : pd_G xs Ls d pd_m108 (148, L, st, S) o ↔ pd_K xs Ls d pd_m108 (mm_i st fun x st => mm_ai pd_ak S st 4 fun i a r => mm_go 149 L r (mm_sI S a i.toNatClampNeg (vp_nar .boolean x))) o := pd_Gs (i := .bastore) (n := 1) rfl
theorem p108_149 : pd_G xs Ls d pd_m108 (149, L, st, S) o ↔ pd_K xs Ls d pd_m108 (mm_go 0 L st S) o := pd_Gs (i := .goto (-149)) (n := 3) rfl
theorem p108_152 : pd_G xs Ls d pd_m108 (152, L, st, S) o ↔ pd_K xs Ls d pd_m108 (mm_rV S st) o := pd_Gs (i := .return_) (n := 1) rfl
theorem p109_0 : pd_G xs Ls d pd_m109 (0, L, st, S) o ↔ pd_K xs Ls d pd_m109 (mm_lA L 0 fun v => mm_go 1 L (v :: st) S) o := pd_Gs (i := .aload_n 0) (n := 1) rfl
theorem p109_1 : pd_G xs Ls d pd_m109 (1, L, st, S) o ↔ pd_K xs Ls d pd_m109 (mm_go 2 L (.int 1 :: st) S) o := pd_Gs (i := .iconst 1) (n := 1) rfl
theorem p109_2 : pd_G xs Ls d pd_m109 (2, L, st, S) o ↔ pd_K xs Ls d pd_m109 (mm_inv (mm_ev xs Ls pd_ck pd_ak pd_mj d) pd_m109 2 L st S 108 1 7) o := pd_Gs (i := .invokevirtual 146) (n := 3) rfl
theorem p109_5 : pd_G xs Ls d pd_m109 (5, L, st, S) o ↔ pd_K xs Ls d pd_m109 (mm_lA L 0 fun v => mm_go 6 L (v :: st) S) o := pd_Gs (i := .aload_n 0) (n := 1) rfl
theorem p109_6 : pd_G xs Ls d pd_m109 (6, L, st, S) o ↔ pd_K xs Ls d pd_m109 (mm_inv (mm_ev xs Ls pd_ck pd_ak pd_mj d) pd_m109 6 L st S 99 0 7) o := pd_Gs (i := .invokevirtual 100) (n := 3) rfl
theorem p109_9 : pd_G xs Ls d pd_m109 (9, L, st, S) o ↔ pd_K xs Ls d pd_m109 (mm_i st fun x r => mm_go 10 (mm_sto L 0 2 (.int x)) r S) o := pd_Gs (i := .istore_n 2) (n := 1) rfl
theorem p109_10 : pd_G xs Ls d pd_m109 (10, L, st, S) o ↔ pd_K xs Ls d pd_m109 (mm_lI L 1 fun x => mm_go 11 L (.int x :: st) S) o := pd_Gs (i := .iload_n 1) (n := 1) rfl
theorem p109_11 : pd_G xs Ls d pd_m109 (11, L, st, S) o ↔ pd_K xs Ls d pd_m109 (mm_go 13 L (.int 93 :: st) S) o := pd_Gs (i := .bipush 93) (n := 2) rfl
theorem p109_13 : pd_G xs Ls d pd_m109 (13, L, st, S) o ↔ pd_K xs Ls d pd_m109 (mm_ii st fun x y r => mm_icmp .ne x y (mm_go 91 L r S) (mm_go 16 L r S)) o := pd_Gs (i := .if_icmp .ne 78) (n := 3) rfl
theorem p109_16 : pd_G xs Ls d pd_m109 (16, L, st, S) o ↔ pd_K xs Ls d pd_m109 (mm_lI L 2 fun x => mm_go 17 L (.int x :: st) S) o := pd_Gs (i := .iload_n 2) (n := 1) rfl
theorem p109_17 : pd_G xs Ls d pd_m109 (17, L, st, S) o ↔ pd_K xs Ls d pd_m109 (mm_go 18 L (.int 5 :: st) S) o := pd_Gs (i := .iconst 5) (n := 1) rfl
theorem p109_18 : pd_G xs Ls d pd_m109 (18, L, st, S) o ↔ pd_K xs Ls d pd_m109 (mm_ii st fun x y r => mm_icmp .eq x y (mm_go 27 L r S) (mm_go 21 L r S)) o := pd_Gs (i := .if_icmp .eq 9) (n := 3) rfl
theorem p109_21 : pd_G xs Ls d pd_m109 (21, L, st, S) o ↔ pd_K xs Ls d pd_m109 (mm_lI L 2 fun x => mm_go 22 L (.int x :: st) S) o := pd_Gs (i := .iload_n 2) (n := 1) rfl
theorem p109_22 : pd_G xs Ls d pd_m109 (22, L, st, S) o ↔ pd_K xs Ls d pd_m109 (mm_go 24 L (.int 7 :: st) S) o := pd_Gs (i := .bipush 7) (n := 2) rfl
theorem p109_24 : pd_G xs Ls d pd_m109 (24, L, st, S) o ↔ pd_K xs Ls d pd_m109 (mm_ii st fun x y r => mm_icmp .ne x y (mm_go 91 L r S) (mm_go 27 L r S)) o := pd_Gs (i := .if_icmp .ne 67) (n := 3) rfl
theorem p109_27 : pd_G xs Ls d pd_m109 (27, L, st, S) o ↔ pd_K xs Ls d pd_m109 (mm_lA L 0 fun v => mm_go 28 L (v :: st) S) o := pd_Gs (i := .aload_n 0) (n := 1) rfl
theorem p109_28 : pd_G xs Ls d pd_m109 (28, L, st, S) o ↔ pd_K xs Ls d pd_m109 (mm_1 st fun v r => cond (mm_c2 v) none (mm_go 29 L (v :: v :: r) S)) o := pd_Gs (i := .dup) (n := 1) rfl
theorem p109_29 : pd_G xs Ls d pd_m109 (29, L, st, S) o ↔ pd_K xs Ls d pd_m109 (mm_getf pd_ck 29 L st S 7 10) o := pd_Gs (i := .getfield 94) (n := 3) rfl
theorem p109_32 : pd_G xs Ls d pd_m109 (32, L, st, S) o ↔ pd_K xs Ls d pd_m109 (mm_go 33 L (.int 1 :: st) S) o := pd_Gs (i := .iconst 1) (n := 1) rfl
theorem p109_33 : pd_G xs Ls d pd_m109 (33, L, st, S) o ↔ pd_K xs Ls d pd_m109 (mm_ii st fun x y r => mm_go 34 L (.int (x - y) :: r) S) o := pd_Gs (i := .isub) (n := 1) rfl
theorem p109_34 : pd_G xs Ls d pd_m109 (34, L, st, S) o ↔ pd_K xs Ls d pd_m109 (mm_putf pd_ck 34 L st S 7 10) o := pd_Gs (i := .putfield 94) (n := 3) rfl
theorem p109_37 : pd_G xs Ls d pd_m109 (37, L, st, S) o ↔ pd_K xs Ls d pd_m109 (mm_lA L 0 fun v => mm_go 38 L (v :: st) S) o := pd_Gs (i := .aload_n 0) (n := 1) rfl
theorem p109_38 : pd_G xs Ls d pd_m109 (38, L, st, S) o ↔ pd_K xs Ls d pd_m109 (mm_1 st fun v r => cond (mm_c2 v) none (mm_go 39 L (v :: v :: r) S)) o := pd_Gs (i := .dup) (n := 1) rfl
theorem p109_39 : pd_G xs Ls d pd_m109 (39, L, st, S) o ↔ pd_K xs Ls d pd_m109 (mm_getf pd_ck 39 L st S 7 15) o := pd_Gs (i := .getfield 116) (n := 3) rfl
theorem p109_42 : pd_G xs Ls d pd_m109 (42, L, st, S) o ↔ pd_K xs Ls d pd_m109 (mm_go 43 L (.int 1 :: st) S) o := pd_Gs (i := .iconst 1) (n := 1) rfl
theorem p109_43 : pd_G xs Ls d pd_m109 (43, L, st, S) o ↔ pd_K xs Ls d pd_m109 (mm_ii st fun x y r => mm_go 44 L (.int (x - y) :: r) S) o := pd_Gs (i := .isub) (n := 1) rfl
theorem p109_44 : pd_G xs Ls d pd_m109 (44, L, st, S) o ↔ pd_K xs Ls d pd_m109 (mm_putf pd_ck 44 L st S 7 15) o := pd_Gs (i := .putfield 116) (n := 3) rfl
theorem p109_47 : pd_G xs Ls d pd_m109 (47, L, st, S) o ↔ pd_K xs Ls d pd_m109 (mm_lA L 0 fun v => mm_go 48 L (v :: st) S) o := pd_Gs (i := .aload_n 0) (n := 1) rfl
theorem p109_48 : pd_G xs Ls d pd_m109 (48, L, st, S) o ↔ pd_K xs Ls d pd_m109 (mm_inv (mm_ev xs Ls pd_ck pd_ak pd_mj d) pd_m109 48 L st S 110 0 7) o := pd_Gs (i := .invokevirtual 149) (n := 3) rfl
theorem p109_51 : pd_G xs Ls d pd_m109 (51, L, st, S) o ↔ pd_K xs Ls d pd_m109 (mm_lA L 0 fun v => mm_go 52 L (v :: st) S) o := pd_Gs (i := .aload_n 0) (n := 1) rfl
theorem p109_52 : pd_G xs Ls d pd_m109 (52, L, st, S) o ↔ pd_K xs Ls d pd_m109 (mm_lI L 2 fun x => mm_go 53 L (.int x :: st) S) o := pd_Gs (i := .iload_n 2) (n := 1) rfl
theorem p109_53 : pd_G xs Ls d pd_m109 (53, L, st, S) o ↔ pd_K xs Ls d pd_m109 (mm_go 54 L (.int 5 :: st) S) o := pd_Gs (i := .iconst 5) (n := 1) rfl
theorem p109_54 : pd_G xs Ls d pd_m109 (54, L, st, S) o ↔ pd_K xs Ls d pd_m109 (mm_ii st fun x y r => mm_icmp .ne x y (mm_go 61 L r S) (mm_go 57 L r S)) o := pd_Gs (i := .if_icmp .ne 7) (n := 3) rfl
theorem p109_57 : pd_G xs Ls d pd_m109 (57, L, st, S) o ↔ pd_K xs Ls d pd_m109 (mm_go 58 L (.int 3 :: st) S) o := pd_Gs (i := .iconst 3) (n := 1) rfl
theorem p109_58 : pd_G xs Ls d pd_m109 (58, L, st, S) o ↔ pd_K xs Ls d pd_m109 (mm_go 62 L st S) o := pd_Gs (i := .goto 4) (n := 3) rfl
theorem p109_61 : pd_G xs Ls d pd_m109 (61, L, st, S) o ↔ pd_K xs Ls d pd_m109 (mm_go 62 L (.int 4 :: st) S) o := pd_Gs (i := .iconst 4) (n := 1) rfl
theorem p109_62 : pd_G xs Ls d pd_m109 (62, L, st, S) o ↔ pd_K xs Ls d pd_m109 (mm_go 63 L (.int 0 :: st) S) o := pd_Gs (i := .iconst 0) (n := 1) rfl
theorem p109_63 : pd_G xs Ls d pd_m109 (63, L, st, S) o ↔ pd_K xs Ls d pd_m109 (mm_inv (mm_ev xs Ls pd_ck pd_ak pd_mj d) pd_m109 63 L st S 96 2 7) o := pd_Gs (i := .invokevirtual 112) (n := 3) rfl
theorem p109_66 : pd_G xs Ls d pd_m109 (66, L, st, S) o ↔ pd_K xs Ls d pd_m109 (mm_lI L 2 fun x => mm_go 67 L (.int x :: st) S) o := pd_Gs (i := .iload_n 2) (n := 1) rfl
theorem p109_67 : pd_G xs Ls d pd_m109 (67, L, st, S) o ↔ pd_K xs Ls d pd_m109 (mm_go 69 L (.int 7 :: st) S) o := pd_Gs (i := .bipush 7) (n := 2) rfl
theorem p109_69 : pd_G xs Ls d pd_m109 (69, L, st, S) o ↔ pd_K xs Ls d pd_m109 (mm_ii st fun x y r => mm_icmp .ne x y (mm_go 81 L r S) (mm_go 72 L r S)) o := pd_Gs (i := .if_icmp .ne 12) (n := 3) rfl
theorem p109_72 : pd_G xs Ls d pd_m109 (72, L, st, S) o ↔ pd_K xs Ls d pd_m109 (mm_lA L 0 fun v => mm_go 73 L (v :: st) S) o := pd_Gs (i := .aload_n 0) (n := 1) rfl
theorem p109_73 : pd_G xs Ls d pd_m109 (73, L, st, S) o ↔ pd_K xs Ls d pd_m109 (mm_go 75 L (.int 7 :: st) S) o := pd_Gs (i := .bipush 7) (n := 2) rfl
theorem p109_75 : pd_G xs Ls d pd_m109 (75, L, st, S) o ↔ pd_K xs Ls d pd_m109 (mm_putf pd_ck 75 L st S 7 13) o := pd_Gs (i := .putfield 133) (n := 3) rfl
theorem p109_78 : pd_G xs Ls d pd_m109 (78, L, st, S) o ↔ pd_K xs Ls d pd_m109 (mm_go 80 L (.int 7 :: st) S) o := pd_Gs (i := .bipush 7) (n := 2) rfl
theorem p109_80 : pd_G xs Ls d pd_m109 (80, L, st, S) o ↔ pd_K xs Ls d pd_m109 (mm_e0 S st) o := pd_Gs (i := .ireturn) (n := 1) rfl
theorem p109_81 : pd_G xs Ls d pd_m109 (81, L, st, S) o ↔ pd_K xs Ls d pd_m109 (mm_lA L 0 fun v => mm_go 82 L (v :: st) S) o := pd_Gs (i := .aload_n 0) (n := 1) rfl
theorem p109_82 : pd_G xs Ls d pd_m109 (82, L, st, S) o ↔ pd_K xs Ls d pd_m109 (mm_go 83 L (.int 0 :: st) S) o := pd_Gs (i := .iconst 0) (n := 1) rfl
theorem p109_83 : pd_G xs Ls d pd_m109 (83, L, st, S) o ↔ pd_K xs Ls d pd_m109 (mm_inv (mm_ev xs Ls pd_ck pd_ak pd_mj d) pd_m109 83 L st S 97 1 7) o := pd_Gs (i := .invokevirtual 136) (n := 3) rfl
theorem p109_86 : pd_G xs Ls d pd_m109 (86, L, st, S) o ↔ pd_K xs Ls d pd_m109 (mm_lA L 0 fun v => mm_go 87 L (v :: st) S) o := pd_Gs (i := .aload_n 0) (n := 1) rfl
theorem p109_87 : pd_G xs Ls d pd_m109 (87, L, st, S) o ↔ pd_K xs Ls d pd_m109 (mm_inv (mm_ev xs Ls pd_ck pd_ak pd_mj d) pd_m109 87 L st S 98 0 7) o := pd_Gs (i := .invokevirtual 140) (n := 3) rfl
theorem p109_90 : pd_G xs Ls d pd_m109 (90, L, st, S) o ↔ pd_K xs Ls d pd_m109 (mm_e0 S st) o := pd_Gs (i := .ireturn) (n := 1) rfl
theorem p109_91 : pd_G xs Ls d pd_m109 (91, L, st, S) o ↔ pd_K xs Ls d pd_m109 (mm_lI L 1 fun x => mm_go 92 L (.int x :: st) S) o := pd_Gs (i := .iload_n 1) (n := 1) rfl
theorem p109_92 : pd_G xs Ls d pd_m109 (92, L, st, S) o ↔ pd_K xs Ls d pd_m109 (mm_go 94 L (.int 41 :: st) S) o := pd_Gs (i := .bipush 41) (n := 2) rfl
theorem p109_94 : pd_G xs Ls d pd_m109 (94, L, st, S) o ↔ pd_K xs Ls d pd_m109 (mm_ii st fun x y r => mm_icmp .ne x y (mm_go 128 L r S) (mm_go 97 L r S)) o := pd_Gs (i := .if_icmp .ne 34) (n := 3) rfl
theorem p109_97 : pd_G xs Ls d pd_m109 (97, L, st, S) o ↔ pd_K xs Ls d pd_m109 (mm_lI L 2 fun x => mm_go 98 L (.int x :: st) S) o := pd_Gs (i := .iload_n 2) (n := 1) rfl
theorem p109_98 : pd_G xs Ls d pd_m109 (98, L, st, S) o ↔ pd_K xs Ls d pd_m109 (mm_go 100 L (.int 6 :: st) S) o := pd_Gs (i := .bipush 6) (n := 2) rfl
theorem p109_100 : pd_G xs Ls d pd_m109 (100, L, st, S) o ↔ pd_K xs Ls d pd_m109 (mm_ii st fun x y r => mm_icmp .ne x y (mm_go 128 L r S) (mm_go 103 L r S)) o := pd_Gs (i := .if_icmp .ne 28) (n := 3) rfl
theorem p109_103 : pd_G xs Ls d pd_m109 (103, L, st, S) o ↔ pd_K xs Ls d pd_m109 (mm_lA L 0 fun v => mm_go 104 L (v :: st) S) o := pd_Gs (i := .aload_n 0) (n := 1) rfl
theorem p109_104 : pd_G xs Ls d pd_m109 (104, L, st, S) o ↔ pd_K xs Ls d pd_m109 (mm_1 st fun v r => cond (mm_c2 v) none (mm_go 105 L (v :: v :: r) S)) o := pd_Gs (i := .dup) (n := 1) rfl
theorem p109_105 : pd_G xs Ls d pd_m109 (105, L, st, S) o ↔ pd_K xs Ls d pd_m109 (mm_getf pd_ck 105 L st S 7 10) o := pd_Gs (i := .getfield 94) (n := 3) rfl
theorem p109_108 : pd_G xs Ls d pd_m109 (108, L, st, S) o ↔ pd_K xs Ls d pd_m109 (mm_go 109 L (.int 1 :: st) S) o := pd_Gs (i := .iconst 1) (n := 1) rfl
theorem p109_109 : pd_G xs Ls d pd_m109 (109, L, st, S) o ↔ pd_K xs Ls d pd_m109 (mm_ii st fun x y r => mm_go 110 L (.int (x - y) :: r) S) o := pd_Gs (i := .isub) (n := 1) rfl
theorem p109_110 : pd_G xs Ls d pd_m109 (110, L, st, S) o ↔ pd_K xs Ls d pd_m109 (mm_putf pd_ck 110 L st S 7 10) o := pd_Gs (i := .putfield 94) (n := 3) rfl
theorem p109_113 : pd_G xs Ls d pd_m109 (113, L, st, S) o ↔ pd_K xs Ls d pd_m109 (mm_lA L 0 fun v => mm_go 114 L (v :: st) S) o := pd_Gs (i := .aload_n 0) (n := 1) rfl
theorem p109_114 : pd_G xs Ls d pd_m109 (114, L, st, S) o ↔ pd_K xs Ls d pd_m109 (mm_1 st fun v r => cond (mm_c2 v) none (mm_go 115 L (v :: v :: r) S)) o := pd_Gs (i := .dup) (n := 1) rfl
theorem p109_115 : pd_G xs Ls d pd_m109 (115, L, st, S) o ↔ pd_K xs Ls d pd_m109 (mm_getf pd_ck 115 L st S 7 15) o := pd_Gs (i := .getfield 116) (n := 3) rfl
theorem p109_118 : pd_G xs Ls d pd_m109 (118, L, st, S) o ↔ pd_K xs Ls d pd_m109 (mm_go 119 L (.int 1 :: st) S) o := pd_Gs (i := .iconst 1) (n := 1) rfl
theorem p109_119 : pd_G xs Ls d pd_m109 (119, L, st, S) o ↔ pd_K xs Ls d pd_m109 (mm_ii st fun x y r => mm_go 120 L (.int (x - y) :: r) S) o := pd_Gs (i := .isub) (n := 1) rfl
theorem p109_120 : pd_G xs Ls d pd_m109 (120, L, st, S) o ↔ pd_K xs Ls d pd_m109 (mm_putf pd_ck 120 L st S 7 15) o := pd_Gs (i := .putfield 116) (n := 3) rfl
theorem p109_123 : pd_G xs Ls d pd_m109 (123, L, st, S) o ↔ pd_K xs Ls d pd_m109 (mm_lA L 0 fun v => mm_go 124 L (v :: st) S) o := pd_Gs (i := .aload_n 0) (n := 1) rfl
theorem p109_124 : pd_G xs Ls d pd_m109 (124, L, st, S) o ↔ pd_K xs Ls d pd_m109 (mm_inv (mm_ev xs Ls pd_ck pd_ak pd_mj d) pd_m109 124 L st S 98 0 7) o := pd_Gs (i := .invokevirtual 140) (n := 3) rfl
theorem p109_127 : pd_G xs Ls d pd_m109 (127, L, st, S) o ↔ pd_K xs Ls d pd_m109 (mm_e0 S st) o := pd_Gs (i := .ireturn) (n := 1) rfl
theorem p109_128 : pd_G xs Ls d pd_m109 (128, L, st, S) o ↔ pd_K xs Ls d pd_m109 (mm_lI L 1 fun x => mm_go 129 L (.int x :: st) S) o := pd_Gs (i := .iload_n 1) (n := 1) rfl
theorem p109_129 : pd_G xs Ls d pd_m109 (129, L, st, S) o ↔ pd_K xs Ls d pd_m109 (mm_go 131 L (.int 123 :: st) S) o := pd_Gs (i := .bipush 123) (n := 2) rfl
theorem p109_131 : pd_G xs Ls d pd_m109 (131, L, st, S) o ↔ pd_K xs Ls d pd_m109 (mm_ii st fun x y r => mm_icmp .ne x y (mm_go 192 L r S) (mm_go 134 L r S)) o := pd_Gs (i := .if_icmp .ne 61) (n := 3) rfl
theorem p109_134 : pd_G xs Ls d pd_m109 (134, L, st, S) o ↔ pd_K xs Ls d pd_m109 (mm_lI L 2 fun x => mm_go 135 L (.int x :: st) S) o := pd_Gs (i := .iload_n 2) (n := 1) rfl
theorem p109_135 : pd_G xs Ls d pd_m109 (135, L, st, S) o ↔ pd_K xs Ls d pd_m109 (mm_go 136 L (.int 2 :: st) S) o := pd_Gs (i := .iconst 2) (n := 1) rfl
theorem p109_136 : pd_G xs Ls d pd_m109 (136, L, st, S) o ↔ pd_K xs Ls d pd_m109 (mm_ii st fun x y r => mm_icmp .eq x y (mm_go 144 L r S) (mm_go 139 L r S)) o := pd_Gs (i := .if_icmp .eq 8) (n := 3) rfl
theorem p109_139 : pd_G xs Ls d pd_m109 (139, L, st, S) o ↔ pd_K xs Ls d pd_m109 (mm_lI L 2 fun x => mm_go 140 L (.int x :: st) S) o := pd_Gs (i := .iload_n 2) (n := 1) rfl
theorem p109_140 : pd_G xs Ls d pd_m109 (140, L, st, S) o ↔ pd_K xs Ls d pd_m109 (mm_go 141 L (.int 3 :: st) S) o := pd_Gs (i := .iconst 3) (n := 1) rfl
theorem p109_141 : pd_G xs Ls d pd_m109 (141, L, st, S) o ↔ pd_K xs Ls d pd_m109 (mm_ii st fun x y r => mm_icmp .ne x y (mm_go 192 L r S) (mm_go 144 L r S)) o := pd_Gs (i := .if_icmp .ne 51) (n := 3) rfl
theorem p109_144 : pd_G xs Ls d pd_m109 (144, L, st, S) o ↔ pd_K xs Ls d pd_m109 (mm_lA L 0 fun v => mm_go 145 L (v :: st) S) o := pd_Gs (i := .aload_n 0) (n := 1) rfl
theorem p109_145 : pd_G xs Ls d pd_m109 (145, L, st, S) o ↔ pd_K xs Ls d pd_m109 (mm_getf pd_ck 145 L st S 7 15) o := pd_Gs (i := .getfield 116) (n := 3) rfl
theorem p109_148 : pd_G xs Ls d pd_m109 (148, L, st, S) o ↔ pd_K xs Ls d pd_m109 (mm_go 149 L (.int 5 :: st) S) o := pd_Gs (i := .iconst 5) (n := 1) rfl
theorem p109_149 : pd_G xs Ls d pd_m109 (149, L, st, S) o ↔ pd_K xs Ls d pd_m109 (mm_ii st fun x y r => mm_icmp .ne x y (mm_go 154 L r S) (mm_go 152 L r S)) o := pd_Gs (i := .if_icmp .ne 5) (n := 3) rfl
theorem p109_152 : pd_G xs Ls d pd_m109 (152, L, st, S) o ↔ pd_K xs Ls d pd_m109 (mm_go 153 L (.int (-1) :: st) S) o := pd_Gs (i := .iconst (-1)) (n := 1) rfl
theorem p109_153 : pd_G xs Ls d pd_m109 (153, L, st, S) o ↔ pd_K xs Ls d pd_m109 (mm_e0 S st) o := pd_Gs (i := .ireturn) (n := 1) rfl
theorem p109_154 : pd_G xs Ls d pd_m109 (154, L, st, S) o ↔ pd_K xs Ls d pd_m109 (mm_lA L 0 fun v => mm_go 155 L (v :: st) S) o := pd_Gs (i := .aload_n 0) (n := 1) rfl
theorem p109_155 : pd_G xs Ls d pd_m109 (155, L, st, S) o ↔ pd_K xs Ls d pd_m109 (mm_1 st fun v r => cond (mm_c2 v) none (mm_go 156 L (v :: v :: r) S)) o := pd_Gs (i := .dup) (n := 1) rfl
theorem p109_156 : pd_G xs Ls d pd_m109 (156, L, st, S) o ↔ pd_K xs Ls d pd_m109 (mm_getf pd_ck 156 L st S 7 15) o := pd_Gs (i := .getfield 116) (n := 3) rfl
theorem p109_159 : pd_G xs Ls d pd_m109 (159, L, st, S) o ↔ pd_K xs Ls d pd_m109 (mm_go 160 L (.int 1 :: st) S) o := pd_Gs (i := .iconst 1) (n := 1) rfl
theorem p109_160 : pd_G xs Ls d pd_m109 (160, L, st, S) o ↔ pd_K xs Ls d pd_m109 (mm_ii st fun x y r => mm_go 161 L (.int (x + y) :: r) S) o := pd_Gs (i := .iadd) (n := 1) rfl
theorem p109_161 : pd_G xs Ls d pd_m109 (161, L, st, S) o ↔ pd_K xs Ls d pd_m109 (mm_putf pd_ck 161 L st S 7 15) o := pd_Gs (i := .putfield 116) (n := 3) rfl
theorem p109_164 : pd_G xs Ls d pd_m109 (164, L, st, S) o ↔ pd_K xs Ls d pd_m109 (mm_lA L 0 fun v => mm_go 165 L (v :: st) S) o := pd_Gs (i := .aload_n 0) (n := 1) rfl
theorem p109_165 : pd_G xs Ls d pd_m109 (165, L, st, S) o ↔ pd_K xs Ls d pd_m109 (mm_inv (mm_ev xs Ls pd_ck pd_ak pd_mj d) pd_m109 165 L st S 110 0 7) o := pd_Gs (i := .invokevirtual 149) (n := 3) rfl
theorem p109_168 : pd_G xs Ls d pd_m109 (168, L, st, S) o ↔ pd_K xs Ls d pd_m109 (mm_lA L 0 fun v => mm_go 169 L (v :: st) S) o := pd_Gs (i := .aload_n 0) (n := 1) rfl
theorem p109_169 : pd_G xs Ls d pd_m109 (169, L, st, S) o ↔ pd_K xs Ls d pd_m109 (mm_getf pd_ck 169 L st S 7 5) o := pd_Gs (i := .getfield 26) (n := 3) rfl
theorem p109_172 : pd_G xs Ls d pd_m109 (172, L, st, S) o ↔ pd_K xs Ls d pd_m109 (mm_lA L 0 fun v => mm_go 173 L (v :: st) S) o := pd_Gs (i := .aload_n 0) (n := 1) rfl
theorem p109_173 : pd_G xs Ls d pd_m109 (173, L, st, S) o ↔ pd_K xs Ls d pd_m109 (mm_getf pd_ck 173 L st S 7 10) o := pd_Gs (i := .getfield 94) (n := 3) rfl
theorem p109_176 : pd_G xs Ls d pd_m109 (176, L, st, S) o ↔ pd_K xs Ls d pd_m109 (mm_go 177 L (.int 1 :: st) S) o := pd_Gs (i := .iconst 1) (n := 1) rfl
theorem p109_177 : pd_G xs Ls d pd_m109 (177, L, st, S) o ↔ pd_K xs Ls d pd_m109 (mm_ii st fun x y r => mm_go 178 L (.int (x - y) :: r) S) o := pd_Gs (i := .isub) (n := 1) rfl
theorem p109_178 : pd_G xs Ls d pd_m109 (178, L, st, S) o ↔ pd_K xs Ls d pd_m109 (mm_lI L 2 fun x => mm_go 179 L (.int x :: st) S) o := pd_Gs (i := .iload_n 2) (n := 1) rfl
theorem p109_179 : pd_G xs Ls d pd_m109 (179, L, st, S) o ↔ pd_K xs Ls d pd_m109 (mm_go 181 L (.int 8 :: st) S) o := pd_Gs (i := .bipush 8) (n := 2) rfl
theorem p109_181 : pd_G xs Ls d pd_m109 (181, L, st, S) o ↔ pd_K xs Ls d pd_m109 (mm_ii st fun x y r => mm_go 182 L (.int (x + y) :: r) S) o := pd_Gs (i := .iadd) (n := 1) rfl
theorem p109_182 : pd_G xs Ls d pd_m109 (182, L, st, S) o ↔ pd_K xs Ls d pd_m109 (mm_i st fun x st => mm_ai pd_ak S st 0 fun i a r => mm_go 183 L r (mm_sI S a i.toNatClampNeg x)) o := pd_Gs (i := .iastore) (n := 1) rfl
theorem p109_183 : pd_G xs Ls d pd_m109 (183, L, st, S) o ↔ pd_K xs Ls d pd_m109 (mm_lA L 0 fun v => mm_go 184 L (v :: st) S) o := pd_Gs (i := .aload_n 0) (n := 1) rfl
theorem p109_184 : pd_G xs Ls d pd_m109 (184, L, st, S) o ↔ pd_K xs Ls d pd_m109 (mm_go 186 L (.int 28 :: st) S) o := pd_Gs (i := .bipush 28) (n := 2) rfl
theorem p109_186 : pd_G xs Ls d pd_m109 (186, L, st, S) o ↔ pd_K xs Ls d pd_m109 (mm_go 187 L (.int 0 :: st) S) o := pd_Gs (i := .iconst 0) (n := 1) rfl
theorem p109_187 : pd_G xs Ls d pd_m109 (187, L, st, S) o ↔ pd_K xs Ls d pd_m109 (mm_inv (mm_ev xs Ls pd_ck pd_ak pd_mj d) pd_m109 187 L st S 96 2 7) o := pd_Gs (i := .invokevirtual 112) (n := 3) rfl
theorem p109_190 : pd_G xs Ls d pd_m109 (190, L, st, S) o ↔ pd_K xs Ls d pd_m109 (mm_go 191 L (.int 0 :: st) S) o := pd_Gs (i := .iconst 0) (n := 1) rfl
theorem p109_191 : pd_G xs Ls d pd_m109 (191, L, st, S) o ↔ pd_K xs Ls d pd_m109 (mm_e0 S st) o := pd_Gs (i := .ireturn) (n := 1) rfl
theorem p109_192 : pd_G xs Ls d pd_m109 (192, L, st, S) o ↔ pd_K xs Ls d pd_m109 (mm_lI L 1 fun x => mm_go 193 L (.int x :: st) S) o := pd_Gs (i := .iload_n 1) (n := 1) rfl
theorem p109_193 : pd_G xs Ls d pd_m109 (193, L, st, S) o ↔ pd_K xs Ls d pd_m109 (mm_go 195 L (.int 59 :: st) S) o := pd_Gs (i := .bipush 59) (n := 2) rfl
theorem p109_195 : pd_G xs Ls d pd_m109 (195, L, st, S) o ↔ pd_K xs Ls d pd_m109 (mm_ii st fun x y r => mm_icmp .eq x y (mm_go 214 L r S) (mm_go 198 L r S)) o := pd_Gs (i := .if_icmp .eq 19) (n := 3) rfl
theorem p109_198 : pd_G xs Ls d pd_m109 (198, L, st, S) o ↔ pd_K xs Ls d pd_m109 (mm_lI L 1 fun x => mm_go 199 L (.int x :: st) S) o := pd_Gs (i := .iload_n 1) (n := 1) rfl
theorem p109_199 : pd_G xs Ls d pd_m109 (199, L, st, S) o ↔ pd_K xs Ls d pd_m109 (mm_go 201 L (.int 125 :: st) S) o := pd_Gs (i := .bipush 125) (n := 2) rfl
theorem p109_201 : pd_G xs Ls d pd_m109 (201, L, st, S) o ↔ pd_K xs Ls d pd_m109 (mm_ii st fun x y r => mm_icmp .eq x y (mm_go 214 L r S) (mm_go 204 L r S)) o := pd_Gs (i := .if_icmp .eq 13) (n := 3) rfl
theorem p109_204 : pd_G xs Ls d pd_m109 (204, L, st, S) o ↔ pd_K xs Ls d pd_m109 (mm_lI L 1 fun x => mm_go 205 L (.int x :: st) S) o := pd_Gs (i := .iload_n 1) (n := 1) rfl
theorem p109_205 : pd_G xs Ls d pd_m109 (205, L, st, S) o ↔ pd_K xs Ls d pd_m109 (mm_go 207 L (.int 124 :: st) S) o := pd_Gs (i := .bipush 124) (n := 2) rfl
theorem p109_207 : pd_G xs Ls d pd_m109 (207, L, st, S) o ↔ pd_K xs Ls d pd_m109 (mm_ii st fun x y r => mm_icmp .eq x y (mm_go 214 L r S) (mm_go 210 L r S)) o := pd_Gs (i := .if_icmp .eq 7) (n := 3) rfl
theorem p109_210 : pd_G xs Ls d pd_m109 (210, L, st, S) o ↔ pd_K xs Ls d pd_m109 (mm_lI L 1 fun x => mm_go 211 L (.int x :: st) S) o := pd_Gs (i := .iload_n 1) (n := 1) rfl
theorem p109_211 : pd_G xs Ls d pd_m109 (211, L, st, S) o ↔ pd_K xs Ls d pd_m109 (mm_i st fun x r => mm_icmp .ne x 0 (mm_go 218 L r S) (mm_go 214 L r S)) o := pd_Gs (i := .ifCond .ne 7) (n := 3) rfl
theorem p109_214 : pd_G xs Ls d pd_m109 (214, L, st, S) o ↔ pd_K xs Ls d pd_m109 (mm_go 215 L (.int 1 :: st) S) o := pd_Gs (i := .iconst 1) (n := 1) rfl
theorem p109_215 : pd_G xs Ls d pd_m109 (215, L, st, S) o ↔ pd_K xs Ls d pd_m109 (mm_go 219 L st S) o := pd_Gs (i := .goto 4) (n := 3) rfl
theorem p109_218 : pd_G xs Ls d pd_m109 (218, L, st, S) o ↔ pd_K xs Ls d pd_m109 (mm_go 219 L (.int 0 :: st) S) o := pd_Gs (i := .iconst 0) (n := 1) rfl
theorem p109_219 : pd_G xs Ls d pd_m109 (219, L, st, S) o ↔ pd_K xs Ls d pd_m109 (mm_i st fun x r => mm_go 220 (mm_sto L 0 3 (.int x)) r S) o := pd_Gs (i := .istore_n 3) (n := 1) rfl
theorem p109_220 : pd_G xs Ls d pd_m109 (220, L, st, S) o ↔ pd_K xs Ls d pd_m109 (mm_lI L 3 fun x => mm_go 221 L (.int x :: st) S) o := pd_Gs (i := .iload_n 3) (n := 1) rfl
theorem p109_221 : pd_G xs Ls d pd_m109 (221, L, st, S) o ↔ pd_K xs Ls d pd_m109 (mm_i st fun x r => mm_icmp .eq x 0 (mm_go 234 L r S) (mm_go 224 L r S)) o := pd_Gs (i := .ifCond .eq 13) (n := 3) rfl
theorem p109_224 : pd_G xs Ls d pd_m109 (224, L, st, S) o ↔ pd_K xs Ls d pd_m109 (mm_lI L 2 fun x => mm_go 225 L (.int x :: st) S) o := pd_Gs (i := .iload_n 2) (n := 1) rfl
theorem p109_225 : pd_G xs Ls d pd_m109 (225, L, st, S) o ↔ pd_K xs Ls d pd_m109 (mm_go 226 L (.int 1 :: st) S) o := pd_Gs (i := .iconst 1) (n := 1) rfl
theorem p109_226 : pd_G xs Ls d pd_m109 (226, L, st, S) o ↔ pd_K xs Ls d pd_m109 (mm_ii st fun x y r => mm_icmp .eq x y (mm_go 236 L r S) (mm_go 229 L r S)) o := pd_Gs (i := .if_icmp .eq 10) (n := 3) rfl
theorem p109_229 : pd_G xs Ls d pd_m109 (229, L, st, S) o ↔ pd_K xs Ls d pd_m109 (mm_lI L 2 fun x => mm_go 230 L (.int x :: st) S) o := pd_Gs (i := .iload_n 2) (n := 1) rfl
theorem p109_230 : pd_G xs Ls d pd_m109 (230, L, st, S) o ↔ pd_K xs Ls d pd_m109 (mm_go 231 L (.int 4 :: st) S) o := pd_Gs (i := .iconst 4) (n := 1) rfl
theorem p109_231 : pd_G xs Ls d pd_m109 (231, L, st, S) o ↔ pd_K xs Ls d pd_m109 (mm_ii st fun x y r => mm_icmp .eq x y (mm_go 236 L r S) (mm_go 234 L r S)) o := pd_Gs (i := .if_icmp .eq 5) (n := 3) rfl
theorem p109_234 : pd_G xs Ls d pd_m109 (234, L, st, S) o ↔ pd_K xs Ls d pd_m109 (mm_go 235 L (.int (-1) :: st) S) o := pd_Gs (i := .iconst (-1)) (n := 1) rfl
theorem p109_235 : pd_G xs Ls d pd_m109 (235, L, st, S) o ↔ pd_K xs Ls d pd_m109 (mm_e0 S st) o := pd_Gs (i := .ireturn) (n := 1) rfl
theorem p109_236 : pd_G xs Ls d pd_m109 (236, L, st, S) o ↔ pd_K xs Ls d pd_m109 (mm_lI L 2 fun x => mm_go 237 L (.int x :: st) S) o := pd_Gs (i := .iload_n 2) (n := 1) rfl
theorem p109_237 : pd_G xs Ls d pd_m109 (237, L, st, S) o ↔ pd_K xs Ls d pd_m109 (mm_go 238 L (.int 1 :: st) S) o := pd_Gs (i := .iconst 1) (n := 1) rfl
theorem p109_238 : pd_G xs Ls d pd_m109 (238, L, st, S) o ↔ pd_K xs Ls d pd_m109 (mm_ii st fun x y r => mm_icmp .ne x y (mm_go 265 L r S) (mm_go 241 L r S)) o := pd_Gs (i := .if_icmp .ne 27) (n := 3) rfl
theorem p109_241 : pd_G xs Ls d pd_m109 (241, L, st, S) o ↔ pd_K xs Ls d pd_m109 (mm_lA L 0 fun v => mm_go 242 L (v :: st) S) o := pd_Gs (i := .aload_n 0) (n := 1) rfl
theorem p109_242 : pd_G xs Ls d pd_m109 (242, L, st, S) o ↔ pd_K xs Ls d pd_m109 (mm_getf pd_ck 242 L st S 7 13) o := pd_Gs (i := .getfield 133) (n := 3) rfl
theorem p109_245 : pd_G xs Ls d pd_m109 (245, L, st, S) o ↔ pd_K xs Ls d pd_m109 (mm_go 246 L (.int 4 :: st) S) o := pd_Gs (i := .iconst 4) (n := 1) rfl
theorem p109_246 : pd_G xs Ls d pd_m109 (246, L, st, S) o ↔ pd_K xs Ls d pd_m109 (mm_ii st fun x y r => mm_icmp .lt x y (mm_go 258 L r S) (mm_go 249 L r S)) o := pd_Gs (i := .if_icmp .lt 12) (n := 3) rfl
theorem p109_249 : pd_G xs Ls d pd_m109 (249, L, st, S) o ↔ pd_K xs Ls d pd_m109 (mm_lA L 0 fun v => mm_go 250 L (v :: st) S) o := pd_Gs (i := .aload_n 0) (n := 1) rfl
theorem p109_250 : pd_G xs Ls d pd_m109 (250, L, st, S) o ↔ pd_K xs Ls d pd_m109 (mm_getf pd_ck 250 L st S 7 13) o := pd_Gs (i := .getfield 133) (n := 3) rfl
theorem p109_253 : pd_G xs Ls d pd_m109 (253, L, st, S) o ↔ pd_K xs Ls d pd_m109 (mm_go 255 L (.int 7 :: st) S) o := pd_Gs (i := .bipush 7) (n := 2) rfl
theorem p109_255 : pd_G xs Ls d pd_m109 (255, L, st, S) o ↔ pd_K xs Ls d pd_m109 (mm_ii st fun x y r => mm_icmp .ne x y (mm_go 265 L r S) (mm_go 258 L r S)) o := pd_Gs (i := .if_icmp .ne 10) (n := 3) rfl
theorem p109_258 : pd_G xs Ls d pd_m109 (258, L, st, S) o ↔ pd_K xs Ls d pd_m109 (mm_lA L 0 fun v => mm_go 259 L (v :: st) S) o := pd_Gs (i := .aload_n 0) (n := 1) rfl
theorem p109_259 : pd_G xs Ls d pd_m109 (259, L, st, S) o ↔ pd_K xs Ls d pd_m109 (mm_inv (mm_ev xs Ls pd_ck pd_ak pd_mj d) pd_m109 259 L st S 110 0 7) o := pd_Gs (i := .invokevirtual 149) (n := 3) rfl
theorem p109_262 : pd_G xs Ls d pd_m109 (262, L, st, S) o ↔ pd_K xs Ls d pd_m109 (mm_go 275 L st S) o := pd_Gs (i := .goto 13) (n := 3) rfl
theorem p109_265 : pd_G xs Ls d pd_m109 (265, L, st, S) o ↔ pd_K xs Ls d pd_m109 (mm_lA L 0 fun v => mm_go 266 L (v :: st) S) o := pd_Gs (i := .aload_n 0) (n := 1) rfl
theorem p109_266 : pd_G xs Ls d pd_m109 (266, L, st, S) o ↔ pd_K xs Ls d pd_m109 (mm_1 st fun v r => cond (mm_c2 v) none (mm_go 267 L (v :: v :: r) S)) o := pd_Gs (i := .dup) (n := 1) rfl
theorem p109_267 : pd_G xs Ls d pd_m109 (267, L, st, S) o ↔ pd_K xs Ls d pd_m109 (mm_getf pd_ck 267 L st S 7 11) o := pd_Gs (i := .getfield 97) (n := 3) rfl
theorem p109_270 : pd_G xs Ls d pd_m109 (270, L, st, S) o ↔ pd_K xs Ls d pd_m109 (mm_go 271 L (.int 1 :: st) S) o := pd_Gs (i := .iconst 1) (n := 1) rfl
theorem p109_271 : pd_G xs Ls d pd_m109 (271, L, st, S) o ↔ pd_K xs Ls d pd_m109 (mm_ii st fun x y r => mm_go 272 L (.int (x - y) :: r) S) o := pd_Gs (i := .isub) (n := 1) rfl
theorem p109_272 : pd_G xs Ls d pd_m109 (272, L, st, S) o ↔ pd_K xs Ls d pd_m109 (mm_putf pd_ck 272 L st S 7 11) o := pd_Gs (i := .putfield 97) (n := 3) rfl
theorem p109_275 : pd_G xs Ls d pd_m109 (275, L, st, S) o ↔ pd_K xs Ls d pd_m109 (mm_lA L 0 fun v => mm_go 276 L (v :: st) S) o := pd_Gs (i := .aload_n 0) (n := 1) rfl
theorem p109_276 : pd_G xs Ls d pd_m109 (276, L, st, S) o ↔ pd_K xs Ls d pd_m109 (mm_lI L 2 fun x => mm_go 277 L (.int x :: st) S) o := pd_Gs (i := .iload_n 2) (n := 1) rfl
theorem p109_277 : pd_G xs Ls d pd_m109 (277, L, st, S) o ↔ pd_K xs Ls d pd_m109 (mm_go 278 L (.int 4 :: st) S) o := pd_Gs (i := .iconst 4) (n := 1) rfl
theorem p109_278 : pd_G xs Ls d pd_m109 (278, L, st, S) o ↔ pd_K xs Ls d pd_m109 (mm_ii st fun x y r => mm_icmp .ne x y (mm_go 286 L r S) (mm_go 281 L r S)) o := pd_Gs (i := .if_icmp .ne 8) (n := 3) rfl
theorem p109_281 : pd_G xs Ls d pd_m109 (281, L, st, S) o ↔ pd_K xs Ls d pd_m109 (mm_go 283 L (.int 22 :: st) S) o := pd_Gs (i := .bipush 22) (n := 2) rfl
theorem p109_283 : pd_G xs Ls d pd_m109 (283, L, st, S) o ↔ pd_K xs Ls d pd_m109 (mm_go 302 L st S) o := pd_Gs (i := .goto 19) (n := 3) rfl
theorem p109_286 : pd_G xs Ls d pd_m109 (286, L, st, S) o ↔ pd_K xs Ls d pd_m109 (mm_lA L 0 fun v => mm_go 287 L (v :: st) S) o := pd_Gs (i := .aload_n 0) (n := 1) rfl
theorem p109_287 : pd_G xs Ls d pd_m109 (287, L, st, S) o ↔ pd_K xs Ls d pd_m109 (mm_getf pd_ck 287 L st S 7 13) o := pd_Gs (i := .getfield 133) (n := 3) rfl
theorem p109_290 : pd_G xs Ls d pd_m109 (290, L, st, S) o ↔ pd_K xs Ls d pd_m109 (mm_go 292 L (.int 7 :: st) S) o := pd_Gs (i := .bipush 7) (n := 2) rfl
theorem p109_292 : pd_G xs Ls d pd_m109 (292, L, st, S) o ↔ pd_K xs Ls d pd_m109 (mm_ii st fun x y r => mm_icmp .ne x y (mm_go 300 L r S) (mm_go 295 L r S)) o := pd_Gs (i := .if_icmp .ne 8) (n := 3) rfl
theorem p109_295 : pd_G xs Ls d pd_m109 (295, L, st, S) o ↔ pd_K xs Ls d pd_m109 (mm_go 297 L (.int 21 :: st) S) o := pd_Gs (i := .bipush 21) (n := 2) rfl
theorem p109_297 : pd_G xs Ls d pd_m109 (297, L, st, S) o ↔ pd_K xs Ls d pd_m109 (mm_go 302 L st S) o := pd_Gs (i := .goto 5) (n := 3) rfl
theorem p109_300 : pd_G xs Ls d pd_m109 (300, L, st, S) o ↔ pd_K xs Ls d pd_m109 (mm_go 302 L (.int 20 :: st) S) o := pd_Gs (i := .bipush 20) (n := 2) rfl
theorem p109_302 : pd_G xs Ls d pd_m109 (302, L, st, S) o ↔ pd_K xs Ls d pd_m109 (mm_lA L 0 fun v => mm_go 303 L (v :: st) S) o := pd_Gs (i := .aload_n 0) (n := 1) rfl
theorem p109_303 : pd_G xs Ls d pd_m109 (303, L, st, S) o ↔ pd_K xs Ls d pd_m109 (mm_getf pd_ck 303 L st S 7 13) o := pd_Gs (i := .getfield 133) (n := 3) rfl
theorem p109_306 : pd_G xs Ls d pd_m109 (306, L, st, S) o ↔ pd_K xs Ls d pd_m109 (mm_inv (mm_ev xs Ls pd_ck pd_ak pd_mj d) pd_m109 306 L st S 96 2 7) o := pd_Gs (i := .invokevirtual 112) (n := 3) rfl
theorem p109_309 : pd_G xs Ls d pd_m109 (309, L, st, S) o ↔ pd_K xs Ls d pd_m109 (mm_lA L 0 fun v => mm_go 310 L (v :: st) S) o := pd_Gs (i := .aload_n 0) (n := 1) rfl
theorem p109_310 : pd_G xs Ls d pd_m109 (310, L, st, S) o ↔ pd_K xs Ls d pd_m109 (mm_1 st fun v r => cond (mm_c2 v) none (mm_go 311 L (v :: v :: r) S)) o := pd_Gs (i := .dup) (n := 1) rfl
theorem p109_311 : pd_G xs Ls d pd_m109 (311, L, st, S) o ↔ pd_K xs Ls d pd_m109 (mm_getf pd_ck 311 L st S 7 10) o := pd_Gs (i := .getfield 94) (n := 3) rfl
theorem p109_314 : pd_G xs Ls d pd_m109 (314, L, st, S) o ↔ pd_K xs Ls d pd_m109 (mm_go 315 L (.int 1 :: st) S) o := pd_Gs (i := .iconst 1) (n := 1) rfl
theorem p109_315 : pd_G xs Ls d pd_m109 (315, L, st, S) o ↔ pd_K xs Ls d pd_m109 (mm_ii st fun x y r => mm_go 316 L (.int (x - y) :: r) S) o := pd_Gs (i := .isub) (n := 1) rfl
theorem p109_316 : pd_G xs Ls d pd_m109 (316, L, st, S) o ↔ pd_K xs Ls d pd_m109 (mm_putf pd_ck 316 L st S 7 10) o := pd_Gs (i := .putfield 94) (n := 3) rfl
theorem p109_319 : pd_G xs Ls d pd_m109 (319, L, st, S) o ↔ pd_K xs Ls d pd_m109 (mm_lA L 0 fun v => mm_go 320 L (v :: st) S) o := pd_Gs (i := .aload_n 0) (n := 1) rfl
theorem p109_320 : pd_G xs Ls d pd_m109 (320, L, st, S) o ↔ pd_K xs Ls d pd_m109 (mm_lI L 1 fun x => mm_go 321 L (.int x :: st) S) o := pd_Gs (i := .iload_n 1) (n := 1) rfl
theorem p109_321 : pd_G xs Ls d pd_m109 (321, L, st, S) o ↔ pd_K xs Ls d pd_m109 (mm_inv (mm_ev xs Ls pd_ck pd_ak pd_mj d) pd_m109 321 L st S 111 1 7) o := pd_Gs (i := .invokevirtual 152) (n := 3) rfl
theorem p109_324 : pd_G xs Ls d pd_m109 (324, L, st, S) o ↔ pd_K xs Ls d pd_m109 (mm_e0 S st) o := pd_Gs (i := .ireturn) (n := 1) rfl
theorem p110_0 : pd_G xs Ls d pd_m110 (0, L, st, S) o ↔ pd_K xs Ls d pd_m110 (mm_lA L 0 fun v => mm_go 1 L (v :: st) S) o := pd_Gs (i := .aload_n 0) (n := 1) rfl
theorem p110_1 : pd_G xs Ls d pd_m110 (1, L, st, S) o ↔ pd_K xs Ls d pd_m110 (mm_getf pd_ck 1 L st S 7 7) o := pd_Gs (i := .getfield 32) (n := 3) rfl
theorem p110_4 : pd_G xs Ls d pd_m110 (4, L, st, S) o ↔ pd_K xs Ls d pd_m110 (mm_lA L 0 fun v => mm_go 5 L (v :: st) S) o := pd_Gs (i := .aload_n 0) (n := 1) rfl
theorem p110_5 : pd_G xs Ls d pd_m110 (5, L, st, S) o ↔ pd_K xs Ls d pd_m110 (mm_1 st fun v r => cond (mm_c2 v) none (mm_go 6 L (v :: v :: r) S)) o := pd_Gs (i := .dup) (n := 1) rfl
theorem p110_6 : pd_G xs Ls d pd_m110 (6, L, st, S) o ↔ pd_K xs Ls d pd_m110 (mm_getf pd_ck 6 L st S 7 11) o := pd_Gs (i := .getfield 97) (n := 3) rfl
theorem p110_9 : pd_G xs Ls d pd_m110 (9, L, st, S) o ↔ pd_K xs Ls d pd_m110 (mm_go 10 L (.int 1 :: st) S) o := pd_Gs (i := .iconst 1) (n := 1) rfl
theorem p110_10 : pd_G xs Ls d pd_m110 (10, L, st, S) o ↔ pd_K xs Ls d pd_m110 (mm_ii st fun x y r => mm_go 11 L (.int (x - y) :: r) S) o := pd_Gs (i := .isub) (n := 1) rfl
theorem p110_11 : pd_G xs Ls d pd_m110 (11, L, st, S) o ↔ pd_K xs Ls d pd_m110 (mm_2 st fun v w r => cond (mm_c2 v || mm_c2 w) none (mm_go 12 L (v :: w :: v :: r) S)) o := pd_Gs (i := .dup_x1) (n := 1) rfl
theorem p110_12 : pd_G xs Ls d pd_m110 (12, L, st, S) o ↔ pd_K xs Ls d pd_m110 (mm_putf pd_ck 12 L st S 7 11) o := pd_Gs (i := .putfield 97) (n := 3) rfl
theorem p110_15 : pd_G xs Ls d pd_m110 (15, L, st, S) o ↔ pd_K xs Ls d pd_m110 (mm_ai pd_ak S st 4 fun i a r => mm_go 16 L (.int (S.2.1.1 a i.toNatClampNeg) :: r) S) o := pd_Gs (i := .baload) (n := 1) rfl
theorem p110_16 : pd_G xs Ls d pd_m110 (16, L, st, S) o ↔ pd_K xs Ls d pd_m110 (mm_i st fun x r => mm_icmp .eq x 0 (mm_go 24 L r S) (mm_go 19 L r S)) o := pd_Gs (i := .ifCond .eq 8) (n := 3) rfl
theorem p110_19 : pd_G xs Ls d pd_m110 (19, L, st, S) o ↔ pd_K xs Ls d pd_m110 (mm_lA L 0 fun v => mm_go 20 L (v :: st) S) o := pd_Gs (i := .aload_n 0) (n := 1) rfl
theorem p110_20 : pd_G xs Ls d pd_m110 (20, L, st, S) o ↔ pd_K xs Ls d pd_m110 (mm_go 21 L (.int 1 :: st) S) o := pd_Gs (i := .iconst 1) (n := 1) rfl
theorem p110_21 : pd_G xs Ls d pd_m110 (21, L, st, S) o ↔ pd_K xs Ls d pd_m110 (mm_putf pd_ck 21 L st S 7 16) o := pd_Gs (i := .putfield 108) (n := 3) rfl
theorem p110_24 : pd_G xs Ls d pd_m110 (24, L, st, S) o ↔ pd_K xs Ls d pd_m110 (mm_rV S st) o := pd_Gs (i := .return_) (n := 1) rfl
theorem p111_0 : pd_G xs Ls d pd_m111 (0, L, st, S) o ↔ pd_K xs Ls d pd_m111 (mm_lA L 0 fun v => mm_go 1 L (v :: st) S) o := pd_Gs (i := .aload_n 0) (n := 1) rfl
theorem p111_1 : pd_G xs Ls d pd_m111 (1, L, st, S) o ↔ pd_K xs Ls d pd_m111 (mm_inv (mm_ev xs Ls pd_ck pd_ak pd_mj d) pd_m111 1 L st S 99 0 7) o := pd_Gs (i := .invokevirtual 100) (n := 3) rfl
theorem p111_4 : pd_G xs Ls d pd_m111 (4, L, st, S) o ↔ pd_K xs Ls d pd_m111 (mm_i st fun x r => mm_go 5 (mm_sto L 0 2 (.int x)) r S) o := pd_Gs (i := .istore_n 2) (n := 1) rfl
theorem p111_5 : pd_G xs Ls d pd_m111 (5, L, st, S) o ↔ pd_K xs Ls d pd_m111 (mm_lI L 1 fun x => mm_go 6 L (.int x :: st) S) o := pd_Gs (i := .iload_n 1) (n := 1) rfl
theorem p111_6 : pd_G xs Ls d pd_m111 (6, L, st, S) o ↔ pd_K xs Ls d pd_m111 (mm_go 8 L (.int 59 :: st) S) o := pd_Gs (i := .bipush 59) (n := 2) rfl
theorem p111_8 : pd_G xs Ls d pd_m111 (8, L, st, S) o ↔ pd_K xs Ls d pd_m111 (mm_ii st fun x y r => mm_icmp .ne x y (mm_go 13 L r S) (mm_go 11 L r S)) o := pd_Gs (i := .if_icmp .ne 5) (n := 3) rfl
theorem p111_11 : pd_G xs Ls d pd_m111 (11, L, st, S) o ↔ pd_K xs Ls d pd_m111 (mm_go 12 L (.int 0 :: st) S) o := pd_Gs (i := .iconst 0) (n := 1) rfl
theorem p111_12 : pd_G xs Ls d pd_m111 (12, L, st, S) o ↔ pd_K xs Ls d pd_m111 (mm_e0 S st) o := pd_Gs (i := .ireturn) (n := 1) rfl
theorem p111_13 : pd_G xs Ls d pd_m111 (13, L, st, S) o ↔ pd_K xs Ls d pd_m111 (mm_lI L 1 fun x => mm_go 14 L (.int x :: st) S) o := pd_Gs (i := .iload_n 1) (n := 1) rfl
theorem p111_14 : pd_G xs Ls d pd_m111 (14, L, st, S) o ↔ pd_K xs Ls d pd_m111 (mm_i st fun x r => mm_icmp .ne x 0 (mm_go 31 L r S) (mm_go 17 L r S)) o := pd_Gs (i := .ifCond .ne 17) (n := 3) rfl
theorem p111_17 : pd_G xs Ls d pd_m111 (17, L, st, S) o ↔ pd_K xs Ls d pd_m111 (mm_lA L 0 fun v => mm_go 18 L (v :: st) S) o := pd_Gs (i := .aload_n 0) (n := 1) rfl
theorem p111_18 : pd_G xs Ls d pd_m111 (18, L, st, S) o ↔ pd_K xs Ls d pd_m111 (mm_getf pd_ck 18 L st S 7 10) o := pd_Gs (i := .getfield 94) (n := 3) rfl
theorem p111_21 : pd_G xs Ls d pd_m111 (21, L, st, S) o ↔ pd_K xs Ls d pd_m111 (mm_i st fun x r => mm_icmp .ne x 0 (mm_go 29 L r S) (mm_go 24 L r S)) o := pd_Gs (i := .ifCond .ne 8) (n := 3) rfl
theorem p111_24 : pd_G xs Ls d pd_m111 (24, L, st, S) o ↔ pd_K xs Ls d pd_m111 (mm_go 26 L (.int 10 :: st) S) o := pd_Gs (i := .bipush 10) (n := 2) rfl
theorem p111_26 : pd_G xs Ls d pd_m111 (26, L, st, S) o ↔ pd_K xs Ls d pd_m111 (mm_go 30 L st S) o := pd_Gs (i := .goto 4) (n := 3) rfl
theorem p111_29 : pd_G xs Ls d pd_m111 (29, L, st, S) o ↔ pd_K xs Ls d pd_m111 (mm_go 30 L (.int (-1) :: st) S) o := pd_Gs (i := .iconst (-1)) (n := 1) rfl
theorem p111_30 : pd_G xs Ls d pd_m111 (30, L, st, S) o ↔ pd_K xs Ls d pd_m111 (mm_e0 S st) o := pd_Gs (i := .ireturn) (n := 1) rfl
theorem p111_31 : pd_G xs Ls d pd_m111 (31, L, st, S) o ↔ pd_K xs Ls d pd_m111 (mm_lI L 1 fun x => mm_go 32 L (.int x :: st) S) o := pd_Gs (i := .iload_n 1) (n := 1) rfl
theorem p111_32 : pd_G xs Ls d pd_m111 (32, L, st, S) o ↔ pd_K xs Ls d pd_m111 (mm_go 34 L (.int 124 :: st) S) o := pd_Gs (i := .bipush 124) (n := 2) rfl
theorem p111_34 : pd_G xs Ls d pd_m111 (34, L, st, S) o ↔ pd_K xs Ls d pd_m111 (mm_ii st fun x y r => mm_icmp .ne x y (mm_go 89 L r S) (mm_go 37 L r S)) o := pd_Gs (i := .if_icmp .ne 55) (n := 3) rfl
theorem p111_37 : pd_G xs Ls d pd_m111 (37, L, st, S) o ↔ pd_K xs Ls d pd_m111 (mm_lI L 2 fun x => mm_go 38 L (.int x :: st) S) o := pd_Gs (i := .iload_n 2) (n := 1) rfl
theorem p111_38 : pd_G xs Ls d pd_m111 (38, L, st, S) o ↔ pd_K xs Ls d pd_m111 (mm_go 40 L (.int 12 :: st) S) o := pd_Gs (i := .bipush 12) (n := 2) rfl
theorem p111_40 : pd_G xs Ls d pd_m111 (40, L, st, S) o ↔ pd_K xs Ls d pd_m111 (mm_ii st fun x y r => mm_icmp .ne x y (mm_go 89 L r S) (mm_go 43 L r S)) o := pd_Gs (i := .if_icmp .ne 49) (n := 3) rfl
theorem p111_43 : pd_G xs Ls d pd_m111 (43, L, st, S) o ↔ pd_K xs Ls d pd_m111 (mm_lA L 0 fun v => mm_go 44 L (v :: st) S) o := pd_Gs (i := .aload_n 0) (n := 1) rfl
theorem p111_44 : pd_G xs Ls d pd_m111 (44, L, st, S) o ↔ pd_K xs Ls d pd_m111 (mm_go 46 L (.int 30 :: st) S) o := pd_Gs (i := .bipush 30) (n := 2) rfl
theorem p111_46 : pd_G xs Ls d pd_m111 (46, L, st, S) o ↔ pd_K xs Ls d pd_m111 (mm_go 47 L (.int 0 :: st) S) o := pd_Gs (i := .iconst 0) (n := 1) rfl
theorem p111_47 : pd_G xs Ls d pd_m111 (47, L, st, S) o ↔ pd_K xs Ls d pd_m111 (mm_inv (mm_ev xs Ls pd_ck pd_ak pd_mj d) pd_m111 47 L st S 96 2 7) o := pd_Gs (i := .invokevirtual 112) (n := 3) rfl
theorem p111_50 : pd_G xs Ls d pd_m111 (50, L, st, S) o ↔ pd_K xs Ls d pd_m111 (mm_lA L 0 fun v => mm_go 51 L (v :: st) S) o := pd_Gs (i := .aload_n 0) (n := 1) rfl
theorem p111_51 : pd_G xs Ls d pd_m111 (51, L, st, S) o ↔ pd_K xs Ls d pd_m111 (mm_getf pd_ck 51 L st S 7 2) o := pd_Gs (i := .getfield 16) (n := 3) rfl
theorem p111_54 : pd_G xs Ls d pd_m111 (54, L, st, S) o ↔ pd_K xs Ls d pd_m111 (mm_go 57 L (.int 512 :: st) S) o := pd_Gs (i := .sipush 512) (n := 3) rfl
theorem p111_57 : pd_G xs Ls d pd_m111 (57, L, st, S) o ↔ pd_K xs Ls d pd_m111 (mm_lA L 0 fun v => mm_go 58 L (v :: st) S) o := pd_Gs (i := .aload_n 0) (n := 1) rfl
theorem p111_58 : pd_G xs Ls d pd_m111 (58, L, st, S) o ↔ pd_K xs Ls d pd_m111 (mm_getf pd_ck 58 L st S 7 6) o := pd_Gs (i := .getfield 29) (n := 3) rfl
theorem p111_61 : pd_G xs Ls d pd_m111 (61, L, st, S) o ↔ pd_K xs Ls d pd_m111 (mm_lA L 0 fun v => mm_go 62 L (v :: st) S) o := pd_Gs (i := .aload_n 0) (n := 1) rfl
theorem p111_62 : pd_G xs Ls d pd_m111 (62, L, st, S) o ↔ pd_K xs Ls d pd_m111 (mm_getf pd_ck 62 L st S 7 10) o := pd_Gs (i := .getfield 94) (n := 3) rfl
theorem p111_65 : pd_G xs Ls d pd_m111 (65, L, st, S) o ↔ pd_K xs Ls d pd_m111 (mm_go 66 L (.int 1 :: st) S) o := pd_Gs (i := .iconst 1) (n := 1) rfl
theorem p111_66 : pd_G xs Ls d pd_m111 (66, L, st, S) o ↔ pd_K xs Ls d pd_m111 (mm_ii st fun x y r => mm_go 67 L (.int (x - y) :: r) S) o := pd_Gs (i := .isub) (n := 1) rfl
theorem p111_67 : pd_G xs Ls d pd_m111 (67, L, st, S) o ↔ pd_K xs Ls d pd_m111 (mm_ial xs Ls pd_ak 67 L S st) o := pd_Gs (i := .iaload) (n := 1) rfl
theorem p111_68 : pd_G xs Ls d pd_m111 (68, L, st, S) o ↔ pd_K xs Ls d pd_m111 (mm_ii st fun x y r => mm_go 69 L (.int (x + y) :: r) S) o := pd_Gs (i := .iadd) (n := 1) rfl
theorem p111_69 : pd_G xs Ls d pd_m111 (69, L, st, S) o ↔ pd_K xs Ls d pd_m111 (mm_lA L 0 fun v => mm_go 70 L (v :: st) S) o := pd_Gs (i := .aload_n 0) (n := 1) rfl
theorem p111_70 : pd_G xs Ls d pd_m111 (70, L, st, S) o ↔ pd_K xs Ls d pd_m111 (mm_getf pd_ck 70 L st S 7 12) o := pd_Gs (i := .getfield 91) (n := 3) rfl
theorem p111_73 : pd_G xs Ls d pd_m111 (73, L, st, S) o ↔ pd_K xs Ls d pd_m111 (mm_i st fun x st => mm_ai pd_ak S st 0 fun i a r => mm_go 74 L r (mm_sI S a i.toNatClampNeg x)) o := pd_Gs (i := .iastore) (n := 1) rfl
theorem p111_74 : pd_G xs Ls d pd_m111 (74, L, st, S) o ↔ pd_K xs Ls d pd_m111 (mm_lA L 0 fun v => mm_go 75 L (v :: st) S) o := pd_Gs (i := .aload_n 0) (n := 1) rfl
theorem p111_75 : pd_G xs Ls d pd_m111 (75, L, st, S) o ↔ pd_K xs Ls d pd_m111 (mm_getf pd_ck 75 L st S 7 5) o := pd_Gs (i := .getfield 26) (n := 3) rfl
theorem p111_78 : pd_G xs Ls d pd_m111 (78, L, st, S) o ↔ pd_K xs Ls d pd_m111 (mm_lA L 0 fun v => mm_go 79 L (v :: st) S) o := pd_Gs (i := .aload_n 0) (n := 1) rfl
theorem p111_79 : pd_G xs Ls d pd_m111 (79, L, st, S) o ↔ pd_K xs Ls d pd_m111 (mm_getf pd_ck 79 L st S 7 10) o := pd_Gs (i := .getfield 94) (n := 3) rfl
theorem p111_82 : pd_G xs Ls d pd_m111 (82, L, st, S) o ↔ pd_K xs Ls d pd_m111 (mm_go 83 L (.int 1 :: st) S) o := pd_Gs (i := .iconst 1) (n := 1) rfl
theorem p111_83 : pd_G xs Ls d pd_m111 (83, L, st, S) o ↔ pd_K xs Ls d pd_m111 (mm_ii st fun x y r => mm_go 84 L (.int (x - y) :: r) S) o := pd_Gs (i := .isub) (n := 1) rfl
theorem p111_84 : pd_G xs Ls d pd_m111 (84, L, st, S) o ↔ pd_K xs Ls d pd_m111 (mm_go 86 L (.int 13 :: st) S) o := pd_Gs (i := .bipush 13) (n := 2) rfl
theorem p111_86 : pd_G xs Ls d pd_m111 (86, L, st, S) o ↔ pd_K xs Ls d pd_m111 (mm_i st fun x st => mm_ai pd_ak S st 0 fun i a r => mm_go 87 L r (mm_sI S a i.toNatClampNeg x)) o := pd_Gs (i := .iastore) (n := 1) rfl
theorem p111_87 : pd_G xs Ls d pd_m111 (87, L, st, S) o ↔ pd_K xs Ls d pd_m111 (mm_go 88 L (.int 0 :: st) S) o := pd_Gs (i := .iconst 0) (n := 1) rfl
theorem p111_88 : pd_G xs Ls d pd_m111 (88, L, st, S) o ↔ pd_K xs Ls d pd_m111 (mm_e0 S st) o := pd_Gs (i := .ireturn) (n := 1) rfl
theorem p111_89 : pd_G xs Ls d pd_m111 (89, L, st, S) o ↔ pd_K xs Ls d pd_m111 (mm_lI L 1 fun x => mm_go 90 L (.int x :: st) S) o := pd_Gs (i := .iload_n 1) (n := 1) rfl
theorem p111_90 : pd_G xs Ls d pd_m111 (90, L, st, S) o ↔ pd_K xs Ls d pd_m111 (mm_go 92 L (.int 125 :: st) S) o := pd_Gs (i := .bipush 125) (n := 2) rfl
theorem p111_92 : pd_G xs Ls d pd_m111 (92, L, st, S) o ↔ pd_K xs Ls d pd_m111 (mm_ii st fun x y r => mm_icmp .ne x y (mm_go 113 L r S) (mm_go 95 L r S)) o := pd_Gs (i := .if_icmp .ne 21) (n := 3) rfl
theorem p111_95 : pd_G xs Ls d pd_m111 (95, L, st, S) o ↔ pd_K xs Ls d pd_m111 (mm_lI L 2 fun x => mm_go 96 L (.int x :: st) S) o := pd_Gs (i := .iload_n 2) (n := 1) rfl
theorem p111_96 : pd_G xs Ls d pd_m111 (96, L, st, S) o ↔ pd_K xs Ls d pd_m111 (mm_go 98 L (.int 10 :: st) S) o := pd_Gs (i := .bipush 10) (n := 2) rfl
theorem p111_98 : pd_G xs Ls d pd_m111 (98, L, st, S) o ↔ pd_K xs Ls d pd_m111 (mm_ii st fun x y r => mm_icmp .eq x y (mm_go 115 L r S) (mm_go 101 L r S)) o := pd_Gs (i := .if_icmp .eq 17) (n := 3) rfl
theorem p111_101 : pd_G xs Ls d pd_m111 (101, L, st, S) o ↔ pd_K xs Ls d pd_m111 (mm_lI L 2 fun x => mm_go 102 L (.int x :: st) S) o := pd_Gs (i := .iload_n 2) (n := 1) rfl
theorem p111_102 : pd_G xs Ls d pd_m111 (102, L, st, S) o ↔ pd_K xs Ls d pd_m111 (mm_go 104 L (.int 11 :: st) S) o := pd_Gs (i := .bipush 11) (n := 2) rfl
theorem p111_104 : pd_G xs Ls d pd_m111 (104, L, st, S) o ↔ pd_K xs Ls d pd_m111 (mm_ii st fun x y r => mm_icmp .eq x y (mm_go 115 L r S) (mm_go 107 L r S)) o := pd_Gs (i := .if_icmp .eq 11) (n := 3) rfl
theorem p111_107 : pd_G xs Ls d pd_m111 (107, L, st, S) o ↔ pd_K xs Ls d pd_m111 (mm_lI L 2 fun x => mm_go 108 L (.int x :: st) S) o := pd_Gs (i := .iload_n 2) (n := 1) rfl
theorem p111_108 : pd_G xs Ls d pd_m111 (108, L, st, S) o ↔ pd_K xs Ls d pd_m111 (mm_go 110 L (.int 13 :: st) S) o := pd_Gs (i := .bipush 13) (n := 2) rfl
theorem p111_110 : pd_G xs Ls d pd_m111 (110, L, st, S) o ↔ pd_K xs Ls d pd_m111 (mm_ii st fun x y r => mm_icmp .eq x y (mm_go 115 L r S) (mm_go 113 L r S)) o := pd_Gs (i := .if_icmp .eq 5) (n := 3) rfl
theorem p111_113 : pd_G xs Ls d pd_m111 (113, L, st, S) o ↔ pd_K xs Ls d pd_m111 (mm_go 114 L (.int (-1) :: st) S) o := pd_Gs (i := .iconst (-1)) (n := 1) rfl
theorem p111_114 : pd_G xs Ls d pd_m111 (114, L, st, S) o ↔ pd_K xs Ls d pd_m111 (mm_e0 S st) o := pd_Gs (i := .ireturn) (n := 1) rfl
theorem p111_115 : pd_G xs Ls d pd_m111 (115, L, st, S) o ↔ pd_K xs Ls d pd_m111 (mm_lA L 0 fun v => mm_go 116 L (v :: st) S) o := pd_Gs (i := .aload_n 0) (n := 1) rfl
theorem p111_116 : pd_G xs Ls d pd_m111 (116, L, st, S) o ↔ pd_K xs Ls d pd_m111 (mm_1 st fun v r => cond (mm_c2 v) none (mm_go 117 L (v :: v :: r) S)) o := pd_Gs (i := .dup) (n := 1) rfl
theorem p111_117 : pd_G xs Ls d pd_m111 (117, L, st, S) o ↔ pd_K xs Ls d pd_m111 (mm_getf pd_ck 117 L st S 7 10) o := pd_Gs (i := .getfield 94) (n := 3) rfl
theorem p111_120 : pd_G xs Ls d pd_m111 (120, L, st, S) o ↔ pd_K xs Ls d pd_m111 (mm_go 121 L (.int 1 :: st) S) o := pd_Gs (i := .iconst 1) (n := 1) rfl
theorem p111_121 : pd_G xs Ls d pd_m111 (121, L, st, S) o ↔ pd_K xs Ls d pd_m111 (mm_ii st fun x y r => mm_go 122 L (.int (x - y) :: r) S) o := pd_Gs (i := .isub) (n := 1) rfl
theorem p111_122 : pd_G xs Ls d pd_m111 (122, L, st, S) o ↔ pd_K xs Ls d pd_m111 (mm_putf pd_ck 122 L st S 7 10) o := pd_Gs (i := .putfield 94) (n := 3) rfl
theorem p111_125 : pd_G xs Ls d pd_m111 (125, L, st, S) o ↔ pd_K xs Ls d pd_m111 (mm_lA L 0 fun v => mm_go 126 L (v :: st) S) o := pd_Gs (i := .aload_n 0) (n := 1) rfl
theorem p111_126 : pd_G xs Ls d pd_m111 (126, L, st, S) o ↔ pd_K xs Ls d pd_m111 (mm_1 st fun v r => cond (mm_c2 v) none (mm_go 127 L (v :: v :: r) S)) o := pd_Gs (i := .dup) (n := 1) rfl
theorem p111_127 : pd_G xs Ls d pd_m111 (127, L, st, S) o ↔ pd_K xs Ls d pd_m111 (mm_getf pd_ck 127 L st S 7 15) o := pd_Gs (i := .getfield 116) (n := 3) rfl
theorem p111_130 : pd_G xs Ls d pd_m111 (130, L, st, S) o ↔ pd_K xs Ls d pd_m111 (mm_go 131 L (.int 1 :: st) S) o := pd_Gs (i := .iconst 1) (n := 1) rfl
theorem p111_131 : pd_G xs Ls d pd_m111 (131, L, st, S) o ↔ pd_K xs Ls d pd_m111 (mm_ii st fun x y r => mm_go 132 L (.int (x - y) :: r) S) o := pd_Gs (i := .isub) (n := 1) rfl
theorem p111_132 : pd_G xs Ls d pd_m111 (132, L, st, S) o ↔ pd_K xs Ls d pd_m111 (mm_putf pd_ck 132 L st S 7 15) o := pd_Gs (i := .putfield 116) (n := 3) rfl
theorem p111_135 : pd_G xs Ls d pd_m111 (135, L, st, S) o ↔ pd_K xs Ls d pd_m111 (mm_lA L 0 fun v => mm_go 136 L (v :: st) S) o := pd_Gs (i := .aload_n 0) (n := 1) rfl
theorem p111_136 : pd_G xs Ls d pd_m111 (136, L, st, S) o ↔ pd_K xs Ls d pd_m111 (mm_getf pd_ck 136 L st S 7 6) o := pd_Gs (i := .getfield 29) (n := 3) rfl
theorem p111_139 : pd_G xs Ls d pd_m111 (139, L, st, S) o ↔ pd_K xs Ls d pd_m111 (mm_lA L 0 fun v => mm_go 140 L (v :: st) S) o := pd_Gs (i := .aload_n 0) (n := 1) rfl
theorem p111_140 : pd_G xs Ls d pd_m111 (140, L, st, S) o ↔ pd_K xs Ls d pd_m111 (mm_getf pd_ck 140 L st S 7 10) o := pd_Gs (i := .getfield 94) (n := 3) rfl
theorem p111_143 : pd_G xs Ls d pd_m111 (143, L, st, S) o ↔ pd_K xs Ls d pd_m111 (mm_ial xs Ls pd_ak 143 L S st) o := pd_Gs (i := .iaload) (n := 1) rfl
theorem p111_144 : pd_G xs Ls d pd_m111 (144, L, st, S) o ↔ pd_K xs Ls d pd_m111 (mm_i st fun x r => mm_go 145 (mm_sto L 0 3 (.int x)) r S) o := pd_Gs (i := .istore_n 3) (n := 1) rfl
theorem p111_145 : pd_G xs Ls d pd_m111 (145, L, st, S) o ↔ pd_K xs Ls d pd_m111 (mm_lI L 2 fun x => mm_go 146 L (.int x :: st) S) o := pd_Gs (i := .iload_n 2) (n := 1) rfl
theorem p111_146 : pd_G xs Ls d pd_m111 (146, L, st, S) o ↔ pd_K xs Ls d pd_m111 (mm_go 148 L (.int 13 :: st) S) o := pd_Gs (i := .bipush 13) (n := 2) rfl
theorem p111_148 : pd_G xs Ls d pd_m111 (148, L, st, S) o ↔ pd_K xs Ls d pd_m111 (mm_ii st fun x y r => mm_icmp .ne x y (mm_go 175 L r S) (mm_go 151 L r S)) o := pd_Gs (i := .if_icmp .ne 27) (n := 3) rfl
theorem p111_151 : pd_G xs Ls d pd_m111 (151, L, st, S) o ↔ pd_K xs Ls d pd_m111 (mm_lA L 0 fun v => mm_go 152 L (v :: st) S) o := pd_Gs (i := .aload_n 0) (n := 1) rfl
theorem p111_152 : pd_G xs Ls d pd_m111 (152, L, st, S) o ↔ pd_K xs Ls d pd_m111 (mm_go 154 L (.int 30 :: st) S) o := pd_Gs (i := .bipush 30) (n := 2) rfl
theorem p111_154 : pd_G xs Ls d pd_m111 (154, L, st, S) o ↔ pd_K xs Ls d pd_m111 (mm_go 155 L (.int 0 :: st) S) o := pd_Gs (i := .iconst 0) (n := 1) rfl
theorem p111_155 : pd_G xs Ls d pd_m111 (155, L, st, S) o ↔ pd_K xs Ls d pd_m111 (mm_inv (mm_ev xs Ls pd_ck pd_ak pd_mj d) pd_m111 155 L st S 96 2 7) o := pd_Gs (i := .invokevirtual 112) (n := 3) rfl
theorem p111_158 : pd_G xs Ls d pd_m111 (158, L, st, S) o ↔ pd_K xs Ls d pd_m111 (mm_lA L 0 fun v => mm_go 159 L (v :: st) S) o := pd_Gs (i := .aload_n 0) (n := 1) rfl
theorem p111_159 : pd_G xs Ls d pd_m111 (159, L, st, S) o ↔ pd_K xs Ls d pd_m111 (mm_getf pd_ck 159 L st S 7 3) o := pd_Gs (i := .getfield 19) (n := 3) rfl
theorem p111_162 : pd_G xs Ls d pd_m111 (162, L, st, S) o ↔ pd_K xs Ls d pd_m111 (mm_go 165 L (.int 512 :: st) S) o := pd_Gs (i := .sipush 512) (n := 3) rfl
theorem p111_165 : pd_G xs Ls d pd_m111 (165, L, st, S) o ↔ pd_K xs Ls d pd_m111 (mm_lI L 3 fun x => mm_go 166 L (.int x :: st) S) o := pd_Gs (i := .iload_n 3) (n := 1) rfl
theorem p111_166 : pd_G xs Ls d pd_m111 (166, L, st, S) o ↔ pd_K xs Ls d pd_m111 (mm_ii st fun x y r => mm_go 167 L (.int (x + y) :: r) S) o := pd_Gs (i := .iadd) (n := 1) rfl
theorem p111_167 : pd_G xs Ls d pd_m111 (167, L, st, S) o ↔ pd_K xs Ls d pd_m111 (mm_lA L 0 fun v => mm_go 168 L (v :: st) S) o := pd_Gs (i := .aload_n 0) (n := 1) rfl
theorem p111_168 : pd_G xs Ls d pd_m111 (168, L, st, S) o ↔ pd_K xs Ls d pd_m111 (mm_getf pd_ck 168 L st S 7 12) o := pd_Gs (i := .getfield 91) (n := 3) rfl
theorem p111_171 : pd_G xs Ls d pd_m111 (171, L, st, S) o ↔ pd_K xs Ls d pd_m111 (mm_i st fun x st => mm_ai pd_ak S st 0 fun i a r => mm_go 172 L r (mm_sI S a i.toNatClampNeg x)) o := pd_Gs (i := .iastore) (n := 1) rfl
theorem p111_172 : pd_G xs Ls d pd_m111 (172, L, st, S) o ↔ pd_K xs Ls d pd_m111 (mm_go 228 L st S) o := pd_Gs (i := .goto 56) (n := 3) rfl
theorem p111_175 : pd_G xs Ls d pd_m111 (175, L, st, S) o ↔ pd_K xs Ls d pd_m111 (mm_lI L 2 fun x => mm_go 176 L (.int x :: st) S) o := pd_Gs (i := .iload_n 2) (n := 1) rfl
theorem p111_176 : pd_G xs Ls d pd_m111 (176, L, st, S) o ↔ pd_K xs Ls d pd_m111 (mm_go 178 L (.int 11 :: st) S) o := pd_Gs (i := .bipush 11) (n := 2) rfl
theorem p111_178 : pd_G xs Ls d pd_m111 (178, L, st, S) o ↔ pd_K xs Ls d pd_m111 (mm_ii st fun x y r => mm_icmp .ne x y (mm_go 188 L r S) (mm_go 181 L r S)) o := pd_Gs (i := .if_icmp .ne 10) (n := 3) rfl
theorem p111_181 : pd_G xs Ls d pd_m111 (181, L, st, S) o ↔ pd_K xs Ls d pd_m111 (mm_lA L 0 fun v => mm_go 182 L (v :: st) S) o := pd_Gs (i := .aload_n 0) (n := 1) rfl
theorem p111_182 : pd_G xs Ls d pd_m111 (182, L, st, S) o ↔ pd_K xs Ls d pd_m111 (mm_go 184 L (.int 29 :: st) S) o := pd_Gs (i := .bipush 29) (n := 2) rfl
theorem p111_184 : pd_G xs Ls d pd_m111 (184, L, st, S) o ↔ pd_K xs Ls d pd_m111 (mm_lI L 3 fun x => mm_go 185 L (.int x :: st) S) o := pd_Gs (i := .iload_n 3) (n := 1) rfl
theorem p111_185 : pd_G xs Ls d pd_m111 (185, L, st, S) o ↔ pd_K xs Ls d pd_m111 (mm_inv (mm_ev xs Ls pd_ck pd_ak pd_mj d) pd_m111 185 L st S 96 2 7) o := pd_Gs (i := .invokevirtual 112) (n := 3) rfl
theorem p111_188 : pd_G xs Ls d pd_m111 (188, L, st, S) o ↔ pd_K xs Ls d pd_m111 (mm_lI L 3 fun x => mm_go 189 L (.int x :: st) S) o := pd_Gs (i := .iload_n 3) (n := 1) rfl
theorem p111_189 : pd_G xs Ls d pd_m111 (189, L, st, S) o ↔ pd_K xs Ls d pd_m111 (mm_i st fun x r => mm_go 191 (mm_sto L 0 4 (.int x)) r S) o := pd_Gs (i := .istore 4) (n := 2) rfl
theorem p111_191 : pd_G xs Ls d pd_m111 (191, L, st, S) o ↔ pd_K xs Ls d pd_m111 (mm_lA L 0 fun v => mm_go 192 L (v :: st) S) o := pd_Gs (i := .aload_n 0) (n := 1) rfl
theorem p111_192 : pd_G xs Ls d pd_m111 (192, L, st, S) o ↔ pd_K xs Ls d pd_m111 (mm_getf pd_ck 192 L st S 7 1) o := pd_Gs (i := .getfield 13) (n := 3) rfl
theorem p111_195 : pd_G xs Ls d pd_m111 (195, L, st, S) o ↔ pd_K xs Ls d pd_m111 (mm_go 198 L (.int 512 :: st) S) o := pd_Gs (i := .sipush 512) (n := 3) rfl
theorem p111_198 : pd_G xs Ls d pd_m111 (198, L, st, S) o ↔ pd_K xs Ls d pd_m111 (mm_lI L 4 fun x => mm_go 200 L (.int x :: st) S) o := pd_Gs (i := .iload 4) (n := 2) rfl
theorem p111_200 : pd_G xs Ls d pd_m111 (200, L, st, S) o ↔ pd_K xs Ls d pd_m111 (mm_ii st fun x y r => mm_go 201 L (.int (x + y) :: r) S) o := pd_Gs (i := .iadd) (n := 1) rfl
theorem p111_201 : pd_G xs Ls d pd_m111 (201, L, st, S) o ↔ pd_K xs Ls d pd_m111 (mm_ial xs Ls pd_ak 201 L S st) o := pd_Gs (i := .iaload) (n := 1) rfl
theorem p111_202 : pd_G xs Ls d pd_m111 (202, L, st, S) o ↔ pd_K xs Ls d pd_m111 (mm_go 204 L (.int 28 :: st) S) o := pd_Gs (i := .bipush 28) (n := 2) rfl
theorem p111_204 : pd_G xs Ls d pd_m111 (204, L, st, S) o ↔ pd_K xs Ls d pd_m111 (mm_ii st fun x y r => mm_icmp .eq x y (mm_go 213 L r S) (mm_go 207 L r S)) o := pd_Gs (i := .if_icmp .eq 9) (n := 3) rfl
theorem p111_207 : pd_G xs Ls d pd_m111 (207, L, st, S) o ↔ pd_K xs Ls d pd_m111 (mm_lI L 4 fun x => mm_go 210 (mm_sto L 0 4 (.int (x + 1))) st S) o := pd_Gs (i := .iinc 4 1) (n := 3) rfl
theorem p111_210 : pd_G xs Ls d pd_m111 (210, L, st, S) o ↔ pd_K xs Ls d pd_m111 (mm_go 191 L st S) o := pd_Gs (i := .goto (-19)) (n := 3) rfl
theorem p111_213 : pd_G xs Ls d pd_m111 (213, L, st, S) o ↔ pd_K xs Ls d pd_m111 (mm_lA L 0 fun v => mm_go 214 L (v :: st) S) o := pd_Gs (i := .aload_n 0) (n := 1) rfl
theorem p111_214 : pd_G xs Ls d pd_m111 (214, L, st, S) o ↔ pd_K xs Ls d pd_m111 (mm_getf pd_ck 214 L st S 7 2) o := pd_Gs (i := .getfield 16) (n := 3) rfl
theorem p111_217 : pd_G xs Ls d pd_m111 (217, L, st, S) o ↔ pd_K xs Ls d pd_m111 (mm_go 220 L (.int 512 :: st) S) o := pd_Gs (i := .sipush 512) (n := 3) rfl
theorem p111_220 : pd_G xs Ls d pd_m111 (220, L, st, S) o ↔ pd_K xs Ls d pd_m111 (mm_lI L 4 fun x => mm_go 222 L (.int x :: st) S) o := pd_Gs (i := .iload 4) (n := 2) rfl
theorem p111_222 : pd_G xs Ls d pd_m111 (222, L, st, S) o ↔ pd_K xs Ls d pd_m111 (mm_ii st fun x y r => mm_go 223 L (.int (x + y) :: r) S) o := pd_Gs (i := .iadd) (n := 1) rfl
theorem p111_223 : pd_G xs Ls d pd_m111 (223, L, st, S) o ↔ pd_K xs Ls d pd_m111 (mm_lA L 0 fun v => mm_go 224 L (v :: st) S) o := pd_Gs (i := .aload_n 0) (n := 1) rfl
theorem p111_224 : pd_G xs Ls d pd_m111 (224, L, st, S) o ↔ pd_K xs Ls d pd_m111 (mm_getf pd_ck 224 L st S 7 12) o := pd_Gs (i := .getfield 91) (n := 3) rfl
theorem p111_227 : pd_G xs Ls d pd_m111 (227, L, st, S) o ↔ pd_K xs Ls d pd_m111 (mm_i st fun x st => mm_ai pd_ak S st 0 fun i a r => mm_go 228 L r (mm_sI S a i.toNatClampNeg x)) o := pd_Gs (i := .iastore) (n := 1) rfl
theorem p111_228 : pd_G xs Ls d pd_m111 (228, L, st, S) o ↔ pd_K xs Ls d pd_m111 (mm_go 229 L (.int 3 :: st) S) o := pd_Gs (i := .iconst 3) (n := 1) rfl
theorem p111_229 : pd_G xs Ls d pd_m111 (229, L, st, S) o ↔ pd_K xs Ls d pd_m111 (mm_e0 S st) o := pd_Gs (i := .ireturn) (n := 1) rfl
theorem p112_0 : pd_G xs Ls d pd_m112 (0, L, st, S) o ↔ pd_K xs Ls d pd_m112 (mm_lI L 1 fun x => mm_go 1 L (.int x :: st) S) o := pd_Gs (i := .iload_n 1) (n := 1) rfl
theorem p112_1 : pd_G xs Ls d pd_m112 (1, L, st, S) o ↔ pd_K xs Ls d pd_m112 (mm_go 2 L (.int 4 :: st) S) o := pd_Gs (i := .iconst 4) (n := 1) rfl
theorem p112_2 : pd_G xs Ls d pd_m112 (2, L, st, S) o ↔ pd_K xs Ls d pd_m112 (mm_ii st fun x y r => mm_icmp .ne x y (mm_go 46 L r S) (mm_go 5 L r S)) o := pd_Gs (i := .if_icmp .ne 44) (n := 3) rfl
theorem p112_5 : pd_G xs Ls d pd_m112 (5, L, st, S) o ↔ pd_K xs Ls d pd_m112 (mm_lI L 2 fun x => mm_go 6 L (.int x :: st) S) o := pd_Gs (i := .iload_n 2) (n := 1) rfl
theorem p112_6 : pd_G xs Ls d pd_m112 (6, L, st, S) o ↔ pd_K xs Ls d pd_m112 (mm_go 8 L (.int 123 :: st) S) o := pd_Gs (i := .bipush 123) (n := 2) rfl
theorem p112_8 : pd_G xs Ls d pd_m112 (8, L, st, S) o ↔ pd_K xs Ls d pd_m112 (mm_ii st fun x y r => mm_icmp .ne x y (mm_go 19 L r S) (mm_go 11 L r S)) o := pd_Gs (i := .if_icmp .ne 11) (n := 3) rfl
theorem p112_11 : pd_G xs Ls d pd_m112 (11, L, st, S) o ↔ pd_K xs Ls d pd_m112 (mm_lA L 0 fun v => mm_go 12 L (v :: st) S) o := pd_Gs (i := .aload_n 0) (n := 1) rfl
theorem p112_12 : pd_G xs Ls d pd_m112 (12, L, st, S) o ↔ pd_K xs Ls d pd_m112 (mm_getf pd_ck 12 L st S 7 15) o := pd_Gs (i := .getfield 116) (n := 3) rfl
theorem p112_15 : pd_G xs Ls d pd_m112 (15, L, st, S) o ↔ pd_K xs Ls d pd_m112 (mm_go 16 L (.int 5 :: st) S) o := pd_Gs (i := .iconst 5) (n := 1) rfl
theorem p112_16 : pd_G xs Ls d pd_m112 (16, L, st, S) o ↔ pd_K xs Ls d pd_m112 (mm_ii st fun x y r => mm_icmp .ne x y (mm_go 21 L r S) (mm_go 19 L r S)) o := pd_Gs (i := .if_icmp .ne 5) (n := 3) rfl
theorem p112_19 : pd_G xs Ls d pd_m112 (19, L, st, S) o ↔ pd_K xs Ls d pd_m112 (mm_go 20 L (.int (-1) :: st) S) o := pd_Gs (i := .iconst (-1)) (n := 1) rfl
theorem p112_20 : pd_G xs Ls d pd_m112 (20, L, st, S) o ↔ pd_K xs Ls d pd_m112 (mm_e0 S st) o := pd_Gs (i := .ireturn) (n := 1) rfl
theorem p112_21 : pd_G xs Ls d pd_m112 (21, L, st, S) o ↔ pd_K xs Ls d pd_m112 (mm_lA L 0 fun v => mm_go 22 L (v :: st) S) o := pd_Gs (i := .aload_n 0) (n := 1) rfl
theorem p112_22 : pd_G xs Ls d pd_m112 (22, L, st, S) o ↔ pd_K xs Ls d pd_m112 (mm_1 st fun v r => cond (mm_c2 v) none (mm_go 23 L (v :: v :: r) S)) o := pd_Gs (i := .dup) (n := 1) rfl
theorem p112_23 : pd_G xs Ls d pd_m112 (23, L, st, S) o ↔ pd_K xs Ls d pd_m112 (mm_getf pd_ck 23 L st S 7 15) o := pd_Gs (i := .getfield 116) (n := 3) rfl
theorem p112_26 : pd_G xs Ls d pd_m112 (26, L, st, S) o ↔ pd_K xs Ls d pd_m112 (mm_go 27 L (.int 1 :: st) S) o := pd_Gs (i := .iconst 1) (n := 1) rfl
theorem p112_27 : pd_G xs Ls d pd_m112 (27, L, st, S) o ↔ pd_K xs Ls d pd_m112 (mm_ii st fun x y r => mm_go 28 L (.int (x + y) :: r) S) o := pd_Gs (i := .iadd) (n := 1) rfl
theorem p112_28 : pd_G xs Ls d pd_m112 (28, L, st, S) o ↔ pd_K xs Ls d pd_m112 (mm_putf pd_ck 28 L st S 7 15) o := pd_Gs (i := .putfield 116) (n := 3) rfl
theorem p112_31 : pd_G xs Ls d pd_m112 (31, L, st, S) o ↔ pd_K xs Ls d pd_m112 (mm_lA L 0 fun v => mm_go 32 L (v :: st) S) o := pd_Gs (i := .aload_n 0) (n := 1) rfl
theorem p112_32 : pd_G xs Ls d pd_m112 (32, L, st, S) o ↔ pd_K xs Ls d pd_m112 (mm_go 34 L (.int 12 :: st) S) o := pd_Gs (i := .bipush 12) (n := 2) rfl
theorem p112_34 : pd_G xs Ls d pd_m112 (34, L, st, S) o ↔ pd_K xs Ls d pd_m112 (mm_inv (mm_ev xs Ls pd_ck pd_ak pd_mj d) pd_m112 34 L st S 103 1 7) o := pd_Gs (i := .invokevirtual 119) (n := 3) rfl
theorem p112_37 : pd_G xs Ls d pd_m112 (37, L, st, S) o ↔ pd_K xs Ls d pd_m112 (mm_lA L 0 fun v => mm_go 38 L (v :: st) S) o := pd_Gs (i := .aload_n 0) (n := 1) rfl
theorem p112_38 : pd_G xs Ls d pd_m112 (38, L, st, S) o ↔ pd_K xs Ls d pd_m112 (mm_go 40 L (.int 26 :: st) S) o := pd_Gs (i := .bipush 26) (n := 2) rfl
theorem p112_40 : pd_G xs Ls d pd_m112 (40, L, st, S) o ↔ pd_K xs Ls d pd_m112 (mm_go 41 L (.int 0 :: st) S) o := pd_Gs (i := .iconst 0) (n := 1) rfl
theorem p112_41 : pd_G xs Ls d pd_m112 (41, L, st, S) o ↔ pd_K xs Ls d pd_m112 (mm_inv (mm_ev xs Ls pd_ck pd_ak pd_mj d) pd_m112 41 L st S 96 2 7) o := pd_Gs (i := .invokevirtual 112) (n := 3) rfl
theorem p112_44 : pd_G xs Ls d pd_m112 (44, L, st, S) o ↔ pd_K xs Ls d pd_m112 (mm_go 45 L (.int 0 :: st) S) o := pd_Gs (i := .iconst 0) (n := 1) rfl
theorem p112_45 : pd_G xs Ls d pd_m112 (45, L, st, S) o ↔ pd_K xs Ls d pd_m112 (mm_e0 S st) o := pd_Gs (i := .ireturn) (n := 1) rfl
theorem p112_46 : pd_G xs Ls d pd_m112 (46, L, st, S) o ↔ pd_K xs Ls d pd_m112 (mm_lI L 1 fun x => mm_go 47 L (.int x :: st) S) o := pd_Gs (i := .iload_n 1) (n := 1) rfl
theorem p112_47 : pd_G xs Ls d pd_m112 (47, L, st, S) o ↔ pd_K xs Ls d pd_m112 (mm_go 48 L (.int 5 :: st) S) o := pd_Gs (i := .iconst 5) (n := 1) rfl
theorem p112_48 : pd_G xs Ls d pd_m112 (48, L, st, S) o ↔ pd_K xs Ls d pd_m112 (mm_ii st fun x y r => mm_icmp .eq x y (mm_go 57 L r S) (mm_go 51 L r S)) o := pd_Gs (i := .if_icmp .eq 9) (n := 3) rfl
theorem p112_51 : pd_G xs Ls d pd_m112 (51, L, st, S) o ↔ pd_K xs Ls d pd_m112 (mm_lI L 1 fun x => mm_go 52 L (.int x :: st) S) o := pd_Gs (i := .iload_n 1) (n := 1) rfl
theorem p112_52 : pd_G xs Ls d pd_m112 (52, L, st, S) o ↔ pd_K xs Ls d pd_m112 (mm_go 54 L (.int 6 :: st) S) o := pd_Gs (i := .bipush 6) (n := 2) rfl
theorem p112_54 : pd_G xs Ls d pd_m112 (54, L, st, S) o ↔ pd_K xs Ls d pd_m112 (mm_ii st fun x y r => mm_icmp .ne x y (mm_go 83 L r S) (mm_go 57 L r S)) o := pd_Gs (i := .if_icmp .ne 29) (n := 3) rfl
theorem p112_57 : pd_G xs Ls d pd_m112 (57, L, st, S) o ↔ pd_K xs Ls d pd_m112 (mm_lI L 2 fun x => mm_go 58 L (.int x :: st) S) o := pd_Gs (i := .iload_n 2) (n := 1) rfl
theorem p112_58 : pd_G xs Ls d pd_m112 (58, L, st, S) o ↔ pd_K xs Ls d pd_m112 (mm_go 60 L (.int 91 :: st) S) o := pd_Gs (i := .bipush 91) (n := 2) rfl
theorem p112_60 : pd_G xs Ls d pd_m112 (60, L, st, S) o ↔ pd_K xs Ls d pd_m112 (mm_ii st fun x y r => mm_icmp .ne x y (mm_go 81 L r S) (mm_go 63 L r S)) o := pd_Gs (i := .if_icmp .ne 21) (n := 3) rfl
theorem p112_63 : pd_G xs Ls d pd_m112 (63, L, st, S) o ↔ pd_K xs Ls d pd_m112 (mm_lA L 0 fun v => mm_go 64 L (v :: st) S) o := pd_Gs (i := .aload_n 0) (n := 1) rfl
theorem p112_64 : pd_G xs Ls d pd_m112 (64, L, st, S) o ↔ pd_K xs Ls d pd_m112 (mm_lI L 1 fun x => mm_go 65 L (.int x :: st) S) o := pd_Gs (i := .iload_n 1) (n := 1) rfl
theorem p112_65 : pd_G xs Ls d pd_m112 (65, L, st, S) o ↔ pd_K xs Ls d pd_m112 (mm_go 66 L (.int 5 :: st) S) o := pd_Gs (i := .iconst 5) (n := 1) rfl
theorem p112_66 : pd_G xs Ls d pd_m112 (66, L, st, S) o ↔ pd_K xs Ls d pd_m112 (mm_ii st fun x y r => mm_icmp .ne x y (mm_go 74 L r S) (mm_go 69 L r S)) o := pd_Gs (i := .if_icmp .ne 8) (n := 3) rfl
theorem p112_69 : pd_G xs Ls d pd_m112 (69, L, st, S) o ↔ pd_K xs Ls d pd_m112 (mm_go 71 L (.int 7 :: st) S) o := pd_Gs (i := .bipush 7) (n := 2) rfl
theorem p112_71 : pd_G xs Ls d pd_m112 (71, L, st, S) o ↔ pd_K xs Ls d pd_m112 (mm_go 75 L st S) o := pd_Gs (i := .goto 4) (n := 3) rfl
theorem p112_74 : pd_G xs Ls d pd_m112 (74, L, st, S) o ↔ pd_K xs Ls d pd_m112 (mm_go 75 L (.int 5 :: st) S) o := pd_Gs (i := .iconst 5) (n := 1) rfl
theorem p112_75 : pd_G xs Ls d pd_m112 (75, L, st, S) o ↔ pd_K xs Ls d pd_m112 (mm_inv (mm_ev xs Ls pd_ck pd_ak pd_mj d) pd_m112 75 L st S 105 1 7) o := pd_Gs (i := .invokevirtual 143) (n := 3) rfl
theorem p112_78 : pd_G xs Ls d pd_m112 (78, L, st, S) o ↔ pd_K xs Ls d pd_m112 (mm_go 82 L st S) o := pd_Gs (i := .goto 4) (n := 3) rfl
theorem p112_81 : pd_G xs Ls d pd_m112 (81, L, st, S) o ↔ pd_K xs Ls d pd_m112 (mm_go 82 L (.int (-1) :: st) S) o := pd_Gs (i := .iconst (-1)) (n := 1) rfl
theorem p112_82 : pd_G xs Ls d pd_m112 (82, L, st, S) o ↔ pd_K xs Ls d pd_m112 (mm_e0 S st) o := pd_Gs (i := .ireturn) (n := 1) rfl
theorem p112_83 : pd_G xs Ls d pd_m112 (83, L, st, S) o ↔ pd_K xs Ls d pd_m112 (mm_lI L 1 fun x => mm_go 84 L (.int x :: st) S) o := pd_Gs (i := .iload_n 1) (n := 1) rfl
theorem p112_84 : pd_G xs Ls d pd_m112 (84, L, st, S) o ↔ pd_K xs Ls d pd_m112 (mm_go 86 L (.int 7 :: st) S) o := pd_Gs (i := .bipush 7) (n := 2) rfl
theorem p112_86 : pd_G xs Ls d pd_m112 (86, L, st, S) o ↔ pd_K xs Ls d pd_m112 (mm_ii st fun x y r => mm_icmp .ne x y (mm_go 104 L r S) (mm_go 89 L r S)) o := pd_Gs (i := .if_icmp .ne 18) (n := 3) rfl
theorem p112_89 : pd_G xs Ls d pd_m112 (89, L, st, S) o ↔ pd_K xs Ls d pd_m112 (mm_lI L 2 fun x => mm_go 90 L (.int x :: st) S) o := pd_Gs (i := .iload_n 2) (n := 1) rfl
theorem p112_90 : pd_G xs Ls d pd_m112 (90, L, st, S) o ↔ pd_K xs Ls d pd_m112 (mm_go 92 L (.int 61 :: st) S) o := pd_Gs (i := .bipush 61) (n := 2) rfl
theorem p112_92 : pd_G xs Ls d pd_m112 (92, L, st, S) o ↔ pd_K xs Ls d pd_m112 (mm_ii st fun x y r => mm_icmp .eq x y (mm_go 97 L r S) (mm_go 95 L r S)) o := pd_Gs (i := .if_icmp .eq 5) (n := 3) rfl
theorem p112_95 : pd_G xs Ls d pd_m112 (95, L, st, S) o ↔ pd_K xs Ls d pd_m112 (mm_go 96 L (.int (-1) :: st) S) o := pd_Gs (i := .iconst (-1)) (n := 1) rfl
theorem p112_96 : pd_G xs Ls d pd_m112 (96, L, st, S) o ↔ pd_K xs Ls d pd_m112 (mm_e0 S st) o := pd_Gs (i := .ireturn) (n := 1) rfl
theorem p112_97 : pd_G xs Ls d pd_m112 (97, L, st, S) o ↔ pd_K xs Ls d pd_m112 (mm_lA L 0 fun v => mm_go 98 L (v :: st) S) o := pd_Gs (i := .aload_n 0) (n := 1) rfl
theorem p112_98 : pd_G xs Ls d pd_m112 (98, L, st, S) o ↔ pd_K xs Ls d pd_m112 (mm_go 99 L (.int 1 :: st) S) o := pd_Gs (i := .iconst 1) (n := 1) rfl
theorem p112_99 : pd_G xs Ls d pd_m112 (99, L, st, S) o ↔ pd_K xs Ls d pd_m112 (mm_inv (mm_ev xs Ls pd_ck pd_ak pd_mj d) pd_m112 99 L st S 103 1 7) o := pd_Gs (i := .invokevirtual 119) (n := 3) rfl
theorem p112_102 : pd_G xs Ls d pd_m112 (102, L, st, S) o ↔ pd_K xs Ls d pd_m112 (mm_go 103 L (.int 1 :: st) S) o := pd_Gs (i := .iconst 1) (n := 1) rfl
theorem p112_103 : pd_G xs Ls d pd_m112 (103, L, st, S) o ↔ pd_K xs Ls d pd_m112 (mm_e0 S st) o := pd_Gs (i := .ireturn) (n := 1) rfl
theorem p112_104 : pd_G xs Ls d pd_m112 (104, L, st, S) o ↔ pd_K xs Ls d pd_m112 (mm_lI L 2 fun x => mm_go 105 L (.int x :: st) S) o := pd_Gs (i := .iload_n 2) (n := 1) rfl
theorem p112_105 : pd_G xs Ls d pd_m112 (105, L, st, S) o ↔ pd_K xs Ls d pd_m112 (mm_go 107 L (.int 48 :: st) S) o := pd_Gs (i := .bipush 48) (n := 2) rfl
theorem p112_107 : pd_G xs Ls d pd_m112 (107, L, st, S) o ↔ pd_K xs Ls d pd_m112 (mm_ii st fun x y r => mm_icmp .lt x y (mm_go 127 L r S) (mm_go 110 L r S)) o := pd_Gs (i := .if_icmp .lt 20) (n := 3) rfl
theorem p112_110 : pd_G xs Ls d pd_m112 (110, L, st, S) o ↔ pd_K xs Ls d pd_m112 (mm_lI L 2 fun x => mm_go 111 L (.int x :: st) S) o := pd_Gs (i := .iload_n 2) (n := 1) rfl
theorem p112_111 : pd_G xs Ls d pd_m112 (111, L, st, S) o ↔ pd_K xs Ls d pd_m112 (mm_lI L 1 fun x => mm_go 112 L (.int x :: st) S) o := pd_Gs (i := .iload_n 1) (n := 1) rfl
theorem p112_112 : pd_G xs Ls d pd_m112 (112, L, st, S) o ↔ pd_K xs Ls d pd_m112 (mm_go 114 L (.int 8 :: st) S) o := pd_Gs (i := .bipush 8) (n := 2) rfl
theorem p112_114 : pd_G xs Ls d pd_m112 (114, L, st, S) o ↔ pd_K xs Ls d pd_m112 (mm_ii st fun x y r => mm_icmp .ne x y (mm_go 122 L r S) (mm_go 117 L r S)) o := pd_Gs (i := .if_icmp .ne 8) (n := 3) rfl
theorem p112_117 : pd_G xs Ls d pd_m112 (117, L, st, S) o ↔ pd_K xs Ls d pd_m112 (mm_go 119 L (.int 49 :: st) S) o := pd_Gs (i := .bipush 49) (n := 2) rfl
theorem p112_119 : pd_G xs Ls d pd_m112 (119, L, st, S) o ↔ pd_K xs Ls d pd_m112 (mm_go 124 L st S) o := pd_Gs (i := .goto 5) (n := 3) rfl
theorem p112_122 : pd_G xs Ls d pd_m112 (122, L, st, S) o ↔ pd_K xs Ls d pd_m112 (mm_go 124 L (.int 51 :: st) S) o := pd_Gs (i := .bipush 51) (n := 2) rfl
theorem p112_124 : pd_G xs Ls d pd_m112 (124, L, st, S) o ↔ pd_K xs Ls d pd_m112 (mm_ii st fun x y r => mm_icmp .le x y (mm_go 129 L r S) (mm_go 127 L r S)) o := pd_Gs (i := .if_icmp .le 5) (n := 3) rfl
theorem p112_127 : pd_G xs Ls d pd_m112 (127, L, st, S) o ↔ pd_K xs Ls d pd_m112 (mm_go 128 L (.int (-1) :: st) S) o := pd_Gs (i := .iconst (-1)) (n := 1) rfl
theorem p112_128 : pd_G xs Ls d pd_m112 (128, L, st, S) o ↔ pd_K xs Ls d pd_m112 (mm_e0 S st) o := pd_Gs (i := .ireturn) (n := 1) rfl
theorem p112_129 : pd_G xs Ls d pd_m112 (129, L, st, S) o ↔ pd_K xs Ls d pd_m112 (mm_lA L 0 fun v => mm_go 130 L (v :: st) S) o := pd_Gs (i := .aload_n 0) (n := 1) rfl
theorem p112_130 : pd_G xs Ls d pd_m112 (130, L, st, S) o ↔ pd_K xs Ls d pd_m112 (mm_lA L 0 fun v => mm_go 131 L (v :: st) S) o := pd_Gs (i := .aload_n 0) (n := 1) rfl
theorem p112_131 : pd_G xs Ls d pd_m112 (131, L, st, S) o ↔ pd_K xs Ls d pd_m112 (mm_getf pd_ck 131 L st S 7 13) o := pd_Gs (i := .getfield 133) (n := 3) rfl
theorem p112_134 : pd_G xs Ls d pd_m112 (134, L, st, S) o ↔ pd_K xs Ls d pd_m112 (mm_go 136 L (.int 87 :: st) S) o := pd_Gs (i := .bipush 87) (n := 2) rfl
theorem p112_136 : pd_G xs Ls d pd_m112 (136, L, st, S) o ↔ pd_K xs Ls d pd_m112 (mm_ii st fun x y r => mm_icmp .ne x y (mm_go 144 L r S) (mm_go 139 L r S)) o := pd_Gs (i := .if_icmp .ne 8) (n := 3) rfl
theorem p112_139 : pd_G xs Ls d pd_m112 (139, L, st, S) o ↔ pd_K xs Ls d pd_m112 (mm_go 141 L (.int 23 :: st) S) o := pd_Gs (i := .bipush 23) (n := 2) rfl
theorem p112_141 : pd_G xs Ls d pd_m112 (141, L, st, S) o ↔ pd_K xs Ls d pd_m112 (mm_go 160 L st S) o := pd_Gs (i := .goto 19) (n := 3) rfl
theorem p112_144 : pd_G xs Ls d pd_m112 (144, L, st, S) o ↔ pd_K xs Ls d pd_m112 (mm_lA L 0 fun v => mm_go 145 L (v :: st) S) o := pd_Gs (i := .aload_n 0) (n := 1) rfl
theorem p112_145 : pd_G xs Ls d pd_m112 (145, L, st, S) o ↔ pd_K xs Ls d pd_m112 (mm_getf pd_ck 145 L st S 7 13) o := pd_Gs (i := .getfield 133) (n := 3) rfl
theorem p112_148 : pd_G xs Ls d pd_m112 (148, L, st, S) o ↔ pd_K xs Ls d pd_m112 (mm_go 150 L (.int 83 :: st) S) o := pd_Gs (i := .bipush 83) (n := 2) rfl
theorem p112_150 : pd_G xs Ls d pd_m112 (150, L, st, S) o ↔ pd_K xs Ls d pd_m112 (mm_ii st fun x y r => mm_icmp .ne x y (mm_go 158 L r S) (mm_go 153 L r S)) o := pd_Gs (i := .if_icmp .ne 8) (n := 3) rfl
theorem p112_153 : pd_G xs Ls d pd_m112 (153, L, st, S) o ↔ pd_K xs Ls d pd_m112 (mm_go 155 L (.int 24 :: st) S) o := pd_Gs (i := .bipush 24) (n := 2) rfl
theorem p112_155 : pd_G xs Ls d pd_m112 (155, L, st, S) o ↔ pd_K xs Ls d pd_m112 (mm_go 160 L st S) o := pd_Gs (i := .goto 5) (n := 3) rfl
theorem p112_158 : pd_G xs Ls d pd_m112 (158, L, st, S) o ↔ pd_K xs Ls d pd_m112 (mm_go 160 L (.int 25 :: st) S) o := pd_Gs (i := .bipush 25) (n := 2) rfl
theorem p112_160 : pd_G xs Ls d pd_m112 (160, L, st, S) o ↔ pd_K xs Ls d pd_m112 (mm_lI L 2 fun x => mm_go 161 L (.int x :: st) S) o := pd_Gs (i := .iload_n 2) (n := 1) rfl
theorem p112_161 : pd_G xs Ls d pd_m112 (161, L, st, S) o ↔ pd_K xs Ls d pd_m112 (mm_go 163 L (.int 48 :: st) S) o := pd_Gs (i := .bipush 48) (n := 2) rfl
theorem p112_163 : pd_G xs Ls d pd_m112 (163, L, st, S) o ↔ pd_K xs Ls d pd_m112 (mm_ii st fun x y r => mm_go 164 L (.int (x - y) :: r) S) o := pd_Gs (i := .isub) (n := 1) rfl
theorem p112_164 : pd_G xs Ls d pd_m112 (164, L, st, S) o ↔ pd_K xs Ls d pd_m112 (mm_inv (mm_ev xs Ls pd_ck pd_ak pd_mj d) pd_m112 164 L st S 96 2 7) o := pd_Gs (i := .invokevirtual 112) (n := 3) rfl
theorem p112_167 : pd_G xs Ls d pd_m112 (167, L, st, S) o ↔ pd_K xs Ls d pd_m112 (mm_go 168 L (.int 3 :: st) S) o := pd_Gs (i := .iconst 3) (n := 1) rfl
theorem p112_168 : pd_G xs Ls d pd_m112 (168, L, st, S) o ↔ pd_K xs Ls d pd_m112 (mm_e0 S st) o := pd_Gs (i := .ireturn) (n := 1) rfl
end PCS
