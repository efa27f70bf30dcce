/-! one row an instruction (printed by gen_pc.py) -/
section PCS
variable {xs : Nat → Int32} {Ls d : Nat} {L : mm_L} {st : List Value} {S : mm_St} {o : mm_O}
theorem p66_0 : pd_G xs Ls d pd_m66 (0, L, st, S) o ↔ pd_K xs Ls d pd_m66 (mm_lA L 0 fun v => mm_go 1 L (v :: st) S) o := pd_Gs (i := .aload_n 0) (n := 1) rfl
theorem p66_1 : pd_G xs Ls d pd_m66 (1, L, st, S) o ↔ pd_K xs Ls d pd_m66 (mm_r st fun _ r => cond (Nat.ble (mm_wt r) 8) (mm_go 4 L r S) none) o := pd_Gs (i := .invokespecial 3) (n := 3) rfl
theorem p66_4 : pd_G xs Ls d pd_m66 (4, L, st, S) o ↔ pd_K xs Ls d pd_m66 (mm_lA L 0 fun v => mm_go 5 L (v :: st) S) o := pd_Gs (i := .aload_n 0) (n := 1) rfl
theorem p66_5 : pd_G xs Ls d pd_m66 (5, L, st, S) o ↔ pd_K xs Ls d pd_m66 (mm_go 7 L (.int 11 :: st) S) o := pd_Gs (i := .bipush 11) (n := 2) rfl
theorem p66_7 : pd_G xs Ls d pd_m66 (7, L, st, S) o ↔ pd_K xs Ls d pd_m66 (mm_i st fun n r => mm_al S (if n < 0 then none else mm_go 9 L (.ref S.1.length :: r) (mm_new S (.inr (2, n.toNatClampNeg))))) o := pd_Gs (i := .newarray .double) (n := 2) rfl
theorem p66_9 : pd_G xs Ls d pd_m66 (9, L, st, S) o ↔ pd_K xs Ls d pd_m66 (mm_putf pd_ck 9 L st S 4 0) o := pd_Gs (i := .putfield 9) (n := 3) rfl
theorem p66_12 : pd_G xs Ls d pd_m66 (12, L, st, S) o ↔ pd_K xs Ls d pd_m66 (mm_lA L 0 fun v => mm_go 13 L (v :: st) S) o := pd_Gs (i := .aload_n 0) (n := 1) rfl
theorem p66_13 : pd_G xs Ls d pd_m66 (13, L, st, S) o ↔ pd_K xs Ls d pd_m66 (mm_go 15 L (.int 49 :: st) S) o := pd_Gs (i := .bipush 49) (n := 2) rfl
theorem p66_15 : pd_G xs Ls d pd_m66 (15, L, st, S) o ↔ pd_K xs Ls d pd_m66 (mm_i st fun n r => mm_al S (if n < 0 then none else mm_go 17 L (.ref S.1.length :: r) (mm_new S (.inr (2, n.toNatClampNeg))))) o := pd_Gs (i := .newarray .double) (n := 2) rfl
theorem p66_17 : pd_G xs Ls d pd_m66 (17, L, st, S) o ↔ pd_K xs Ls d pd_m66 (mm_putf pd_ck 17 L st S 4 1) o := pd_Gs (i := .putfield 15) (n := 3) rfl
theorem p66_20 : pd_G xs Ls d pd_m66 (20, L, st, S) o ↔ pd_K xs Ls d pd_m66 (mm_rV S st) o := pd_Gs (i := .return_) (n := 1) rfl
theorem p67_0 : pd_G xs Ls d pd_m67 (0, L, st, S) o ↔ pd_K xs Ls d pd_m67 (mm_lI L 0 fun x => mm_go 1 L (.int x :: st) S) o := pd_Gs (i := .iload_n 0) (n := 1) rfl
theorem p67_1 : pd_G xs Ls d pd_m67 (1, L, st, S) o ↔ pd_K xs Ls d pd_m67 (mm_go 2 L (.int 4 :: st) S) o := pd_Gs (i := .iconst 4) (n := 1) rfl
theorem p67_2 : pd_G xs Ls d pd_m67 (2, L, st, S) o ↔ pd_K xs Ls d pd_m67 (mm_ii st fun x y r => mm_icmp .lt x y (mm_go 15 L r S) (mm_go 5 L r S)) o := pd_Gs (i := .if_icmp .lt 13) (n := 3) rfl
theorem p67_5 : pd_G xs Ls d pd_m67 (5, L, st, S) o ↔ pd_K xs Ls d pd_m67 (mm_lI L 0 fun x => mm_go 6 L (.int x :: st) S) o := pd_Gs (i := .iload_n 0) (n := 1) rfl
theorem p67_6 : pd_G xs Ls d pd_m67 (6, L, st, S) o ↔ pd_K xs Ls d pd_m67 (mm_go 8 L (.int 7 :: st) S) o := pd_Gs (i := .bipush 7) (n := 2) rfl
theorem p67_8 : pd_G xs Ls d pd_m67 (8, L, st, S) o ↔ pd_K xs Ls d pd_m67 (mm_ii st fun x y r => mm_icmp .ge x y (mm_go 15 L r S) (mm_go 11 L r S)) o := pd_Gs (i := .if_icmp .ge 7) (n := 3) rfl
theorem p67_11 : pd_G xs Ls d pd_m67 (11, L, st, S) o ↔ pd_K xs Ls d pd_m67 (mm_go 12 L (.int 1 :: st) S) o := pd_Gs (i := .iconst 1) (n := 1) rfl
theorem p67_12 : pd_G xs Ls d pd_m67 (12, L, st, S) o ↔ pd_K xs Ls d pd_m67 (mm_go 16 L st S) o := pd_Gs (i := .goto 4) (n := 3) rfl
theorem p67_15 : pd_G xs Ls d pd_m67 (15, L, st, S) o ↔ pd_K xs Ls d pd_m67 (mm_go 16 L (.int 0 :: st) S) o := pd_Gs (i := .iconst 0) (n := 1) rfl
theorem p67_16 : pd_G xs Ls d pd_m67 (16, L, st, S) o ↔ pd_K xs Ls d pd_m67 (mm_e4 S st) o := pd_Gs (i := .ireturn) (n := 1) rfl
theorem p68_0 : pd_G xs Ls d pd_m68 (0, L, st, S) o ↔ pd_K xs Ls d pd_m68 (mm_lA L 0 fun v => mm_go 1 L (v :: st) S) o := pd_Gs (i := .aload_n 0) (n := 1) rfl
theorem p68_1 : pd_G xs Ls d pd_m68 (1, L, st, S) o ↔ pd_K xs Ls d pd_m68 (mm_go 2 L (.int 0 :: st) S) o := pd_Gs (i := .iconst 0) (n := 1) rfl
theorem p68_2 : pd_G xs Ls d pd_m68 (2, L, st, S) o ↔ pd_K xs Ls d pd_m68 (mm_putf pd_ck 2 L st S 4 2) o := pd_Gs (i := .putfield 18) (n := 3) rfl
theorem p68_5 : pd_G xs Ls d pd_m68 (5, L, st, S) o ↔ pd_K xs Ls d pd_m68 (mm_rV S st) o := pd_Gs (i := .return_) (n := 1) rfl
theorem p69_0 : pd_G xs Ls d pd_m69 (0, L, st, S) o ↔ pd_K xs Ls d pd_m69 (mm_lA L 0 fun v => mm_go 1 L (v :: st) S) o := pd_Gs (i := .aload_n 0) (n := 1) rfl
theorem p69_1 : pd_G xs Ls d pd_m69 (1, L, st, S) o ↔ pd_K xs Ls d pd_m69 (mm_getf pd_ck 1 L st S 4 2) o := pd_Gs (i := .getfield 18) (n := 3) rfl
theorem p69_4 : pd_G xs Ls d pd_m69 (4, L, st, S) o ↔ pd_K xs Ls d pd_m69 (mm_i st fun x r => mm_icmp .gt x 0 (mm_go 9 L r S) (mm_go 7 L r S)) o := pd_Gs (i := .ifCond .gt 5) (n := 3) rfl
theorem p69_7 : pd_G xs Ls d pd_m69 (7, L, st, S) o ↔ pd_K xs Ls d pd_m69 (mm_go 8 L (.double FP.dconst0 :: st) S) o := pd_Gs (i := .dconst 0) (n := 1) rfl
theorem p69_8 : pd_G xs Ls d pd_m69 (8, L, st, S) o ↔ pd_K xs Ls d pd_m69 (mm_rD S st) o := pd_Gs (i := .dreturn) (n := 1) rfl
theorem p69_9 : pd_G xs Ls d pd_m69 (9, L, st, S) o ↔ pd_K xs Ls d pd_m69 (mm_lA L 0 fun v => mm_go 10 L (v :: st) S) o := pd_Gs (i := .aload_n 0) (n := 1) rfl
theorem p69_10 : pd_G xs Ls d pd_m69 (10, L, st, S) o ↔ pd_K xs Ls d pd_m69 (mm_1 st fun v r => cond (mm_c2 v) none (mm_go 11 L (v :: v :: r) S)) o := pd_Gs (i := .dup) (n := 1) rfl
theorem p69_11 : pd_G xs Ls d pd_m69 (11, L, st, S) o ↔ pd_K xs Ls d pd_m69 (mm_getf pd_ck 11 L st S 4 2) o := pd_Gs (i := .getfield 18) (n := 3) rfl
theorem p69_14 : pd_G xs Ls d pd_m69 (14, L, st, S) o ↔ pd_K xs Ls d pd_m69 (mm_go 15 L (.int 1 :: st) S) o := pd_Gs (i := .iconst 1) (n := 1) rfl
theorem p69_15 : pd_G xs Ls d pd_m69 (15, L, st, S) o ↔ pd_K xs Ls d pd_m69 (mm_ii st fun x y r => mm_go 16 L (.int (x - y) :: r) S) o := pd_Gs (i := .isub) (n := 1) rfl
theorem p69_16 : pd_G xs Ls d pd_m69 (16, L, st, S) o ↔ pd_K xs Ls d pd_m69 (mm_putf pd_ck 16 L st S 4 2) o := pd_Gs (i := .putfield 18) (n := 3) rfl
theorem p69_19 : pd_G xs Ls d pd_m69 (19, L, st, S) o ↔ pd_K xs Ls d pd_m69 (mm_lA L 0 fun v => mm_go 20 L (v :: st) S) o := pd_Gs (i := .aload_n 0) (n := 1) rfl
theorem p69_20 : pd_G xs Ls d pd_m69 (20, L, st, S) o ↔ pd_K xs Ls d pd_m69 (mm_getf pd_ck 20 L st S 4 1) o := pd_Gs (i := .getfield 15) (n := 3) rfl
theorem p69_23 : pd_G xs Ls d pd_m69 (23, L, st, S) o ↔ pd_K xs Ls d pd_m69 (mm_lA L 0 fun v => mm_go 24 L (v :: st) S) o := pd_Gs (i := .aload_n 0) (n := 1) rfl
theorem p69_24 : pd_G xs Ls d pd_m69 (24, L, st, S) o ↔ pd_K xs Ls d pd_m69 (mm_getf pd_ck 24 L st S 4 2) o := pd_Gs (i := .getfield 18) (n := 3) rfl
theorem p69_27 : pd_G xs Ls d pd_m69 (27, L, st, S) o ↔ pd_K xs Ls d pd_m69 (mm_ai pd_ak S st 2 fun i a r => mm_go 28 L (.double (S.2.1.2.1 a i.toNatClampNeg) :: r) S) o := pd_Gs (i := .daload) (n := 1) rfl
theorem p69_28 : pd_G xs Ls d pd_m69 (28, L, st, S) o ↔ pd_K xs Ls d pd_m69 (mm_rD S st) o := pd_Gs (i := .dreturn) (n := 1) rfl
theorem p70_0 : pd_G xs Ls d pd_m70 (0, L, st, S) o ↔ pd_K xs Ls d pd_m70 (mm_lI L 1 fun x => mm_go 1 L (.int x :: st) S) o := pd_Gs (i := .iload_n 1) (n := 1) rfl
theorem p70_1 : pd_G xs Ls d pd_m70 (1, L, st, S) o ↔ pd_K xs Ls d pd_m70 (mm_invS (mm_ev xs Ls pd_ck pd_ak pd_mj d) pd_m70 1 L st S 71 1) o := pd_Gs (i := .invokestatic 22) (n := 3) rfl
theorem p70_4 : pd_G xs Ls d pd_m70 (4, L, st, S) o ↔ pd_K xs Ls d pd_m70 (mm_i st fun x r => mm_icmp .eq x 0 (mm_go 14 L r S) (mm_go 7 L r S)) o := pd_Gs (i := .ifCond .eq 10) (n := 3) rfl
theorem p70_7 : pd_G xs Ls d pd_m70 (7, L, st, S) o ↔ pd_K xs Ls d pd_m70 (mm_lA L 0 fun v => mm_go 8 L (v :: st) S) o := pd_Gs (i := .aload_n 0) (n := 1) rfl
theorem p70_8 : pd_G xs Ls d pd_m70 (8, L, st, S) o ↔ pd_K xs Ls d pd_m70 (mm_getf pd_ck 8 L st S 4 0) o := pd_Gs (i := .getfield 9) (n := 3) rfl
theorem p70_11 : pd_G xs Ls d pd_m70 (11, L, st, S) o ↔ pd_K xs Ls d pd_m70 (mm_lI L 1 fun x => mm_go 12 L (.int x :: st) S) o := pd_Gs (i := .iload_n 1) (n := 1) rfl
theorem p70_12 : pd_G xs Ls d pd_m70 (12, L, st, S) o ↔ pd_K xs Ls d pd_m70 (mm_lD L 2 fun x => mm_go 13 L (.double x :: st) S) o := pd_Gs (i := .dload_n 2) (n := 1) rfl
theorem p70_13 : pd_G xs Ls d pd_m70 (13, L, st, S) o ↔ pd_K xs Ls d pd_m70 (mm_d st fun x st => mm_ai pd_ak S st 2 fun i a r => mm_go 14 L r (mm_sD S a i.toNatClampNeg x)) o := pd_Gs (i := .dastore) (n := 1) rfl
theorem p70_14 : pd_G xs Ls d pd_m70 (14, L, st, S) o ↔ pd_K xs Ls d pd_m70 (mm_rV S st) o := pd_Gs (i := .return_) (n := 1) rfl
theorem p71_0 : pd_G xs Ls d pd_m71 (0, L, st, S) o ↔ pd_K xs Ls d pd_m71 (mm_lI L 0 fun x => mm_go 1 L (.int x :: st) S) o := pd_Gs (i := .iload_n 0) (n := 1) rfl
theorem p71_1 : pd_G xs Ls d pd_m71 (1, L, st, S) o ↔ pd_K xs Ls d pd_m71 (mm_i st fun x r => mm_icmp .lt x 0 (mm_go 14 L r S) (mm_go 4 L r S)) o := pd_Gs (i := .ifCond .lt 13) (n := 3) rfl
theorem p71_4 : pd_G xs Ls d pd_m71 (4, L, st, S) o ↔ pd_K xs Ls d pd_m71 (mm_lI L 0 fun x => mm_go 5 L (.int x :: st) S) o := pd_Gs (i := .iload_n 0) (n := 1) rfl
theorem p71_5 : pd_G xs Ls d pd_m71 (5, L, st, S) o ↔ pd_K xs Ls d pd_m71 (mm_go 7 L (.int 11 :: st) S) o := pd_Gs (i := .bipush 11) (n := 2) rfl
theorem p71_7 : pd_G xs Ls d pd_m71 (7, L, st, S) o ↔ pd_K xs Ls d pd_m71 (mm_ii st fun x y r => mm_icmp .ge x y (mm_go 14 L r S) (mm_go 10 L r S)) o := pd_Gs (i := .if_icmp .ge 7) (n := 3) rfl
theorem p71_10 : pd_G xs Ls d pd_m71 (10, L, st, S) o ↔ pd_K xs Ls d pd_m71 (mm_go 11 L (.int 1 :: st) S) o := pd_Gs (i := .iconst 1) (n := 1) rfl
theorem p71_11 : pd_G xs Ls d pd_m71 (11, L, st, S) o ↔ pd_K xs Ls d pd_m71 (mm_go 15 L st S) o := pd_Gs (i := .goto 4) (n := 3) rfl
theorem p71_14 : pd_G xs Ls d pd_m71 (14, L, st, S) o ↔ pd_K xs Ls d pd_m71 (mm_go 15 L (.int 0 :: st) S) o := pd_Gs (i := .iconst 0) (n := 1) rfl
theorem p71_15 : pd_G xs Ls d pd_m71 (15, L, st, S) o ↔ pd_K xs Ls d pd_m71 (mm_e4 S st) o := pd_Gs (i := .ireturn) (n := 1) rfl
theorem p72_0 : pd_G xs Ls d pd_m72 (0, L, st, S) o ↔ pd_K xs Ls d pd_m72 (mm_lA L 0 fun v => mm_go 1 L (v :: st) S) o := pd_Gs (i := .aload_n 0) (n := 1) rfl
theorem p72_1 : pd_G xs Ls d pd_m72 (1, L, st, S) o ↔ pd_K xs Ls d pd_m72 (mm_inv (mm_ev xs Ls pd_ck pd_ak pd_mj d) pd_m72 1 L st S 69 0 4) o := pd_Gs (i := .invokevirtual 26) (n := 3) rfl
theorem p72_4 : pd_G xs Ls d pd_m72 (4, L, st, S) o ↔ pd_K xs Ls d pd_m72 (mm_d st fun x r => mm_go 5 (mm_sto L 0 1 (.double x)) r S) o := pd_Gs (i := .dstore_n 1) (n := 1) rfl
theorem p72_5 : pd_G xs Ls d pd_m72 (5, L, st, S) o ↔ pd_K xs Ls d pd_m72 (mm_lA L 0 fun v => mm_go 6 L (v :: st) S) o := pd_Gs (i := .aload_n 0) (n := 1) rfl
theorem p72_6 : pd_G xs Ls d pd_m72 (6, L, st, S) o ↔ pd_K xs Ls d pd_m72 (mm_lA L 0 fun v => mm_go 7 L (v :: st) S) o := pd_Gs (i := .aload_n 0) (n := 1) rfl
theorem p72_7 : pd_G xs Ls d pd_m72 (7, L, st, S) o ↔ pd_K xs Ls d pd_m72 (mm_inv (mm_ev xs Ls pd_ck pd_ak pd_mj d) pd_m72 7 L st S 69 0 4) o := pd_Gs (i := .invokevirtual 26) (n := 3) rfl
theorem p72_10 : pd_G xs Ls d pd_m72 (10, L, st, S) o ↔ pd_K xs Ls d pd_m72 (mm_d st fun x r => mm_go 11 L (.int (FP.d2i x) :: r) S) o := pd_Gs (i := .d2i) (n := 1) rfl
theorem p72_11 : pd_G xs Ls d pd_m72 (11, L, st, S) o ↔ pd_K xs Ls d pd_m72 (mm_lD L 1 fun x => mm_go 12 L (.double x :: st) S) o := pd_Gs (i := .dload_n 1) (n := 1) rfl
theorem p72_12 : pd_G xs Ls d pd_m72 (12, L, st, S) o ↔ pd_K xs Ls d pd_m72 (mm_inv (mm_ev xs Ls pd_ck pd_ak pd_mj d) pd_m72 12 L st S 70 2 4) o := pd_Gs (i := .invokevirtual 30) (n := 3) rfl
theorem p72_15 : pd_G xs Ls d pd_m72 (15, L, st, S) o ↔ pd_K xs Ls d pd_m72 (mm_rV S st) o := pd_Gs (i := .return_) (n := 1) rfl
theorem p73_0 : pd_G xs Ls d pd_m73 (0, L, st, S) o ↔ pd_K xs Ls d pd_m73 (mm_lI L 1 fun x => mm_go 1 L (.int x :: st) S) o := pd_Gs (i := .iload_n 1) (n := 1) rfl
theorem p73_1 : pd_G xs Ls d pd_m73 (1, L, st, S) o ↔ pd_K xs Ls d pd_m73 (mm_i st fun x r => if x = 2 then mm_go 36 L r S else if x = 3 then mm_go 45 L r S else if x = 4 then mm_go 53 L r S else if x = 5 then mm_go 69 L r S else if x = 6 then mm_go 81 L r S else mm_go 94 L r S) o := pd_Gs (i := .tableswitch 93 2 6 #[35, 44, 52, 68, 80]) (n := 35) rfl
theorem p73_36 : pd_G xs Ls d pd_m73 (36, L, st, S) o ↔ pd_K xs Ls d pd_m73 (mm_lA L 0 fun v => mm_go 37 L (v :: st) S) o := pd_Gs (i := .aload_n 0) (n := 1) rfl
theorem p73_37 : pd_G xs Ls d pd_m73 (37, L, st, S) o ↔ pd_K xs Ls d pd_m73 (mm_lI L 2 fun x => mm_go 38 L (.int x :: st) S) o := pd_Gs (i := .iload_n 2) (n := 1) rfl
theorem p73_38 : pd_G xs Ls d pd_m73 (38, L, st, S) o ↔ pd_K xs Ls d pd_m73 (mm_i st fun x r => mm_go 39 L (.double (FP.i2d x) :: r) S) o := pd_Gs (i := .i2d) (n := 1) rfl
theorem p73_39 : pd_G xs Ls d pd_m73 (39, L, st, S) o ↔ pd_K xs Ls d pd_m73 (mm_inv (mm_ev xs Ls pd_ck pd_ak pd_mj d) pd_m73 39 L st S 74 1 4) o := pd_Gs (i := .invokevirtual 34) (n := 3) rfl
theorem p73_42 : pd_G xs Ls d pd_m73 (42, L, st, S) o ↔ pd_K xs Ls d pd_m73 (mm_go 116 L st S) o := pd_Gs (i := .goto 74) (n := 3) rfl
theorem p73_45 : pd_G xs Ls d pd_m73 (45, L, st, S) o ↔ pd_K xs Ls d pd_m73 (mm_lA L 0 fun v => mm_go 46 L (v :: st) S) o := pd_Gs (i := .aload_n 0) (n := 1) rfl
theorem p73_46 : pd_G xs Ls d pd_m73 (46, L, st, S) o ↔ pd_K xs Ls d pd_m73 (mm_lI L 2 fun x => mm_go 47 L (.int x :: st) S) o := pd_Gs (i := .iload_n 2) (n := 1) rfl
theorem p73_47 : pd_G xs Ls d pd_m73 (47, L, st, S) o ↔ pd_K xs Ls d pd_m73 (mm_inv (mm_ev xs Ls pd_ck pd_ak pd_mj d) pd_m73 47 L st S 75 1 4) o := pd_Gs (i := .invokevirtual 38) (n := 3) rfl
theorem p73_50 : pd_G xs Ls d pd_m73 (50, L, st, S) o ↔ pd_K xs Ls d pd_m73 (mm_go 116 L st S) o := pd_Gs (i := .goto 66) (n := 3) rfl
theorem p73_53 : pd_G xs Ls d pd_m73 (53, L, st, S) o ↔ pd_K xs Ls d pd_m73 (mm_lA L 0 fun v => mm_go 54 L (v :: st) S) o := pd_Gs (i := .aload_n 0) (n := 1) rfl
theorem p73_54 : pd_G xs Ls d pd_m73 (54, L, st, S) o ↔ pd_K xs Ls d pd_m73 (mm_lA L 0 fun v => mm_go 55 L (v :: st) S) o := pd_Gs (i := .aload_n 0) (n := 1) rfl
theorem p73_55 : pd_G xs Ls d pd_m73 (55, L, st, S) o ↔ pd_K xs Ls d pd_m73 (mm_inv (mm_ev xs Ls pd_ck pd_ak pd_mj d) pd_m73 55 L st S 69 0 4) o := pd_Gs (i := .invokevirtual 26) (n := 3) rfl
theorem p73_58 : pd_G xs Ls d pd_m73 (58, L, st, S) o ↔ pd_K xs Ls d pd_m73 (mm_d st fun x r => mm_go 59 L (.int (FP.d2i x) :: r) S) o := pd_Gs (i := .d2i) (n := 1) rfl
theorem p73_59 : pd_G xs Ls d pd_m73 (59, L, st, S) o ↔ pd_K xs Ls d pd_m73 (mm_invS (mm_ev xs Ls pd_ck pd_ak pd_mj d) pd_m73 59 L st S 76 1) o := pd_Gs (i := .invokestatic 42) (n := 3) rfl
theorem p73_62 : pd_G xs Ls d pd_m73 (62, L, st, S) o ↔ pd_K xs Ls d pd_m73 (mm_i st fun x r => mm_go 63 L (.double (FP.i2d x) :: r) S) o := pd_Gs (i := .i2d) (n := 1) rfl
theorem p73_63 : pd_G xs Ls d pd_m73 (63, L, st, S) o ↔ pd_K xs Ls d pd_m73 (mm_inv (mm_ev xs Ls pd_ck pd_ak pd_mj d) pd_m73 63 L st S 74 1 4) o := pd_Gs (i := .invokevirtual 34) (n := 3) rfl
theorem p73_66 : pd_G xs Ls d pd_m73 (66, L, st, S) o ↔ pd_K xs Ls d pd_m73 (mm_go 116 L st S) o := pd_Gs (i := .goto 50) (n := 3) rfl
theorem p73_69 : pd_G xs Ls d pd_m73 (69, L, st, S) o ↔ pd_K xs Ls d pd_m73 (mm_lA L 0 fun v => mm_go 70 L (v :: st) S) o := pd_Gs (i := .aload_n 0) (n := 1) rfl
theorem p73_70 : pd_G xs Ls d pd_m73 (70, L, st, S) o ↔ pd_K xs Ls d pd_m73 (mm_lA L 0 fun v => mm_go 71 L (v :: st) S) o := pd_Gs (i := .aload_n 0) (n := 1) rfl
theorem p73_71 : pd_G xs Ls d pd_m73 (71, L, st, S) o ↔ pd_K xs Ls d pd_m73 (mm_inv (mm_ev xs Ls pd_ck pd_ak pd_mj d) pd_m73 71 L st S 69 0 4) o := pd_Gs (i := .invokevirtual 26) (n := 3) rfl
theorem p73_74 : pd_G xs Ls d pd_m73 (74, L, st, S) o ↔ pd_K xs Ls d pd_m73 (mm_d st fun x r => mm_go 75 L (.int (FP.d2i x) :: r) S) o := pd_Gs (i := .d2i) (n := 1) rfl
theorem p73_75 : pd_G xs Ls d pd_m73 (75, L, st, S) o ↔ pd_K xs Ls d pd_m73 (mm_inv (mm_ev xs Ls pd_ck pd_ak pd_mj d) pd_m73 75 L st S 75 1 4) o := pd_Gs (i := .invokevirtual 38) (n := 3) rfl
theorem p73_78 : pd_G xs Ls d pd_m73 (78, L, st, S) o ↔ pd_K xs Ls d pd_m73 (mm_go 116 L st S) o := pd_Gs (i := .goto 38) (n := 3) rfl
theorem p73_81 : pd_G xs Ls d pd_m73 (81, L, st, S) o ↔ pd_K xs Ls d pd_m73 (mm_lA L 0 fun v => mm_go 82 L (v :: st) S) o := pd_Gs (i := .aload_n 0) (n := 1) rfl
theorem p73_82 : pd_G xs Ls d pd_m73 (82, L, st, S) o ↔ pd_K xs Ls d pd_m73 (mm_lA L 0 fun v => mm_go 83 L (v :: st) S) o := pd_Gs (i := .aload_n 0) (n := 1) rfl
theorem p73_83 : pd_G xs Ls d pd_m73 (83, L, st, S) o ↔ pd_K xs Ls d pd_m73 (mm_inv (mm_ev xs Ls pd_ck pd_ak pd_mj d) pd_m73 83 L st S 69 0 4) o := pd_Gs (i := .invokevirtual 26) (n := 3) rfl
theorem p73_86 : pd_G xs Ls d pd_m73 (86, L, st, S) o ↔ pd_K xs Ls d pd_m73 (mm_d st fun x r => mm_go 87 L (.int (FP.d2i x) :: r) S) o := pd_Gs (i := .d2i) (n := 1) rfl
theorem p73_87 : pd_G xs Ls d pd_m73 (87, L, st, S) o ↔ pd_K xs Ls d pd_m73 (mm_i st fun x r => mm_go 88 L (.double (FP.i2d x) :: r) S) o := pd_Gs (i := .i2d) (n := 1) rfl
theorem p73_88 : pd_G xs Ls d pd_m73 (88, L, st, S) o ↔ pd_K xs Ls d pd_m73 (mm_inv (mm_ev xs Ls pd_ck pd_ak pd_mj d) pd_m73 88 L st S 74 1 4) o := pd_Gs (i := .invokevirtual 34) (n := 3) rfl
theorem p73_91 : pd_G xs Ls d pd_m73 (91, L, st, S) o ↔ pd_K xs Ls d pd_m73 (mm_go 116 L st S) o := pd_Gs (i := .goto 25) (n := 3) rfl
theorem p73_94 : pd_G xs Ls d pd_m73 (94, L, st, S) o ↔ pd_K xs Ls d pd_m73 (mm_lA L 0 fun v => mm_go 95 L (v :: st) S) o := pd_Gs (i := .aload_n 0) (n := 1) rfl
theorem p73_95 : pd_G xs Ls d pd_m73 (95, L, st, S) o ↔ pd_K xs Ls d pd_m73 (mm_inv (mm_ev xs Ls pd_ck pd_ak pd_mj d) pd_m73 95 L st S 69 0 4) o := pd_Gs (i := .invokevirtual 26) (n := 3) rfl
theorem p73_98 : pd_G xs Ls d pd_m73 (98, L, st, S) o ↔ pd_K xs Ls d pd_m73 (mm_d st fun x r => mm_go 99 (mm_sto L 0 3 (.double x)) r S) o := pd_Gs (i := .dstore_n 3) (n := 1) rfl
theorem p73_99 : pd_G xs Ls d pd_m73 (99, L, st, S) o ↔ pd_K xs Ls d pd_m73 (mm_lA L 0 fun v => mm_go 100 L (v :: st) S) o := pd_Gs (i := .aload_n 0) (n := 1) rfl
theorem p73_100 : pd_G xs Ls d pd_m73 (100, L, st, S) o ↔ pd_K xs Ls d pd_m73 (mm_inv (mm_ev xs Ls pd_ck pd_ak pd_mj d) pd_m73 100 L st S 69 0 4) o := pd_Gs (i := .invokevirtual 26) (n := 3) rfl
theorem p73_103 : pd_G xs Ls d pd_m73 (103, L, st, S) o ↔ pd_K xs Ls d pd_m73 (mm_d st fun x r => mm_go 105 (mm_sto L 0 5 (.double x)) r S) o := pd_Gs (i := .dstore 5) (n := 2) rfl
theorem p73_105 : pd_G xs Ls d pd_m73 (105, L, st, S) o ↔ pd_K xs Ls d pd_m73 (mm_lA L 0 fun v => mm_go 106 L (v :: st) S) o := pd_Gs (i := .aload_n 0) (n := 1) rfl
theorem p73_106 : pd_G xs Ls d pd_m73 (106, L, st, S) o ↔ pd_K xs Ls d pd_m73 (mm_lI L 1 fun x => mm_go 107 L (.int x :: st) S) o := pd_Gs (i := .iload_n 1) (n := 1) rfl
theorem p73_107 : pd_G xs Ls d pd_m73 (107, L, st, S) o ↔ pd_K xs Ls d pd_m73 (mm_lD L 5 fun x => mm_go 109 L (.double x :: st) S) o := pd_Gs (i := .dload 5) (n := 2) rfl
theorem p73_109 : pd_G xs Ls d pd_m73 (109, L, st, S) o ↔ pd_K xs Ls d pd_m73 (mm_lD L 3 fun x => mm_go 110 L (.double x :: st) S) o := pd_Gs (i := .dload_n 3) (n := 1) rfl
theorem p73_110 : pd_G xs Ls d pd_m73 (110, L, st, S) o ↔ pd_K xs Ls d pd_m73 (mm_invS (mm_ev xs Ls pd_ck pd_ak pd_mj d) pd_m73 110 L st S 77 3) o := pd_Gs (i := .invokestatic 46) (n := 3) rfl
theorem p73_113 : pd_G xs Ls d pd_m73 (113, L, st, S) o ↔ pd_K xs Ls d pd_m73 (mm_inv (mm_ev xs Ls pd_ck pd_ak pd_mj d) pd_m73 113 L st S 74 1 4) o := pd_Gs (i := .invokevirtual 34) (n := 3) rfl
theorem p73_116 : pd_G xs Ls d pd_m73 (116, L, st, S) o ↔ pd_K xs Ls d pd_m73 (mm_rV S st) o := pd_Gs (i := .return_) (n := 1) rfl
theorem p74_0 : pd_G xs Ls d pd_m74 (0, L, st, S) o ↔ pd_K xs Ls d pd_m74 (mm_lA L 0 fun v => mm_go 1 L (v :: st) S) o := pd_Gs (i := .aload_n 0) (n := 1) rfl
theorem p74_1 : pd_G xs Ls d pd_m74 (1, L, st, S) o ↔ pd_K xs Ls d pd_m74 (mm_getf pd_ck 1 L st S 4 2) o := pd_Gs (i := .getfield 18) (n := 3) rfl
theorem p74_4 : pd_G xs Ls d pd_m74 (4, L, st, S) o ↔ pd_K xs Ls d pd_m74 (mm_lA L 0 fun v => mm_go 5 L (v :: st) S) o := pd_Gs (i := .aload_n 0) (n := 1) rfl
theorem p74_5 : pd_G xs Ls d pd_m74 (5, L, st, S) o ↔ pd_K xs Ls d pd_m74 (mm_getf pd_ck 5 L st S 4 1) o := pd_Gs (i := .getfield 15) (n := 3) rfl
theorem p74_9 : pd_G xs Ls d pd_m74 (9, L, st, S) o ↔ pd_K xs Ls d pd_m74 (mm_ii st fun x y r => mm_icmp .ge x y (mm_go 32 L r S) (mm_go 12 L r S)) o := pd_Gs (i := .if_icmp .ge 23) (n := 3) rfl
theorem p74_12 : pd_G xs Ls d pd_m74 (12, L, st, S) o ↔ pd_K xs Ls d pd_m74 (mm_lA L 0 fun v => mm_go 13 L (v :: st) S) o := pd_Gs (i := .aload_n 0) (n := 1) rfl
theorem p74_13 : pd_G xs Ls d pd_m74 (13, L, st, S) o ↔ pd_K xs Ls d pd_m74 (mm_getf pd_ck 13 L st S 4 1) o := pd_Gs (i := .getfield 15) (n := 3) rfl
theorem p74_16 : pd_G xs Ls d pd_m74 (16, L, st, S) o ↔ pd_K xs Ls d pd_m74 (mm_lA L 0 fun v => mm_go 17 L (v :: st) S) o := pd_Gs (i := .aload_n 0) (n := 1) rfl
theorem p74_17 : pd_G xs Ls d pd_m74 (17, L, st, S) o ↔ pd_K xs Ls d pd_m74 (mm_getf pd_ck 17 L st S 4 2) o := pd_Gs (i := .getfield 18) (n := 3) rfl
theorem p74_20 : pd_G xs Ls d pd_m74 (20, L, st, S) o ↔ pd_K xs Ls d pd_m74 (mm_lD L 1 fun x => mm_go 21 L (.double x :: st) S) o := pd_Gs (i := .dload_n 1) (n := 1) rfl
theorem p74_21 : pd_G xs Ls d pd_m74 (21, L, st, S) o ↔ pd_K xs Ls d pd_m74 (mm_d st fun x st => mm_ai pd_ak S st 2 fun i a r => mm_go 22 L r (mm_sD S a i.toNatClampNeg x)) o := pd_Gs (i := .dastore) (n := 1) rfl
theorem p74_22 : pd_G xs Ls d pd_m74 (22, L, st, S) o ↔ pd_K xs Ls d pd_m74 (mm_lA L 0 fun v => mm_go 23 L (v :: st) S) o := pd_Gs (i := .aload_n 0) (n := 1) rfl
theorem p74_23 : pd_G xs Ls d pd_m74 (23, L, st, S) o ↔ pd_K xs Ls d pd_m74 (mm_1 st fun v r => cond (mm_c2 v) none (mm_go 24 L (v :: v :: r) S)) o := pd_Gs (i := .dup) (n := 1) rfl
theorem p74_24 : pd_G xs Ls d pd_m74 (24, L, st, S) o ↔ pd_K xs Ls d pd_m74 (mm_getf pd_ck 24 L st S 4 2) o := pd_Gs (i := .getfield 18) (n := 3) rfl
theorem p74_27 : pd_G xs Ls d pd_m74 (27, L, st, S) o ↔ pd_K xs Ls d pd_m74 (mm_go 28 L (.int 1 :: st) S) o := pd_Gs (i := .iconst 1) (n := 1) rfl
theorem p74_28 : pd_G xs Ls d pd_m74 (28, L, st, S) o ↔ pd_K xs Ls d pd_m74 (mm_ii st fun x y r => mm_go 29 L (.int (x + y) :: r) S) o := pd_Gs (i := .iadd) (n := 1) rfl
theorem p74_29 : pd_G xs Ls d pd_m74 (29, L, st, S) o ↔ pd_K xs Ls d pd_m74 (mm_putf pd_ck 29 L st S 4 2) o := pd_Gs (i := .putfield 18) (n := 3) rfl
theorem p74_32 : pd_G xs Ls d pd_m74 (32, L, st, S) o ↔ pd_K xs Ls d pd_m74 (mm_rV S st) o := pd_Gs (i := .return_) (n := 1) rfl
theorem p75_0 : pd_G xs Ls d pd_m75 (0, L, st, S) o ↔ pd_K xs Ls d pd_m75 (mm_lA L 0 fun v => mm_go 1 L (v :: st) S) o := pd_Gs (i := .aload_n 0) (n := 1) rfl
theorem p75_1 : pd_G xs Ls d pd_m75 (1, L, st, S) o ↔ pd_K xs Ls d pd_m75 (mm_lI L 1 fun x => mm_go 2 L (.int x :: st) S) o := pd_Gs (i := .iload_n 1) (n := 1) rfl
theorem p75_2 : pd_G xs Ls d pd_m75 (2, L, st, S) o ↔ pd_K xs Ls d pd_m75 (mm_invS (mm_ev xs Ls pd_ck pd_ak pd_mj d) pd_m75 2 L st S 71 1) o := pd_Gs (i := .invokestatic 22) (n := 3) rfl
theorem p75_5 : pd_G xs Ls d pd_m75 (5, L, st, S) o ↔ pd_K xs Ls d pd_m75 (mm_i st fun x r => mm_icmp .eq x 0 (mm_go 17 L r S) (mm_go 8 L r S)) o := pd_Gs (i := .ifCond .eq 12) (n := 3) rfl
theorem p75_8 : pd_G xs Ls d pd_m75 (8, L, st, S) o ↔ pd_K xs Ls d pd_m75 (mm_lA L 0 fun v => mm_go 9 L (v :: st) S) o := pd_Gs (i := .aload_n 0) (n := 1) rfl
theorem p75_9 : pd_G xs Ls d pd_m75 (9, L, st, S) o ↔ pd_K xs Ls d pd_m75 (mm_getf pd_ck 9 L st S 4 0) o := pd_Gs (i := .getfield 9) (n := 3) rfl
theorem p75_12 : pd_G xs Ls d pd_m75 (12, L, st, S) o ↔ pd_K xs Ls d pd_m75 (mm_lI L 1 fun x => mm_go 13 L (.int x :: st) S) o := pd_Gs (i := .iload_n 1) (n := 1) rfl
theorem p75_13 : pd_G xs Ls d pd_m75 (13, L, st, S) o ↔ pd_K xs Ls d pd_m75 (mm_ai pd_ak S st 2 fun i a r => mm_go 14 L (.double (S.2.1.2.1 a i.toNatClampNeg) :: r) S) o := pd_Gs (i := .daload) (n := 1) rfl
theorem p75_14 : pd_G xs Ls d pd_m75 (14, L, st, S) o ↔ pd_K xs Ls d pd_m75 (mm_go 18 L st S) o := pd_Gs (i := .goto 4) (n := 3) rfl
theorem p75_17 : pd_G xs Ls d pd_m75 (17, L, st, S) o ↔ pd_K xs Ls d pd_m75 (mm_go 18 L (.double FP.dconst0 :: st) S) o := pd_Gs (i := .dconst 0) (n := 1) rfl
theorem p75_18 : pd_G xs Ls d pd_m75 (18, L, st, S) o ↔ pd_K xs Ls d pd_m75 (mm_inv (mm_ev xs Ls pd_ck pd_ak pd_mj d) pd_m75 18 L st S 74 1 4) o := pd_Gs (i := .invokevirtual 34) (n := 3) rfl
theorem p75_21 : pd_G xs Ls d pd_m75 (21, L, st, S) o ↔ pd_K xs Ls d pd_m75 (mm_rV S st) o := pd_Gs (i := .return_) (n := 1) rfl
theorem p76_0 : pd_G xs Ls d pd_m76 (0, L, st, S) o ↔ pd_K xs Ls d pd_m76 (mm_lI L 0 fun x => mm_go 1 L (.int x :: st) S) o := pd_Gs (i := .iload_n 0) (n := 1) rfl
theorem p76_1 : pd_G xs Ls d pd_m76 (1, L, st, S) o ↔ pd_K xs Ls d pd_m76 (mm_i st fun x r => mm_icmp .lt x 0 (mm_go 9 L r S) (mm_go 4 L r S)) o := pd_Gs (i := .ifCond .lt 8) (n := 3) rfl
theorem p76_4 : pd_G xs Ls d pd_m76 (4, L, st, S) o ↔ pd_K xs Ls d pd_m76 (mm_lI L 0 fun x => mm_go 5 L (.int x :: st) S) o := pd_Gs (i := .iload_n 0) (n := 1) rfl
theorem p76_5 : pd_G xs Ls d pd_m76 (5, L, st, S) o ↔ pd_K xs Ls d pd_m76 (mm_go 6 L (.int 4 :: st) S) o := pd_Gs (i := .iconst 4) (n := 1) rfl
theorem p76_6 : pd_G xs Ls d pd_m76 (6, L, st, S) o ↔ pd_K xs Ls d pd_m76 (mm_ii st fun x y r => mm_icmp .lt x y (mm_go 19 L r S) (mm_go 9 L r S)) o := pd_Gs (i := .if_icmp .lt 13) (n := 3) rfl
theorem p76_9 : pd_G xs Ls d pd_m76 (9, L, st, S) o ↔ pd_K xs Ls d pd_m76 (cond (Nat.ble (mm_wt st) 8) (mm_end (.inr 4) (S.1, S.2.1, S.2.2 + 1)) none) o := pd_Gs (i := .new 50) (n := 3) rfl
theorem p76_19 : pd_G xs Ls d pd_m76 (19, L, st, S) o ↔ pd_K xs Ls d pd_m76 (mm_go 21 L (.int 7 :: st) S) o := pd_Gs (i := .bipush 7) (n := 2) rfl
theorem p76_21 : pd_G xs Ls d pd_m76 (21, L, st, S) o ↔ pd_K xs Ls d pd_m76 (mm_lI L 0 fun x => mm_go 22 L (.int x :: st) S) o := pd_Gs (i := .iload_n 0) (n := 1) rfl
theorem p76_22 : pd_G xs Ls d pd_m76 (22, L, st, S) o ↔ pd_K xs Ls d pd_m76 (mm_ii st fun x y r => mm_go 23 L (.int (x + y) :: r) S) o := pd_Gs (i := .iadd) (n := 1) rfl
theorem p76_23 : pd_G xs Ls d pd_m76 (23, L, st, S) o ↔ pd_K xs Ls d pd_m76 (mm_e0 S st) o := pd_Gs (i := .ireturn) (n := 1) rfl
theorem p77_0 : pd_G xs Ls d pd_m77 (0, L, st, S) o ↔ pd_K xs Ls d pd_m77 (mm_lI L 0 fun x => mm_go 1 L (.int x :: st) S) o := pd_Gs (i := .iload_n 0) (n := 1) rfl
theorem p77_1 : pd_G xs Ls d pd_m77 (1, L, st, S) o ↔ pd_K xs Ls d pd_m77 (mm_i st fun x r => if x = 7 then mm_go 52 L r S else if x = 8 then mm_go 59 L r S else if x = 9 then mm_go 66 L r S else if x = 10 then mm_go 73 L r S else if x = 11 then mm_go 80 L r S else if x = 12 then mm_go 87 L r S else if x = 13 then mm_go 94 L r S else if x = 14 then mm_go 100 L r S else if x = 15 then mm_go 109 L r S else mm_go 121 L r S) o := pd_Gs (i := .tableswitch 120 7 15 #[51, 58, 65, 72, 79, 86, 93, 99, 108]) (n := 51) rfl
theorem p77_52 : pd_G xs Ls d pd_m77 (52, L, st, S) o ↔ pd_K xs Ls d pd_m77 (mm_lD L 1 fun x => mm_go 53 L (.double x :: st) S) o := pd_Gs (i := .dload_n 1) (n := 1) rfl
theorem p77_53 : pd_G xs Ls d pd_m77 (53, L, st, S) o ↔ pd_K xs Ls d pd_m77 (mm_d st fun x r => mm_go 54 L (.int (FP.d2i x) :: r) S) o := pd_Gs (i := .d2i) (n := 1) rfl
theorem p77_54 : pd_G xs Ls d pd_m77 (54, L, st, S) o ↔ pd_K xs Ls d pd_m77 (mm_lD L 3 fun x => mm_go 55 L (.double x :: st) S) o := pd_Gs (i := .dload_n 3) (n := 1) rfl
theorem p77_55 : pd_G xs Ls d pd_m77 (55, L, st, S) o ↔ pd_K xs Ls d pd_m77 (mm_d st fun x r => mm_go 56 L (.int (FP.d2i x) :: r) S) o := pd_Gs (i := .d2i) (n := 1) rfl
theorem p77_56 : pd_G xs Ls d pd_m77 (56, L, st, S) o ↔ pd_K xs Ls d pd_m77 (mm_ii st fun x y r => mm_go 57 L (.int (x + y) :: r) S) o := pd_Gs (i := .iadd) (n := 1) rfl
theorem p77_57 : pd_G xs Ls d pd_m77 (57, L, st, S) o ↔ pd_K xs Ls d pd_m77 (mm_i st fun x r => mm_go 58 L (.double (FP.i2d x) :: r) S) o := pd_Gs (i := .i2d) (n := 1) rfl
theorem p77_58 : pd_G xs Ls d pd_m77 (58, L, st, S) o ↔ pd_K xs Ls d pd_m77 (mm_rD S st) o := pd_Gs (i := .dreturn) (n := 1) rfl
theorem p77_59 : pd_G xs Ls d pd_m77 (59, L, st, S) o ↔ pd_K xs Ls d pd_m77 (mm_lD L 1 fun x => mm_go 60 L (.double x :: st) S) o := pd_Gs (i := .dload_n 1) (n := 1) rfl
theorem p77_60 : pd_G xs Ls d pd_m77 (60, L, st, S) o ↔ pd_K xs Ls d pd_m77 (mm_d st fun x r => mm_go 61 L (.int (FP.d2i x) :: r) S) o := pd_Gs (i := .d2i) (n := 1) rfl
theorem p77_61 : pd_G xs Ls d pd_m77 (61, L, st, S) o ↔ pd_K xs Ls d pd_m77 (mm_lD L 3 fun x => mm_go 62 L (.double x :: st) S) o := pd_Gs (i := .dload_n 3) (n := 1) rfl
theorem p77_62 : pd_G xs Ls d pd_m77 (62, L, st, S) o ↔ pd_K xs Ls d pd_m77 (mm_d st fun x r => mm_go 63 L (.int (FP.d2i x) :: r) S) o := pd_Gs (i := .d2i) (n := 1) rfl
theorem p77_63 : pd_G xs Ls d pd_m77 (63, L, st, S) o ↔ pd_K xs Ls d pd_m77 (mm_ii st fun x y r => mm_go 64 L (.int (x - y) :: r) S) o := pd_Gs (i := .isub) (n := 1) rfl
theorem p77_64 : pd_G xs Ls d pd_m77 (64, L, st, S) o ↔ pd_K xs Ls d pd_m77 (mm_i st fun x r => mm_go 65 L (.double (FP.i2d x) :: r) S) o := pd_Gs (i := .i2d) (n := 1) rfl
theorem p77_65 : pd_G xs Ls d pd_m77 (65, L, st, S) o ↔ pd_K xs Ls d pd_m77 (mm_rD S st) o := pd_Gs (i := .dreturn) (n := 1) rfl
theorem p77_66 : pd_G xs Ls d pd_m77 (66, L, st, S) o ↔ pd_K xs Ls d pd_m77 (mm_lD L 1 fun x => mm_go 67 L (.double x :: st) S) o := pd_Gs (i := .dload_n 1) (n := 1) rfl
theorem p77_67 : pd_G xs Ls d pd_m77 (67, L, st, S) o ↔ pd_K xs Ls d pd_m77 (mm_d st fun x r => mm_go 68 L (.int (FP.d2i x) :: r) S) o := pd_Gs (i := .d2i) (n := 1) rfl
theorem p77_68 : pd_G xs Ls d pd_m77 (68, L, st, S) o ↔ pd_K xs Ls d pd_m77 (mm_lD L 3 fun x => mm_go 69 L (.double x :: st) S) o := pd_Gs (i := .dload_n 3) (n := 1) rfl
theorem p77_69 : pd_G xs Ls d pd_m77 (69, L, st, S) o ↔ pd_K xs Ls d pd_m77 (mm_d st fun x r => mm_go 70 L (.int (FP.d2i x) :: r) S) o := pd_Gs (i := .d2i) (n := 1) rfl
theorem p77_70 : pd_G xs Ls d pd_m77 (70, L, st, S) o ↔ pd_K xs Ls d pd_m77 (mm_ii st fun x y r => mm_go 71 L (.int (x * y) :: r) S) o := pd_Gs (i := .imul) (n := 1) rfl
theorem p77_71 : pd_G xs Ls d pd_m77 (71, L, st, S) o ↔ pd_K xs Ls d pd_m77 (mm_i st fun x r => mm_go 72 L (.double (FP.i2d x) :: r) S) o := pd_Gs (i := .i2d) (n := 1) rfl
theorem p77_72 : pd_G xs Ls d pd_m77 (72, L, st, S) o ↔ pd_K xs Ls d pd_m77 (mm_rD S st) o := pd_Gs (i := .dreturn) (n := 1) rfl
theorem p77_73 : pd_G xs Ls d pd_m77 (73, L, st, S) o ↔ pd_K xs Ls d pd_m77 (mm_lD L 1 fun x => mm_go 74 L (.double x :: st) S) o := pd_Gs (i := .dload_n 1) (n := 1) rfl
theorem p77_74 : pd_G xs Ls d pd_m77 (74, L, st, S) o ↔ pd_K xs Ls d pd_m77 (mm_lD L 3 fun x => mm_go 75 L (.double x :: st) S) o := pd_Gs (i := .dload_n 3) (n := 1) rfl
theorem p77_75 : pd_G xs Ls d pd_m77 (75, L, st, S) o ↔ pd_K xs Ls d pd_m77 (mm_dd st fun x y r => cond (mm_n64 (FP.dadd x y)) (mm_go 76 L (.double (FP.dadd x y) :: r) S) none) o := pd_Gs (i := .dadd) (n := 1) rfl
theorem p77_76 : pd_G xs Ls d pd_m77 (76, L, st, S) o ↔ pd_K xs Ls d pd_m77 (mm_invS (mm_ev xs Ls pd_ck pd_ak pd_mj d) pd_m77 76 L st S 78 1) o := pd_Gs (i := .invokestatic 57) (n := 3) rfl
theorem p77_79 : pd_G xs Ls d pd_m77 (79, L, st, S) o ↔ pd_K xs Ls d pd_m77 (mm_rD S st) o := pd_Gs (i := .dreturn) (n := 1) rfl
theorem p77_80 : pd_G xs Ls d pd_m77 (80, L, st, S) o ↔ pd_K xs Ls d pd_m77 (mm_lD L 1 fun x => mm_go 81 L (.double x :: st) S) o := pd_Gs (i := .dload_n 1) (n := 1) rfl
theorem p77_81 : pd_G xs Ls d pd_m77 (81, L, st, S) o ↔ pd_K xs Ls d pd_m77 (mm_lD L 3 fun x => mm_go 82 L (.double x :: st) S) o := pd_Gs (i := .dload_n 3) (n := 1) rfl
theorem p77_82 : pd_G xs Ls d pd_m77 (82, L, st, S) o ↔ pd_K xs Ls d pd_m77 (mm_dd st fun x y r => cond (mm_n64 (FP.dsub x y)) (mm_go 83 L (.double (FP.dsub x y) :: r) S) none) o := pd_Gs (i := .dsub) (n := 1) rfl
theorem p77_83 : pd_G xs Ls d pd_m77 (83, L, st, S) o ↔ pd_K xs Ls d pd_m77 (mm_invS (mm_ev xs Ls pd_ck pd_ak pd_mj d) pd_m77 83 L st S 78 1) o := pd_Gs (i := .invokestatic 57) (n := 3) rfl
theorem p77_86 : pd_G xs Ls d pd_m77 (86, L, st, S) o ↔ pd_K xs Ls d pd_m77 (mm_rD S st) o := pd_Gs (i := .dreturn) (n := 1) rfl
theorem p77_87 : pd_G xs Ls d pd_m77 (87, L, st, S) o ↔ pd_K xs Ls d pd_m77 (mm_lD L 1 fun x => mm_go 88 L (.double x :: st) S) o := pd_Gs (i := .dload_n 1) (n := 1) rfl
theorem p77_88 : pd_G xs Ls d pd_m77 (88, L, st, S) o ↔ pd_K xs Ls d pd_m77 (mm_lD L 3 fun x => mm_go 89 L (.double x :: st) S) o := pd_Gs (i := .dload_n 3) (n := 1) rfl
theorem p77_89 : pd_G xs Ls d pd_m77 (89, L, st, S) o ↔ pd_K xs Ls d pd_m77 (mm_dd st fun x y r => cond (mm_n64 (FP.dmul x y)) (mm_go 90 L (.double (FP.dmul x y) :: r) S) none) o := pd_Gs (i := .dmul) (n := 1) rfl
theorem p77_90 : pd_G xs Ls d pd_m77 (90, L, st, S) o ↔ pd_K xs Ls d pd_m77 (mm_invS (mm_ev xs Ls pd_ck pd_ak pd_mj d) pd_m77 90 L st S 78 1) o := pd_Gs (i := .invokestatic 57) (n := 3) rfl
theorem p77_93 : pd_G xs Ls d pd_m77 (93, L, st, S) o ↔ pd_K xs Ls d pd_m77 (mm_rD S st) o := pd_Gs (i := .dreturn) (n := 1) rfl
theorem p77_94 : pd_G xs Ls d pd_m77 (94, L, st, S) o ↔ pd_K xs Ls d pd_m77 (mm_lD L 1 fun x => mm_go 95 L (.double x :: st) S) o := pd_Gs (i := .dload_n 1) (n := 1) rfl
theorem p77_95 : pd_G xs Ls d pd_m77 (95, L, st, S) o ↔ pd_K xs Ls d pd_m77 (mm_lD L 3 fun x => mm_go 96 L (.double x :: st) S) o := pd_Gs (i := .dload_n 3) (n := 1) rfl
theorem p77_96 : pd_G xs Ls d pd_m77 (96, L, st, S) o ↔ pd_K xs Ls d pd_m77 (mm_invS (mm_ev xs Ls pd_ck pd_ak pd_mj d) pd_m77 96 L st S 79 2) o := pd_Gs (i := .invokestatic 61) (n := 3) rfl
theorem p77_99 : pd_G xs Ls d pd_m77 (99, L, st, S) o ↔ pd_K xs Ls d pd_m77 (mm_rD S st) o := pd_Gs (i := .dreturn) (n := 1) rfl
theorem p77_100 : pd_G xs Ls d pd_m77 (100, L, st, S) o ↔ pd_K xs Ls d pd_m77 (mm_lD L 1 fun x => mm_go 101 L (.double x :: st) S) o := pd_Gs (i := .dload_n 1) (n := 1) rfl
theorem p77_101 : pd_G xs Ls d pd_m77 (101, L, st, S) o ↔ pd_K xs Ls d pd_m77 (mm_d st fun x r => mm_go 102 L (.int (FP.d2i x) :: r) S) o := pd_Gs (i := .d2i) (n := 1) rfl
theorem p77_102 : pd_G xs Ls d pd_m77 (102, L, st, S) o ↔ pd_K xs Ls d pd_m77 (mm_lD L 3 fun x => mm_go 103 L (.double x :: st) S) o := pd_Gs (i := .dload_n 3) (n := 1) rfl
theorem p77_103 : pd_G xs Ls d pd_m77 (103, L, st, S) o ↔ pd_K xs Ls d pd_m77 (mm_d st fun x r => mm_go 104 L (.int (FP.d2i x) :: r) S) o := pd_Gs (i := .d2i) (n := 1) rfl
theorem p77_104 : pd_G xs Ls d pd_m77 (104, L, st, S) o ↔ pd_K xs Ls d pd_m77 (mm_invS (mm_ev xs Ls pd_ck pd_ak pd_mj d) pd_m77 104 L st S 80 2) o := pd_Gs (i := .invokestatic 65) (n := 3) rfl
theorem p77_107 : pd_G xs Ls d pd_m77 (107, L, st, S) o ↔ pd_K xs Ls d pd_m77 (mm_i st fun x r => mm_go 108 L (.double (FP.i2d x) :: r) S) o := pd_Gs (i := .i2d) (n := 1) rfl
theorem p77_108 : pd_G xs Ls d pd_m77 (108, L, st, S) o ↔ pd_K xs Ls d pd_m77 (mm_rD S st) o := pd_Gs (i := .dreturn) (n := 1) rfl
theorem p77_109 : pd_G xs Ls d pd_m77 (109, L, st, S) o ↔ pd_K xs Ls d pd_m77 (mm_lD L 1 fun x => mm_go 110 L (.double x :: st) S) o := pd_Gs (i := .dload_n 1) (n := 1) rfl
theorem p77_110 : pd_G xs Ls d pd_m77 (110, L, st, S) o ↔ pd_K xs Ls d pd_m77 (mm_lD L 3 fun x => mm_go 111 L (.double x :: st) S) o := pd_Gs (i := .dload_n 3) (n := 1) rfl
theorem p77_111 : pd_G xs Ls d pd_m77 (111, L, st, S) o ↔ pd_K xs Ls d pd_m77 (mm_dd st fun x y r => mm_go 112 L (.int (Op.cmpValue (FP.dcmp x y) .g) :: r) S) o := pd_Gs (i := .dcmp .g) (n := 1) rfl
theorem p77_112 : pd_G xs Ls d pd_m77 (112, L, st, S) o ↔ pd_K xs Ls d pd_m77 (mm_i st fun x r => mm_icmp .ge x 0 (mm_go 119 L r S) (mm_go 115 L r S)) o := pd_Gs (i := .ifCond .ge 7) (n := 3) rfl
theorem p77_115 : pd_G xs Ls d pd_m77 (115, L, st, S) o ↔ pd_K xs Ls d pd_m77 (mm_go 116 L (.double FP.dconst1 :: st) S) o := pd_Gs (i := .dconst 1) (n := 1) rfl
theorem p77_116 : pd_G xs Ls d pd_m77 (116, L, st, S) o ↔ pd_K xs Ls d pd_m77 (mm_go 120 L st S) o := pd_Gs (i := .goto 4) (n := 3) rfl
theorem p77_119 : pd_G xs Ls d pd_m77 (119, L, st, S) o ↔ pd_K xs Ls d pd_m77 (mm_go 120 L (.double FP.dconst0 :: st) S) o := pd_Gs (i := .dconst 0) (n := 1) rfl
theorem p77_120 : pd_G xs Ls d pd_m77 (120, L, st, S) o ↔ pd_K xs Ls d pd_m77 (mm_rD S st) o := pd_Gs (i := .dreturn) (n := 1) rfl
theorem p77_121 : pd_G xs Ls d pd_m77 (121, L, st, S) o ↔ pd_K xs Ls d pd_m77 (mm_lD L 1 fun x => mm_go 122 L (.double x :: st) S) o := pd_Gs (i := .dload_n 1) (n := 1) rfl
theorem p77_122 : pd_G xs Ls d pd_m77 (122, L, st, S) o ↔ pd_K xs Ls d pd_m77 (mm_lD L 3 fun x => mm_go 123 L (.double x :: st) S) o := pd_Gs (i := .dload_n 3) (n := 1) rfl
theorem p77_123 : pd_G xs Ls d pd_m77 (123, L, st, S) o ↔ pd_K xs Ls d pd_m77 (mm_dd st fun x y r => mm_go 124 L (.int (Op.cmpValue (FP.dcmp x y) .l) :: r) S) o := pd_Gs (i := .dcmp .l) (n := 1) rfl
theorem p77_124 : pd_G xs Ls d pd_m77 (124, L, st, S) o ↔ pd_K xs Ls d pd_m77 (mm_i st fun x r => mm_icmp .ne x 0 (mm_go 131 L r S) (mm_go 127 L r S)) o := pd_Gs (i := .ifCond .ne 7) (n := 3) rfl
theorem p77_127 : pd_G xs Ls d pd_m77 (127, L, st, S) o ↔ pd_K xs Ls d pd_m77 (mm_go 128 L (.double FP.dconst1 :: st) S) o := pd_Gs (i := .dconst 1) (n := 1) rfl
theorem p77_128 : pd_G xs Ls d pd_m77 (128, L, st, S) o ↔ pd_K xs Ls d pd_m77 (mm_go 132 L st S) o := pd_Gs (i := .goto 4) (n := 3) rfl
theorem p77_131 : pd_G xs Ls d pd_m77 (131, L, st, S) o ↔ pd_K xs Ls d pd_m77 (mm_go 132 L (.double FP.dconst0 :: st) S) o := pd_Gs (i := .dconst 0) (n := 1) rfl
theorem p77_132 : pd_G xs Ls d pd_m77 (132, L, st, S) o ↔ pd_K xs Ls d pd_m77 (mm_rD S st) o := pd_Gs (i := .dreturn) (n := 1) rfl
theorem p78_0 : pd_G xs Ls d pd_m78 (0, L, st, S) o ↔ pd_K xs Ls d pd_m78 (mm_lD L 0 fun x => mm_go 1 L (.double x :: st) S) o := pd_Gs (i := .dload_n 0) (n := 1) rfl
theorem p78_1 : pd_G xs Ls d pd_m78 (1, L, st, S) o ↔ pd_K xs Ls d pd_m78 (mm_go 4 L (.double 4741671816366391296 :: st) S) o := pd_Gs (i := .ldc2_w 76) (n := 3) rfl
theorem p78_4 : pd_G xs Ls d pd_m78 (4, L, st, S) o ↔ pd_K xs Ls d pd_m78 (mm_dd st fun x y r => mm_go 5 L (.int (Op.cmpValue (FP.dcmp x y) .l) :: r) S) o := pd_Gs (i := .dcmp .l) (n := 1) rfl
theorem p78_5 : pd_G xs Ls d pd_m78 (5, L, st, S) o ↔ pd_K xs Ls d pd_m78 (mm_i st fun x r => mm_icmp .gt x 0 (mm_go 16 L r S) (mm_go 8 L r S)) o := pd_Gs (i := .ifCond .gt 11) (n := 3) rfl
theorem p78_8 : pd_G xs Ls d pd_m78 (8, L, st, S) o ↔ pd_K xs Ls d pd_m78 (mm_lD L 0 fun x => mm_go 9 L (.double x :: st) S) o := pd_Gs (i := .dload_n 0) (n := 1) rfl
theorem p78_9 : pd_G xs Ls d pd_m78 (9, L, st, S) o ↔ pd_K xs Ls d pd_m78 (mm_go 12 L (.double 13965043853221167104 :: st) S) o := pd_Gs (i := .ldc2_w 78) (n := 3) rfl
theorem p78_12 : pd_G xs Ls d pd_m78 (12, L, st, S) o ↔ pd_K xs Ls d pd_m78 (mm_dd st fun x y r => mm_go 13 L (.int (Op.cmpValue (FP.dcmp x y) .g) :: r) S) o := pd_Gs (i := .dcmp .g) (n := 1) rfl
theorem p78_13 : pd_G xs Ls d pd_m78 (13, L, st, S) o ↔ pd_K xs Ls d pd_m78 (mm_i st fun x r => mm_icmp .ge x 0 (mm_go 26 L r S) (mm_go 16 L r S)) o := pd_Gs (i := .ifCond .ge 13) (n := 3) rfl
theorem p78_16 : pd_G xs Ls d pd_m78 (16, L, st, S) o ↔ pd_K xs Ls d pd_m78 (cond (Nat.ble (mm_wt st) 8) (mm_end (.inr 3) (S.1, S.2.1, S.2.2 + 1)) none) o := pd_Gs (i := .new 69) (n := 3) rfl
theorem p78_26 : pd_G xs Ls d pd_m78 (26, L, st, S) o ↔ pd_K xs Ls d pd_m78 (mm_lD L 0 fun x => mm_go 27 L (.double x :: st) S) o := pd_Gs (i := .dload_n 0) (n := 1) rfl
theorem p78_27 : pd_G xs Ls d pd_m78 (27, L, st, S) o ↔ pd_K xs Ls d pd_m78 (mm_rD S st) o := pd_Gs (i := .dreturn) (n := 1) rfl
theorem p79_0 : pd_G xs Ls d pd_m79 (0, L, st, S) o ↔ pd_K xs Ls d pd_m79 (mm_lD L 2 fun x => mm_go 1 L (.double x :: st) S) o := pd_Gs (i := .dload_n 2) (n := 1) rfl
theorem p79_1 : pd_G xs Ls d pd_m79 (1, L, st, S) o ↔ pd_K xs Ls d pd_m79 (mm_go 2 L (.double FP.dconst0 :: st) S) o := pd_Gs (i := .dconst 0) (n := 1) rfl
theorem p79_2 : pd_G xs Ls d pd_m79 (2, L, st, S) o ↔ pd_K xs Ls d pd_m79 (mm_dd st fun x y r => mm_go 3 L (.int (Op.cmpValue (FP.dcmp x y) .l) :: r) S) o := pd_Gs (i := .dcmp .l) (n := 1) rfl
theorem p79_3 : pd_G xs Ls d pd_m79 (3, L, st, S) o ↔ pd_K xs Ls d pd_m79 (mm_i st fun x r => mm_icmp .ne x 0 (mm_go 16 L r S) (mm_go 6 L r S)) o := pd_Gs (i := .ifCond .ne 13) (n := 3) rfl
theorem p79_6 : pd_G xs Ls d pd_m79 (6, L, st, S) o ↔ pd_K xs Ls d pd_m79 (cond (Nat.ble (mm_wt st) 8) (mm_end (.inr 3) (S.1, S.2.1, S.2.2 + 1)) none) o := pd_Gs (i := .new 69) (n := 3) rfl
theorem p79_16 : pd_G xs Ls d pd_m79 (16, L, st, S) o ↔ pd_K xs Ls d pd_m79 (mm_lD L 0 fun x => mm_go 17 L (.double x :: st) S) o := pd_Gs (i := .dload_n 0) (n := 1) rfl
theorem p79_17 : pd_G xs Ls d pd_m79 (17, L, st, S) o ↔ pd_K xs Ls d pd_m79 (mm_lD L 2 fun x => mm_go 18 L (.double x :: st) S) o := pd_Gs (i := .dload_n 2) (n := 1) rfl
theorem p79_18 : pd_G xs Ls d pd_m79 (18, L, st, S) o ↔ pd_K xs Ls d pd_m79 (mm_dd st fun x y r => cond (mm_n64 (FP.ddiv x y)) (mm_go 19 L (.double (FP.ddiv x y) :: r) S) none) o := pd_Gs (i := .ddiv) (n := 1) rfl
theorem p79_19 : pd_G xs Ls d pd_m79 (19, L, st, S) o ↔ pd_K xs Ls d pd_m79 (mm_invS (mm_ev xs Ls pd_ck pd_ak pd_mj d) pd_m79 19 L st S 78 1) o := pd_Gs (i := .invokestatic 57) (n := 3) rfl
theorem p79_22 : pd_G xs Ls d pd_m79 (22, L, st, S) o ↔ pd_K xs Ls d pd_m79 (mm_rD S st) o := pd_Gs (i := .dreturn) (n := 1) rfl
theorem p80_0 : pd_G xs Ls d pd_m80 (0, L, st, S) o ↔ pd_K xs Ls d pd_m80 (mm_lI L 1 fun x => mm_go 1 L (.int x :: st) S) o := pd_Gs (i := .iload_n 1) (n := 1) rfl
theorem p80_1 : pd_G xs Ls d pd_m80 (1, L, st, S) o ↔ pd_K xs Ls d pd_m80 (mm_i st fun x r => mm_icmp .ne x 0 (mm_go 14 L r S) (mm_go 4 L r S)) o := pd_Gs (i := .ifCond .ne 13) (n := 3) rfl
theorem p80_4 : pd_G xs Ls d pd_m80 (4, L, st, S) o ↔ pd_K xs Ls d pd_m80 (cond (Nat.ble (mm_wt st) 8) (mm_end (.inr 3) (S.1, S.2.1, S.2.2 + 1)) none) o := pd_Gs (i := .new 69) (n := 3) rfl
theorem p80_14 : pd_G xs Ls d pd_m80 (14, L, st, S) o ↔ pd_K xs Ls d pd_m80 (mm_lI L 0 fun x => mm_go 15 L (.int x :: st) S) o := pd_Gs (i := .iload_n 0) (n := 1) rfl
theorem p80_15 : pd_G xs Ls d pd_m80 (15, L, st, S) o ↔ pd_K xs Ls d pd_m80 (mm_lI L 1 fun x => mm_go 16 L (.int x :: st) S) o := pd_Gs (i := .iload_n 1) (n := 1) rfl
theorem p80_16 : pd_G xs Ls d pd_m80 (16, L, st, S) o ↔ pd_K xs Ls d pd_m80 (mm_ii st fun x y r => if y = 0 then none else mm_go 17 L (.int (x - x / y * y) :: r) S) o := pd_Gs (i := .irem) (n := 1) rfl
theorem p80_17 : pd_G xs Ls d pd_m80 (17, L, st, S) o ↔ pd_K xs Ls d pd_m80 (mm_e0 S st) o := pd_Gs (i := .ireturn) (n := 1) rfl
theorem p81_0 : pd_G xs Ls d pd_m81 (0, L, st, S) o ↔ pd_K xs Ls d pd_m81 (mm_lA L 0 fun v => mm_go 1 L (v :: st) S) o := pd_Gs (i := .aload_n 0) (n := 1) rfl
theorem p81_1 : pd_G xs Ls d pd_m81 (1, L, st, S) o ↔ pd_K xs Ls d pd_m81 (mm_r st fun _ r => cond (Nat.ble (mm_wt r) 8) (mm_go 4 L r S) none) o := pd_Gs (i := .invokespecial 3) (n := 3) rfl
theorem p81_4 : pd_G xs Ls d pd_m81 (4, L, st, S) o ↔ pd_K xs Ls d pd_m81 (mm_lA L 0 fun v => mm_go 5 L (v :: st) S) o := pd_Gs (i := .aload_n 0) (n := 1) rfl
theorem p81_5 : pd_G xs Ls d pd_m81 (5, L, st, S) o ↔ pd_K xs Ls d pd_m81 (mm_go 7 L (.int 16 :: st) S) o := pd_Gs (i := .bipush 16) (n := 2) rfl
theorem p81_7 : pd_G xs Ls d pd_m81 (7, L, st, S) o ↔ pd_K xs Ls d pd_m81 (mm_i st fun n r => mm_al S (if n < 0 then none else mm_go 9 L (.ref S.1.length :: r) (mm_new S (.inr (0, n.toNatClampNeg))))) o := pd_Gs (i := .newarray .int) (n := 2) rfl
theorem p81_9 : pd_G xs Ls d pd_m81 (9, L, st, S) o ↔ pd_K xs Ls d pd_m81 (mm_putf pd_ck 9 L st S 5 0) o := pd_Gs (i := .putfield 9) (n := 3) rfl
theorem p81_12 : pd_G xs Ls d pd_m81 (12, L, st, S) o ↔ pd_K xs Ls d pd_m81 (mm_lA L 0 fun v => mm_go 13 L (v :: st) S) o := pd_Gs (i := .aload_n 0) (n := 1) rfl
theorem p81_13 : pd_G xs Ls d pd_m81 (13, L, st, S) o ↔ pd_K xs Ls d pd_m81 (mm_go 14 L (.int 1 :: st) S) o := pd_Gs (i := .iconst 1) (n := 1) rfl
theorem p81_14 : pd_G xs Ls d pd_m81 (14, L, st, S) o ↔ pd_K xs Ls d pd_m81 (mm_putf pd_ck 14 L st S 5 1) o := pd_Gs (i := .putfield 15) (n := 3) rfl
theorem p81_17 : pd_G xs Ls d pd_m81 (17, L, st, S) o ↔ pd_K xs Ls d pd_m81 (mm_rV S st) o := pd_Gs (i := .return_) (n := 1) rfl
theorem p82_0 : pd_G xs Ls d pd_m82 (0, L, st, S) o ↔ pd_K xs Ls d pd_m82 (mm_go 1 L (.int 0 :: st) S) o := pd_Gs (i := .iconst 0) (n := 1) rfl
theorem p82_1 : pd_G xs Ls d pd_m82 (1, L, st, S) o ↔ pd_K xs Ls d pd_m82 (mm_i st fun x r => mm_go 3 (mm_sto L 0 4 (.int x)) r S) o := pd_Gs (i := .istore 4) (n := 2) rfl
theorem p82_3 : pd_G xs Ls d pd_m82 (3, L, st, S) o ↔ pd_K xs Ls d pd_m82 (mm_lI L 4 fun x => mm_go 5 L (.int x :: st) S) o := pd_Gs (i := .iload 4) (n := 2) rfl
theorem p82_5 : pd_G xs Ls d pd_m82 (5, L, st, S) o ↔ pd_K xs Ls d pd_m82 (mm_lI L 3 fun x => mm_go 6 L (.int x :: st) S) o := pd_Gs (i := .iload_n 3) (n := 1) rfl
theorem p82_6 : pd_G xs Ls d pd_m82 (6, L, st, S) o ↔ pd_K xs Ls d pd_m82 (mm_ii st fun x y r => mm_icmp .ge x y (mm_go 39 L r S) (mm_go 9 L r S)) o := pd_Gs (i := .if_icmp .ge 33) (n := 3) rfl
theorem p82_9 : pd_G xs Ls d pd_m82 (9, L, st, S) o ↔ pd_K xs Ls d pd_m82 (mm_lI L 4 fun x => mm_go 11 L (.int x :: st) S) o := pd_Gs (i := .iload 4) (n := 2) rfl
theorem p82_11 : pd_G xs Ls d pd_m82 (11, L, st, S) o ↔ pd_K xs Ls d pd_m82 (mm_go 13 L (.int 16 :: st) S) o := pd_Gs (i := .bipush 16) (n := 2) rfl
theorem p82_13 : pd_G xs Ls d pd_m82 (13, L, st, S) o ↔ pd_K xs Ls d pd_m82 (mm_ii st fun x y r => mm_icmp .ge x y (mm_go 39 L r S) (mm_go 16 L r S)) o := pd_Gs (i := .if_icmp .ge 26) (n := 3) rfl
theorem p82_16 : pd_G xs Ls d pd_m82 (16, L, st, S) o ↔ pd_K xs Ls d pd_m82 (mm_lA L 0 fun v => mm_go 17 L (v :: st) S) o := pd_Gs (i := .aload_n 0) (n := 1) rfl
theorem p82_17 : pd_G xs Ls d pd_m82 (17, L, st, S) o ↔ pd_K xs Ls d pd_m82 (mm_getf pd_ck 17 L st S 5 0) o := pd_Gs (i := .getfield 9) (n := 3) rfl
theorem p82_20 : pd_G xs Ls d pd_m82 (20, L, st, S) o ↔ pd_K xs Ls d pd_m82 (mm_lI L 4 fun x => mm_go 22 L (.int x :: st) S) o := pd_Gs (i := .iload 4) (n := 2) rfl
theorem p82_22 : pd_G xs Ls d pd_m82 (22, L, st, S) o ↔ pd_K xs Ls d pd_m82 (mm_lJ L 1 fun x => mm_go 23 L (.long x :: st) S) o := pd_Gs (i := .lload_n 1) (n := 1) rfl
theorem p82_23 : pd_G xs Ls d pd_m82 (23, L, st, S) o ↔ pd_K xs Ls d pd_m82 (mm_go 24 L (.int 4 :: st) S) o := pd_Gs (i := .iconst 4) (n := 1) rfl
theorem p82_24 : pd_G xs Ls d pd_m82 (24, L, st, S) o ↔ pd_K xs Ls d pd_m82 (mm_lI L 4 fun x => mm_go 26 L (.int x :: st) S) o := pd_Gs (i := .iload 4) (n := 2) rfl
theorem p82_26 : pd_G xs Ls d pd_m82 (26, L, st, S) o ↔ pd_K xs Ls d pd_m82 (mm_ii st fun x y r => mm_go 27 L (.int (x * y) :: r) S) o := pd_Gs (i := .imul) (n := 1) rfl
theorem p82_27 : pd_G xs Ls d pd_m82 (27, L, st, S) o ↔ pd_K xs Ls d pd_m82 (mm_ji st fun x y r => mm_go 28 L (.long (x.toUInt64 >>> (y.toInt64.toUInt64 &&& Int64.toUInt64 63)).toInt64 :: r) S) o := pd_Gs (i := .lushr) (n := 1) rfl
theorem p82_28 : pd_G xs Ls d pd_m82 (28, L, st, S) o ↔ pd_K xs Ls d pd_m82 (mm_j st fun x r => mm_go 29 L (.int x.toInt32 :: r) S) o := pd_Gs (i := .l2i) (n := 1) rfl
theorem p82_29 : pd_G xs Ls d pd_m82 (29, L, st, S) o ↔ pd_K xs Ls d pd_m82 (mm_go 31 L (.int 15 :: st) S) o := pd_Gs (i := .bipush 15) (n := 2) rfl
theorem p82_31 : pd_G xs Ls d pd_m82 (31, L, st, S) o ↔ pd_K xs Ls d pd_m82 (mm_ii st fun x y r => mm_go 32 L (.int (x &&& y) :: r) S) o := pd_Gs (i := .iand) (n := 1) rfl
theorem p82_32 : pd_G xs Ls d pd_m82 (32, L, st, S) o ↔ pd_K xs Ls d pd_m82 (mm_i st fun x st => mm_ai pd_ak S st 0 fun i a r => mm_go 33 L r (mm_sI S a i.toNatClampNeg x)) o := pd_Gs (i := .iastore) (n := 1) rfl
theorem p82_33 : pd_G xs Ls d pd_m82 (33, L, st, S) o ↔ pd_K xs Ls d pd_m82 (mm_lI L 4 fun x => mm_go 36 (mm_sto L 0 4 (.int (x + 1))) st S) o := pd_Gs (i := .iinc 4 1) (n := 3) rfl
theorem p82_36 : pd_G xs Ls d pd_m82 (36, L, st, S) o ↔ pd_K xs Ls d pd_m82 (mm_go 3 L st S) o := pd_Gs (i := .goto (-33)) (n := 3) rfl
theorem p82_39 : pd_G xs Ls d pd_m82 (39, L, st, S) o ↔ pd_K xs Ls d pd_m82 (mm_lA L 0 fun v => mm_go 40 L (v :: st) S) o := pd_Gs (i := .aload_n 0) (n := 1) rfl
theorem p82_40 : pd_G xs Ls d pd_m82 (40, L, st, S) o ↔ pd_K xs Ls d pd_m82 (mm_lI L 3 fun x => mm_go 41 L (.int x :: st) S) o := pd_Gs (i := .iload_n 3) (n := 1) rfl
theorem p82_41 : pd_G xs Ls d pd_m82 (41, L, st, S) o ↔ pd_K xs Ls d pd_m82 (mm_putf pd_ck 41 L st S 5 1) o := pd_Gs (i := .putfield 15) (n := 3) rfl
theorem p82_44 : pd_G xs Ls d pd_m82 (44, L, st, S) o ↔ pd_K xs Ls d pd_m82 (mm_rV S st) o := pd_Gs (i := .return_) (n := 1) rfl
theorem p83_0 : pd_G xs Ls d pd_m83 (0, L, st, S) o ↔ pd_K xs Ls d pd_m83 (mm_lA L 0 fun v => mm_go 1 L (v :: st) S) o := pd_Gs (i := .aload_n 0) (n := 1) rfl
theorem p83_1 : pd_G xs Ls d pd_m83 (1, L, st, S) o ↔ pd_K xs Ls d pd_m83 (mm_go 2 L (.int 0 :: st) S) o := pd_Gs (i := .iconst 0) (n := 1) rfl
theorem p83_2 : pd_G xs Ls d pd_m83 (2, L, st, S) o ↔ pd_K xs Ls d pd_m83 (mm_putf pd_ck 2 L st S 5 2) o := pd_Gs (i := .putfield 19) (n := 3) rfl
theorem p83_5 : pd_G xs Ls d pd_m83 (5, L, st, S) o ↔ pd_K xs Ls d pd_m83 (mm_rV S st) o := pd_Gs (i := .return_) (n := 1) rfl
theorem p84_0 : pd_G xs Ls d pd_m84 (0, L, st, S) o ↔ pd_K xs Ls d pd_m84 (mm_lA L 0 fun v => mm_go 1 L (v :: st) S) o := pd_Gs (i := .aload_n 0) (n := 1) rfl
theorem p84_1 : pd_G xs Ls d pd_m84 (1, L, st, S) o ↔ pd_K xs Ls d pd_m84 (mm_getf pd_ck 1 L st S 5 2) o := pd_Gs (i := .getfield 19) (n := 3) rfl
theorem p84_4 : pd_G xs Ls d pd_m84 (4, L, st, S) o ↔ pd_K xs Ls d pd_m84 (mm_lA L 0 fun v => mm_go 5 L (v :: st) S) o := pd_Gs (i := .aload_n 0) (n := 1) rfl
theorem p84_5 : pd_G xs Ls d pd_m84 (5, L, st, S) o ↔ pd_K xs Ls d pd_m84 (mm_getf pd_ck 5 L st S 5 1) o := pd_Gs (i := .getfield 15) (n := 3) rfl
theorem p84_8 : pd_G xs Ls d pd_m84 (8, L, st, S) o ↔ pd_K xs Ls d pd_m84 (mm_ii st fun x y r => mm_icmp .ge x y (mm_go 20 L r S) (mm_go 11 L r S)) o := pd_Gs (i := .if_icmp .ge 12) (n := 3) rfl
theorem p84_11 : pd_G xs Ls d pd_m84 (11, L, st, S) o ↔ pd_K xs Ls d pd_m84 (mm_lA L 0 fun v => mm_go 12 L (v :: st) S) o := pd_Gs (i := .aload_n 0) (n := 1) rfl
theorem p84_12 : pd_G xs Ls d pd_m84 (12, L, st, S) o ↔ pd_K xs Ls d pd_m84 (mm_getf pd_ck 12 L st S 5 2) o := pd_Gs (i := .getfield 19) (n := 3) rfl
theorem p84_15 : pd_G xs Ls d pd_m84 (15, L, st, S) o ↔ pd_K xs Ls d pd_m84 (mm_go 17 L (.int 16 :: st) S) o := pd_Gs (i := .bipush 16) (n := 2) rfl
theorem p84_17 : pd_G xs Ls d pd_m84 (17, L, st, S) o ↔ pd_K xs Ls d pd_m84 (mm_ii st fun x y r => mm_icmp .lt x y (mm_go 25 L r S) (mm_go 20 L r S)) o := pd_Gs (i := .if_icmp .lt 8) (n := 3) rfl
theorem p84_20 : pd_G xs Ls d pd_m84 (20, L, st, S) o ↔ pd_K xs Ls d pd_m84 (mm_lA L 0 fun v => mm_go 21 L (v :: st) S) o := pd_Gs (i := .aload_n 0) (n := 1) rfl
theorem p84_21 : pd_G xs Ls d pd_m84 (21, L, st, S) o ↔ pd_K xs Ls d pd_m84 (mm_go 22 L (.int 0 :: st) S) o := pd_Gs (i := .iconst 0) (n := 1) rfl
theorem p84_22 : pd_G xs Ls d pd_m84 (22, L, st, S) o ↔ pd_K xs Ls d pd_m84 (mm_putf pd_ck 22 L st S 5 2) o := pd_Gs (i := .putfield 19) (n := 3) rfl
theorem p84_25 : pd_G xs Ls d pd_m84 (25, L, st, S) o ↔ pd_K xs Ls d pd_m84 (mm_lA L 0 fun v => mm_go 26 L (v :: st) S) o := pd_Gs (i := .aload_n 0) (n := 1) rfl
theorem p84_26 : pd_G xs Ls d pd_m84 (26, L, st, S) o ↔ pd_K xs Ls d pd_m84 (mm_getf pd_ck 26 L st S 5 0) o := pd_Gs (i := .getfield 9) (n := 3) rfl
theorem p84_29 : pd_G xs Ls d pd_m84 (29, L, st, S) o ↔ pd_K xs Ls d pd_m84 (mm_lA L 0 fun v => mm_go 30 L (v :: st) S) o := pd_Gs (i := .aload_n 0) (n := 1) rfl
theorem p84_30 : pd_G xs Ls d pd_m84 (30, L, st, S) o ↔ pd_K xs Ls d pd_m84 (mm_getf pd_ck 30 L st S 5 2) o := pd_Gs (i := .getfield 19) (n := 3) rfl
theorem p84_33 : pd_G xs Ls d pd_m84 (33, L, st, S) o ↔ pd_K xs Ls d pd_m84 (mm_ial xs Ls pd_ak 33 L S st) o := pd_Gs (i := .iaload) (n := 1) rfl
theorem p84_34 : pd_G xs Ls d pd_m84 (34, L, st, S) o ↔ pd_K xs Ls d pd_m84 (mm_i st fun x r => mm_go 35 (mm_sto L 0 1 (.int x)) r S) o := pd_Gs (i := .istore_n 1) (n := 1) rfl
theorem p84_35 : pd_G xs Ls d pd_m84 (35, L, st, S) o ↔ pd_K xs Ls d pd_m84 (mm_lA L 0 fun v => mm_go 36 L (v :: st) S) o := pd_Gs (i := .aload_n 0) (n := 1) rfl
theorem p84_36 : pd_G xs Ls d pd_m84 (36, L, st, S) o ↔ pd_K xs Ls d pd_m84 (mm_1 st fun v r => cond (mm_c2 v) none (mm_go 37 L (v :: v :: r) S)) o := pd_Gs (i := .dup) (n := 1) rfl
theorem p84_37 : pd_G xs Ls d pd_m84 (37, L, st, S) o ↔ pd_K xs Ls d pd_m84 (mm_getf pd_ck 37 L st S 5 2) o := pd_Gs (i := .getfield 19) (n := 3) rfl
theorem p84_40 : pd_G xs Ls d pd_m84 (40, L, st, S) o ↔ pd_K xs Ls d pd_m84 (mm_go 41 L (.int 1 :: st) S) o := pd_Gs (i := .iconst 1) (n := 1) rfl
theorem p84_41 : pd_G xs Ls d pd_m84 (41, L, st, S) o ↔ pd_K xs Ls d pd_m84 (mm_ii st fun x y r => mm_go 42 L (.int (x + y) :: r) S) o := pd_Gs (i := .iadd) (n := 1) rfl
theorem p84_42 : pd_G xs Ls d pd_m84 (42, L, st, S) o ↔ pd_K xs Ls d pd_m84 (mm_putf pd_ck 42 L st S 5 2) o := pd_Gs (i := .putfield 19) (n := 3) rfl
theorem p84_45 : pd_G xs Ls d pd_m84 (45, L, st, S) o ↔ pd_K xs Ls d pd_m84 (mm_lI L 1 fun x => mm_go 46 L (.int x :: st) S) o := pd_Gs (i := .iload_n 1) (n := 1) rfl
theorem p84_46 : pd_G xs Ls d pd_m84 (46, L, st, S) o ↔ pd_K xs Ls d pd_m84 (mm_e0 S st) o := pd_Gs (i := .ireturn) (n := 1) rfl
theorem p85_0 : pd_G xs Ls d pd_m85 (0, L, st, S) o ↔ pd_K xs Ls d pd_m85 (mm_lA L 0 fun v => mm_go 1 L (v :: st) S) o := pd_Gs (i := .aload_n 0) (n := 1) rfl
theorem p85_1 : pd_G xs Ls d pd_m85 (1, L, st, S) o ↔ pd_K xs Ls d pd_m85 (mm_r st fun _ r => cond (Nat.ble (mm_wt r) 8) (mm_go 4 L r S) none) o := pd_Gs (i := .invokespecial 1) (n := 3) rfl
theorem p85_4 : pd_G xs Ls d pd_m85 (4, L, st, S) o ↔ pd_K xs Ls d pd_m85 (mm_lA L 0 fun v => mm_go 5 L (v :: st) S) o := pd_Gs (i := .aload_n 0) (n := 1) rfl
theorem p85_5 : pd_G xs Ls d pd_m85 (5, L, st, S) o ↔ pd_K xs Ls d pd_m85 (mm_go 7 L (.int 6 :: st) S) o := pd_Gs (i := .bipush 6) (n := 2) rfl
theorem p85_7 : pd_G xs Ls d pd_m85 (7, L, st, S) o ↔ pd_K xs Ls d pd_m85 (mm_i st fun n r => mm_al S (if n < 0 then none else mm_go 9 L (.ref S.1.length :: r) (mm_new S (.inr (0, n.toNatClampNeg))))) o := pd_Gs (i := .newarray .int) (n := 2) rfl
theorem p85_9 : pd_G xs Ls d pd_m85 (9, L, st, S) o ↔ pd_K xs Ls d pd_m85 (mm_putf pd_ck 9 L st S 6 9) o := pd_Gs (i := .putfield 9) (n := 3) rfl
theorem p85_12 : pd_G xs Ls d pd_m85 (12, L, st, S) o ↔ pd_K xs Ls d pd_m85 (mm_lA L 0 fun v => mm_go 13 L (v :: st) S) o := pd_Gs (i := .aload_n 0) (n := 1) rfl
theorem p85_13 : pd_G xs Ls d pd_m85 (13, L, st, S) o ↔ pd_K xs Ls d pd_m85 (mm_go 15 L (.int 6 :: st) S) o := pd_Gs (i := .bipush 6) (n := 2) rfl
theorem p85_15 : pd_G xs Ls d pd_m85 (15, L, st, S) o ↔ pd_K xs Ls d pd_m85 (mm_i st fun n r => mm_al S (if n < 0 then none else mm_go 17 L (.ref S.1.length :: r) (mm_new S (.inr (0, n.toNatClampNeg))))) o := pd_Gs (i := .newarray .int) (n := 2) rfl
theorem p85_17 : pd_G xs Ls d pd_m85 (17, L, st, S) o ↔ pd_K xs Ls d pd_m85 (mm_putf pd_ck 17 L st S 6 10) o := pd_Gs (i := .putfield 13) (n := 3) rfl
theorem p85_20 : pd_G xs Ls d pd_m85 (20, L, st, S) o ↔ pd_K xs Ls d pd_m85 (mm_rV S st) o := pd_Gs (i := .return_) (n := 1) rfl
theorem p86_0 : pd_G xs Ls d pd_m86 (0, L, st, S) o ↔ pd_K xs Ls d pd_m86 (mm_lA L 0 fun v => mm_go 1 L (v :: st) S) o := pd_Gs (i := .aload_n 0) (n := 1) rfl
theorem p86_1 : pd_G xs Ls d pd_m86 (1, L, st, S) o ↔ pd_K xs Ls d pd_m86 (mm_go 2 L (.int (-1) :: st) S) o := pd_Gs (i := .iconst (-1)) (n := 1) rfl
theorem p86_2 : pd_G xs Ls d pd_m86 (2, L, st, S) o ↔ pd_K xs Ls d pd_m86 (mm_lI L 1 fun x => mm_go 3 L (.int x :: st) S) o := pd_Gs (i := .iload_n 1) (n := 1) rfl
theorem p86_3 : pd_G xs Ls d pd_m86 (3, L, st, S) o ↔ pd_K xs Ls d pd_m86 (mm_go 4 L (.int 0 :: st) S) o := pd_Gs (i := .iconst 0) (n := 1) rfl
theorem p86_4 : pd_G xs Ls d pd_m86 (4, L, st, S) o ↔ pd_K xs Ls d pd_m86 (mm_go 5 L (.int 0 :: st) S) o := pd_Gs (i := .iconst 0) (n := 1) rfl
theorem p86_5 : pd_G xs Ls d pd_m86 (5, L, st, S) o ↔ pd_K xs Ls d pd_m86 (mm_inv (mm_ev xs Ls pd_ck pd_ak pd_mj d) pd_m86 5 L st S 87 4 6) o := pd_Gs (i := .invokevirtual 16) (n := 3) rfl
theorem p86_8 : pd_G xs Ls d pd_m86 (8, L, st, S) o ↔ pd_K xs Ls d pd_m86 (mm_rV S st) o := pd_Gs (i := .return_) (n := 1) rfl
theorem p87_0 : pd_G xs Ls d pd_m87 (0, L, st, S) o ↔ pd_K xs Ls d pd_m87 (mm_lA L 0 fun v => mm_go 1 L (v :: st) S) o := pd_Gs (i := .aload_n 0) (n := 1) rfl
theorem p87_1 : pd_G xs Ls d pd_m87 (1, L, st, S) o ↔ pd_K xs Ls d pd_m87 (mm_go 2 L (.int 1 :: st) S) o := pd_Gs (i := .iconst 1) (n := 1) rfl
theorem p87_2 : pd_G xs Ls d pd_m87 (2, L, st, S) o ↔ pd_K xs Ls d pd_m87 (mm_putf pd_ck 2 L st S 6 0) o := pd_Gs (i := .putfield 27) (n := 3) rfl
theorem p87_5 : pd_G xs Ls d pd_m87 (5, L, st, S) o ↔ pd_K xs Ls d pd_m87 (mm_lA L 0 fun v => mm_go 6 L (v :: st) S) o := pd_Gs (i := .aload_n 0) (n := 1) rfl
theorem p87_6 : pd_G xs Ls d pd_m87 (6, L, st, S) o ↔ pd_K xs Ls d pd_m87 (mm_lI L 1 fun x => mm_go 7 L (.int x :: st) S) o := pd_Gs (i := .iload_n 1) (n := 1) rfl
theorem p87_7 : pd_G xs Ls d pd_m87 (7, L, st, S) o ↔ pd_K xs Ls d pd_m87 (mm_putf pd_ck 7 L st S 6 1) o := pd_Gs (i := .putfield 30) (n := 3) rfl
theorem p87_10 : pd_G xs Ls d pd_m87 (10, L, st, S) o ↔ pd_K xs Ls d pd_m87 (mm_lA L 0 fun v => mm_go 11 L (v :: st) S) o := pd_Gs (i := .aload_n 0) (n := 1) rfl
theorem p87_11 : pd_G xs Ls d pd_m87 (11, L, st, S) o ↔ pd_K xs Ls d pd_m87 (mm_go 12 L (.int 0 :: st) S) o := pd_Gs (i := .iconst 0) (n := 1) rfl
theorem p87_12 : pd_G xs Ls d pd_m87 (12, L, st, S) o ↔ pd_K xs Ls d pd_m87 (mm_putf pd_ck 12 L st S 6 2) o := pd_Gs (i := .putfield 33) (n := 3) rfl
theorem p87_15 : pd_G xs Ls d pd_m87 (15, L, st, S) o ↔ pd_K xs Ls d pd_m87 (mm_lA L 0 fun v => mm_go 16 L (v :: st) S) o := pd_Gs (i := .aload_n 0) (n := 1) rfl
theorem p87_16 : pd_G xs Ls d pd_m87 (16, L, st, S) o ↔ pd_K xs Ls d pd_m87 (mm_lI L 2 fun x => mm_go 17 L (.int x :: st) S) o := pd_Gs (i := .iload_n 2) (n := 1) rfl
theorem p87_17 : pd_G xs Ls d pd_m87 (17, L, st, S) o ↔ pd_K xs Ls d pd_m87 (mm_putf pd_ck 17 L st S 6 3) o := pd_Gs (i := .putfield 20) (n := 3) rfl
theorem p87_20 : pd_G xs Ls d pd_m87 (20, L, st, S) o ↔ pd_K xs Ls d pd_m87 (mm_lA L 0 fun v => mm_go 21 L (v :: st) S) o := pd_Gs (i := .aload_n 0) (n := 1) rfl
theorem p87_21 : pd_G xs Ls d pd_m87 (21, L, st, S) o ↔ pd_K xs Ls d pd_m87 (mm_lI L 3 fun x => mm_go 22 L (.int x :: st) S) o := pd_Gs (i := .iload_n 3) (n := 1) rfl
theorem p87_22 : pd_G xs Ls d pd_m87 (22, L, st, S) o ↔ pd_K xs Ls d pd_m87 (mm_putf pd_ck 22 L st S 6 4) o := pd_Gs (i := .putfield 36) (n := 3) rfl
theorem p87_25 : pd_G xs Ls d pd_m87 (25, L, st, S) o ↔ pd_K xs Ls d pd_m87 (mm_lA L 0 fun v => mm_go 26 L (v :: st) S) o := pd_Gs (i := .aload_n 0) (n := 1) rfl
theorem p87_26 : pd_G xs Ls d pd_m87 (26, L, st, S) o ↔ pd_K xs Ls d pd_m87 (mm_lI L 4 fun x => mm_go 28 L (.int x :: st) S) o := pd_Gs (i := .iload 4) (n := 2) rfl
theorem p87_28 : pd_G xs Ls d pd_m87 (28, L, st, S) o ↔ pd_K xs Ls d pd_m87 (mm_putf pd_ck 28 L st S 6 7) o := pd_Gs (i := .putfield 24) (n := 3) rfl
theorem p87_31 : pd_G xs Ls d pd_m87 (31, L, st, S) o ↔ pd_K xs Ls d pd_m87 (mm_lA L 0 fun v => mm_go 32 L (v :: st) S) o := pd_Gs (i := .aload_n 0) (n := 1) rfl
theorem p87_32 : pd_G xs Ls d pd_m87 (32, L, st, S) o ↔ pd_K xs Ls d pd_m87 (mm_lI L 4 fun x => mm_go 34 L (.int x :: st) S) o := pd_Gs (i := .iload 4) (n := 2) rfl
theorem p87_34 : pd_G xs Ls d pd_m87 (34, L, st, S) o ↔ pd_K xs Ls d pd_m87 (mm_putf pd_ck 34 L st S 6 8) o := pd_Gs (i := .putfield 39) (n := 3) rfl
theorem p87_37 : pd_G xs Ls d pd_m87 (37, L, st, S) o ↔ pd_K xs Ls d pd_m87 (mm_rV S st) o := pd_Gs (i := .return_) (n := 1) rfl
theorem p88_0 : pd_G xs Ls d pd_m88 (0, L, st, S) o ↔ pd_K xs Ls d pd_m88 (mm_lA L 0 fun v => mm_go 1 L (v :: st) S) o := pd_Gs (i := .aload_n 0) (n := 1) rfl
theorem p88_1 : pd_G xs Ls d pd_m88 (1, L, st, S) o ↔ pd_K xs Ls d pd_m88 (mm_getf pd_ck 1 L st S 6 7) o := pd_Gs (i := .getfield 24) (n := 3) rfl
theorem p88_4 : pd_G xs Ls d pd_m88 (4, L, st, S) o ↔ pd_K xs Ls d pd_m88 (mm_i st fun x r => mm_icmp .lt x 0 (mm_go 16 L r S) (mm_go 7 L r S)) o := pd_Gs (i := .ifCond .lt 12) (n := 3) rfl
theorem p88_7 : pd_G xs Ls d pd_m88 (7, L, st, S) o ↔ pd_K xs Ls d pd_m88 (mm_lA L 0 fun v => mm_go 8 L (v :: st) S) o := pd_Gs (i := .aload_n 0) (n := 1) rfl
theorem p88_8 : pd_G xs Ls d pd_m88 (8, L, st, S) o ↔ pd_K xs Ls d pd_m88 (mm_getf pd_ck 8 L st S 6 7) o := pd_Gs (i := .getfield 24) (n := 3) rfl
theorem p88_11 : pd_G xs Ls d pd_m88 (11, L, st, S) o ↔ pd_K xs Ls d pd_m88 (mm_go 13 L (.int 6 :: st) S) o := pd_Gs (i := .bipush 6) (n := 2) rfl
theorem p88_13 : pd_G xs Ls d pd_m88 (13, L, st, S) o ↔ pd_K xs Ls d pd_m88 (mm_ii st fun x y r => mm_icmp .lt x y (mm_go 18 L r S) (mm_go 16 L r S)) o := pd_Gs (i := .if_icmp .lt 5) (n := 3) rfl
theorem p88_16 : pd_G xs Ls d pd_m88 (16, L, st, S) o ↔ pd_K xs Ls d pd_m88 (mm_go 17 L (.int 0 :: st) S) o := pd_Gs (i := .iconst 0) (n := 1) rfl
theorem p88_17 : pd_G xs Ls d pd_m88 (17, L, st, S) o ↔ pd_K xs Ls d pd_m88 (mm_e4 S st) o := pd_Gs (i := .ireturn) (n := 1) rfl
theorem p88_18 : pd_G xs Ls d pd_m88 (18, L, st, S) o ↔ pd_K xs Ls d pd_m88 (mm_lA L 0 fun v => mm_go 19 L (v :: st) S) o := pd_Gs (i := .aload_n 0) (n := 1) rfl
theorem p88_19 : pd_G xs Ls d pd_m88 (19, L, st, S) o ↔ pd_K xs Ls d pd_m88 (mm_getf pd_ck 19 L st S 6 9) o := pd_Gs (i := .getfield 9) (n := 3) rfl
theorem p88_22 : pd_G xs Ls d pd_m88 (22, L, st, S) o ↔ pd_K xs Ls d pd_m88 (mm_lA L 0 fun v => mm_go 23 L (v :: st) S) o := pd_Gs (i := .aload_n 0) (n := 1) rfl
theorem p88_23 : pd_G xs Ls d pd_m88 (23, L, st, S) o ↔ pd_K xs Ls d pd_m88 (mm_getf pd_ck 23 L st S 6 7) o := pd_Gs (i := .getfield 24) (n := 3) rfl
theorem p88_26 : pd_G xs Ls d pd_m88 (26, L, st, S) o ↔ pd_K xs Ls d pd_m88 (mm_lA L 0 fun v => mm_go 27 L (v :: st) S) o := pd_Gs (i := .aload_n 0) (n := 1) rfl
theorem p88_27 : pd_G xs Ls d pd_m88 (27, L, st, S) o ↔ pd_K xs Ls d pd_m88 (mm_getf pd_ck 27 L st S 6 3) o := pd_Gs (i := .getfield 20) (n := 3) rfl
theorem p88_30 : pd_G xs Ls d pd_m88 (30, L, st, S) o ↔ pd_K xs Ls d pd_m88 (mm_i st fun x st => mm_ai pd_ak S st 0 fun i a r => mm_go 31 L r (mm_sI S a i.toNatClampNeg x)) o := pd_Gs (i := .iastore) (n := 1) rfl
theorem p88_31 : pd_G xs Ls d pd_m88 (31, L, st, S) o ↔ pd_K xs Ls d pd_m88 (mm_lA L 0 fun v => mm_go 32 L (v :: st) S) o := pd_Gs (i := .aload_n 0) (n := 1) rfl
theorem p88_32 : pd_G xs Ls d pd_m88 (32, L, st, S) o ↔ pd_K xs Ls d pd_m88 (mm_getf pd_ck 32 L st S 6 10) o := pd_Gs (i := .getfield 13) (n := 3) rfl
theorem p88_35 : pd_G xs Ls d pd_m88 (35, L, st, S) o ↔ pd_K xs Ls d pd_m88 (mm_lA L 0 fun v => mm_go 36 L (v :: st) S) o := pd_Gs (i := .aload_n 0) (n := 1) rfl
theorem p88_36 : pd_G xs Ls d pd_m88 (36, L, st, S) o ↔ pd_K xs Ls d pd_m88 (mm_getf pd_ck 36 L st S 6 7) o := pd_Gs (i := .getfield 24) (n := 3) rfl
theorem p88_39 : pd_G xs Ls d pd_m88 (39, L, st, S) o ↔ pd_K xs Ls d pd_m88 (mm_lA L 0 fun v => mm_go 40 L (v :: st) S) o := pd_Gs (i := .aload_n 0) (n := 1) rfl
theorem p88_40 : pd_G xs Ls d pd_m88 (40, L, st, S) o ↔ pd_K xs Ls d pd_m88 (mm_getf pd_ck 40 L st S 6 4) o := pd_Gs (i := .getfield 36) (n := 3) rfl
theorem p88_43 : pd_G xs Ls d pd_m88 (43, L, st, S) o ↔ pd_K xs Ls d pd_m88 (mm_i st fun x st => mm_ai pd_ak S st 0 fun i a r => mm_go 44 L r (mm_sI S a i.toNatClampNeg x)) o := pd_Gs (i := .iastore) (n := 1) rfl
theorem p88_44 : pd_G xs Ls d pd_m88 (44, L, st, S) o ↔ pd_K xs Ls d pd_m88 (mm_lA L 0 fun v => mm_go 45 L (v :: st) S) o := pd_Gs (i := .aload_n 0) (n := 1) rfl
theorem p88_45 : pd_G xs Ls d pd_m88 (45, L, st, S) o ↔ pd_K xs Ls d pd_m88 (mm_1 st fun v r => cond (mm_c2 v) none (mm_go 46 L (v :: v :: r) S)) o := pd_Gs (i := .dup) (n := 1) rfl
theorem p88_46 : pd_G xs Ls d pd_m88 (46, L, st, S) o ↔ pd_K xs Ls d pd_m88 (mm_getf pd_ck 46 L st S 6 7) o := pd_Gs (i := .getfield 24) (n := 3) rfl
theorem p88_49 : pd_G xs Ls d pd_m88 (49, L, st, S) o ↔ pd_K xs Ls d pd_m88 (mm_go 50 L (.int 1 :: st) S) o := pd_Gs (i := .iconst 1) (n := 1) rfl
theorem p88_50 : pd_G xs Ls d pd_m88 (50, L, st, S) o ↔ pd_K xs Ls d pd_m88 (mm_ii st fun x y r => mm_go 51 L (.int (x + y) :: r) S) o := pd_Gs (i := .iadd) (n := 1) rfl
theorem p88_51 : pd_G xs Ls d pd_m88 (51, L, st, S) o ↔ pd_K xs Ls d pd_m88 (mm_putf pd_ck 51 L st S 6 7) o := pd_Gs (i := .putfield 24) (n := 3) rfl
theorem p88_54 : pd_G xs Ls d pd_m88 (54, L, st, S) o ↔ pd_K xs Ls d pd_m88 (mm_lA L 0 fun v => mm_go 55 L (v :: st) S) o := pd_Gs (i := .aload_n 0) (n := 1) rfl
theorem p88_55 : pd_G xs Ls d pd_m88 (55, L, st, S) o ↔ pd_K xs Ls d pd_m88 (mm_lI L 1 fun x => mm_go 56 L (.int x :: st) S) o := pd_Gs (i := .iload_n 1) (n := 1) rfl
theorem p88_56 : pd_G xs Ls d pd_m88 (56, L, st, S) o ↔ pd_K xs Ls d pd_m88 (mm_putf pd_ck 56 L st S 6 3) o := pd_Gs (i := .putfield 20) (n := 3) rfl
theorem p88_59 : pd_G xs Ls d pd_m88 (59, L, st, S) o ↔ pd_K xs Ls d pd_m88 (mm_lA L 0 fun v => mm_go 60 L (v :: st) S) o := pd_Gs (i := .aload_n 0) (n := 1) rfl
theorem p88_60 : pd_G xs Ls d pd_m88 (60, L, st, S) o ↔ pd_K xs Ls d pd_m88 (mm_go 61 L (.int 0 :: st) S) o := pd_Gs (i := .iconst 0) (n := 1) rfl
theorem p88_61 : pd_G xs Ls d pd_m88 (61, L, st, S) o ↔ pd_K xs Ls d pd_m88 (mm_putf pd_ck 61 L st S 6 4) o := pd_Gs (i := .putfield 36) (n := 3) rfl
theorem p88_64 : pd_G xs Ls d pd_m88 (64, L, st, S) o ↔ pd_K xs Ls d pd_m88 (mm_go 65 L (.int 1 :: st) S) o := pd_Gs (i := .iconst 1) (n := 1) rfl
theorem p88_65 : pd_G xs Ls d pd_m88 (65, L, st, S) o ↔ pd_K xs Ls d pd_m88 (mm_e4 S st) o := pd_Gs (i := .ireturn) (n := 1) rfl
theorem p89_0 : pd_G xs Ls d pd_m89 (0, L, st, S) o ↔ pd_K xs Ls d pd_m89 (mm_lA L 0 fun v => mm_go 1 L (v :: st) S) o := pd_Gs (i := .aload_n 0) (n := 1) rfl
theorem p89_1 : pd_G xs Ls d pd_m89 (1, L, st, S) o ↔ pd_K xs Ls d pd_m89 (mm_lI L 2 fun x => mm_go 2 L (.int x :: st) S) o := pd_Gs (i := .iload_n 2) (n := 1) rfl
theorem p89_2 : pd_G xs Ls d pd_m89 (2, L, st, S) o ↔ pd_K xs Ls d pd_m89 (mm_lA L 1 fun v => mm_go 3 L (v :: st) S) o := pd_Gs (i := .aload_n 1) (n := 1) rfl
theorem p89_3 : pd_G xs Ls d pd_m89 (3, L, st, S) o ↔ pd_K xs Ls d pd_m89 (mm_getf pd_ck 3 L st S 6 3) o := pd_Gs (i := .getfield 20) (n := 3) rfl
theorem p89_6 : pd_G xs Ls d pd_m89 (6, L, st, S) o ↔ pd_K xs Ls d pd_m89 (mm_lI L 3 fun x => mm_go 7 L (.int x :: st) S) o := pd_Gs (i := .iload_n 3) (n := 1) rfl
theorem p89_7 : pd_G xs Ls d pd_m89 (7, L, st, S) o ↔ pd_K xs Ls d pd_m89 (mm_lA L 1 fun v => mm_go 8 L (v :: st) S) o := pd_Gs (i := .aload_n 1) (n := 1) rfl
theorem p89_8 : pd_G xs Ls d pd_m89 (8, L, st, S) o ↔ pd_K xs Ls d pd_m89 (mm_getf pd_ck 8 L st S 6 7) o := pd_Gs (i := .getfield 24) (n := 3) rfl
theorem p89_11 : pd_G xs Ls d pd_m89 (11, L, st, S) o ↔ pd_K xs Ls d pd_m89 (mm_inv (mm_ev xs Ls pd_ck pd_ak pd_mj d) pd_m89 11 L st S 87 4 6) o := pd_Gs (i := .invokevirtual 16) (n := 3) rfl
theorem p89_14 : pd_G xs Ls d pd_m89 (14, L, st, S) o ↔ pd_K xs Ls d pd_m89 (mm_rV S st) o := pd_Gs (i := .return_) (n := 1) rfl
theorem p90_0 : pd_G xs Ls d pd_m90 (0, L, st, S) o ↔ pd_K xs Ls d pd_m90 (mm_lA L 0 fun v => mm_go 1 L (v :: st) S) o := pd_Gs (i := .aload_n 0) (n := 1) rfl
theorem p90_1 : pd_G xs Ls d pd_m90 (1, L, st, S) o ↔ pd_K xs Ls d pd_m90 (mm_getf pd_ck 1 L st S 6 7) o := pd_Gs (i := .getfield 24) (n := 3) rfl
theorem p90_4 : pd_G xs Ls d pd_m90 (4, L, st, S) o ↔ pd_K xs Ls d pd_m90 (mm_lA L 0 fun v => mm_go 5 L (v :: st) S) o := pd_Gs (i := .aload_n 0) (n := 1) rfl
theorem p90_5 : pd_G xs Ls d pd_m90 (5, L, st, S) o ↔ pd_K xs Ls d pd_m90 (mm_getf pd_ck 5 L st S 6 8) o := pd_Gs (i := .getfield 39) (n := 3) rfl
theorem p90_8 : pd_G xs Ls d pd_m90 (8, L, st, S) o ↔ pd_K xs Ls d pd_m90 (mm_ii st fun x y r => mm_icmp .le x y (mm_go 20 L r S) (mm_go 11 L r S)) o := pd_Gs (i := .if_icmp .le 12) (n := 3) rfl
theorem p90_11 : pd_G xs Ls d pd_m90 (11, L, st, S) o ↔ pd_K xs Ls d pd_m90 (mm_lA L 0 fun v => mm_go 12 L (v :: st) S) o := pd_Gs (i := .aload_n 0) (n := 1) rfl
theorem p90_12 : pd_G xs Ls d pd_m90 (12, L, st, S) o ↔ pd_K xs Ls d pd_m90 (mm_getf pd_ck 12 L st S 6 7) o := pd_Gs (i := .getfield 24) (n := 3) rfl
theorem p90_15 : pd_G xs Ls d pd_m90 (15, L, st, S) o ↔ pd_K xs Ls d pd_m90 (mm_go 17 L (.int 6 :: st) S) o := pd_Gs (i := .bipush 6) (n := 2) rfl
theorem p90_17 : pd_G xs Ls d pd_m90 (17, L, st, S) o ↔ pd_K xs Ls d pd_m90 (mm_ii st fun x y r => mm_icmp .le x y (mm_go 22 L r S) (mm_go 20 L r S)) o := pd_Gs (i := .if_icmp .le 5) (n := 3) rfl
theorem p90_20 : pd_G xs Ls d pd_m90 (20, L, st, S) o ↔ pd_K xs Ls d pd_m90 (mm_go 21 L (.int 0 :: st) S) o := pd_Gs (i := .iconst 0) (n := 1) rfl
theorem p90_21 : pd_G xs Ls d pd_m90 (21, L, st, S) o ↔ pd_K xs Ls d pd_m90 (mm_e4 S st) o := pd_Gs (i := .ireturn) (n := 1) rfl
theorem p90_22 : pd_G xs Ls d pd_m90 (22, L, st, S) o ↔ pd_K xs Ls d pd_m90 (mm_lA L 0 fun v => mm_go 23 L (v :: st) S) o := pd_Gs (i := .aload_n 0) (n := 1) rfl
theorem p90_23 : pd_G xs Ls d pd_m90 (23, L, st, S) o ↔ pd_K xs Ls d pd_m90 (mm_1 st fun v r => cond (mm_c2 v) none (mm_go 24 L (v :: v :: r) S)) o := pd_Gs (i := .dup) (n := 1) rfl
theorem p90_24 : pd_G xs Ls d pd_m90 (24, L, st, S) o ↔ pd_K xs Ls d pd_m90 (mm_getf pd_ck 24 L st S 6 7) o := pd_Gs (i := .getfield 24) (n := 3) rfl
theorem p90_27 : pd_G xs Ls d pd_m90 (27, L, st, S) o ↔ pd_K xs Ls d pd_m90 (mm_go 28 L (.int 1 :: st) S) o := pd_Gs (i := .iconst 1) (n := 1) rfl
theorem p90_28 : pd_G xs Ls d pd_m90 (28, L, st, S) o ↔ pd_K xs Ls d pd_m90 (mm_ii st fun x y r => mm_go 29 L (.int (x - y) :: r) S) o := pd_Gs (i := .isub) (n := 1) rfl
theorem p90_29 : pd_G xs Ls d pd_m90 (29, L, st, S) o ↔ pd_K xs Ls d pd_m90 (mm_putf pd_ck 29 L st S 6 7) o := pd_Gs (i := .putfield 24) (n := 3) rfl
theorem p90_32 : pd_G xs Ls d pd_m90 (32, L, st, S) o ↔ pd_K xs Ls d pd_m90 (mm_lA L 0 fun v => mm_go 33 L (v :: st) S) o := pd_Gs (i := .aload_n 0) (n := 1) rfl
theorem p90_33 : pd_G xs Ls d pd_m90 (33, L, st, S) o ↔ pd_K xs Ls d pd_m90 (mm_lA L 0 fun v => mm_go 34 L (v :: st) S) o := pd_Gs (i := .aload_n 0) (n := 1) rfl
theorem p90_34 : pd_G xs Ls d pd_m90 (34, L, st, S) o ↔ pd_K xs Ls d pd_m90 (mm_getf pd_ck 34 L st S 6 9) o := pd_Gs (i := .getfield 9) (n := 3) rfl
theorem p90_37 : pd_G xs Ls d pd_m90 (37, L, st, S) o ↔ pd_K xs Ls d pd_m90 (mm_lA L 0 fun v => mm_go 38 L (v :: st) S) o := pd_Gs (i := .aload_n 0) (n := 1) rfl
theorem p90_38 : pd_G xs Ls d pd_m90 (38, L, st, S) o ↔ pd_K xs Ls d pd_m90 (mm_getf pd_ck 38 L st S 6 7) o := pd_Gs (i := .getfield 24) (n := 3) rfl
theorem p90_41 : pd_G xs Ls d pd_m90 (41, L, st, S) o ↔ pd_K xs Ls d pd_m90 (mm_ial xs Ls pd_ak 41 L S st) o := pd_Gs (i := .iaload) (n := 1) rfl
theorem p90_42 : pd_G xs Ls d pd_m90 (42, L, st, S) o ↔ pd_K xs Ls d pd_m90 (mm_putf pd_ck 42 L st S 6 3) o := pd_Gs (i := .putfield 20) (n := 3) rfl
theorem p90_45 : pd_G xs Ls d pd_m90 (45, L, st, S) o ↔ pd_K xs Ls d pd_m90 (mm_lA L 0 fun v => mm_go 46 L (v :: st) S) o := pd_Gs (i := .aload_n 0) (n := 1) rfl
theorem p90_46 : pd_G xs Ls d pd_m90 (46, L, st, S) o ↔ pd_K xs Ls d pd_m90 (mm_lA L 0 fun v => mm_go 47 L (v :: st) S) o := pd_Gs (i := .aload_n 0) (n := 1) rfl
theorem p90_47 : pd_G xs Ls d pd_m90 (47, L, st, S) o ↔ pd_K xs Ls d pd_m90 (mm_getf pd_ck 47 L st S 6 10) o := pd_Gs (i := .getfield 13) (n := 3) rfl
theorem p90_50 : pd_G xs Ls d pd_m90 (50, L, st, S) o ↔ pd_K xs Ls d pd_m90 (mm_lA L 0 fun v => mm_go 51 L (v :: st) S) o := pd_Gs (i := .aload_n 0) (n := 1) rfl
theorem p90_51 : pd_G xs Ls d pd_m90 (51, L, st, S) o ↔ pd_K xs Ls d pd_m90 (mm_getf pd_ck 51 L st S 6 7) o := pd_Gs (i := .getfield 24) (n := 3) rfl
theorem p90_54 : pd_G xs Ls d pd_m90 (54, L, st, S) o ↔ pd_K xs Ls d pd_m90 (mm_ial xs Ls pd_ak 54 L S st) o := pd_Gs (i := .iaload) (n := 1) rfl
theorem p90_55 : pd_G xs Ls d pd_m90 (55, L, st, S) o ↔ pd_K xs Ls d pd_m90 (mm_putf pd_ck 55 L st S 6 4) o := pd_Gs (i := .putfield 36) (n := 3) rfl
theorem p90_58 : pd_G xs Ls d pd_m90 (58, L, st, S) o ↔ pd_K xs Ls d pd_m90 (mm_go 59 L (.int 1 :: st) S) o := pd_Gs (i := .iconst 1) (n := 1) rfl
theorem p90_59 : pd_G xs Ls d pd_m90 (59, L, st, S) o ↔ pd_K xs Ls d pd_m90 (mm_e4 S st) o := pd_Gs (i := .ireturn) (n := 1) rfl
end PCS
