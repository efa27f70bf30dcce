/-! one row an instruction (printed by gen_pc.py) -/
section PCS
variable {xs : Nat → Int32} {Ls d : Nat} {L : mm_L} {st : List Value} {S : mm_St} {o : mm_O}
theorem p47_0 : pd_G xs Ls d pd_m47 (0, L, st, S) o ↔ pd_K xs Ls d pd_m47 (mm_lA L 0 fun v => mm_go 1 L (v :: st) S) o := pd_Gs (i := .aload_n 0) (n := 1) rfl
theorem p47_1 : pd_G xs Ls d pd_m47 (1, L, st, S) o ↔ pd_K xs Ls d pd_m47 (mm_r st fun _ r => cond (Nat.ble (mm_wt r) 8) (mm_go 4 L r S) none) o := pd_Gs (i := .invokespecial 3) (n := 3) rfl
theorem p47_4 : pd_G xs Ls d pd_m47 (4, L, st, S) o ↔ pd_K xs Ls d pd_m47 (mm_lA L 0 fun v => mm_go 5 L (v :: st) S) o := pd_Gs (i := .aload_n 0) (n := 1) rfl
theorem p47_5 : pd_G xs Ls d pd_m47 (5, L, st, S) o ↔ pd_K xs Ls d pd_m47 (mm_go 6 L (.int 4 :: st) S) o := pd_Gs (i := .iconst 4) (n := 1) rfl
theorem p47_6 : pd_G xs Ls d pd_m47 (6, L, st, S) o ↔ pd_K xs Ls d pd_m47 (mm_i st fun n r => mm_al S (if n < 0 then none else mm_go 9 L (.ref S.1.length :: r) (mm_new S (.inr (11, n.toNatClampNeg))))) o := pd_Gs (i := .anewarray 9) (n := 3) rfl
theorem p47_9 : pd_G xs Ls d pd_m47 (9, L, st, S) o ↔ pd_K xs Ls d pd_m47 (mm_putf pd_ck 9 L st S 3 0) o := pd_Gs (i := .putfield 11) (n := 3) rfl
theorem p47_12 : pd_G xs Ls d pd_m47 (12, L, st, S) o ↔ pd_K xs Ls d pd_m47 (mm_go 13 L (.int 0 :: st) S) o := pd_Gs (i := .iconst 0) (n := 1) rfl
theorem p47_13 : pd_G xs Ls d pd_m47 (13, L, st, S) o ↔ pd_K xs Ls d pd_m47 (mm_i st fun x r => mm_go 14 (mm_sto L 0 1 (.int x)) r S) o := pd_Gs (i := .istore_n 1) (n := 1) rfl
theorem p47_14 : pd_G xs Ls d pd_m47 (14, L, st, S) o ↔ pd_K xs Ls d pd_m47 (mm_lI L 1 fun x => mm_go 15 L (.int x :: st) S) o := pd_Gs (i := .iload_n 1) (n := 1) rfl
theorem p47_15 : pd_G xs Ls d pd_m47 (15, L, st, S) o ↔ pd_K xs Ls d pd_m47 (mm_go 16 L (.int 4 :: st) S) o := pd_Gs (i := .iconst 4) (n := 1) rfl
theorem p47_16 : pd_G xs Ls d pd_m47 (16, L, st, S) o ↔ pd_K xs Ls d pd_m47 (mm_ii st fun x y r => mm_icmp .ge x y (mm_go 38 L r S) (mm_go 19 L r S)) o := pd_Gs (i := .if_icmp .ge 22) (n := 3) rfl
theorem p47_19 : pd_G xs Ls d pd_m47 (19, L, st, S) o ↔ pd_K xs Ls d pd_m47 (mm_lA L 0 fun v => mm_go 20 L (v :: st) S) o := pd_Gs (i := .aload_n 0) (n := 1) rfl
theorem p47_20 : pd_G xs Ls d pd_m47 (20, L, st, S) o ↔ pd_K xs Ls d pd_m47 (mm_getf pd_ck 20 L st S 3 0) o := pd_Gs (i := .getfield 11) (n := 3) rfl
theorem p47_23 : pd_G xs Ls d pd_m47 (23, L, st, S) o ↔ pd_K xs Ls d pd_m47 (mm_lI L 1 fun x => mm_go 24 L (.int x :: st) S) o := pd_Gs (i := .iload_n 1) (n := 1) rfl
theorem p47_24 : pd_G xs Ls d pd_m47 (24, L, st, S) o ↔ pd_K xs Ls d pd_m47 (mm_al S (mm_go 27 L (.ref S.1.length :: st) (mm_new S (.inl 1)))) o := pd_Gs (i := .new 9) (n := 3) rfl
theorem p47_27 : pd_G xs Ls d pd_m47 (27, L, st, S) o ↔ pd_K xs Ls d pd_m47 (mm_1 st fun v r => cond (mm_c2 v) none (mm_go 28 L (v :: v :: r) S)) o := pd_Gs (i := .dup) (n := 1) rfl
theorem p47_28 : pd_G xs Ls d pd_m47 (28, L, st, S) o ↔ pd_K xs Ls d pd_m47 (mm_noT (mm_inv (mm_ev xs Ls pd_ck pd_ak pd_mj d) pd_m47 28 L st S 12 0 1)) o := pd_Gs (i := .invokespecial 17) (n := 3) rfl
theorem p47_31 : pd_G xs Ls d pd_m47 (31, L, st, S) o ↔ pd_K xs Ls d pd_m47 (mm_aas pd_ak S st fun x i a r => mm_go 32 L r (mm_sR S a i.toNatClampNeg (some x))) o := pd_Gs (i := .aastore) (n := 1) rfl
theorem p47_32 : pd_G xs Ls d pd_m47 (32, L, st, S) o ↔ pd_K xs Ls d pd_m47 (mm_lI L 1 fun x => mm_go 35 (mm_sto L 0 1 (.int (x + 1))) st S) o := pd_Gs (i := .iinc 1 1) (n := 3) rfl
theorem p47_35 : pd_G xs Ls d pd_m47 (35, L, st, S) o ↔ pd_K xs Ls d pd_m47 (mm_go 14 L st S) o := pd_Gs (i := .goto (-21)) (n := 3) rfl
theorem p47_38 : pd_G xs Ls d pd_m47 (38, L, st, S) o ↔ pd_K xs Ls d pd_m47 (mm_lA L 0 fun v => mm_go 39 L (v :: st) S) o := pd_Gs (i := .aload_n 0) (n := 1) rfl
theorem p47_39 : pd_G xs Ls d pd_m47 (39, L, st, S) o ↔ pd_K xs Ls d pd_m47 (mm_al S (mm_go 42 L (.ref S.1.length :: st) (mm_new S (.inl 4)))) o := pd_Gs (i := .new 18) (n := 3) rfl
theorem p47_42 : pd_G xs Ls d pd_m47 (42, L, st, S) o ↔ pd_K xs Ls d pd_m47 (mm_1 st fun v r => cond (mm_c2 v) none (mm_go 43 L (v :: v :: r) S)) o := pd_Gs (i := .dup) (n := 1) rfl
theorem p47_43 : pd_G xs Ls d pd_m47 (43, L, st, S) o ↔ pd_K xs Ls d pd_m47 (mm_noT (mm_inv (mm_ev xs Ls pd_ck pd_ak pd_mj d) pd_m47 43 L st S 66 0 4)) o := pd_Gs (i := .invokespecial 20) (n := 3) rfl
theorem p47_46 : pd_G xs Ls d pd_m47 (46, L, st, S) o ↔ pd_K xs Ls d pd_m47 (mm_putf pd_ck 46 L st S 3 1) o := pd_Gs (i := .putfield 21) (n := 3) rfl
theorem p47_49 : pd_G xs Ls d pd_m47 (49, L, st, S) o ↔ pd_K xs Ls d pd_m47 (mm_lA L 0 fun v => mm_go 50 L (v :: st) S) o := pd_Gs (i := .aload_n 0) (n := 1) rfl
theorem p47_50 : pd_G xs Ls d pd_m47 (50, L, st, S) o ↔ pd_K xs Ls d pd_m47 (mm_al S (mm_go 53 L (.ref S.1.length :: st) (mm_new S (.inl 5)))) o := pd_Gs (i := .new 25) (n := 3) rfl
theorem p47_53 : pd_G xs Ls d pd_m47 (53, L, st, S) o ↔ pd_K xs Ls d pd_m47 (mm_1 st fun v r => cond (mm_c2 v) none (mm_go 54 L (v :: v :: r) S)) o := pd_Gs (i := .dup) (n := 1) rfl
theorem p47_54 : pd_G xs Ls d pd_m47 (54, L, st, S) o ↔ pd_K xs Ls d pd_m47 (mm_noT (mm_inv (mm_ev xs Ls pd_ck pd_ak pd_mj d) pd_m47 54 L st S 81 0 5)) o := pd_Gs (i := .invokespecial 27) (n := 3) rfl
theorem p47_57 : pd_G xs Ls d pd_m47 (57, L, st, S) o ↔ pd_K xs Ls d pd_m47 (mm_putf pd_ck 57 L st S 3 2) o := pd_Gs (i := .putfield 28) (n := 3) rfl
theorem p47_60 : pd_G xs Ls d pd_m47 (60, L, st, S) o ↔ pd_K xs Ls d pd_m47 (mm_lA L 0 fun v => mm_go 61 L (v :: st) S) o := pd_Gs (i := .aload_n 0) (n := 1) rfl
theorem p47_61 : pd_G xs Ls d pd_m47 (61, L, st, S) o ↔ pd_K xs Ls d pd_m47 (mm_go 62 L (.int 2 :: st) S) o := pd_Gs (i := .iconst 2) (n := 1) rfl
theorem p47_62 : pd_G xs Ls d pd_m47 (62, L, st, S) o ↔ pd_K xs Ls d pd_m47 (mm_i st fun n r => mm_al S (if n < 0 then none else mm_go 64 L (.ref S.1.length :: r) (mm_new S (.inr (0, n.toNatClampNeg))))) o := pd_Gs (i := .newarray .int) (n := 2) rfl
theorem p47_64 : pd_G xs Ls d pd_m47 (64, L, st, S) o ↔ pd_K xs Ls d pd_m47 (mm_putf pd_ck 64 L st S 3 3) o := pd_Gs (i := .putfield 32) (n := 3) rfl
theorem p47_67 : pd_G xs Ls d pd_m47 (67, L, st, S) o ↔ pd_K xs Ls d pd_m47 (mm_lA L 0 fun v => mm_go 68 L (v :: st) S) o := pd_Gs (i := .aload_n 0) (n := 1) rfl
theorem p47_68 : pd_G xs Ls d pd_m47 (68, L, st, S) o ↔ pd_K xs Ls d pd_m47 (mm_go 70 L (.int 12 :: st) S) o := pd_Gs (i := .bipush 12) (n := 2) rfl
theorem p47_70 : pd_G xs Ls d pd_m47 (70, L, st, S) o ↔ pd_K xs Ls d pd_m47 (mm_i st fun n r => mm_al S (if n < 0 then none else mm_go 72 L (.ref S.1.length :: r) (mm_new S (.inr (2, n.toNatClampNeg))))) o := pd_Gs (i := .newarray .double) (n := 2) rfl
theorem p47_72 : pd_G xs Ls d pd_m47 (72, L, st, S) o ↔ pd_K xs Ls d pd_m47 (mm_putf pd_ck 72 L st S 3 4) o := pd_Gs (i := .putfield 36) (n := 3) rfl
theorem p47_75 : pd_G xs Ls d pd_m47 (75, L, st, S) o ↔ pd_K xs Ls d pd_m47 (mm_lA L 0 fun v => mm_go 76 L (v :: st) S) o := pd_Gs (i := .aload_n 0) (n := 1) rfl
theorem p47_76 : pd_G xs Ls d pd_m47 (76, L, st, S) o ↔ pd_K xs Ls d pd_m47 (mm_go 77 L (.int 5 :: st) S) o := pd_Gs (i := .iconst 5) (n := 1) rfl
theorem p47_77 : pd_G xs Ls d pd_m47 (77, L, st, S) o ↔ pd_K xs Ls d pd_m47 (mm_i st fun n r => mm_al S (if n < 0 then none else mm_go 80 L (.ref S.1.length :: r) (mm_new S (.inr (16, n.toNatClampNeg))))) o := pd_Gs (i := .anewarray 40) (n := 3) rfl
theorem p47_80 : pd_G xs Ls d pd_m47 (80, L, st, S) o ↔ pd_K xs Ls d pd_m47 (mm_putf pd_ck 80 L st S 3 10) o := pd_Gs (i := .putfield 42) (n := 3) rfl
theorem p47_83 : pd_G xs Ls d pd_m47 (83, L, st, S) o ↔ pd_K xs Ls d pd_m47 (mm_go 84 L (.int 0 :: st) S) o := pd_Gs (i := .iconst 0) (n := 1) rfl
theorem p47_84 : pd_G xs Ls d pd_m47 (84, L, st, S) o ↔ pd_K xs Ls d pd_m47 (mm_i st fun x r => mm_go 85 (mm_sto L 0 1 (.int x)) r S) o := pd_Gs (i := .istore_n 1) (n := 1) rfl
theorem p47_85 : pd_G xs Ls d pd_m47 (85, L, st, S) o ↔ pd_K xs Ls d pd_m47 (mm_lI L 1 fun x => mm_go 86 L (.int x :: st) S) o := pd_Gs (i := .iload_n 1) (n := 1) rfl
theorem p47_86 : pd_G xs Ls d pd_m47 (86, L, st, S) o ↔ pd_K xs Ls d pd_m47 (mm_go 87 L (.int 5 :: st) S) o := pd_Gs (i := .iconst 5) (n := 1) rfl
theorem p47_87 : pd_G xs Ls d pd_m47 (87, L, st, S) o ↔ pd_K xs Ls d pd_m47 (mm_ii st fun x y r => mm_icmp .ge x y (mm_go 109 L r S) (mm_go 90 L r S)) o := pd_Gs (i := .if_icmp .ge 22) (n := 3) rfl
theorem p47_90 : pd_G xs Ls d pd_m47 (90, L, st, S) o ↔ pd_K xs Ls d pd_m47 (mm_lA L 0 fun v => mm_go 91 L (v :: st) S) o := pd_Gs (i := .aload_n 0) (n := 1) rfl
theorem p47_91 : pd_G xs Ls d pd_m47 (91, L, st, S) o ↔ pd_K xs Ls d pd_m47 (mm_getf pd_ck 91 L st S 3 10) o := pd_Gs (i := .getfield 42) (n := 3) rfl
theorem p47_94 : pd_G xs Ls d pd_m47 (94, L, st, S) o ↔ pd_K xs Ls d pd_m47 (mm_lI L 1 fun x => mm_go 95 L (.int x :: st) S) o := pd_Gs (i := .iload_n 1) (n := 1) rfl
theorem p47_95 : pd_G xs Ls d pd_m47 (95, L, st, S) o ↔ pd_K xs Ls d pd_m47 (mm_al S (mm_go 98 L (.ref S.1.length :: st) (mm_new S (.inl 6)))) o := pd_Gs (i := .new 40) (n := 3) rfl
theorem p47_98 : pd_G xs Ls d pd_m47 (98, L, st, S) o ↔ pd_K xs Ls d pd_m47 (mm_1 st fun v r => cond (mm_c2 v) none (mm_go 99 L (v :: v :: r) S)) o := pd_Gs (i := .dup) (n := 1) rfl
theorem p47_99 : pd_G xs Ls d pd_m47 (99, L, st, S) o ↔ pd_K xs Ls d pd_m47 (mm_noT (mm_inv (mm_ev xs Ls pd_ck pd_ak pd_mj d) pd_m47 99 L st S 85 0 6)) o := pd_Gs (i := .invokespecial 46) (n := 3) rfl
theorem p47_102 : pd_G xs Ls d pd_m47 (102, L, st, S) o ↔ pd_K xs Ls d pd_m47 (mm_aas pd_ak S st fun x i a r => mm_go 103 L r (mm_sR S a i.toNatClampNeg (some x))) o := pd_Gs (i := .aastore) (n := 1) rfl
theorem p47_103 : pd_G xs Ls d pd_m47 (103, L, st, S) o ↔ pd_K xs Ls d pd_m47 (mm_lI L 1 fun x => mm_go 106 (mm_sto L 0 1 (.int (x + 1))) st S) o := pd_Gs (i := .iinc 1 1) (n := 3) rfl
theorem p47_106 : pd_G xs Ls d pd_m47 (106, L, st, S) o ↔ pd_K xs Ls d pd_m47 (mm_go 85 L st S) o := pd_Gs (i := .goto (-21)) (n := 3) rfl
theorem p47_109 : pd_G xs Ls d pd_m47 (109, L, st, S) o ↔ pd_K xs Ls d pd_m47 (mm_rV S st) o := pd_Gs (i := .return_) (n := 1) rfl
theorem p48_0 : pd_G xs Ls d pd_m48 (0, L, st, S) o ↔ pd_K xs Ls d pd_m48 (mm_go 1 L (.int 0 :: st) S) o := pd_Gs (i := .iconst 0) (n := 1) rfl
theorem p48_1 : pd_G xs Ls d pd_m48 (1, L, st, S) o ↔ pd_K xs Ls d pd_m48 (mm_i st fun x r => mm_go 2 (mm_sto L 0 1 (.int x)) r S) o := pd_Gs (i := .istore_n 1) (n := 1) rfl
theorem p48_2 : pd_G xs Ls d pd_m48 (2, L, st, S) o ↔ pd_K xs Ls d pd_m48 (mm_go 3 L (.int 0 :: st) S) o := pd_Gs (i := .iconst 0) (n := 1) rfl
theorem p48_3 : pd_G xs Ls d pd_m48 (3, L, st, S) o ↔ pd_K xs Ls d pd_m48 (mm_i st fun x r => mm_go 4 (mm_sto L 0 2 (.int x)) r S) o := pd_Gs (i := .istore_n 2) (n := 1) rfl
theorem p48_4 : pd_G xs Ls d pd_m48 (4, L, st, S) o ↔ pd_K xs Ls d pd_m48 (mm_lI L 2 fun x => mm_go 5 L (.int x :: st) S) o := pd_Gs (i := .iload_n 2) (n := 1) rfl
theorem p48_5 : pd_G xs Ls d pd_m48 (5, L, st, S) o ↔ pd_K xs Ls d pd_m48 (mm_go 6 L (.int 4 :: st) S) o := pd_Gs (i := .iconst 4) (n := 1) rfl
theorem p48_6 : pd_G xs Ls d pd_m48 (6, L, st, S) o ↔ pd_K xs Ls d pd_m48 (mm_ii st fun x y r => mm_icmp .ge x y (mm_go 30 L r S) (mm_go 9 L r S)) o := pd_Gs (i := .if_icmp .ge 24) (n := 3) rfl
theorem p48_9 : pd_G xs Ls d pd_m48 (9, L, st, S) o ↔ pd_K xs Ls d pd_m48 (mm_lA L 0 fun v => mm_go 10 L (v :: st) S) o := pd_Gs (i := .aload_n 0) (n := 1) rfl
theorem p48_10 : pd_G xs Ls d pd_m48 (10, L, st, S) o ↔ pd_K xs Ls d pd_m48 (mm_getf pd_ck 10 L st S 3 0) o := pd_Gs (i := .getfield 11) (n := 3) rfl
theorem p48_13 : pd_G xs Ls d pd_m48 (13, L, st, S) o ↔ pd_K xs Ls d pd_m48 (mm_lI L 2 fun x => mm_go 14 L (.int x :: st) S) o := pd_Gs (i := .iload_n 2) (n := 1) rfl
theorem p48_14 : pd_G xs Ls d pd_m48 (14, L, st, S) o ↔ pd_K xs Ls d pd_m48 (mm_ai pd_ak S st 5 fun i a r => mm_go 15 L (va_rf (S.2.1.2.2.1 a i.toNatClampNeg) :: r) S) o := pd_Gs (i := .aaload) (n := 1) rfl
theorem p48_15 : pd_G xs Ls d pd_m48 (15, L, st, S) o ↔ pd_K xs Ls d pd_m48 (mm_getf pd_ck 15 L st S 1 4) o := pd_Gs (i := .getfield 47) (n := 3) rfl
theorem p48_18 : pd_G xs Ls d pd_m48 (18, L, st, S) o ↔ pd_K xs Ls d pd_m48 (mm_i st fun x r => mm_icmp .eq x 0 (mm_go 24 L r S) (mm_go 21 L r S)) o := pd_Gs (i := .ifCond .eq 6) (n := 3) rfl
theorem p48_21 : pd_G xs Ls d pd_m48 (21, L, st, S) o ↔ pd_K xs Ls d pd_m48 (mm_lI L 1 fun x => mm_go 24 (mm_sto L 0 1 (.int (x + 1))) st S) o := pd_Gs (i := .iinc 1 1) (n := 3) rfl
theorem p48_24 : pd_G xs Ls d pd_m48 (24, L, st, S) o ↔ pd_K xs Ls d pd_m48 (mm_lI L 2 fun x => mm_go 27 (mm_sto L 0 2 (.int (x + 1))) st S) o := pd_Gs (i := .iinc 2 1) (n := 3) rfl
theorem p48_27 : pd_G xs Ls d pd_m48 (27, L, st, S) o ↔ pd_K xs Ls d pd_m48 (mm_go 4 L st S) o := pd_Gs (i := .goto (-23)) (n := 3) rfl
theorem p48_30 : pd_G xs Ls d pd_m48 (30, L, st, S) o ↔ pd_K xs Ls d pd_m48 (mm_lI L 1 fun x => mm_go 31 L (.int x :: st) S) o := pd_Gs (i := .iload_n 1) (n := 1) rfl
theorem p48_31 : pd_G xs Ls d pd_m48 (31, L, st, S) o ↔ pd_K xs Ls d pd_m48 (mm_e0 S st) o := pd_Gs (i := .ireturn) (n := 1) rfl
theorem p49_0 : pd_G xs Ls d pd_m49 (0, L, st, S) o ↔ pd_K xs Ls d pd_m49 (mm_lA L 0 fun v => mm_go 1 L (v :: st) S) o := pd_Gs (i := .aload_n 0) (n := 1) rfl
theorem p49_1 : pd_G xs Ls d pd_m49 (1, L, st, S) o ↔ pd_K xs Ls d pd_m49 (mm_getf pd_ck 1 L st S 3 0) o := pd_Gs (i := .getfield 11) (n := 3) rfl
theorem p49_4 : pd_G xs Ls d pd_m49 (4, L, st, S) o ↔ pd_K xs Ls d pd_m49 (mm_lI L 1 fun x => mm_go 5 L (.int x :: st) S) o := pd_Gs (i := .iload_n 1) (n := 1) rfl
theorem p49_5 : pd_G xs Ls d pd_m49 (5, L, st, S) o ↔ pd_K xs Ls d pd_m49 (mm_ai pd_ak S st 5 fun i a r => mm_go 6 L (va_rf (S.2.1.2.2.1 a i.toNatClampNeg) :: r) S) o := pd_Gs (i := .aaload) (n := 1) rfl
theorem p49_6 : pd_G xs Ls d pd_m49 (6, L, st, S) o ↔ pd_K xs Ls d pd_m49 (mm_r st fun x r => mm_go 7 (mm_sto L 0 3 (.ref x)) r S) o := pd_Gs (i := .astore_n 3) (n := 1) rfl
theorem p49_7 : pd_G xs Ls d pd_m49 (7, L, st, S) o ↔ pd_K xs Ls d pd_m49 (mm_lA L 0 fun v => mm_go 8 L (v :: st) S) o := pd_Gs (i := .aload_n 0) (n := 1) rfl
theorem p49_8 : pd_G xs Ls d pd_m49 (8, L, st, S) o ↔ pd_K xs Ls d pd_m49 (mm_getf pd_ck 8 L st S 3 0) o := pd_Gs (i := .getfield 11) (n := 3) rfl
theorem p49_11 : pd_G xs Ls d pd_m49 (11, L, st, S) o ↔ pd_K xs Ls d pd_m49 (mm_lI L 1 fun x => mm_go 12 L (.int x :: st) S) o := pd_Gs (i := .iload_n 1) (n := 1) rfl
theorem p49_12 : pd_G xs Ls d pd_m49 (12, L, st, S) o ↔ pd_K xs Ls d pd_m49 (mm_lA L 2 fun v => mm_go 13 L (v :: st) S) o := pd_Gs (i := .aload_n 2) (n := 1) rfl
theorem p49_13 : pd_G xs Ls d pd_m49 (13, L, st, S) o ↔ pd_K xs Ls d pd_m49 (mm_aas pd_ak S st fun x i a r => mm_go 14 L r (mm_sR S a i.toNatClampNeg (some x))) o := pd_Gs (i := .aastore) (n := 1) rfl
theorem p49_14 : pd_G xs Ls d pd_m49 (14, L, st, S) o ↔ pd_K xs Ls d pd_m49 (mm_lA L 3 fun v => mm_go 15 L (v :: st) S) o := pd_Gs (i := .aload_n 3) (n := 1) rfl
theorem p49_15 : pd_G xs Ls d pd_m49 (15, L, st, S) o ↔ pd_K xs Ls d pd_m49 (mm_rA S st) o := pd_Gs (i := .areturn) (n := 1) rfl
theorem p50_0 : pd_G xs Ls d pd_m50 (0, L, st, S) o ↔ pd_K xs Ls d pd_m50 (mm_lA L 0 fun v => mm_go 1 L (v :: st) S) o := pd_Gs (i := .aload_n 0) (n := 1) rfl
theorem p50_1 : pd_G xs Ls d pd_m50 (1, L, st, S) o ↔ pd_K xs Ls d pd_m50 (mm_lI L 1 fun x => mm_go 2 L (.int x :: st) S) o := pd_Gs (i := .iload_n 1) (n := 1) rfl
theorem p50_2 : pd_G xs Ls d pd_m50 (2, L, st, S) o ↔ pd_K xs Ls d pd_m50 (mm_lI L 2 fun x => mm_go 3 L (.int x :: st) S) o := pd_Gs (i := .iload_n 2) (n := 1) rfl
theorem p50_3 : pd_G xs Ls d pd_m50 (3, L, st, S) o ↔ pd_K xs Ls d pd_m50 (mm_lI L 3 fun x => mm_go 4 L (.int x :: st) S) o := pd_Gs (i := .iload_n 3) (n := 1) rfl
theorem p50_4 : pd_G xs Ls d pd_m50 (4, L, st, S) o ↔ pd_K xs Ls d pd_m50 (mm_inv (mm_ev xs Ls pd_ck pd_ak pd_mj d) pd_m50 4 L st S 51 3 3) o := pd_Gs (i := .invokevirtual 51) (n := 3) rfl
theorem p50_7 : pd_G xs Ls d pd_m50 (7, L, st, S) o ↔ pd_K xs Ls d pd_m50 (mm_go 8 L (.int 0 :: st) S) o := pd_Gs (i := .iconst 0) (n := 1) rfl
theorem p50_8 : pd_G xs Ls d pd_m50 (8, L, st, S) o ↔ pd_K xs Ls d pd_m50 (mm_i st fun x r => mm_go 10 (mm_sto L 0 4 (.int x)) r S) o := pd_Gs (i := .istore 4) (n := 2) rfl
theorem p50_10 : pd_G xs Ls d pd_m50 (10, L, st, S) o ↔ pd_K xs Ls d pd_m50 (mm_lI L 4 fun x => mm_go 12 L (.int x :: st) S) o := pd_Gs (i := .iload 4) (n := 2) rfl
theorem p50_12 : pd_G xs Ls d pd_m50 (12, L, st, S) o ↔ pd_K xs Ls d pd_m50 (mm_go 15 L (.int 200 :: st) S) o := pd_Gs (i := .sipush 200) (n := 3) rfl
theorem p50_15 : pd_G xs Ls d pd_m50 (15, L, st, S) o ↔ pd_K xs Ls d pd_m50 (mm_ii st fun x y r => mm_icmp .ge x y (mm_go 43 L r S) (mm_go 18 L r S)) o := pd_Gs (i := .if_icmp .ge 28) (n := 3) rfl
theorem p50_18 : pd_G xs Ls d pd_m50 (18, L, st, S) o ↔ pd_K xs Ls d pd_m50 (mm_lA L 0 fun v => mm_go 19 L (v :: st) S) o := pd_Gs (i := .aload_n 0) (n := 1) rfl
theorem p50_19 : pd_G xs Ls d pd_m50 (19, L, st, S) o ↔ pd_K xs Ls d pd_m50 (mm_getf pd_ck 19 L st S 3 11) o := pd_Gs (i := .getfield 55) (n := 3) rfl
theorem p50_22 : pd_G xs Ls d pd_m50 (22, L, st, S) o ↔ pd_K xs Ls d pd_m50 (mm_i st fun x r => mm_icmp .le x 0 (mm_go 43 L r S) (mm_go 25 L r S)) o := pd_Gs (i := .ifCond .le 21) (n := 3) rfl
theorem p50_25 : pd_G xs Ls d pd_m50 (25, L, st, S) o ↔ pd_K xs Ls d pd_m50 (mm_lA L 0 fun v => mm_go 26 L (v :: st) S) o := pd_Gs (i := .aload_n 0) (n := 1) rfl
theorem p50_26 : pd_G xs Ls d pd_m50 (26, L, st, S) o ↔ pd_K xs Ls d pd_m50 (mm_lA L 0 fun v => mm_go 27 L (v :: st) S) o := pd_Gs (i := .aload_n 0) (n := 1) rfl
theorem p50_27 : pd_G xs Ls d pd_m50 (27, L, st, S) o ↔ pd_K xs Ls d pd_m50 (mm_inv (mm_ev xs Ls pd_ck pd_ak pd_mj d) pd_m50 27 L st S 52 0 3) o := pd_Gs (i := .invokevirtual 59) (n := 3) rfl
theorem p50_30 : pd_G xs Ls d pd_m50 (30, L, st, S) o ↔ pd_K xs Ls d pd_m50 (mm_inv (mm_ev xs Ls pd_ck pd_ak pd_mj d) pd_m50 30 L st S 53 1 3) o := pd_Gs (i := .invokevirtual 63) (n := 3) rfl
theorem p50_33 : pd_G xs Ls d pd_m50 (33, L, st, S) o ↔ pd_K xs Ls d pd_m50 (mm_lA L 0 fun v => mm_go 34 L (v :: st) S) o := pd_Gs (i := .aload_n 0) (n := 1) rfl
theorem p50_34 : pd_G xs Ls d pd_m50 (34, L, st, S) o ↔ pd_K xs Ls d pd_m50 (mm_inv (mm_ev xs Ls pd_ck pd_ak pd_mj d) pd_m50 34 L st S 62 0 3) o := pd_Gs (i := .invokevirtual 67) (n := 3) rfl
theorem p50_37 : pd_G xs Ls d pd_m50 (37, L, st, S) o ↔ pd_K xs Ls d pd_m50 (mm_lI L 4 fun x => mm_go 40 (mm_sto L 0 4 (.int (x + 1))) st S) o := pd_Gs (i := .iinc 4 1) (n := 3) rfl
theorem p50_40 : pd_G xs Ls d pd_m50 (40, L, st, S) o ↔ pd_K xs Ls d pd_m50 (mm_go 10 L st S) o := pd_Gs (i := .goto (-30)) (n := 3) rfl
theorem p50_43 : pd_G xs Ls d pd_m50 (43, L, st, S) o ↔ pd_K xs Ls d pd_m50 (mm_lA L 0 fun v => mm_go 44 L (v :: st) S) o := pd_Gs (i := .aload_n 0) (n := 1) rfl
theorem p50_44 : pd_G xs Ls d pd_m50 (44, L, st, S) o ↔ pd_K xs Ls d pd_m50 (mm_getf pd_ck 44 L st S 3 11) o := pd_Gs (i := .getfield 55) (n := 3) rfl
theorem p50_47 : pd_G xs Ls d pd_m50 (47, L, st, S) o ↔ pd_K xs Ls d pd_m50 (mm_i st fun x r => mm_icmp .le x 0 (mm_go 60 L r S) (mm_go 50 L r S)) o := pd_Gs (i := .ifCond .le 13) (n := 3) rfl
theorem p50_50 : pd_G xs Ls d pd_m50 (50, L, st, S) o ↔ pd_K xs Ls d pd_m50 (cond (Nat.ble (mm_wt st) 8) (mm_end (.inr 1) (S.1, S.2.1, S.2.2 + 1)) none) o := pd_Gs (i := .new 70) (n := 3) rfl
theorem p50_60 : pd_G xs Ls d pd_m50 (60, L, st, S) o ↔ pd_K xs Ls d pd_m50 (mm_lA L 0 fun v => mm_go 61 L (v :: st) S) o := pd_Gs (i := .aload_n 0) (n := 1) rfl
theorem p50_61 : pd_G xs Ls d pd_m50 (61, L, st, S) o ↔ pd_K xs Ls d pd_m50 (mm_getf pd_ck 61 L st S 3 6) o := pd_Gs (i := .getfield 77) (n := 3) rfl
theorem p50_64 : pd_G xs Ls d pd_m50 (64, L, st, S) o ↔ pd_K xs Ls d pd_m50 (mm_e0 S st) o := pd_Gs (i := .ireturn) (n := 1) rfl
theorem p51_0 : pd_G xs Ls d pd_m51 (0, L, st, S) o ↔ pd_K xs Ls d pd_m51 (mm_lA L 0 fun v => mm_go 1 L (v :: st) S) o := pd_Gs (i := .aload_n 0) (n := 1) rfl
theorem p51_1 : pd_G xs Ls d pd_m51 (1, L, st, S) o ↔ pd_K xs Ls d pd_m51 (mm_getf pd_ck 1 L st S 3 3) o := pd_Gs (i := .getfield 32) (n := 3) rfl
theorem p51_4 : pd_G xs Ls d pd_m51 (4, L, st, S) o ↔ pd_K xs Ls d pd_m51 (mm_go 5 L (.int 0 :: st) S) o := pd_Gs (i := .iconst 0) (n := 1) rfl
theorem p51_5 : pd_G xs Ls d pd_m51 (5, L, st, S) o ↔ pd_K xs Ls d pd_m51 (mm_lI L 2 fun x => mm_go 6 L (.int x :: st) S) o := pd_Gs (i := .iload_n 2) (n := 1) rfl
theorem p51_6 : pd_G xs Ls d pd_m51 (6, L, st, S) o ↔ pd_K xs Ls d pd_m51 (mm_i st fun x st => mm_ai pd_ak S st 0 fun i a r => mm_go 7 L r (mm_sI S a i.toNatClampNeg x)) o := pd_Gs (i := .iastore) (n := 1) rfl
theorem p51_7 : pd_G xs Ls d pd_m51 (7, L, st, S) o ↔ pd_K xs Ls d pd_m51 (mm_lA L 0 fun v => mm_go 8 L (v :: st) S) o := pd_Gs (i := .aload_n 0) (n := 1) rfl
theorem p51_8 : pd_G xs Ls d pd_m51 (8, L, st, S) o ↔ pd_K xs Ls d pd_m51 (mm_getf pd_ck 8 L st S 3 3) o := pd_Gs (i := .getfield 32) (n := 3) rfl
theorem p51_11 : pd_G xs Ls d pd_m51 (11, L, st, S) o ↔ pd_K xs Ls d pd_m51 (mm_go 12 L (.int 1 :: st) S) o := pd_Gs (i := .iconst 1) (n := 1) rfl
theorem p51_12 : pd_G xs Ls d pd_m51 (12, L, st, S) o ↔ pd_K xs Ls d pd_m51 (mm_lI L 3 fun x => mm_go 13 L (.int x :: st) S) o := pd_Gs (i := .iload_n 3) (n := 1) rfl
theorem p51_13 : pd_G xs Ls d pd_m51 (13, L, st, S) o ↔ pd_K xs Ls d pd_m51 (mm_i st fun x st => mm_ai pd_ak S st 0 fun i a r => mm_go 14 L r (mm_sI S a i.toNatClampNeg x)) o := pd_Gs (i := .iastore) (n := 1) rfl
theorem p51_14 : pd_G xs Ls d pd_m51 (14, L, st, S) o ↔ pd_K xs Ls d pd_m51 (mm_lA L 0 fun v => mm_go 15 L (v :: st) S) o := pd_Gs (i := .aload_n 0) (n := 1) rfl
theorem p51_15 : pd_G xs Ls d pd_m51 (15, L, st, S) o ↔ pd_K xs Ls d pd_m51 (mm_go 16 L (.int 0 :: st) S) o := pd_Gs (i := .iconst 0) (n := 1) rfl
theorem p51_16 : pd_G xs Ls d pd_m51 (16, L, st, S) o ↔ pd_K xs Ls d pd_m51 (mm_putf pd_ck 16 L st S 3 5) o := pd_Gs (i := .putfield 80) (n := 3) rfl
theorem p51_19 : pd_G xs Ls d pd_m51 (19, L, st, S) o ↔ pd_K xs Ls d pd_m51 (mm_lA L 0 fun v => mm_go 20 L (v :: st) S) o := pd_Gs (i := .aload_n 0) (n := 1) rfl
theorem p51_20 : pd_G xs Ls d pd_m51 (20, L, st, S) o ↔ pd_K xs Ls d pd_m51 (mm_go 21 L (.int 0 :: st) S) o := pd_Gs (i := .iconst 0) (n := 1) rfl
theorem p51_21 : pd_G xs Ls d pd_m51 (21, L, st, S) o ↔ pd_K xs Ls d pd_m51 (mm_putf pd_ck 21 L st S 3 6) o := pd_Gs (i := .putfield 77) (n := 3) rfl
theorem p51_24 : pd_G xs Ls d pd_m51 (24, L, st, S) o ↔ pd_K xs Ls d pd_m51 (mm_lA L 0 fun v => mm_go 25 L (v :: st) S) o := pd_Gs (i := .aload_n 0) (n := 1) rfl
theorem p51_25 : pd_G xs Ls d pd_m51 (25, L, st, S) o ↔ pd_K xs Ls d pd_m51 (mm_go 26 L (.int 0 :: st) S) o := pd_Gs (i := .iconst 0) (n := 1) rfl
theorem p51_26 : pd_G xs Ls d pd_m51 (26, L, st, S) o ↔ pd_K xs Ls d pd_m51 (mm_putf pd_ck 26 L st S 3 9) o := pd_Gs (i := .putfield 83) (n := 3) rfl
theorem p51_29 : pd_G xs Ls d pd_m51 (29, L, st, S) o ↔ pd_K xs Ls d pd_m51 (mm_lA L 0 fun v => mm_go 30 L (v :: st) S) o := pd_Gs (i := .aload_n 0) (n := 1) rfl
theorem p51_30 : pd_G xs Ls d pd_m51 (30, L, st, S) o ↔ pd_K xs Ls d pd_m51 (mm_getf pd_ck 30 L st S 3 2) o := pd_Gs (i := .getfield 28) (n := 3) rfl
theorem p51_33 : pd_G xs Ls d pd_m51 (33, L, st, S) o ↔ pd_K xs Ls d pd_m51 (mm_inv (mm_ev xs Ls pd_ck pd_ak pd_mj d) pd_m51 33 L st S 83 0 5) o := pd_Gs (i := .invokevirtual 86) (n := 3) rfl
theorem p51_36 : pd_G xs Ls d pd_m51 (36, L, st, S) o ↔ pd_K xs Ls d pd_m51 (mm_go 37 L (.int 0 :: st) S) o := pd_Gs (i := .iconst 0) (n := 1) rfl
theorem p51_37 : pd_G xs Ls d pd_m51 (37, L, st, S) o ↔ pd_K xs Ls d pd_m51 (mm_i st fun x r => mm_go 39 (mm_sto L 0 4 (.int x)) r S) o := pd_Gs (i := .istore 4) (n := 2) rfl
theorem p51_39 : pd_G xs Ls d pd_m51 (39, L, st, S) o ↔ pd_K xs Ls d pd_m51 (mm_lI L 4 fun x => mm_go 41 L (.int x :: st) S) o := pd_Gs (i := .iload 4) (n := 2) rfl
theorem p51_41 : pd_G xs Ls d pd_m51 (41, L, st, S) o ↔ pd_K xs Ls d pd_m51 (mm_go 42 L (.int 5 :: st) S) o := pd_Gs (i := .iconst 5) (n := 1) rfl
theorem p51_42 : pd_G xs Ls d pd_m51 (42, L, st, S) o ↔ pd_K xs Ls d pd_m51 (mm_ii st fun x y r => mm_icmp .ge x y (mm_go 62 L r S) (mm_go 45 L r S)) o := pd_Gs (i := .if_icmp .ge 20) (n := 3) rfl
theorem p51_45 : pd_G xs Ls d pd_m51 (45, L, st, S) o ↔ pd_K xs Ls d pd_m51 (mm_lA L 0 fun v => mm_go 46 L (v :: st) S) o := pd_Gs (i := .aload_n 0) (n := 1) rfl
theorem p51_46 : pd_G xs Ls d pd_m51 (46, L, st, S) o ↔ pd_K xs Ls d pd_m51 (mm_getf pd_ck 46 L st S 3 10) o := pd_Gs (i := .getfield 42) (n := 3) rfl
theorem p51_49 : pd_G xs Ls d pd_m51 (49, L, st, S) o ↔ pd_K xs Ls d pd_m51 (mm_lI L 4 fun x => mm_go 51 L (.int x :: st) S) o := pd_Gs (i := .iload 4) (n := 2) rfl
theorem p51_51 : pd_G xs Ls d pd_m51 (51, L, st, S) o ↔ pd_K xs Ls d pd_m51 (mm_ai pd_ak S st 5 fun i a r => mm_go 52 L (va_rf (S.2.1.2.2.1 a i.toNatClampNeg) :: r) S) o := pd_Gs (i := .aaload) (n := 1) rfl
theorem p51_52 : pd_G xs Ls d pd_m51 (52, L, st, S) o ↔ pd_K xs Ls d pd_m51 (mm_go 53 L (.int 0 :: st) S) o := pd_Gs (i := .iconst 0) (n := 1) rfl
theorem p51_53 : pd_G xs Ls d pd_m51 (53, L, st, S) o ↔ pd_K xs Ls d pd_m51 (mm_putf pd_ck 53 L st S 6 0) o := pd_Gs (i := .putfield 89) (n := 3) rfl
theorem p51_56 : pd_G xs Ls d pd_m51 (56, L, st, S) o ↔ pd_K xs Ls d pd_m51 (mm_lI L 4 fun x => mm_go 59 (mm_sto L 0 4 (.int (x + 1))) st S) o := pd_Gs (i := .iinc 4 1) (n := 3) rfl
theorem p51_59 : pd_G xs Ls d pd_m51 (59, L, st, S) o ↔ pd_K xs Ls d pd_m51 (mm_go 39 L st S) o := pd_Gs (i := .goto (-20)) (n := 3) rfl
theorem p51_62 : pd_G xs Ls d pd_m51 (62, L, st, S) o ↔ pd_K xs Ls d pd_m51 (mm_lA L 0 fun v => mm_go 63 L (v :: st) S) o := pd_Gs (i := .aload_n 0) (n := 1) rfl
theorem p51_63 : pd_G xs Ls d pd_m51 (63, L, st, S) o ↔ pd_K xs Ls d pd_m51 (mm_getf pd_ck 63 L st S 3 10) o := pd_Gs (i := .getfield 42) (n := 3) rfl
theorem p51_66 : pd_G xs Ls d pd_m51 (66, L, st, S) o ↔ pd_K xs Ls d pd_m51 (mm_go 67 L (.int 0 :: st) S) o := pd_Gs (i := .iconst 0) (n := 1) rfl
theorem p51_67 : pd_G xs Ls d pd_m51 (67, L, st, S) o ↔ pd_K xs Ls d pd_m51 (mm_ai pd_ak S st 5 fun i a r => mm_go 68 L (va_rf (S.2.1.2.2.1 a i.toNatClampNeg) :: r) S) o := pd_Gs (i := .aaload) (n := 1) rfl
theorem p51_68 : pd_G xs Ls d pd_m51 (68, L, st, S) o ↔ pd_K xs Ls d pd_m51 (mm_lI L 1 fun x => mm_go 69 L (.int x :: st) S) o := pd_Gs (i := .iload_n 1) (n := 1) rfl
theorem p51_69 : pd_G xs Ls d pd_m51 (69, L, st, S) o ↔ pd_K xs Ls d pd_m51 (mm_inv (mm_ev xs Ls pd_ck pd_ak pd_mj d) pd_m51 69 L st S 86 1 6) o := pd_Gs (i := .invokevirtual 92) (n := 3) rfl
theorem p51_72 : pd_G xs Ls d pd_m51 (72, L, st, S) o ↔ pd_K xs Ls d pd_m51 (mm_lA L 0 fun v => mm_go 73 L (v :: st) S) o := pd_Gs (i := .aload_n 0) (n := 1) rfl
theorem p51_73 : pd_G xs Ls d pd_m51 (73, L, st, S) o ↔ pd_K xs Ls d pd_m51 (mm_go 74 L (.int 1 :: st) S) o := pd_Gs (i := .iconst 1) (n := 1) rfl
theorem p51_74 : pd_G xs Ls d pd_m51 (74, L, st, S) o ↔ pd_K xs Ls d pd_m51 (mm_putf pd_ck 74 L st S 3 7) o := pd_Gs (i := .putfield 95) (n := 3) rfl
theorem p51_77 : pd_G xs Ls d pd_m51 (77, L, st, S) o ↔ pd_K xs Ls d pd_m51 (mm_lA L 0 fun v => mm_go 78 L (v :: st) S) o := pd_Gs (i := .aload_n 0) (n := 1) rfl
theorem p51_78 : pd_G xs Ls d pd_m51 (78, L, st, S) o ↔ pd_K xs Ls d pd_m51 (mm_go 79 L (.int 1 :: st) S) o := pd_Gs (i := .iconst 1) (n := 1) rfl
theorem p51_79 : pd_G xs Ls d pd_m51 (79, L, st, S) o ↔ pd_K xs Ls d pd_m51 (mm_putf pd_ck 79 L st S 3 11) o := pd_Gs (i := .putfield 55) (n := 3) rfl
theorem p51_82 : pd_G xs Ls d pd_m51 (82, L, st, S) o ↔ pd_K xs Ls d pd_m51 (mm_lA L 0 fun v => mm_go 83 L (v :: st) S) o := pd_Gs (i := .aload_n 0) (n := 1) rfl
theorem p51_83 : pd_G xs Ls d pd_m51 (83, L, st, S) o ↔ pd_K xs Ls d pd_m51 (mm_go 84 L (.int 1 :: st) S) o := pd_Gs (i := .iconst 1) (n := 1) rfl
theorem p51_84 : pd_G xs Ls d pd_m51 (84, L, st, S) o ↔ pd_K xs Ls d pd_m51 (mm_putf pd_ck 84 L st S 3 8) o := pd_Gs (i := .putfield 98) (n := 3) rfl
theorem p51_87 : pd_G xs Ls d pd_m51 (87, L, st, S) o ↔ pd_K xs Ls d pd_m51 (mm_rV S st) o := pd_Gs (i := .return_) (n := 1) rfl
theorem p52_0 : pd_G xs Ls d pd_m52 (0, L, st, S) o ↔ pd_K xs Ls d pd_m52 (mm_go 1 L (.int 0 :: st) S) o := pd_Gs (i := .iconst 0) (n := 1) rfl
theorem p52_1 : pd_G xs Ls d pd_m52 (1, L, st, S) o ↔ pd_K xs Ls d pd_m52 (mm_i st fun x r => mm_go 2 (mm_sto L 0 1 (.int x)) r S) o := pd_Gs (i := .istore_n 1) (n := 1) rfl
theorem p52_2 : pd_G xs Ls d pd_m52 (2, L, st, S) o ↔ pd_K xs Ls d pd_m52 (mm_go 3 L (.int 0 :: st) S) o := pd_Gs (i := .iconst 0) (n := 1) rfl
theorem p52_3 : pd_G xs Ls d pd_m52 (3, L, st, S) o ↔ pd_K xs Ls d pd_m52 (mm_i st fun x r => mm_go 4 (mm_sto L 0 2 (.int x)) r S) o := pd_Gs (i := .istore_n 2) (n := 1) rfl
theorem p52_4 : pd_G xs Ls d pd_m52 (4, L, st, S) o ↔ pd_K xs Ls d pd_m52 (mm_lI L 2 fun x => mm_go 5 L (.int x :: st) S) o := pd_Gs (i := .iload_n 2) (n := 1) rfl
theorem p52_5 : pd_G xs Ls d pd_m52 (5, L, st, S) o ↔ pd_K xs Ls d pd_m52 (mm_go 6 L (.int 5 :: st) S) o := pd_Gs (i := .iconst 5) (n := 1) rfl
theorem p52_6 : pd_G xs Ls d pd_m52 (6, L, st, S) o ↔ pd_K xs Ls d pd_m52 (mm_ii st fun x y r => mm_icmp .ge x y (mm_go 31 L r S) (mm_go 9 L r S)) o := pd_Gs (i := .if_icmp .ge 25) (n := 3) rfl
theorem p52_9 : pd_G xs Ls d pd_m52 (9, L, st, S) o ↔ pd_K xs Ls d pd_m52 (mm_lA L 0 fun v => mm_go 10 L (v :: st) S) o := pd_Gs (i := .aload_n 0) (n := 1) rfl
theorem p52_10 : pd_G xs Ls d pd_m52 (10, L, st, S) o ↔ pd_K xs Ls d pd_m52 (mm_getf pd_ck 10 L st S 3 10) o := pd_Gs (i := .getfield 42) (n := 3) rfl
theorem p52_13 : pd_G xs Ls d pd_m52 (13, L, st, S) o ↔ pd_K xs Ls d pd_m52 (mm_lI L 2 fun x => mm_go 14 L (.int x :: st) S) o := pd_Gs (i := .iload_n 2) (n := 1) rfl
theorem p52_14 : pd_G xs Ls d pd_m52 (14, L, st, S) o ↔ pd_K xs Ls d pd_m52 (mm_ai pd_ak S st 5 fun i a r => mm_go 15 L (va_rf (S.2.1.2.2.1 a i.toNatClampNeg) :: r) S) o := pd_Gs (i := .aaload) (n := 1) rfl
theorem p52_15 : pd_G xs Ls d pd_m52 (15, L, st, S) o ↔ pd_K xs Ls d pd_m52 (mm_getf pd_ck 15 L st S 6 0) o := pd_Gs (i := .getfield 89) (n := 3) rfl
theorem p52_18 : pd_G xs Ls d pd_m52 (18, L, st, S) o ↔ pd_K xs Ls d pd_m52 (mm_go 19 L (.int 1 :: st) S) o := pd_Gs (i := .iconst 1) (n := 1) rfl
theorem p52_19 : pd_G xs Ls d pd_m52 (19, L, st, S) o ↔ pd_K xs Ls d pd_m52 (mm_ii st fun x y r => mm_icmp .ne x y (mm_go 25 L r S) (mm_go 22 L r S)) o := pd_Gs (i := .if_icmp .ne 6) (n := 3) rfl
theorem p52_22 : pd_G xs Ls d pd_m52 (22, L, st, S) o ↔ pd_K xs Ls d pd_m52 (mm_lI L 1 fun x => mm_go 25 (mm_sto L 0 1 (.int (x + 1))) st S) o := pd_Gs (i := .iinc 1 1) (n := 3) rfl
theorem p52_25 : pd_G xs Ls d pd_m52 (25, L, st, S) o ↔ pd_K xs Ls d pd_m52 (mm_lI L 2 fun x => mm_go 28 (mm_sto L 0 2 (.int (x + 1))) st S) o := pd_Gs (i := .iinc 2 1) (n := 3) rfl
theorem p52_28 : pd_G xs Ls d pd_m52 (28, L, st, S) o ↔ pd_K xs Ls d pd_m52 (mm_go 4 L st S) o := pd_Gs (i := .goto (-24)) (n := 3) rfl
theorem p52_31 : pd_G xs Ls d pd_m52 (31, L, st, S) o ↔ pd_K xs Ls d pd_m52 (mm_lI L 1 fun x => mm_go 32 L (.int x :: st) S) o := pd_Gs (i := .iload_n 1) (n := 1) rfl
theorem p52_32 : pd_G xs Ls d pd_m52 (32, L, st, S) o ↔ pd_K xs Ls d pd_m52 (mm_i st fun x r => mm_icmp .ne x 0 (mm_go 45 L r S) (mm_go 35 L r S)) o := pd_Gs (i := .ifCond .ne 13) (n := 3) rfl
theorem p52_35 : pd_G xs Ls d pd_m52 (35, L, st, S) o ↔ pd_K xs Ls d pd_m52 (cond (Nat.ble (mm_wt st) 8) (mm_end (.inr 1) (S.1, S.2.1, S.2.2 + 1)) none) o := pd_Gs (i := .new 70) (n := 3) rfl
theorem p52_45 : pd_G xs Ls d pd_m52 (45, L, st, S) o ↔ pd_K xs Ls d pd_m52 (mm_lA L 0 fun v => mm_go 46 L (v :: st) S) o := pd_Gs (i := .aload_n 0) (n := 1) rfl
theorem p52_46 : pd_G xs Ls d pd_m52 (46, L, st, S) o ↔ pd_K xs Ls d pd_m52 (mm_getf pd_ck 46 L st S 3 2) o := pd_Gs (i := .getfield 28) (n := 3) rfl
theorem p52_49 : pd_G xs Ls d pd_m52 (49, L, st, S) o ↔ pd_K xs Ls d pd_m52 (mm_inv (mm_ev xs Ls pd_ck pd_ak pd_mj d) pd_m52 49 L st S 84 0 5) o := pd_Gs (i := .invokevirtual 103) (n := 3) rfl
theorem p52_52 : pd_G xs Ls d pd_m52 (52, L, st, S) o ↔ pd_K xs Ls d pd_m52 (mm_lI L 1 fun x => mm_go 53 L (.int x :: st) S) o := pd_Gs (i := .iload_n 1) (n := 1) rfl
theorem p52_53 : pd_G xs Ls d pd_m52 (53, L, st, S) o ↔ pd_K xs Ls d pd_m52 (mm_ii st fun x y r => if y = 0 then none else mm_go 54 L (.int (x - x / y * y) :: r) S) o := pd_Gs (i := .irem) (n := 1) rfl
theorem p52_54 : pd_G xs Ls d pd_m52 (54, L, st, S) o ↔ pd_K xs Ls d pd_m52 (mm_i st fun x r => mm_go 55 (mm_sto L 0 2 (.int x)) r S) o := pd_Gs (i := .istore_n 2) (n := 1) rfl
theorem p52_55 : pd_G xs Ls d pd_m52 (55, L, st, S) o ↔ pd_K xs Ls d pd_m52 (mm_go 56 L (.int 0 :: st) S) o := pd_Gs (i := .iconst 0) (n := 1) rfl
theorem p52_56 : pd_G xs Ls d pd_m52 (56, L, st, S) o ↔ pd_K xs Ls d pd_m52 (mm_i st fun x r => mm_go 57 (mm_sto L 0 3 (.int x)) r S) o := pd_Gs (i := .istore_n 3) (n := 1) rfl
theorem p52_57 : pd_G xs Ls d pd_m52 (57, L, st, S) o ↔ pd_K xs Ls d pd_m52 (mm_go 58 L (.int 0 :: st) S) o := pd_Gs (i := .iconst 0) (n := 1) rfl
theorem p52_58 : pd_G xs Ls d pd_m52 (58, L, st, S) o ↔ pd_K xs Ls d pd_m52 (mm_i st fun x r => mm_go 60 (mm_sto L 0 4 (.int x)) r S) o := pd_Gs (i := .istore 4) (n := 2) rfl
theorem p52_60 : pd_G xs Ls d pd_m52 (60, L, st, S) o ↔ pd_K xs Ls d pd_m52 (mm_lI L 4 fun x => mm_go 62 L (.int x :: st) S) o := pd_Gs (i := .iload 4) (n := 2) rfl
theorem p52_62 : pd_G xs Ls d pd_m52 (62, L, st, S) o ↔ pd_K xs Ls d pd_m52 (mm_go 63 L (.int 5 :: st) S) o := pd_Gs (i := .iconst 5) (n := 1) rfl
theorem p52_63 : pd_G xs Ls d pd_m52 (63, L, st, S) o ↔ pd_K xs Ls d pd_m52 (mm_ii st fun x y r => mm_icmp .ge x y (mm_go 96 L r S) (mm_go 66 L r S)) o := pd_Gs (i := .if_icmp .ge 33) (n := 3) rfl
theorem p52_66 : pd_G xs Ls d pd_m52 (66, L, st, S) o ↔ pd_K xs Ls d pd_m52 (mm_lA L 0 fun v => mm_go 67 L (v :: st) S) o := pd_Gs (i := .aload_n 0) (n := 1) rfl
theorem p52_67 : pd_G xs Ls d pd_m52 (67, L, st, S) o ↔ pd_K xs Ls d pd_m52 (mm_getf pd_ck 67 L st S 3 10) o := pd_Gs (i := .getfield 42) (n := 3) rfl
theorem p52_70 : pd_G xs Ls d pd_m52 (70, L, st, S) o ↔ pd_K xs Ls d pd_m52 (mm_lI L 4 fun x => mm_go 72 L (.int x :: st) S) o := pd_Gs (i := .iload 4) (n := 2) rfl
theorem p52_72 : pd_G xs Ls d pd_m52 (72, L, st, S) o ↔ pd_K xs Ls d pd_m52 (mm_ai pd_ak S st 5 fun i a r => mm_go 73 L (va_rf (S.2.1.2.2.1 a i.toNatClampNeg) :: r) S) o := pd_Gs (i := .aaload) (n := 1) rfl
theorem p52_73 : pd_G xs Ls d pd_m52 (73, L, st, S) o ↔ pd_K xs Ls d pd_m52 (mm_getf pd_ck 73 L st S 6 0) o := pd_Gs (i := .getfield 89) (n := 3) rfl
theorem p52_76 : pd_G xs Ls d pd_m52 (76, L, st, S) o ↔ pd_K xs Ls d pd_m52 (mm_go 77 L (.int 1 :: st) S) o := pd_Gs (i := .iconst 1) (n := 1) rfl
theorem p52_77 : pd_G xs Ls d pd_m52 (77, L, st, S) o ↔ pd_K xs Ls d pd_m52 (mm_ii st fun x y r => mm_icmp .ne x y (mm_go 90 L r S) (mm_go 80 L r S)) o := pd_Gs (i := .if_icmp .ne 13) (n := 3) rfl
theorem p52_80 : pd_G xs Ls d pd_m52 (80, L, st, S) o ↔ pd_K xs Ls d pd_m52 (mm_lI L 2 fun x => mm_go 81 L (.int x :: st) S) o := pd_Gs (i := .iload_n 2) (n := 1) rfl
theorem p52_81 : pd_G xs Ls d pd_m52 (81, L, st, S) o ↔ pd_K xs Ls d pd_m52 (mm_i st fun x r => mm_icmp .ne x 0 (mm_go 87 L r S) (mm_go 84 L r S)) o := pd_Gs (i := .ifCond .ne 6) (n := 3) rfl
theorem p52_84 : pd_G xs Ls d pd_m52 (84, L, st, S) o ↔ pd_K xs Ls d pd_m52 (mm_lI L 4 fun x => mm_go 86 L (.int x :: st) S) o := pd_Gs (i := .iload 4) (n := 2) rfl
theorem p52_86 : pd_G xs Ls d pd_m52 (86, L, st, S) o ↔ pd_K xs Ls d pd_m52 (mm_i st fun x r => mm_go 87 (mm_sto L 0 3 (.int x)) r S) o := pd_Gs (i := .istore_n 3) (n := 1) rfl
theorem p52_87 : pd_G xs Ls d pd_m52 (87, L, st, S) o ↔ pd_K xs Ls d pd_m52 (mm_lI L 2 fun x => mm_go 90 (mm_sto L 0 2 (.int (x + Int32.ofInt (-1)))) st S) o := pd_Gs (i := .iinc 2 (-1)) (n := 3) rfl
theorem p52_90 : pd_G xs Ls d pd_m52 (90, L, st, S) o ↔ pd_K xs Ls d pd_m52 (mm_lI L 4 fun x => mm_go 93 (mm_sto L 0 4 (.int (x + 1))) st S) o := pd_Gs (i := .iinc 4 1) (n := 3) rfl
theorem p52_93 : pd_G xs Ls d pd_m52 (93, L, st, S) o ↔ pd_K xs Ls d pd_m52 (mm_go 60 L st S) o := pd_Gs (i := .goto (-33)) (n := 3) rfl
theorem p52_96 : pd_G xs Ls d pd_m52 (96, L, st, S) o ↔ pd_K xs Ls d pd_m52 (mm_lI L 3 fun x => mm_go 97 L (.int x :: st) S) o := pd_Gs (i := .iload_n 3) (n := 1) rfl
theorem p52_97 : pd_G xs Ls d pd_m52 (97, L, st, S) o ↔ pd_K xs Ls d pd_m52 (mm_e0 S st) o := pd_Gs (i := .ireturn) (n := 1) rfl
theorem p53_0 : pd_G xs Ls d pd_m53 (0, L, st, S) o ↔ pd_K xs Ls d pd_m53 (mm_lA L 0 fun v => mm_go 1 L (v :: st) S) o := pd_Gs (i := .aload_n 0) (n := 1) rfl
theorem p53_1 : pd_G xs Ls d pd_m53 (1, L, st, S) o ↔ pd_K xs Ls d pd_m53 (mm_getf pd_ck 1 L st S 3 10) o := pd_Gs (i := .getfield 42) (n := 3) rfl
theorem p53_4 : pd_G xs Ls d pd_m53 (4, L, st, S) o ↔ pd_K xs Ls d pd_m53 (mm_lI L 1 fun x => mm_go 5 L (.int x :: st) S) o := pd_Gs (i := .iload_n 1) (n := 1) rfl
theorem p53_5 : pd_G xs Ls d pd_m53 (5, L, st, S) o ↔ pd_K xs Ls d pd_m53 (mm_ai pd_ak S st 5 fun i a r => mm_go 6 L (va_rf (S.2.1.2.2.1 a i.toNatClampNeg) :: r) S) o := pd_Gs (i := .aaload) (n := 1) rfl
theorem p53_6 : pd_G xs Ls d pd_m53 (6, L, st, S) o ↔ pd_K xs Ls d pd_m53 (mm_r st fun x r => mm_go 7 (mm_sto L 0 2 (.ref x)) r S) o := pd_Gs (i := .astore_n 2) (n := 1) rfl
theorem p53_7 : pd_G xs Ls d pd_m53 (7, L, st, S) o ↔ pd_K xs Ls d pd_m53 (mm_lA L 0 fun v => mm_go 8 L (v :: st) S) o := pd_Gs (i := .aload_n 0) (n := 1) rfl
theorem p53_8 : pd_G xs Ls d pd_m53 (8, L, st, S) o ↔ pd_K xs Ls d pd_m53 (mm_getf pd_ck 8 L st S 3 0) o := pd_Gs (i := .getfield 11) (n := 3) rfl
theorem p53_11 : pd_G xs Ls d pd_m53 (11, L, st, S) o ↔ pd_K xs Ls d pd_m53 (mm_lA L 2 fun v => mm_go 12 L (v :: st) S) o := pd_Gs (i := .aload_n 2) (n := 1) rfl
theorem p53_12 : pd_G xs Ls d pd_m53 (12, L, st, S) o ↔ pd_K xs Ls d pd_m53 (mm_getf pd_ck 12 L st S 6 3) o := pd_Gs (i := .getfield 106) (n := 3) rfl
theorem p53_15 : pd_G xs Ls d pd_m53 (15, L, st, S) o ↔ pd_K xs Ls d pd_m53 (mm_ai pd_ak S st 5 fun i a r => mm_go 16 L (va_rf (S.2.1.2.2.1 a i.toNatClampNeg) :: r) S) o := pd_Gs (i := .aaload) (n := 1) rfl
theorem p53_16 : pd_G xs Ls d pd_m53 (16, L, st, S) o ↔ pd_K xs Ls d pd_m53 (mm_r st fun x r => mm_go 17 (mm_sto L 0 3 (.ref x)) r S) o := pd_Gs (i := .astore_n 3) (n := 1) rfl
theorem p53_17 : pd_G xs Ls d pd_m53 (17, L, st, S) o ↔ pd_K xs Ls d pd_m53 (mm_lA L 0 fun v => mm_go 18 L (v :: st) S) o := pd_Gs (i := .aload_n 0) (n := 1) rfl
theorem p53_18 : pd_G xs Ls d pd_m53 (18, L, st, S) o ↔ pd_K xs Ls d pd_m53 (mm_1 st fun v r => cond (mm_c2 v) none (mm_go 19 L (v :: v :: r) S)) o := pd_Gs (i := .dup) (n := 1) rfl
theorem p53_19 : pd_G xs Ls d pd_m53 (19, L, st, S) o ↔ pd_K xs Ls d pd_m53 (mm_getf pd_ck 19 L st S 3 6) o := pd_Gs (i := .getfield 77) (n := 3) rfl
theorem p53_22 : pd_G xs Ls d pd_m53 (22, L, st, S) o ↔ pd_K xs Ls d pd_m53 (mm_go 23 L (.int 1 :: st) S) o := pd_Gs (i := .iconst 1) (n := 1) rfl
theorem p53_23 : pd_G xs Ls d pd_m53 (23, L, st, S) o ↔ pd_K xs Ls d pd_m53 (mm_ii st fun x y r => mm_go 24 L (.int (x + y) :: r) S) o := pd_Gs (i := .iadd) (n := 1) rfl
theorem p53_24 : pd_G xs Ls d pd_m53 (24, L, st, S) o ↔ pd_K xs Ls d pd_m53 (mm_putf pd_ck 24 L st S 3 6) o := pd_Gs (i := .putfield 77) (n := 3) rfl
theorem p53_27 : pd_G xs Ls d pd_m53 (27, L, st, S) o ↔ pd_K xs Ls d pd_m53 (mm_lA L 0 fun v => mm_go 28 L (v :: st) S) o := pd_Gs (i := .aload_n 0) (n := 1) rfl
theorem p53_28 : pd_G xs Ls d pd_m53 (28, L, st, S) o ↔ pd_K xs Ls d pd_m53 (mm_getf pd_ck 28 L st S 3 1) o := pd_Gs (i := .getfield 21) (n := 3) rfl
theorem p53_31 : pd_G xs Ls d pd_m53 (31, L, st, S) o ↔ pd_K xs Ls d pd_m53 (mm_inv (mm_ev xs Ls pd_ck pd_ak pd_mj d) pd_m53 31 L st S 68 0 4) o := pd_Gs (i := .invokevirtual 109) (n := 3) rfl
theorem p53_34 : pd_G xs Ls d pd_m53 (34, L, st, S) o ↔ pd_K xs Ls d pd_m53 (mm_go 35 L (.int 0 :: st) S) o := pd_Gs (i := .iconst 0) (n := 1) rfl
theorem p53_35 : pd_G xs Ls d pd_m53 (35, L, st, S) o ↔ pd_K xs Ls d pd_m53 (mm_i st fun x r => mm_go 37 (mm_sto L 0 4 (.int x)) r S) o := pd_Gs (i := .istore 4) (n := 2) rfl
theorem p53_37 : pd_G xs Ls d pd_m53 (37, L, st, S) o ↔ pd_K xs Ls d pd_m53 (mm_lI L 4 fun x => mm_go 39 L (.int x :: st) S) o := pd_Gs (i := .iload 4) (n := 2) rfl
theorem p53_39 : pd_G xs Ls d pd_m53 (39, L, st, S) o ↔ pd_K xs Ls d pd_m53 (mm_go 41 L (.int 49 :: st) S) o := pd_Gs (i := .bipush 49) (n := 2) rfl
theorem p53_41 : pd_G xs Ls d pd_m53 (41, L, st, S) o ↔ pd_K xs Ls d pd_m53 (mm_ii st fun x y r => mm_icmp .ge x y (mm_go 108 L r S) (mm_go 44 L r S)) o := pd_Gs (i := .if_icmp .ge 67) (n := 3) rfl
theorem p53_44 : pd_G xs Ls d pd_m53 (44, L, st, S) o ↔ pd_K xs Ls d pd_m53 (mm_lA L 3 fun v => mm_go 45 L (v :: st) S) o := pd_Gs (i := .aload_n 3) (n := 1) rfl
theorem p53_45 : pd_G xs Ls d pd_m53 (45, L, st, S) o ↔ pd_K xs Ls d pd_m53 (mm_lA L 2 fun v => mm_go 46 L (v :: st) S) o := pd_Gs (i := .aload_n 2) (n := 1) rfl
theorem p53_46 : pd_G xs Ls d pd_m53 (46, L, st, S) o ↔ pd_K xs Ls d pd_m53 (mm_getf pd_ck 46 L st S 6 4) o := pd_Gs (i := .getfield 112) (n := 3) rfl
theorem p53_49 : pd_G xs Ls d pd_m53 (49, L, st, S) o ↔ pd_K xs Ls d pd_m53 (mm_inv (mm_ev xs Ls pd_ck pd_ak pd_mj d) pd_m53 49 L st S 17 1 1) o := pd_Gs (i := .invokevirtual 115) (n := 3) rfl
theorem p53_52 : pd_G xs Ls d pd_m53 (52, L, st, S) o ↔ pd_K xs Ls d pd_m53 (mm_i st fun x r => mm_go 54 (mm_sto L 0 5 (.int x)) r S) o := pd_Gs (i := .istore 5) (n := 2) rfl
theorem p53_54 : pd_G xs Ls d pd_m53 (54, L, st, S) o ↔ pd_K xs Ls d pd_m53 (mm_lA L 3 fun v => mm_go 55 L (v :: st) S) o := pd_Gs (i := .aload_n 3) (n := 1) rfl
theorem p53_55 : pd_G xs Ls d pd_m53 (55, L, st, S) o ↔ pd_K xs Ls d pd_m53 (mm_lA L 2 fun v => mm_go 56 L (v :: st) S) o := pd_Gs (i := .aload_n 2) (n := 1) rfl
theorem p53_56 : pd_G xs Ls d pd_m53 (56, L, st, S) o ↔ pd_K xs Ls d pd_m53 (mm_getf pd_ck 56 L st S 6 4) o := pd_Gs (i := .getfield 112) (n := 3) rfl
theorem p53_59 : pd_G xs Ls d pd_m53 (59, L, st, S) o ↔ pd_K xs Ls d pd_m53 (mm_inv (mm_ev xs Ls pd_ck pd_ak pd_mj d) pd_m53 59 L st S 18 1 1) o := pd_Gs (i := .invokevirtual 119) (n := 3) rfl
theorem p53_62 : pd_G xs Ls d pd_m53 (62, L, st, S) o ↔ pd_K xs Ls d pd_m53 (mm_i st fun x r => mm_go 64 (mm_sto L 0 6 (.int x)) r S) o := pd_Gs (i := .istore 6) (n := 2) rfl
theorem p53_64 : pd_G xs Ls d pd_m53 (64, L, st, S) o ↔ pd_K xs Ls d pd_m53 (mm_lA L 2 fun v => mm_go 65 L (v :: st) S) o := pd_Gs (i := .aload_n 2) (n := 1) rfl
theorem p53_65 : pd_G xs Ls d pd_m53 (65, L, st, S) o ↔ pd_K xs Ls d pd_m53 (mm_1 st fun v r => cond (mm_c2 v) none (mm_go 66 L (v :: v :: r) S)) o := pd_Gs (i := .dup) (n := 1) rfl
theorem p53_66 : pd_G xs Ls d pd_m53 (66, L, st, S) o ↔ pd_K xs Ls d pd_m53 (mm_getf pd_ck 66 L st S 6 4) o := pd_Gs (i := .getfield 112) (n := 3) rfl
theorem p53_69 : pd_G xs Ls d pd_m53 (69, L, st, S) o ↔ pd_K xs Ls d pd_m53 (mm_go 70 L (.int 1 :: st) S) o := pd_Gs (i := .iconst 1) (n := 1) rfl
theorem p53_70 : pd_G xs Ls d pd_m53 (70, L, st, S) o ↔ pd_K xs Ls d pd_m53 (mm_ii st fun x y r => mm_go 71 L (.int (x + y) :: r) S) o := pd_Gs (i := .iadd) (n := 1) rfl
theorem p53_71 : pd_G xs Ls d pd_m53 (71, L, st, S) o ↔ pd_K xs Ls d pd_m53 (mm_putf pd_ck 71 L st S 6 4) o := pd_Gs (i := .putfield 112) (n := 3) rfl
theorem p53_74 : pd_G xs Ls d pd_m53 (74, L, st, S) o ↔ pd_K xs Ls d pd_m53 (mm_lI L 5 fun x => mm_go 76 L (.int x :: st) S) o := pd_Gs (i := .iload 5) (n := 2) rfl
theorem p53_76 : pd_G xs Ls d pd_m53 (76, L, st, S) o ↔ pd_K xs Ls d pd_m53 (mm_go 78 L (.int 17 :: st) S) o := pd_Gs (i := .bipush 17) (n := 2) rfl
theorem p53_78 : pd_G xs Ls d pd_m53 (78, L, st, S) o ↔ pd_K xs Ls d pd_m53 (mm_ii st fun x y r => mm_icmp .lt x y (mm_go 91 L r S) (mm_go 81 L r S)) o := pd_Gs (i := .if_icmp .lt 13) (n := 3) rfl
theorem p53_81 : pd_G xs Ls d pd_m53 (81, L, st, S) o ↔ pd_K xs Ls d pd_m53 (mm_lA L 0 fun v => mm_go 82 L (v :: st) S) o := pd_Gs (i := .aload_n 0) (n := 1) rfl
theorem p53_82 : pd_G xs Ls d pd_m53 (82, L, st, S) o ↔ pd_K xs Ls d pd_m53 (mm_lI L 1 fun x => mm_go 83 L (.int x :: st) S) o := pd_Gs (i := .iload_n 1) (n := 1) rfl
theorem p53_83 : pd_G xs Ls d pd_m53 (83, L, st, S) o ↔ pd_K xs Ls d pd_m53 (mm_lI L 5 fun x => mm_go 85 L (.int x :: st) S) o := pd_Gs (i := .iload 5) (n := 2) rfl
theorem p53_85 : pd_G xs Ls d pd_m53 (85, L, st, S) o ↔ pd_K xs Ls d pd_m53 (mm_lI L 6 fun x => mm_go 87 L (.int x :: st) S) o := pd_Gs (i := .iload 6) (n := 2) rfl
theorem p53_87 : pd_G xs Ls d pd_m53 (87, L, st, S) o ↔ pd_K xs Ls d pd_m53 (mm_inv (mm_ev xs Ls pd_ck pd_ak pd_mj d) pd_m53 87 L st S 54 3 3) o := pd_Gs (i := .invokevirtual 124) (n := 3) rfl
theorem p53_90 : pd_G xs Ls d pd_m53 (90, L, st, S) o ↔ pd_K xs Ls d pd_m53 (mm_rV S st) o := pd_Gs (i := .return_) (n := 1) rfl
theorem p53_91 : pd_G xs Ls d pd_m53 (91, L, st, S) o ↔ pd_K xs Ls d pd_m53 (mm_lA L 0 fun v => mm_go 92 L (v :: st) S) o := pd_Gs (i := .aload_n 0) (n := 1) rfl
theorem p53_92 : pd_G xs Ls d pd_m53 (92, L, st, S) o ↔ pd_K xs Ls d pd_m53 (mm_getf pd_ck 92 L st S 3 1) o := pd_Gs (i := .getfield 21) (n := 3) rfl
theorem p53_95 : pd_G xs Ls d pd_m53 (95, L, st, S) o ↔ pd_K xs Ls d pd_m53 (mm_lI L 5 fun x => mm_go 97 L (.int x :: st) S) o := pd_Gs (i := .iload 5) (n := 2) rfl
theorem p53_97 : pd_G xs Ls d pd_m53 (97, L, st, S) o ↔ pd_K xs Ls d pd_m53 (mm_lI L 6 fun x => mm_go 99 L (.int x :: st) S) o := pd_Gs (i := .iload 6) (n := 2) rfl
theorem p53_99 : pd_G xs Ls d pd_m53 (99, L, st, S) o ↔ pd_K xs Ls d pd_m53 (mm_inv (mm_ev xs Ls pd_ck pd_ak pd_mj d) pd_m53 99 L st S 73 2 4) o := pd_Gs (i := .invokevirtual 127) (n := 3) rfl
theorem p53_102 : pd_G xs Ls d pd_m53 (102, L, st, S) o ↔ pd_K xs Ls d pd_m53 (mm_lI L 4 fun x => mm_go 105 (mm_sto L 0 4 (.int (x + 1))) st S) o := pd_Gs (i := .iinc 4 1) (n := 3) rfl
theorem p53_105 : pd_G xs Ls d pd_m53 (105, L, st, S) o ↔ pd_K xs Ls d pd_m53 (mm_go 37 L st S) o := pd_Gs (i := .goto (-68)) (n := 3) rfl
theorem p53_108 : pd_G xs Ls d pd_m53 (108, L, st, S) o ↔ pd_K xs Ls d pd_m53 (mm_rV S st) o := pd_Gs (i := .return_) (n := 1) rfl
theorem p54_0 : pd_G xs Ls d pd_m54 (0, L, st, S) o ↔ pd_K xs Ls d pd_m54 (mm_lA L 0 fun v => mm_go 1 L (v :: st) S) o := pd_Gs (i := .aload_n 0) (n := 1) rfl
theorem p54_1 : pd_G xs Ls d pd_m54 (1, L, st, S) o ↔ pd_K xs Ls d pd_m54 (mm_getf pd_ck 1 L st S 3 10) o := pd_Gs (i := .getfield 42) (n := 3) rfl
theorem p54_4 : pd_G xs Ls d pd_m54 (4, L, st, S) o ↔ pd_K xs Ls d pd_m54 (mm_lI L 1 fun x => mm_go 5 L (.int x :: st) S) o := pd_Gs (i := .iload_n 1) (n := 1) rfl
theorem p54_5 : pd_G xs Ls d pd_m54 (5, L, st, S) o ↔ pd_K xs Ls d pd_m54 (mm_ai pd_ak S st 5 fun i a r => mm_go 6 L (va_rf (S.2.1.2.2.1 a i.toNatClampNeg) :: r) S) o := pd_Gs (i := .aaload) (n := 1) rfl
theorem p54_6 : pd_G xs Ls d pd_m54 (6, L, st, S) o ↔ pd_K xs Ls d pd_m54 (mm_r st fun x r => mm_go 8 (mm_sto L 0 4 (.ref x)) r S) o := pd_Gs (i := .astore 4) (n := 2) rfl
theorem p54_8 : pd_G xs Ls d pd_m54 (8, L, st, S) o ↔ pd_K xs Ls d pd_m54 (mm_lI L 2 fun x => mm_go 9 L (.int x :: st) S) o := pd_Gs (i := .iload_n 2) (n := 1) rfl
theorem p54_9 : pd_G xs Ls d pd_m54 (9, L, st, S) o ↔ pd_K xs Ls d pd_m54 (mm_i st fun x r => if x = 17 then mm_go 52 L r S else if x = 18 then mm_go 70 L r S else if x = 19 then mm_go 80 L r S else if x = 20 then mm_go 101 L r S else if x = 21 then mm_go 115 L r S else if x = 22 then mm_go 125 L r S else if x = 23 then mm_go 133 L r S else mm_go 143 L r S) o := pd_Gs (i := .tableswitch 134 17 23 #[43, 61, 71, 92, 106, 116, 124]) (n := 43) rfl
theorem p54_52 : pd_G xs Ls d pd_m54 (52, L, st, S) o ↔ pd_K xs Ls d pd_m54 (mm_lA L 0 fun v => mm_go 53 L (v :: st) S) o := pd_Gs (i := .aload_n 0) (n := 1) rfl
theorem p54_53 : pd_G xs Ls d pd_m54 (53, L, st, S) o ↔ pd_K xs Ls d pd_m54 (mm_getf pd_ck 53 L st S 3 1) o := pd_Gs (i := .getfield 21) (n := 3) rfl
theorem p54_56 : pd_G xs Ls d pd_m54 (56, L, st, S) o ↔ pd_K xs Ls d pd_m54 (mm_lI L 3 fun x => mm_go 57 L (.int x :: st) S) o := pd_Gs (i := .iload_n 3) (n := 1) rfl
theorem p54_57 : pd_G xs Ls d pd_m54 (57, L, st, S) o ↔ pd_K xs Ls d pd_m54 (mm_lA L 0 fun v => mm_go 58 L (v :: st) S) o := pd_Gs (i := .aload_n 0) (n := 1) rfl
theorem p54_58 : pd_G xs Ls d pd_m54 (58, L, st, S) o ↔ pd_K xs Ls d pd_m54 (mm_getf pd_ck 58 L st S 3 1) o := pd_Gs (i := .getfield 21) (n := 3) rfl
theorem p54_61 : pd_G xs Ls d pd_m54 (61, L, st, S) o ↔ pd_K xs Ls d pd_m54 (mm_inv (mm_ev xs Ls pd_ck pd_ak pd_mj d) pd_m54 61 L st S 69 0 4) o := pd_Gs (i := .invokevirtual 131) (n := 3) rfl
theorem p54_64 : pd_G xs Ls d pd_m54 (64, L, st, S) o ↔ pd_K xs Ls d pd_m54 (mm_inv (mm_ev xs Ls pd_ck pd_ak pd_mj d) pd_m54 64 L st S 70 2 4) o := pd_Gs (i := .invokevirtual 135) (n := 3) rfl
theorem p54_67 : pd_G xs Ls d pd_m54 (67, L, st, S) o ↔ pd_K xs Ls d pd_m54 (mm_go 149 L st S) o := pd_Gs (i := .goto 82) (n := 3) rfl
theorem p54_70 : pd_G xs Ls d pd_m54 (70, L, st, S) o ↔ pd_K xs Ls d pd_m54 (mm_lA L 0 fun v => mm_go 71 L (v :: st) S) o := pd_Gs (i := .aload_n 0) (n := 1) rfl
theorem p54_71 : pd_G xs Ls d pd_m54 (71, L, st, S) o ↔ pd_K xs Ls d pd_m54 (mm_getf pd_ck 71 L st S 3 1) o := pd_Gs (i := .getfield 21) (n := 3) rfl
theorem p54_74 : pd_G xs Ls d pd_m54 (74, L, st, S) o ↔ pd_K xs Ls d pd_m54 (mm_inv (mm_ev xs Ls pd_ck pd_ak pd_mj d) pd_m54 74 L st S 72 0 4) o := pd_Gs (i := .invokevirtual 139) (n := 3) rfl
theorem p54_77 : pd_G xs Ls d pd_m54 (77, L, st, S) o ↔ pd_K xs Ls d pd_m54 (mm_go 149 L st S) o := pd_Gs (i := .goto 72) (n := 3) rfl
theorem p54_80 : pd_G xs Ls d pd_m54 (80, L, st, S) o ↔ pd_K xs Ls d pd_m54 (mm_lA L 0 fun v => mm_go 81 L (v :: st) S) o := pd_Gs (i := .aload_n 0) (n := 1) rfl
theorem p54_81 : pd_G xs Ls d pd_m54 (81, L, st, S) o ↔ pd_K xs Ls d pd_m54 (mm_getf pd_ck 81 L st S 3 1) o := pd_Gs (i := .getfield 21) (n := 3) rfl
theorem p54_84 : pd_G xs Ls d pd_m54 (84, L, st, S) o ↔ pd_K xs Ls d pd_m54 (mm_inv (mm_ev xs Ls pd_ck pd_ak pd_mj d) pd_m54 84 L st S 69 0 4) o := pd_Gs (i := .invokevirtual 131) (n := 3) rfl
theorem p54_87 : pd_G xs Ls d pd_m54 (87, L, st, S) o ↔ pd_K xs Ls d pd_m54 (mm_go 88 L (.double FP.dconst0 :: st) S) o := pd_Gs (i := .dconst 0) (n := 1) rfl
theorem p54_88 : pd_G xs Ls d pd_m54 (88, L, st, S) o ↔ pd_K xs Ls d pd_m54 (mm_dd st fun x y r => mm_go 89 L (.int (Op.cmpValue (FP.dcmp x y) .l) :: r) S) o := pd_Gs (i := .dcmp .l) (n := 1) rfl
theorem p54_89 : pd_G xs Ls d pd_m54 (89, L, st, S) o ↔ pd_K xs Ls d pd_m54 (mm_i st fun x r => mm_icmp .ne x 0 (mm_go 149 L r S) (mm_go 92 L r S)) o := pd_Gs (i := .ifCond .ne 60) (n := 3) rfl
theorem p54_92 : pd_G xs Ls d pd_m54 (92, L, st, S) o ↔ pd_K xs Ls d pd_m54 (mm_lA L 4 fun v => mm_go 94 L (v :: st) S) o := pd_Gs (i := .aload 4) (n := 2) rfl
theorem p54_94 : pd_G xs Ls d pd_m54 (94, L, st, S) o ↔ pd_K xs Ls d pd_m54 (mm_lI L 3 fun x => mm_go 95 L (.int x :: st) S) o := pd_Gs (i := .iload_n 3) (n := 1) rfl
theorem p54_95 : pd_G xs Ls d pd_m54 (95, L, st, S) o ↔ pd_K xs Ls d pd_m54 (mm_putf pd_ck 95 L st S 6 4) o := pd_Gs (i := .putfield 112) (n := 3) rfl
theorem p54_98 : pd_G xs Ls d pd_m54 (98, L, st, S) o ↔ pd_K xs Ls d pd_m54 (mm_go 149 L st S) o := pd_Gs (i := .goto 51) (n := 3) rfl
theorem p54_101 : pd_G xs Ls d pd_m54 (101, L, st, S) o ↔ pd_K xs Ls d pd_m54 (mm_lA L 0 fun v => mm_go 102 L (v :: st) S) o := pd_Gs (i := .aload_n 0) (n := 1) rfl
theorem p54_102 : pd_G xs Ls d pd_m54 (102, L, st, S) o ↔ pd_K xs Ls d pd_m54 (mm_lA L 0 fun v => mm_go 103 L (v :: st) S) o := pd_Gs (i := .aload_n 0) (n := 1) rfl
theorem p54_103 : pd_G xs Ls d pd_m54 (103, L, st, S) o ↔ pd_K xs Ls d pd_m54 (mm_getf pd_ck 103 L st S 3 1) o := pd_Gs (i := .getfield 21) (n := 3) rfl
theorem p54_106 : pd_G xs Ls d pd_m54 (106, L, st, S) o ↔ pd_K xs Ls d pd_m54 (mm_inv (mm_ev xs Ls pd_ck pd_ak pd_mj d) pd_m54 106 L st S 69 0 4) o := pd_Gs (i := .invokevirtual 131) (n := 3) rfl
theorem p54_109 : pd_G xs Ls d pd_m54 (109, L, st, S) o ↔ pd_K xs Ls d pd_m54 (mm_inv (mm_ev xs Ls pd_ck pd_ak pd_mj d) pd_m54 109 L st S 55 1 3) o := pd_Gs (i := .invokevirtual 142) (n := 3) rfl
theorem p54_112 : pd_G xs Ls d pd_m54 (112, L, st, S) o ↔ pd_K xs Ls d pd_m54 (mm_go 149 L st S) o := pd_Gs (i := .goto 37) (n := 3) rfl
theorem p54_115 : pd_G xs Ls d pd_m54 (115, L, st, S) o ↔ pd_K xs Ls d pd_m54 (mm_lA L 0 fun v => mm_go 116 L (v :: st) S) o := pd_Gs (i := .aload_n 0) (n := 1) rfl
theorem p54_116 : pd_G xs Ls d pd_m54 (116, L, st, S) o ↔ pd_K xs Ls d pd_m54 (mm_lA L 4 fun v => mm_go 118 L (v :: st) S) o := pd_Gs (i := .aload 4) (n := 2) rfl
theorem p54_118 : pd_G xs Ls d pd_m54 (118, L, st, S) o ↔ pd_K xs Ls d pd_m54 (mm_lI L 3 fun x => mm_go 119 L (.int x :: st) S) o := pd_Gs (i := .iload_n 3) (n := 1) rfl
theorem p54_119 : pd_G xs Ls d pd_m54 (119, L, st, S) o ↔ pd_K xs Ls d pd_m54 (mm_inv (mm_ev xs Ls pd_ck pd_ak pd_mj d) pd_m54 119 L st S 56 2 3) o := pd_Gs (i := .invokevirtual 146) (n := 3) rfl
theorem p54_122 : pd_G xs Ls d pd_m54 (122, L, st, S) o ↔ pd_K xs Ls d pd_m54 (mm_go 149 L st S) o := pd_Gs (i := .goto 27) (n := 3) rfl
theorem p54_125 : pd_G xs Ls d pd_m54 (125, L, st, S) o ↔ pd_K xs Ls d pd_m54 (mm_lA L 0 fun v => mm_go 126 L (v :: st) S) o := pd_Gs (i := .aload_n 0) (n := 1) rfl
theorem p54_126 : pd_G xs Ls d pd_m54 (126, L, st, S) o ↔ pd_K xs Ls d pd_m54 (mm_lI L 3 fun x => mm_go 127 L (.int x :: st) S) o := pd_Gs (i := .iload_n 3) (n := 1) rfl
theorem p54_127 : pd_G xs Ls d pd_m54 (127, L, st, S) o ↔ pd_K xs Ls d pd_m54 (mm_inv (mm_ev xs Ls pd_ck pd_ak pd_mj d) pd_m54 127 L st S 57 1 3) o := pd_Gs (i := .invokevirtual 150) (n := 3) rfl
theorem p54_130 : pd_G xs Ls d pd_m54 (130, L, st, S) o ↔ pd_K xs Ls d pd_m54 (mm_go 149 L st S) o := pd_Gs (i := .goto 19) (n := 3) rfl
theorem p54_133 : pd_G xs Ls d pd_m54 (133, L, st, S) o ↔ pd_K xs Ls d pd_m54 (mm_lA L 0 fun v => mm_go 134 L (v :: st) S) o := pd_Gs (i := .aload_n 0) (n := 1) rfl
theorem p54_134 : pd_G xs Ls d pd_m54 (134, L, st, S) o ↔ pd_K xs Ls d pd_m54 (mm_lA L 4 fun v => mm_go 136 L (v :: st) S) o := pd_Gs (i := .aload 4) (n := 2) rfl
theorem p54_136 : pd_G xs Ls d pd_m54 (136, L, st, S) o ↔ pd_K xs Ls d pd_m54 (mm_lI L 3 fun x => mm_go 137 L (.int x :: st) S) o := pd_Gs (i := .iload_n 3) (n := 1) rfl
theorem p54_137 : pd_G xs Ls d pd_m54 (137, L, st, S) o ↔ pd_K xs Ls d pd_m54 (mm_inv (mm_ev xs Ls pd_ck pd_ak pd_mj d) pd_m54 137 L st S 59 2 3) o := pd_Gs (i := .invokevirtual 153) (n := 3) rfl
theorem p54_140 : pd_G xs Ls d pd_m54 (140, L, st, S) o ↔ pd_K xs Ls d pd_m54 (mm_go 149 L st S) o := pd_Gs (i := .goto 9) (n := 3) rfl
theorem p54_143 : pd_G xs Ls d pd_m54 (143, L, st, S) o ↔ pd_K xs Ls d pd_m54 (mm_lA L 0 fun v => mm_go 144 L (v :: st) S) o := pd_Gs (i := .aload_n 0) (n := 1) rfl
theorem p54_144 : pd_G xs Ls d pd_m54 (144, L, st, S) o ↔ pd_K xs Ls d pd_m54 (mm_lI L 1 fun x => mm_go 145 L (.int x :: st) S) o := pd_Gs (i := .iload_n 1) (n := 1) rfl
theorem p54_145 : pd_G xs Ls d pd_m54 (145, L, st, S) o ↔ pd_K xs Ls d pd_m54 (mm_lI L 3 fun x => mm_go 146 L (.int x :: st) S) o := pd_Gs (i := .iload_n 3) (n := 1) rfl
theorem p54_146 : pd_G xs Ls d pd_m54 (146, L, st, S) o ↔ pd_K xs Ls d pd_m54 (mm_inv (mm_ev xs Ls pd_ck pd_ak pd_mj d) pd_m54 146 L st S 60 2 3) o := pd_Gs (i := .invokevirtual 156) (n := 3) rfl
theorem p54_149 : pd_G xs Ls d pd_m54 (149, L, st, S) o ↔ pd_K xs Ls d pd_m54 (mm_rV S st) o := pd_Gs (i := .return_) (n := 1) rfl
theorem p55_0 : pd_G xs Ls d pd_m55 (0, L, st, S) o ↔ pd_K xs Ls d pd_m55 (mm_lA L 0 fun v => mm_go 1 L (v :: st) S) o := pd_Gs (i := .aload_n 0) (n := 1) rfl
theorem p55_1 : pd_G xs Ls d pd_m55 (1, L, st, S) o ↔ pd_K xs Ls d pd_m55 (mm_getf pd_ck 1 L st S 3 5) o := pd_Gs (i := .getfield 80) (n := 3) rfl
theorem p55_4 : pd_G xs Ls d pd_m55 (4, L, st, S) o ↔ pd_K xs Ls d pd_m55 (mm_go 6 L (.int 12 :: st) S) o := pd_Gs (i := .bipush 12) (n := 2) rfl
theorem p55_6 : pd_G xs Ls d pd_m55 (6, L, st, S) o ↔ pd_K xs Ls d pd_m55 (mm_ii st fun x y r => mm_icmp .lt x y (mm_go 19 L r S) (mm_go 9 L r S)) o := pd_Gs (i := .if_icmp .lt 13) (n := 3) rfl
theorem p55_9 : pd_G xs Ls d pd_m55 (9, L, st, S) o ↔ pd_K xs Ls d pd_m55 (cond (Nat.ble (mm_wt st) 8) (mm_end (.inr 1) (S.1, S.2.1, S.2.2 + 1)) none) o := pd_Gs (i := .new 70) (n := 3) rfl
theorem p55_19 : pd_G xs Ls d pd_m55 (19, L, st, S) o ↔ pd_K xs Ls d pd_m55 (mm_lA L 0 fun v => mm_go 20 L (v :: st) S) o := pd_Gs (i := .aload_n 0) (n := 1) rfl
theorem p55_20 : pd_G xs Ls d pd_m55 (20, L, st, S) o ↔ pd_K xs Ls d pd_m55 (mm_getf pd_ck 20 L st S 3 4) o := pd_Gs (i := .getfield 36) (n := 3) rfl
theorem p55_23 : pd_G xs Ls d pd_m55 (23, L, st, S) o ↔ pd_K xs Ls d pd_m55 (mm_lA L 0 fun v => mm_go 24 L (v :: st) S) o := pd_Gs (i := .aload_n 0) (n := 1) rfl
theorem p55_24 : pd_G xs Ls d pd_m55 (24, L, st, S) o ↔ pd_K xs Ls d pd_m55 (mm_getf pd_ck 24 L st S 3 5) o := pd_Gs (i := .getfield 80) (n := 3) rfl
theorem p55_27 : pd_G xs Ls d pd_m55 (27, L, st, S) o ↔ pd_K xs Ls d pd_m55 (mm_lD L 1 fun x => mm_go 28 L (.double x :: st) S) o := pd_Gs (i := .dload_n 1) (n := 1) rfl
theorem p55_28 : pd_G xs Ls d pd_m55 (28, L, st, S) o ↔ pd_K xs Ls d pd_m55 (mm_d st fun x st => mm_ai pd_ak S st 2 fun i a r => mm_go 29 L r (mm_sD S a i.toNatClampNeg x)) o := pd_Gs (i := .dastore) (n := 1) rfl
theorem p55_29 : pd_G xs Ls d pd_m55 (29, L, st, S) o ↔ pd_K xs Ls d pd_m55 (mm_lA L 0 fun v => mm_go 30 L (v :: st) S) o := pd_Gs (i := .aload_n 0) (n := 1) rfl
theorem p55_30 : pd_G xs Ls d pd_m55 (30, L, st, S) o ↔ pd_K xs Ls d pd_m55 (mm_1 st fun v r => cond (mm_c2 v) none (mm_go 31 L (v :: v :: r) S)) o := pd_Gs (i := .dup) (n := 1) rfl
theorem p55_31 : pd_G xs Ls d pd_m55 (31, L, st, S) o ↔ pd_K xs Ls d pd_m55 (mm_getf pd_ck 31 L st S 3 5) o := pd_Gs (i := .getfield 80) (n := 3) rfl
theorem p55_34 : pd_G xs Ls d pd_m55 (34, L, st, S) o ↔ pd_K xs Ls d pd_m55 (mm_go 35 L (.int 1 :: st) S) o := pd_Gs (i := .iconst 1) (n := 1) rfl
theorem p55_35 : pd_G xs Ls d pd_m55 (35, L, st, S) o ↔ pd_K xs Ls d pd_m55 (mm_ii st fun x y r => mm_go 36 L (.int (x + y) :: r) S) o := pd_Gs (i := .iadd) (n := 1) rfl
theorem p55_36 : pd_G xs Ls d pd_m55 (36, L, st, S) o ↔ pd_K xs Ls d pd_m55 (mm_putf pd_ck 36 L st S 3 5) o := pd_Gs (i := .putfield 80) (n := 3) rfl
theorem p55_39 : pd_G xs Ls d pd_m55 (39, L, st, S) o ↔ pd_K xs Ls d pd_m55 (mm_rV S st) o := pd_Gs (i := .return_) (n := 1) rfl
theorem p56_0 : pd_G xs Ls d pd_m56 (0, L, st, S) o ↔ pd_K xs Ls d pd_m56 (mm_lA L 0 fun v => mm_go 1 L (v :: st) S) o := pd_Gs (i := .aload_n 0) (n := 1) rfl
theorem p56_1 : pd_G xs Ls d pd_m56 (1, L, st, S) o ↔ pd_K xs Ls d pd_m56 (mm_getf pd_ck 1 L st S 3 3) o := pd_Gs (i := .getfield 32) (n := 3) rfl
theorem p56_4 : pd_G xs Ls d pd_m56 (4, L, st, S) o ↔ pd_K xs Ls d pd_m56 (mm_lI L 2 fun x => mm_go 5 L (.int x :: st) S) o := pd_Gs (i := .iload_n 2) (n := 1) rfl
theorem p56_5 : pd_G xs Ls d pd_m56 (5, L, st, S) o ↔ pd_K xs Ls d pd_m56 (mm_ial xs Ls pd_ak 5 L S st) o := pd_Gs (i := .iaload) (n := 1) rfl
theorem p56_6 : pd_G xs Ls d pd_m56 (6, L, st, S) o ↔ pd_K xs Ls d pd_m56 (mm_i st fun x r => mm_icmp .le x 0 (mm_go 20 L r S) (mm_go 9 L r S)) o := pd_Gs (i := .ifCond .le 14) (n := 3) rfl
theorem p56_9 : pd_G xs Ls d pd_m56 (9, L, st, S) o ↔ pd_K xs Ls d pd_m56 (mm_lA L 0 fun v => mm_go 10 L (v :: st) S) o := pd_Gs (i := .aload_n 0) (n := 1) rfl
theorem p56_10 : pd_G xs Ls d pd_m56 (10, L, st, S) o ↔ pd_K xs Ls d pd_m56 (mm_getf pd_ck 10 L st S 3 3) o := pd_Gs (i := .getfield 32) (n := 3) rfl
theorem p56_13 : pd_G xs Ls d pd_m56 (13, L, st, S) o ↔ pd_K xs Ls d pd_m56 (mm_lI L 2 fun x => mm_go 14 L (.int x :: st) S) o := pd_Gs (i := .iload_n 2) (n := 1) rfl
theorem p56_14 : pd_G xs Ls d pd_m56 (14, L, st, S) o ↔ pd_K xs Ls d pd_m56 (mm_2 st fun v w r => cond (mm_c2 v || mm_c2 w) none (mm_go 15 L (v :: w :: v :: w :: r) S)) o := pd_Gs (i := .dup2) (n := 1) rfl
theorem p56_15 : pd_G xs Ls d pd_m56 (15, L, st, S) o ↔ pd_K xs Ls d pd_m56 (mm_ial xs Ls pd_ak 15 L S st) o := pd_Gs (i := .iaload) (n := 1) rfl
theorem p56_16 : pd_G xs Ls d pd_m56 (16, L, st, S) o ↔ pd_K xs Ls d pd_m56 (mm_go 17 L (.int 1 :: st) S) o := pd_Gs (i := .iconst 1) (n := 1) rfl
theorem p56_17 : pd_G xs Ls d pd_m56 (17, L, st, S) o ↔ pd_K xs Ls d pd_m56 (mm_ii st fun x y r => mm_go 18 L (.int (x - y) :: r) S) o := pd_Gs (i := .isub) (n := 1) rfl
theorem p56_18 : pd_G xs Ls d pd_m56 (18, L, st, S) o ↔ pd_K xs Ls d pd_m56 (mm_i st fun x st => mm_ai pd_ak S st 0 fun i a r => mm_go 19 L r (mm_sI S a i.toNatClampNeg x)) o := pd_Gs (i := .iastore) (n := 1) rfl
theorem p56_19 : pd_G xs Ls d pd_m56 (19, L, st, S) o ↔ pd_K xs Ls d pd_m56 (mm_rV S st) o := pd_Gs (i := .return_) (n := 1) rfl
theorem p56_20 : pd_G xs Ls d pd_m56 (20, L, st, S) o ↔ pd_K xs Ls d pd_m56 (mm_lA L 0 fun v => mm_go 21 L (v :: st) S) o := pd_Gs (i := .aload_n 0) (n := 1) rfl
theorem p56_21 : pd_G xs Ls d pd_m56 (21, L, st, S) o ↔ pd_K xs Ls d pd_m56 (mm_1 st fun v r => cond (mm_c2 v) none (mm_go 22 L (v :: v :: r) S)) o := pd_Gs (i := .dup) (n := 1) rfl
theorem p56_22 : pd_G xs Ls d pd_m56 (22, L, st, S) o ↔ pd_K xs Ls d pd_m56 (mm_getf pd_ck 22 L st S 3 9) o := pd_Gs (i := .getfield 83) (n := 3) rfl
theorem p56_25 : pd_G xs Ls d pd_m56 (25, L, st, S) o ↔ pd_K xs Ls d pd_m56 (mm_go 26 L (.int 1 :: st) S) o := pd_Gs (i := .iconst 1) (n := 1) rfl
theorem p56_26 : pd_G xs Ls d pd_m56 (26, L, st, S) o ↔ pd_K xs Ls d pd_m56 (mm_ii st fun x y r => mm_go 27 L (.int (x + y) :: r) S) o := pd_Gs (i := .iadd) (n := 1) rfl
theorem p56_27 : pd_G xs Ls d pd_m56 (27, L, st, S) o ↔ pd_K xs Ls d pd_m56 (mm_putf pd_ck 27 L st S 3 9) o := pd_Gs (i := .putfield 83) (n := 3) rfl
theorem p56_30 : pd_G xs Ls d pd_m56 (30, L, st, S) o ↔ pd_K xs Ls d pd_m56 (mm_lA L 1 fun v => mm_go 31 L (v :: st) S) o := pd_Gs (i := .aload_n 1) (n := 1) rfl
theorem p56_31 : pd_G xs Ls d pd_m56 (31, L, st, S) o ↔ pd_K xs Ls d pd_m56 (mm_go 32 L (.int 3 :: st) S) o := pd_Gs (i := .iconst 3) (n := 1) rfl
theorem p56_32 : pd_G xs Ls d pd_m56 (32, L, st, S) o ↔ pd_K xs Ls d pd_m56 (mm_putf pd_ck 32 L st S 6 0) o := pd_Gs (i := .putfield 89) (n := 3) rfl
theorem p56_35 : pd_G xs Ls d pd_m56 (35, L, st, S) o ↔ pd_K xs Ls d pd_m56 (mm_lA L 1 fun v => mm_go 36 L (v :: st) S) o := pd_Gs (i := .aload_n 1) (n := 1) rfl
theorem p56_36 : pd_G xs Ls d pd_m56 (36, L, st, S) o ↔ pd_K xs Ls d pd_m56 (mm_lI L 2 fun x => mm_go 37 L (.int x :: st) S) o := pd_Gs (i := .iload_n 2) (n := 1) rfl
theorem p56_37 : pd_G xs Ls d pd_m56 (37, L, st, S) o ↔ pd_K xs Ls d pd_m56 (mm_putf pd_ck 37 L st S 6 5) o := pd_Gs (i := .putfield 161) (n := 3) rfl
theorem p56_40 : pd_G xs Ls d pd_m56 (40, L, st, S) o ↔ pd_K xs Ls d pd_m56 (mm_lA L 1 fun v => mm_go 41 L (v :: st) S) o := pd_Gs (i := .aload_n 1) (n := 1) rfl
theorem p56_41 : pd_G xs Ls d pd_m56 (41, L, st, S) o ↔ pd_K xs Ls d pd_m56 (mm_lA L 0 fun v => mm_go 42 L (v :: st) S) o := pd_Gs (i := .aload_n 0) (n := 1) rfl
theorem p56_42 : pd_G xs Ls d pd_m56 (42, L, st, S) o ↔ pd_K xs Ls d pd_m56 (mm_getf pd_ck 42 L st S 3 9) o := pd_Gs (i := .getfield 83) (n := 3) rfl
theorem p56_45 : pd_G xs Ls d pd_m56 (45, L, st, S) o ↔ pd_K xs Ls d pd_m56 (mm_putf pd_ck 45 L st S 6 6) o := pd_Gs (i := .putfield 164) (n := 3) rfl
theorem p56_48 : pd_G xs Ls d pd_m56 (48, L, st, S) o ↔ pd_K xs Ls d pd_m56 (mm_rV S st) o := pd_Gs (i := .return_) (n := 1) rfl
theorem p57_0 : pd_G xs Ls d pd_m57 (0, L, st, S) o ↔ pd_K xs Ls d pd_m57 (mm_lA L 0 fun v => mm_go 1 L (v :: st) S) o := pd_Gs (i := .aload_n 0) (n := 1) rfl
theorem p57_1 : pd_G xs Ls d pd_m57 (1, L, st, S) o ↔ pd_K xs Ls d pd_m57 (mm_lI L 1 fun x => mm_go 2 L (.int x :: st) S) o := pd_Gs (i := .iload_n 1) (n := 1) rfl
theorem p57_2 : pd_G xs Ls d pd_m57 (2, L, st, S) o ↔ pd_K xs Ls d pd_m57 (mm_inv (mm_ev xs Ls pd_ck pd_ak pd_mj d) pd_m57 2 L st S 58 1 3) o := pd_Gs (i := .invokevirtual 167) (n := 3) rfl
theorem p57_5 : pd_G xs Ls d pd_m57 (5, L, st, S) o ↔ pd_K xs Ls d pd_m57 (mm_i st fun x r => mm_go 6 (mm_sto L 0 2 (.int x)) r S) o := pd_Gs (i := .istore_n 2) (n := 1) rfl
theorem p57_6 : pd_G xs Ls d pd_m57 (6, L, st, S) o ↔ pd_K xs Ls d pd_m57 (mm_lI L 2 fun x => mm_go 7 L (.int x :: st) S) o := pd_Gs (i := .iload_n 2) (n := 1) rfl
theorem p57_7 : pd_G xs Ls d pd_m57 (7, L, st, S) o ↔ pd_K xs Ls d pd_m57 (mm_go 8 L (.int (-1) :: st) S) o := pd_Gs (i := .iconst (-1)) (n := 1) rfl
theorem p57_8 : pd_G xs Ls d pd_m57 (8, L, st, S) o ↔ pd_K xs Ls d pd_m57 (mm_ii st fun x y r => mm_icmp .ne x y (mm_go 22 L r S) (mm_go 11 L r S)) o := pd_Gs (i := .if_icmp .ne 14) (n := 3) rfl
theorem p57_11 : pd_G xs Ls d pd_m57 (11, L, st, S) o ↔ pd_K xs Ls d pd_m57 (mm_lA L 0 fun v => mm_go 12 L (v :: st) S) o := pd_Gs (i := .aload_n 0) (n := 1) rfl
theorem p57_12 : pd_G xs Ls d pd_m57 (12, L, st, S) o ↔ pd_K xs Ls d pd_m57 (mm_getf pd_ck 12 L st S 3 3) o := pd_Gs (i := .getfield 32) (n := 3) rfl
theorem p57_15 : pd_G xs Ls d pd_m57 (15, L, st, S) o ↔ pd_K xs Ls d pd_m57 (mm_lI L 1 fun x => mm_go 16 L (.int x :: st) S) o := pd_Gs (i := .iload_n 1) (n := 1) rfl
theorem p57_16 : pd_G xs Ls d pd_m57 (16, L, st, S) o ↔ pd_K xs Ls d pd_m57 (mm_2 st fun v w r => cond (mm_c2 v || mm_c2 w) none (mm_go 17 L (v :: w :: v :: w :: r) S)) o := pd_Gs (i := .dup2) (n := 1) rfl
theorem p57_17 : pd_G xs Ls d pd_m57 (17, L, st, S) o ↔ pd_K xs Ls d pd_m57 (mm_ial xs Ls pd_ak 17 L S st) o := pd_Gs (i := .iaload) (n := 1) rfl
theorem p57_18 : pd_G xs Ls d pd_m57 (18, L, st, S) o ↔ pd_K xs Ls d pd_m57 (mm_go 19 L (.int 1 :: st) S) o := pd_Gs (i := .iconst 1) (n := 1) rfl
theorem p57_19 : pd_G xs Ls d pd_m57 (19, L, st, S) o ↔ pd_K xs Ls d pd_m57 (mm_ii st fun x y r => mm_go 20 L (.int (x + y) :: r) S) o := pd_Gs (i := .iadd) (n := 1) rfl
theorem p57_20 : pd_G xs Ls d pd_m57 (20, L, st, S) o ↔ pd_K xs Ls d pd_m57 (mm_i st fun x st => mm_ai pd_ak S st 0 fun i a r => mm_go 21 L r (mm_sI S a i.toNatClampNeg x)) o := pd_Gs (i := .iastore) (n := 1) rfl
theorem p57_21 : pd_G xs Ls d pd_m57 (21, L, st, S) o ↔ pd_K xs Ls d pd_m57 (mm_rV S st) o := pd_Gs (i := .return_) (n := 1) rfl
theorem p57_22 : pd_G xs Ls d pd_m57 (22, L, st, S) o ↔ pd_K xs Ls d pd_m57 (mm_lA L 0 fun v => mm_go 23 L (v :: st) S) o := pd_Gs (i := .aload_n 0) (n := 1) rfl
theorem p57_23 : pd_G xs Ls d pd_m57 (23, L, st, S) o ↔ pd_K xs Ls d pd_m57 (mm_getf pd_ck 23 L st S 3 10) o := pd_Gs (i := .getfield 42) (n := 3) rfl
theorem p57_26 : pd_G xs Ls d pd_m57 (26, L, st, S) o ↔ pd_K xs Ls d pd_m57 (mm_lI L 2 fun x => mm_go 27 L (.int x :: st) S) o := pd_Gs (i := .iload_n 2) (n := 1) rfl
theorem p57_27 : pd_G xs Ls d pd_m57 (27, L, st, S) o ↔ pd_K xs Ls d pd_m57 (mm_ai pd_ak S st 5 fun i a r => mm_go 28 L (va_rf (S.2.1.2.2.1 a i.toNatClampNeg) :: r) S) o := pd_Gs (i := .aaload) (n := 1) rfl
theorem p57_28 : pd_G xs Ls d pd_m57 (28, L, st, S) o ↔ pd_K xs Ls d pd_m57 (mm_go 29 L (.int 1 :: st) S) o := pd_Gs (i := .iconst 1) (n := 1) rfl
theorem p57_29 : pd_G xs Ls d pd_m57 (29, L, st, S) o ↔ pd_K xs Ls d pd_m57 (mm_putf pd_ck 29 L st S 6 0) o := pd_Gs (i := .putfield 89) (n := 3) rfl
theorem p57_32 : pd_G xs Ls d pd_m57 (32, L, st, S) o ↔ pd_K xs Ls d pd_m57 (mm_rV S st) o := pd_Gs (i := .return_) (n := 1) rfl
theorem p58_0 : pd_G xs Ls d pd_m58 (0, L, st, S) o ↔ pd_K xs Ls d pd_m58 (mm_go 1 L (.int (-1) :: st) S) o := pd_Gs (i := .iconst (-1)) (n := 1) rfl
theorem p58_1 : pd_G xs Ls d pd_m58 (1, L, st, S) o ↔ pd_K xs Ls d pd_m58 (mm_i st fun x r => mm_go 2 (mm_sto L 0 2 (.int x)) r S) o := pd_Gs (i := .istore_n 2) (n := 1) rfl
theorem p58_2 : pd_G xs Ls d pd_m58 (2, L, st, S) o ↔ pd_K xs Ls d pd_m58 (mm_go 3 L (.int 0 :: st) S) o := pd_Gs (i := .iconst 0) (n := 1) rfl
theorem p58_3 : pd_G xs Ls d pd_m58 (3, L, st, S) o ↔ pd_K xs Ls d pd_m58 (mm_i st fun x r => mm_go 4 (mm_sto L 0 3 (.int x)) r S) o := pd_Gs (i := .istore_n 3) (n := 1) rfl
theorem p58_4 : pd_G xs Ls d pd_m58 (4, L, st, S) o ↔ pd_K xs Ls d pd_m58 (mm_lI L 3 fun x => mm_go 5 L (.int x :: st) S) o := pd_Gs (i := .iload_n 3) (n := 1) rfl
theorem p58_5 : pd_G xs Ls d pd_m58 (5, L, st, S) o ↔ pd_K xs Ls d pd_m58 (mm_go 6 L (.int 5 :: st) S) o := pd_Gs (i := .iconst 5) (n := 1) rfl
theorem p58_6 : pd_G xs Ls d pd_m58 (6, L, st, S) o ↔ pd_K xs Ls d pd_m58 (mm_ii st fun x y r => mm_icmp .ge x y (mm_go 77 L r S) (mm_go 9 L r S)) o := pd_Gs (i := .if_icmp .ge 71) (n := 3) rfl
theorem p58_9 : pd_G xs Ls d pd_m58 (9, L, st, S) o ↔ pd_K xs Ls d pd_m58 (mm_lA L 0 fun v => mm_go 10 L (v :: st) S) o := pd_Gs (i := .aload_n 0) (n := 1) rfl
theorem p58_10 : pd_G xs Ls d pd_m58 (10, L, st, S) o ↔ pd_K xs Ls d pd_m58 (mm_getf pd_ck 10 L st S 3 10) o := pd_Gs (i := .getfield 42) (n := 3) rfl
theorem p58_13 : pd_G xs Ls d pd_m58 (13, L, st, S) o ↔ pd_K xs Ls d pd_m58 (mm_lI L 3 fun x => mm_go 14 L (.int x :: st) S) o := pd_Gs (i := .iload_n 3) (n := 1) rfl
theorem p58_14 : pd_G xs Ls d pd_m58 (14, L, st, S) o ↔ pd_K xs Ls d pd_m58 (mm_ai pd_ak S st 5 fun i a r => mm_go 15 L (va_rf (S.2.1.2.2.1 a i.toNatClampNeg) :: r) S) o := pd_Gs (i := .aaload) (n := 1) rfl
theorem p58_15 : pd_G xs Ls d pd_m58 (15, L, st, S) o ↔ pd_K xs Ls d pd_m58 (mm_r st fun x r => mm_go 17 (mm_sto L 0 4 (.ref x)) r S) o := pd_Gs (i := .astore 4) (n := 2) rfl
theorem p58_17 : pd_G xs Ls d pd_m58 (17, L, st, S) o ↔ pd_K xs Ls d pd_m58 (mm_lA L 4 fun v => mm_go 19 L (v :: st) S) o := pd_Gs (i := .aload 4) (n := 2) rfl
theorem p58_19 : pd_G xs Ls d pd_m58 (19, L, st, S) o ↔ pd_K xs Ls d pd_m58 (mm_getf pd_ck 19 L st S 6 0) o := pd_Gs (i := .getfield 89) (n := 3) rfl
theorem p58_22 : pd_G xs Ls d pd_m58 (22, L, st, S) o ↔ pd_K xs Ls d pd_m58 (mm_go 23 L (.int 3 :: st) S) o := pd_Gs (i := .iconst 3) (n := 1) rfl
theorem p58_23 : pd_G xs Ls d pd_m58 (23, L, st, S) o ↔ pd_K xs Ls d pd_m58 (mm_ii st fun x y r => mm_icmp .ne x y (mm_go 39 L r S) (mm_go 26 L r S)) o := pd_Gs (i := .if_icmp .ne 16) (n := 3) rfl
theorem p58_26 : pd_G xs Ls d pd_m58 (26, L, st, S) o ↔ pd_K xs Ls d pd_m58 (mm_lA L 4 fun v => mm_go 28 L (v :: st) S) o := pd_Gs (i := .aload 4) (n := 2) rfl
theorem p58_28 : pd_G xs Ls d pd_m58 (28, L, st, S) o ↔ pd_K xs Ls d pd_m58 (mm_getf pd_ck 28 L st S 6 5) o := pd_Gs (i := .getfield 161) (n := 3) rfl
theorem p58_31 : pd_G xs Ls d pd_m58 (31, L, st, S) o ↔ pd_K xs Ls d pd_m58 (mm_lI L 1 fun x => mm_go 32 L (.int x :: st) S) o := pd_Gs (i := .iload_n 1) (n := 1) rfl
theorem p58_32 : pd_G xs Ls d pd_m58 (32, L, st, S) o ↔ pd_K xs Ls d pd_m58 (mm_ii st fun x y r => mm_icmp .ne x y (mm_go 39 L r S) (mm_go 35 L r S)) o := pd_Gs (i := .if_icmp .ne 7) (n := 3) rfl
theorem p58_35 : pd_G xs Ls d pd_m58 (35, L, st, S) o ↔ pd_K xs Ls d pd_m58 (mm_go 36 L (.int 1 :: st) S) o := pd_Gs (i := .iconst 1) (n := 1) rfl
theorem p58_36 : pd_G xs Ls d pd_m58 (36, L, st, S) o ↔ pd_K xs Ls d pd_m58 (mm_go 40 L st S) o := pd_Gs (i := .goto 4) (n := 3) rfl
theorem p58_39 : pd_G xs Ls d pd_m58 (39, L, st, S) o ↔ pd_K xs Ls d pd_m58 (mm_go 40 L (.int 0 :: st) S) o := pd_Gs (i := .iconst 0) (n := 1) rfl
theorem p58_40 : pd_G xs Ls d pd_m58 (40, L, st, S) o ↔ pd_K xs Ls d pd_m58 (mm_i st fun x r => mm_go 42 (mm_sto L 0 5 (.int x)) r S) o := pd_Gs (i := .istore 5) (n := 2) rfl
theorem p58_42 : pd_G xs Ls d pd_m58 (42, L, st, S) o ↔ pd_K xs Ls d pd_m58 (mm_lI L 5 fun x => mm_go 44 L (.int x :: st) S) o := pd_Gs (i := .iload 5) (n := 2) rfl
theorem p58_44 : pd_G xs Ls d pd_m58 (44, L, st, S) o ↔ pd_K xs Ls d pd_m58 (mm_i st fun x r => mm_icmp .eq x 0 (mm_go 71 L r S) (mm_go 47 L r S)) o := pd_Gs (i := .ifCond .eq 27) (n := 3) rfl
theorem p58_47 : pd_G xs Ls d pd_m58 (47, L, st, S) o ↔ pd_K xs Ls d pd_m58 (mm_lI L 2 fun x => mm_go 48 L (.int x :: st) S) o := pd_Gs (i := .iload_n 2) (n := 1) rfl
theorem p58_48 : pd_G xs Ls d pd_m58 (48, L, st, S) o ↔ pd_K xs Ls d pd_m58 (mm_go 49 L (.int (-1) :: st) S) o := pd_Gs (i := .iconst (-1)) (n := 1) rfl
theorem p58_49 : pd_G xs Ls d pd_m58 (49, L, st, S) o ↔ pd_K xs Ls d pd_m58 (mm_ii st fun x y r => mm_icmp .eq x y (mm_go 69 L r S) (mm_go 52 L r S)) o := pd_Gs (i := .if_icmp .eq 20) (n := 3) rfl
theorem p58_52 : pd_G xs Ls d pd_m58 (52, L, st, S) o ↔ pd_K xs Ls d pd_m58 (mm_lA L 4 fun v => mm_go 54 L (v :: st) S) o := pd_Gs (i := .aload 4) (n := 2) rfl
theorem p58_54 : pd_G xs Ls d pd_m58 (54, L, st, S) o ↔ pd_K xs Ls d pd_m58 (mm_getf pd_ck 54 L st S 6 6) o := pd_Gs (i := .getfield 164) (n := 3) rfl
theorem p58_57 : pd_G xs Ls d pd_m58 (57, L, st, S) o ↔ pd_K xs Ls d pd_m58 (mm_lA L 0 fun v => mm_go 58 L (v :: st) S) o := pd_Gs (i := .aload_n 0) (n := 1) rfl
theorem p58_58 : pd_G xs Ls d pd_m58 (58, L, st, S) o ↔ pd_K xs Ls d pd_m58 (mm_getf pd_ck 58 L st S 3 10) o := pd_Gs (i := .getfield 42) (n := 3) rfl
theorem p58_61 : pd_G xs Ls d pd_m58 (61, L, st, S) o ↔ pd_K xs Ls d pd_m58 (mm_lI L 2 fun x => mm_go 62 L (.int x :: st) S) o := pd_Gs (i := .iload_n 2) (n := 1) rfl
theorem p58_62 : pd_G xs Ls d pd_m58 (62, L, st, S) o ↔ pd_K xs Ls d pd_m58 (mm_ai pd_ak S st 5 fun i a r => mm_go 63 L (va_rf (S.2.1.2.2.1 a i.toNatClampNeg) :: r) S) o := pd_Gs (i := .aaload) (n := 1) rfl
theorem p58_63 : pd_G xs Ls d pd_m58 (63, L, st, S) o ↔ pd_K xs Ls d pd_m58 (mm_getf pd_ck 63 L st S 6 6) o := pd_Gs (i := .getfield 164) (n := 3) rfl
theorem p58_66 : pd_G xs Ls d pd_m58 (66, L, st, S) o ↔ pd_K xs Ls d pd_m58 (mm_ii st fun x y r => mm_icmp .ge x y (mm_go 71 L r S) (mm_go 69 L r S)) o := pd_Gs (i := .if_icmp .ge 5) (n := 3) rfl
theorem p58_69 : pd_G xs Ls d pd_m58 (69, L, st, S) o ↔ pd_K xs Ls d pd_m58 (mm_lI L 3 fun x => mm_go 70 L (.int x :: st) S) o := pd_Gs (i := .iload_n 3) (n := 1) rfl
theorem p58_70 : pd_G xs Ls d pd_m58 (70, L, st, S) o ↔ pd_K xs Ls d pd_m58 (mm_i st fun x r => mm_go 71 (mm_sto L 0 2 (.int x)) r S) o := pd_Gs (i := .istore_n 2) (n := 1) rfl
theorem p58_71 : pd_G xs Ls d pd_m58 (71, L, st, S) o ↔ pd_K xs Ls d pd_m58 (mm_lI L 3 fun x => mm_go 74 (mm_sto L 0 3 (.int (x + 1))) st S) o := pd_Gs (i := .iinc 3 1) (n := 3) rfl
theorem p58_74 : pd_G xs Ls d pd_m58 (74, L, st, S) o ↔ pd_K xs Ls d pd_m58 (mm_go 4 L st S) o := pd_Gs (i := .goto (-70)) (n := 3) rfl
theorem p58_77 : pd_G xs Ls d pd_m58 (77, L, st, S) o ↔ pd_K xs Ls d pd_m58 (mm_lI L 2 fun x => mm_go 78 L (.int x :: st) S) o := pd_Gs (i := .iload_n 2) (n := 1) rfl
theorem p58_78 : pd_G xs Ls d pd_m58 (78, L, st, S) o ↔ pd_K xs Ls d pd_m58 (mm_e0 S st) o := pd_Gs (i := .ireturn) (n := 1) rfl
theorem p59_0 : pd_G xs Ls d pd_m59 (0, L, st, S) o ↔ pd_K xs Ls d pd_m59 (mm_lA L 0 fun v => mm_go 1 L (v :: st) S) o := pd_Gs (i := .aload_n 0) (n := 1) rfl
theorem p59_1 : pd_G xs Ls d pd_m59 (1, L, st, S) o ↔ pd_K xs Ls d pd_m59 (mm_getf pd_ck 1 L st S 3 0) o := pd_Gs (i := .getfield 11) (n := 3) rfl
theorem p59_4 : pd_G xs Ls d pd_m59 (4, L, st, S) o ↔ pd_K xs Ls d pd_m59 (mm_lI L 2 fun x => mm_go 5 L (.int x :: st) S) o := pd_Gs (i := .iload_n 2) (n := 1) rfl
theorem p59_5 : pd_G xs Ls d pd_m59 (5, L, st, S) o ↔ pd_K xs Ls d pd_m59 (mm_ai pd_ak S st 5 fun i a r => mm_go 6 L (va_rf (S.2.1.2.2.1 a i.toNatClampNeg) :: r) S) o := pd_Gs (i := .aaload) (n := 1) rfl
theorem p59_6 : pd_G xs Ls d pd_m59 (6, L, st, S) o ↔ pd_K xs Ls d pd_m59 (mm_getf pd_ck 6 L st S 1 4) o := pd_Gs (i := .getfield 47) (n := 3) rfl
theorem p59_9 : pd_G xs Ls d pd_m59 (9, L, st, S) o ↔ pd_K xs Ls d pd_m59 (mm_i st fun x r => mm_icmp .ne x 0 (mm_go 22 L r S) (mm_go 12 L r S)) o := pd_Gs (i := .ifCond .ne 13) (n := 3) rfl
theorem p59_12 : pd_G xs Ls d pd_m59 (12, L, st, S) o ↔ pd_K xs Ls d pd_m59 (cond (Nat.ble (mm_wt st) 8) (mm_end (.inr 2) (S.1, S.2.1, S.2.2 + 1)) none) o := pd_Gs (i := .new 170) (n := 3) rfl
theorem p59_22 : pd_G xs Ls d pd_m59 (22, L, st, S) o ↔ pd_K xs Ls d pd_m59 (mm_lA L 1 fun v => mm_go 23 L (v :: st) S) o := pd_Gs (i := .aload_n 1) (n := 1) rfl
theorem p59_23 : pd_G xs Ls d pd_m59 (23, L, st, S) o ↔ pd_K xs Ls d pd_m59 (mm_lI L 2 fun x => mm_go 24 L (.int x :: st) S) o := pd_Gs (i := .iload_n 2) (n := 1) rfl
theorem p59_24 : pd_G xs Ls d pd_m59 (24, L, st, S) o ↔ pd_K xs Ls d pd_m59 (mm_inv (mm_ev xs Ls pd_ck pd_ak pd_mj d) pd_m59 24 L st S 88 1 6) o := pd_Gs (i := .invokevirtual 175) (n := 3) rfl
theorem p59_27 : pd_G xs Ls d pd_m59 (27, L, st, S) o ↔ pd_K xs Ls d pd_m59 (mm_i st fun x r => mm_icmp .ne x 0 (mm_go 40 L r S) (mm_go 30 L r S)) o := pd_Gs (i := .ifCond .ne 13) (n := 3) rfl
theorem p59_30 : pd_G xs Ls d pd_m59 (30, L, st, S) o ↔ pd_K xs Ls d pd_m59 (cond (Nat.ble (mm_wt st) 8) (mm_end (.inr 1) (S.1, S.2.1, S.2.2 + 1)) none) o := pd_Gs (i := .new 70) (n := 3) rfl
theorem p59_40 : pd_G xs Ls d pd_m59 (40, L, st, S) o ↔ pd_K xs Ls d pd_m59 (mm_rV S st) o := pd_Gs (i := .return_) (n := 1) rfl
theorem p60_0 : pd_G xs Ls d pd_m60 (0, L, st, S) o ↔ pd_K xs Ls d pd_m60 (mm_lA L 0 fun v => mm_go 1 L (v :: st) S) o := pd_Gs (i := .aload_n 0) (n := 1) rfl
theorem p60_1 : pd_G xs Ls d pd_m60 (1, L, st, S) o ↔ pd_K xs Ls d pd_m60 (mm_getf pd_ck 1 L st S 3 11) o := pd_Gs (i := .getfield 55) (n := 3) rfl
theorem p60_4 : pd_G xs Ls d pd_m60 (4, L, st, S) o ↔ pd_K xs Ls d pd_m60 (mm_go 5 L (.int 2 :: st) S) o := pd_Gs (i := .iconst 2) (n := 1) rfl
theorem p60_5 : pd_G xs Ls d pd_m60 (5, L, st, S) o ↔ pd_K xs Ls d pd_m60 (mm_ii st fun x y r => mm_go 6 L (.int (x + y) :: r) S) o := pd_Gs (i := .iadd) (n := 1) rfl
theorem p60_6 : pd_G xs Ls d pd_m60 (6, L, st, S) o ↔ pd_K xs Ls d pd_m60 (mm_go 7 L (.int 5 :: st) S) o := pd_Gs (i := .iconst 5) (n := 1) rfl
theorem p60_7 : pd_G xs Ls d pd_m60 (7, L, st, S) o ↔ pd_K xs Ls d pd_m60 (mm_ii st fun x y r => mm_icmp .le x y (mm_go 20 L r S) (mm_go 10 L r S)) o := pd_Gs (i := .if_icmp .le 13) (n := 3) rfl
theorem p60_10 : pd_G xs Ls d pd_m60 (10, L, st, S) o ↔ pd_K xs Ls d pd_m60 (cond (Nat.ble (mm_wt st) 8) (mm_end (.inr 1) (S.1, S.2.1, S.2.2 + 1)) none) o := pd_Gs (i := .new 70) (n := 3) rfl
theorem p60_20 : pd_G xs Ls d pd_m60 (20, L, st, S) o ↔ pd_K xs Ls d pd_m60 (mm_lA L 0 fun v => mm_go 21 L (v :: st) S) o := pd_Gs (i := .aload_n 0) (n := 1) rfl
theorem p60_21 : pd_G xs Ls d pd_m60 (21, L, st, S) o ↔ pd_K xs Ls d pd_m60 (mm_getf pd_ck 21 L st S 3 10) o := pd_Gs (i := .getfield 42) (n := 3) rfl
theorem p60_24 : pd_G xs Ls d pd_m60 (24, L, st, S) o ↔ pd_K xs Ls d pd_m60 (mm_lI L 1 fun x => mm_go 25 L (.int x :: st) S) o := pd_Gs (i := .iload_n 1) (n := 1) rfl
theorem p60_25 : pd_G xs Ls d pd_m60 (25, L, st, S) o ↔ pd_K xs Ls d pd_m60 (mm_ai pd_ak S st 5 fun i a r => mm_go 26 L (va_rf (S.2.1.2.2.1 a i.toNatClampNeg) :: r) S) o := pd_Gs (i := .aaload) (n := 1) rfl
theorem p60_26 : pd_G xs Ls d pd_m60 (26, L, st, S) o ↔ pd_K xs Ls d pd_m60 (mm_r st fun x r => mm_go 27 (mm_sto L 0 3 (.ref x)) r S) o := pd_Gs (i := .astore_n 3) (n := 1) rfl
theorem p60_27 : pd_G xs Ls d pd_m60 (27, L, st, S) o ↔ pd_K xs Ls d pd_m60 (mm_lA L 3 fun v => mm_go 28 L (v :: st) S) o := pd_Gs (i := .aload_n 3) (n := 1) rfl
theorem p60_28 : pd_G xs Ls d pd_m60 (28, L, st, S) o ↔ pd_K xs Ls d pd_m60 (mm_go 29 L (.int 2 :: st) S) o := pd_Gs (i := .iconst 2) (n := 1) rfl
theorem p60_29 : pd_G xs Ls d pd_m60 (29, L, st, S) o ↔ pd_K xs Ls d pd_m60 (mm_putf pd_ck 29 L st S 6 0) o := pd_Gs (i := .putfield 89) (n := 3) rfl
theorem p60_32 : pd_G xs Ls d pd_m60 (32, L, st, S) o ↔ pd_K xs Ls d pd_m60 (mm_lA L 3 fun v => mm_go 33 L (v :: st) S) o := pd_Gs (i := .aload_n 3) (n := 1) rfl
theorem p60_33 : pd_G xs Ls d pd_m60 (33, L, st, S) o ↔ pd_K xs Ls d pd_m60 (mm_go 34 L (.int 2 :: st) S) o := pd_Gs (i := .iconst 2) (n := 1) rfl
theorem p60_34 : pd_G xs Ls d pd_m60 (34, L, st, S) o ↔ pd_K xs Ls d pd_m60 (mm_putf pd_ck 34 L st S 6 2) o := pd_Gs (i := .putfield 183) (n := 3) rfl
theorem p60_37 : pd_G xs Ls d pd_m60 (37, L, st, S) o ↔ pd_K xs Ls d pd_m60 (mm_lA L 0 fun v => mm_go 38 L (v :: st) S) o := pd_Gs (i := .aload_n 0) (n := 1) rfl
theorem p60_38 : pd_G xs Ls d pd_m60 (38, L, st, S) o ↔ pd_K xs Ls d pd_m60 (mm_getf pd_ck 38 L st S 3 10) o := pd_Gs (i := .getfield 42) (n := 3) rfl
theorem p60_41 : pd_G xs Ls d pd_m60 (41, L, st, S) o ↔ pd_K xs Ls d pd_m60 (mm_lA L 0 fun v => mm_go 42 L (v :: st) S) o := pd_Gs (i := .aload_n 0) (n := 1) rfl
theorem p60_42 : pd_G xs Ls d pd_m60 (42, L, st, S) o ↔ pd_K xs Ls d pd_m60 (mm_inv (mm_ev xs Ls pd_ck pd_ak pd_mj d) pd_m60 42 L st S 61 0 3) o := pd_Gs (i := .invokevirtual 186) (n := 3) rfl
theorem p60_45 : pd_G xs Ls d pd_m60 (45, L, st, S) o ↔ pd_K xs Ls d pd_m60 (mm_ai pd_ak S st 5 fun i a r => mm_go 46 L (va_rf (S.2.1.2.2.1 a i.toNatClampNeg) :: r) S) o := pd_Gs (i := .aaload) (n := 1) rfl
theorem p60_46 : pd_G xs Ls d pd_m60 (46, L, st, S) o ↔ pd_K xs Ls d pd_m60 (mm_lA L 3 fun v => mm_go 47 L (v :: st) S) o := pd_Gs (i := .aload_n 3) (n := 1) rfl
theorem p60_47 : pd_G xs Ls d pd_m60 (47, L, st, S) o ↔ pd_K xs Ls d pd_m60 (mm_lI L 1 fun x => mm_go 48 L (.int x :: st) S) o := pd_Gs (i := .iload_n 1) (n := 1) rfl
theorem p60_48 : pd_G xs Ls d pd_m60 (48, L, st, S) o ↔ pd_K xs Ls d pd_m60 (mm_lA L 3 fun v => mm_go 49 L (v :: st) S) o := pd_Gs (i := .aload_n 3) (n := 1) rfl
theorem p60_49 : pd_G xs Ls d pd_m60 (49, L, st, S) o ↔ pd_K xs Ls d pd_m60 (mm_getf pd_ck 49 L st S 6 4) o := pd_Gs (i := .getfield 112) (n := 3) rfl
theorem p60_52 : pd_G xs Ls d pd_m60 (52, L, st, S) o ↔ pd_K xs Ls d pd_m60 (mm_go 53 L (.int 1 :: st) S) o := pd_Gs (i := .iconst 1) (n := 1) rfl
theorem p60_53 : pd_G xs Ls d pd_m60 (53, L, st, S) o ↔ pd_K xs Ls d pd_m60 (mm_ii st fun x y r => mm_go 54 L (.int (x + y) :: r) S) o := pd_Gs (i := .iadd) (n := 1) rfl
theorem p60_54 : pd_G xs Ls d pd_m60 (54, L, st, S) o ↔ pd_K xs Ls d pd_m60 (mm_inv (mm_ev xs Ls pd_ck pd_ak pd_mj d) pd_m60 54 L st S 89 3 6) o := pd_Gs (i := .invokevirtual 189) (n := 3) rfl
theorem p60_57 : pd_G xs Ls d pd_m60 (57, L, st, S) o ↔ pd_K xs Ls d pd_m60 (mm_lA L 0 fun v => mm_go 58 L (v :: st) S) o := pd_Gs (i := .aload_n 0) (n := 1) rfl
theorem p60_58 : pd_G xs Ls d pd_m60 (58, L, st, S) o ↔ pd_K xs Ls d pd_m60 (mm_getf pd_ck 58 L st S 3 10) o := pd_Gs (i := .getfield 42) (n := 3) rfl
theorem p60_61 : pd_G xs Ls d pd_m60 (61, L, st, S) o ↔ pd_K xs Ls d pd_m60 (mm_lA L 0 fun v => mm_go 62 L (v :: st) S) o := pd_Gs (i := .aload_n 0) (n := 1) rfl
theorem p60_62 : pd_G xs Ls d pd_m60 (62, L, st, S) o ↔ pd_K xs Ls d pd_m60 (mm_inv (mm_ev xs Ls pd_ck pd_ak pd_mj d) pd_m60 62 L st S 61 0 3) o := pd_Gs (i := .invokevirtual 186) (n := 3) rfl
theorem p60_65 : pd_G xs Ls d pd_m60 (65, L, st, S) o ↔ pd_K xs Ls d pd_m60 (mm_ai pd_ak S st 5 fun i a r => mm_go 66 L (va_rf (S.2.1.2.2.1 a i.toNatClampNeg) :: r) S) o := pd_Gs (i := .aaload) (n := 1) rfl
theorem p60_66 : pd_G xs Ls d pd_m60 (66, L, st, S) o ↔ pd_K xs Ls d pd_m60 (mm_lA L 3 fun v => mm_go 67 L (v :: st) S) o := pd_Gs (i := .aload_n 3) (n := 1) rfl
theorem p60_67 : pd_G xs Ls d pd_m60 (67, L, st, S) o ↔ pd_K xs Ls d pd_m60 (mm_lI L 1 fun x => mm_go 68 L (.int x :: st) S) o := pd_Gs (i := .iload_n 1) (n := 1) rfl
theorem p60_68 : pd_G xs Ls d pd_m60 (68, L, st, S) o ↔ pd_K xs Ls d pd_m60 (mm_lI L 2 fun x => mm_go 69 L (.int x :: st) S) o := pd_Gs (i := .iload_n 2) (n := 1) rfl
theorem p60_69 : pd_G xs Ls d pd_m60 (69, L, st, S) o ↔ pd_K xs Ls d pd_m60 (mm_inv (mm_ev xs Ls pd_ck pd_ak pd_mj d) pd_m60 69 L st S 89 3 6) o := pd_Gs (i := .invokevirtual 189) (n := 3) rfl
theorem p60_72 : pd_G xs Ls d pd_m60 (72, L, st, S) o ↔ pd_K xs Ls d pd_m60 (mm_lA L 0 fun v => mm_go 73 L (v :: st) S) o := pd_Gs (i := .aload_n 0) (n := 1) rfl
theorem p60_73 : pd_G xs Ls d pd_m60 (73, L, st, S) o ↔ pd_K xs Ls d pd_m60 (mm_1 st fun v r => cond (mm_c2 v) none (mm_go 74 L (v :: v :: r) S)) o := pd_Gs (i := .dup) (n := 1) rfl
theorem p60_74 : pd_G xs Ls d pd_m60 (74, L, st, S) o ↔ pd_K xs Ls d pd_m60 (mm_getf pd_ck 74 L st S 3 7) o := pd_Gs (i := .getfield 95) (n := 3) rfl
theorem p60_77 : pd_G xs Ls d pd_m60 (77, L, st, S) o ↔ pd_K xs Ls d pd_m60 (mm_go 78 L (.int 2 :: st) S) o := pd_Gs (i := .iconst 2) (n := 1) rfl
theorem p60_78 : pd_G xs Ls d pd_m60 (78, L, st, S) o ↔ pd_K xs Ls d pd_m60 (mm_ii st fun x y r => mm_go 79 L (.int (x + y) :: r) S) o := pd_Gs (i := .iadd) (n := 1) rfl
theorem p60_79 : pd_G xs Ls d pd_m60 (79, L, st, S) o ↔ pd_K xs Ls d pd_m60 (mm_putf pd_ck 79 L st S 3 7) o := pd_Gs (i := .putfield 95) (n := 3) rfl
theorem p60_82 : pd_G xs Ls d pd_m60 (82, L, st, S) o ↔ pd_K xs Ls d pd_m60 (mm_lA L 0 fun v => mm_go 83 L (v :: st) S) o := pd_Gs (i := .aload_n 0) (n := 1) rfl
theorem p60_83 : pd_G xs Ls d pd_m60 (83, L, st, S) o ↔ pd_K xs Ls d pd_m60 (mm_1 st fun v r => cond (mm_c2 v) none (mm_go 84 L (v :: v :: r) S)) o := pd_Gs (i := .dup) (n := 1) rfl
theorem p60_84 : pd_G xs Ls d pd_m60 (84, L, st, S) o ↔ pd_K xs Ls d pd_m60 (mm_getf pd_ck 84 L st S 3 11) o := pd_Gs (i := .getfield 55) (n := 3) rfl
theorem p60_87 : pd_G xs Ls d pd_m60 (87, L, st, S) o ↔ pd_K xs Ls d pd_m60 (mm_go 88 L (.int 2 :: st) S) o := pd_Gs (i := .iconst 2) (n := 1) rfl
theorem p60_88 : pd_G xs Ls d pd_m60 (88, L, st, S) o ↔ pd_K xs Ls d pd_m60 (mm_ii st fun x y r => mm_go 89 L (.int (x + y) :: r) S) o := pd_Gs (i := .iadd) (n := 1) rfl
theorem p60_89 : pd_G xs Ls d pd_m60 (89, L, st, S) o ↔ pd_K xs Ls d pd_m60 (mm_putf pd_ck 89 L st S 3 11) o := pd_Gs (i := .putfield 55) (n := 3) rfl
theorem p60_92 : pd_G xs Ls d pd_m60 (92, L, st, S) o ↔ pd_K xs Ls d pd_m60 (mm_lA L 0 fun v => mm_go 93 L (v :: st) S) o := pd_Gs (i := .aload_n 0) (n := 1) rfl
theorem p60_93 : pd_G xs Ls d pd_m60 (93, L, st, S) o ↔ pd_K xs Ls d pd_m60 (mm_lA L 0 fun v => mm_go 94 L (v :: st) S) o := pd_Gs (i := .aload_n 0) (n := 1) rfl
theorem p60_94 : pd_G xs Ls d pd_m60 (94, L, st, S) o ↔ pd_K xs Ls d pd_m60 (mm_getf pd_ck 94 L st S 3 8) o := pd_Gs (i := .getfield 98) (n := 3) rfl
theorem p60_97 : pd_G xs Ls d pd_m60 (97, L, st, S) o ↔ pd_K xs Ls d pd_m60 (mm_lA L 0 fun v => mm_go 98 L (v :: st) S) o := pd_Gs (i := .aload_n 0) (n := 1) rfl
theorem p60_98 : pd_G xs Ls d pd_m60 (98, L, st, S) o ↔ pd_K xs Ls d pd_m60 (mm_getf pd_ck 98 L st S 3 11) o := pd_Gs (i := .getfield 55) (n := 3) rfl
theorem p60_101 : pd_G xs Ls d pd_m60 (101, L, st, S) o ↔ pd_K xs Ls d pd_m60 (mm_invS (mm_ev xs Ls pd_ck pd_ak pd_mj d) pd_m60 101 L st S 135 2) o := pd_Gs (i := .invokestatic 193) (n := 3) rfl
theorem p60_104 : pd_G xs Ls d pd_m60 (104, L, st, S) o ↔ pd_K xs Ls d pd_m60 (mm_putf pd_ck 104 L st S 3 8) o := pd_Gs (i := .putfield 98) (n := 3) rfl
theorem p60_107 : pd_G xs Ls d pd_m60 (107, L, st, S) o ↔ pd_K xs Ls d pd_m60 (mm_rV S st) o := pd_Gs (i := .return_) (n := 1) rfl
theorem p61_0 : pd_G xs Ls d pd_m61 (0, L, st, S) o ↔ pd_K xs Ls d pd_m61 (mm_go 1 L (.int 0 :: st) S) o := pd_Gs (i := .iconst 0) (n := 1) rfl
theorem p61_1 : pd_G xs Ls d pd_m61 (1, L, st, S) o ↔ pd_K xs Ls d pd_m61 (mm_i st fun x r => mm_go 2 (mm_sto L 0 1 (.int x)) r S) o := pd_Gs (i := .istore_n 1) (n := 1) rfl
theorem p61_2 : pd_G xs Ls d pd_m61 (2, L, st, S) o ↔ pd_K xs Ls d pd_m61 (mm_go 3 L (.int 4 :: st) S) o := pd_Gs (i := .iconst 4) (n := 1) rfl
theorem p61_3 : pd_G xs Ls d pd_m61 (3, L, st, S) o ↔ pd_K xs Ls d pd_m61 (mm_i st fun x r => mm_go 4 (mm_sto L 0 2 (.int x)) r S) o := pd_Gs (i := .istore_n 2) (n := 1) rfl
theorem p61_4 : pd_G xs Ls d pd_m61 (4, L, st, S) o ↔ pd_K xs Ls d pd_m61 (mm_lI L 2 fun x => mm_go 5 L (.int x :: st) S) o := pd_Gs (i := .iload_n 2) (n := 1) rfl
theorem p61_5 : pd_G xs Ls d pd_m61 (5, L, st, S) o ↔ pd_K xs Ls d pd_m61 (mm_i st fun x r => mm_icmp .lt x 0 (mm_go 28 L r S) (mm_go 8 L r S)) o := pd_Gs (i := .ifCond .lt 23) (n := 3) rfl
theorem p61_8 : pd_G xs Ls d pd_m61 (8, L, st, S) o ↔ pd_K xs Ls d pd_m61 (mm_lA L 0 fun v => mm_go 9 L (v :: st) S) o := pd_Gs (i := .aload_n 0) (n := 1) rfl
theorem p61_9 : pd_G xs Ls d pd_m61 (9, L, st, S) o ↔ pd_K xs Ls d pd_m61 (mm_getf pd_ck 9 L st S 3 10) o := pd_Gs (i := .getfield 42) (n := 3) rfl
theorem p61_12 : pd_G xs Ls d pd_m61 (12, L, st, S) o ↔ pd_K xs Ls d pd_m61 (mm_lI L 2 fun x => mm_go 13 L (.int x :: st) S) o := pd_Gs (i := .iload_n 2) (n := 1) rfl
theorem p61_13 : pd_G xs Ls d pd_m61 (13, L, st, S) o ↔ pd_K xs Ls d pd_m61 (mm_ai pd_ak S st 5 fun i a r => mm_go 14 L (va_rf (S.2.1.2.2.1 a i.toNatClampNeg) :: r) S) o := pd_Gs (i := .aaload) (n := 1) rfl
theorem p61_14 : pd_G xs Ls d pd_m61 (14, L, st, S) o ↔ pd_K xs Ls d pd_m61 (mm_getf pd_ck 14 L st S 6 0) o := pd_Gs (i := .getfield 89) (n := 3) rfl
theorem p61_17 : pd_G xs Ls d pd_m61 (17, L, st, S) o ↔ pd_K xs Ls d pd_m61 (mm_i st fun x r => mm_icmp .ne x 0 (mm_go 22 L r S) (mm_go 20 L r S)) o := pd_Gs (i := .ifCond .ne 5) (n := 3) rfl
theorem p61_20 : pd_G xs Ls d pd_m61 (20, L, st, S) o ↔ pd_K xs Ls d pd_m61 (mm_lI L 2 fun x => mm_go 21 L (.int x :: st) S) o := pd_Gs (i := .iload_n 2) (n := 1) rfl
theorem p61_21 : pd_G xs Ls d pd_m61 (21, L, st, S) o ↔ pd_K xs Ls d pd_m61 (mm_i st fun x r => mm_go 22 (mm_sto L 0 1 (.int x)) r S) o := pd_Gs (i := .istore_n 1) (n := 1) rfl
theorem p61_22 : pd_G xs Ls d pd_m61 (22, L, st, S) o ↔ pd_K xs Ls d pd_m61 (mm_lI L 2 fun x => mm_go 25 (mm_sto L 0 2 (.int (x + Int32.ofInt (-1)))) st S) o := pd_Gs (i := .iinc 2 (-1)) (n := 3) rfl
theorem p61_25 : pd_G xs Ls d pd_m61 (25, L, st, S) o ↔ pd_K xs Ls d pd_m61 (mm_go 4 L st S) o := pd_Gs (i := .goto (-21)) (n := 3) rfl
theorem p61_28 : pd_G xs Ls d pd_m61 (28, L, st, S) o ↔ pd_K xs Ls d pd_m61 (mm_lI L 1 fun x => mm_go 29 L (.int x :: st) S) o := pd_Gs (i := .iload_n 1) (n := 1) rfl
theorem p61_29 : pd_G xs Ls d pd_m61 (29, L, st, S) o ↔ pd_K xs Ls d pd_m61 (mm_e0 S st) o := pd_Gs (i := .ireturn) (n := 1) rfl
theorem p62_0 : pd_G xs Ls d pd_m62 (0, L, st, S) o ↔ pd_K xs Ls d pd_m62 (mm_go 1 L (.int 0 :: st) S) o := pd_Gs (i := .iconst 0) (n := 1) rfl
theorem p62_1 : pd_G xs Ls d pd_m62 (1, L, st, S) o ↔ pd_K xs Ls d pd_m62 (mm_i st fun x r => mm_go 2 (mm_sto L 0 1 (.int x)) r S) o := pd_Gs (i := .istore_n 1) (n := 1) rfl
theorem p62_2 : pd_G xs Ls d pd_m62 (2, L, st, S) o ↔ pd_K xs Ls d pd_m62 (mm_lI L 1 fun x => mm_go 3 L (.int x :: st) S) o := pd_Gs (i := .iload_n 1) (n := 1) rfl
theorem p62_3 : pd_G xs Ls d pd_m62 (3, L, st, S) o ↔ pd_K xs Ls d pd_m62 (mm_go 4 L (.int 5 :: st) S) o := pd_Gs (i := .iconst 5) (n := 1) rfl
theorem p62_4 : pd_G xs Ls d pd_m62 (4, L, st, S) o ↔ pd_K xs Ls d pd_m62 (mm_ii st fun x y r => mm_icmp .ge x y (mm_go 18 L r S) (mm_go 7 L r S)) o := pd_Gs (i := .if_icmp .ge 14) (n := 3) rfl
theorem p62_7 : pd_G xs Ls d pd_m62 (7, L, st, S) o ↔ pd_K xs Ls d pd_m62 (mm_lA L 0 fun v => mm_go 8 L (v :: st) S) o := pd_Gs (i := .aload_n 0) (n := 1) rfl
theorem p62_8 : pd_G xs Ls d pd_m62 (8, L, st, S) o ↔ pd_K xs Ls d pd_m62 (mm_lI L 1 fun x => mm_go 9 L (.int x :: st) S) o := pd_Gs (i := .iload_n 1) (n := 1) rfl
theorem p62_9 : pd_G xs Ls d pd_m62 (9, L, st, S) o ↔ pd_K xs Ls d pd_m62 (mm_inv (mm_ev xs Ls pd_ck pd_ak pd_mj d) pd_m62 9 L st S 63 1 3) o := pd_Gs (i := .invokevirtual 199) (n := 3) rfl
theorem p62_12 : pd_G xs Ls d pd_m62 (12, L, st, S) o ↔ pd_K xs Ls d pd_m62 (mm_lI L 1 fun x => mm_go 15 (mm_sto L 0 1 (.int (x + 1))) st S) o := pd_Gs (i := .iinc 1 1) (n := 3) rfl
theorem p62_15 : pd_G xs Ls d pd_m62 (15, L, st, S) o ↔ pd_K xs Ls d pd_m62 (mm_go 2 L st S) o := pd_Gs (i := .goto (-13)) (n := 3) rfl
theorem p62_18 : pd_G xs Ls d pd_m62 (18, L, st, S) o ↔ pd_K xs Ls d pd_m62 (mm_rV S st) o := pd_Gs (i := .return_) (n := 1) rfl
theorem p63_0 : pd_G xs Ls d pd_m63 (0, L, st, S) o ↔ pd_K xs Ls d pd_m63 (mm_lI L 1 fun x => mm_go 1 L (.int x :: st) S) o := pd_Gs (i := .iload_n 1) (n := 1) rfl
theorem p63_1 : pd_G xs Ls d pd_m63 (1, L, st, S) o ↔ pd_K xs Ls d pd_m63 (mm_i st fun x r => mm_go 2 (mm_sto L 0 2 (.int x)) r S) o := pd_Gs (i := .istore_n 2) (n := 1) rfl
theorem p63_2 : pd_G xs Ls d pd_m63 (2, L, st, S) o ↔ pd_K xs Ls d pd_m63 (mm_go 3 L (.int 0 :: st) S) o := pd_Gs (i := .iconst 0) (n := 1) rfl
theorem p63_3 : pd_G xs Ls d pd_m63 (3, L, st, S) o ↔ pd_K xs Ls d pd_m63 (mm_i st fun x r => mm_go 4 (mm_sto L 0 3 (.int x)) r S) o := pd_Gs (i := .istore_n 3) (n := 1) rfl
theorem p63_4 : pd_G xs Ls d pd_m63 (4, L, st, S) o ↔ pd_K xs Ls d pd_m63 (mm_lI L 3 fun x => mm_go 5 L (.int x :: st) S) o := pd_Gs (i := .iload_n 3) (n := 1) rfl
theorem p63_5 : pd_G xs Ls d pd_m63 (5, L, st, S) o ↔ pd_K xs Ls d pd_m63 (mm_go 6 L (.int 5 :: st) S) o := pd_Gs (i := .iconst 5) (n := 1) rfl
theorem p63_6 : pd_G xs Ls d pd_m63 (6, L, st, S) o ↔ pd_K xs Ls d pd_m63 (mm_ii st fun x y r => mm_icmp .ge x y (mm_go 54 L r S) (mm_go 9 L r S)) o := pd_Gs (i := .if_icmp .ge 48) (n := 3) rfl
theorem p63_9 : pd_G xs Ls d pd_m63 (9, L, st, S) o ↔ pd_K xs Ls d pd_m63 (mm_lI L 2 fun x => mm_go 10 L (.int x :: st) S) o := pd_Gs (i := .iload_n 2) (n := 1) rfl
theorem p63_10 : pd_G xs Ls d pd_m63 (10, L, st, S) o ↔ pd_K xs Ls d pd_m63 (mm_go 11 L (.int (-1) :: st) S) o := pd_Gs (i := .iconst (-1)) (n := 1) rfl
theorem p63_11 : pd_G xs Ls d pd_m63 (11, L, st, S) o ↔ pd_K xs Ls d pd_m63 (mm_ii st fun x y r => mm_icmp .eq x y (mm_go 54 L r S) (mm_go 14 L r S)) o := pd_Gs (i := .if_icmp .eq 43) (n := 3) rfl
theorem p63_14 : pd_G xs Ls d pd_m63 (14, L, st, S) o ↔ pd_K xs Ls d pd_m63 (mm_lA L 0 fun v => mm_go 15 L (v :: st) S) o := pd_Gs (i := .aload_n 0) (n := 1) rfl
theorem p63_15 : pd_G xs Ls d pd_m63 (15, L, st, S) o ↔ pd_K xs Ls d pd_m63 (mm_getf pd_ck 15 L st S 3 10) o := pd_Gs (i := .getfield 42) (n := 3) rfl
theorem p63_18 : pd_G xs Ls d pd_m63 (18, L, st, S) o ↔ pd_K xs Ls d pd_m63 (mm_lI L 2 fun x => mm_go 19 L (.int x :: st) S) o := pd_Gs (i := .iload_n 2) (n := 1) rfl
theorem p63_19 : pd_G xs Ls d pd_m63 (19, L, st, S) o ↔ pd_K xs Ls d pd_m63 (mm_ai pd_ak S st 5 fun i a r => mm_go 20 L (va_rf (S.2.1.2.2.1 a i.toNatClampNeg) :: r) S) o := pd_Gs (i := .aaload) (n := 1) rfl
theorem p63_20 : pd_G xs Ls d pd_m63 (20, L, st, S) o ↔ pd_K xs Ls d pd_m63 (mm_r st fun x r => mm_go 22 (mm_sto L 0 4 (.ref x)) r S) o := pd_Gs (i := .astore 4) (n := 2) rfl
theorem p63_22 : pd_G xs Ls d pd_m63 (22, L, st, S) o ↔ pd_K xs Ls d pd_m63 (mm_lA L 4 fun v => mm_go 24 L (v :: st) S) o := pd_Gs (i := .aload 4) (n := 2) rfl
theorem p63_24 : pd_G xs Ls d pd_m63 (24, L, st, S) o ↔ pd_K xs Ls d pd_m63 (mm_getf pd_ck 24 L st S 6 0) o := pd_Gs (i := .getfield 89) (n := 3) rfl
theorem p63_27 : pd_G xs Ls d pd_m63 (27, L, st, S) o ↔ pd_K xs Ls d pd_m63 (mm_go 28 L (.int 1 :: st) S) o := pd_Gs (i := .iconst 1) (n := 1) rfl
theorem p63_28 : pd_G xs Ls d pd_m63 (28, L, st, S) o ↔ pd_K xs Ls d pd_m63 (mm_ii st fun x y r => mm_icmp .ne x y (mm_go 40 L r S) (mm_go 31 L r S)) o := pd_Gs (i := .if_icmp .ne 12) (n := 3) rfl
theorem p63_31 : pd_G xs Ls d pd_m63 (31, L, st, S) o ↔ pd_K xs Ls d pd_m63 (mm_lA L 0 fun v => mm_go 32 L (v :: st) S) o := pd_Gs (i := .aload_n 0) (n := 1) rfl
theorem p63_32 : pd_G xs Ls d pd_m63 (32, L, st, S) o ↔ pd_K xs Ls d pd_m63 (mm_lA L 4 fun v => mm_go 34 L (v :: st) S) o := pd_Gs (i := .aload 4) (n := 2) rfl
theorem p63_34 : pd_G xs Ls d pd_m63 (34, L, st, S) o ↔ pd_K xs Ls d pd_m63 (mm_inv (mm_ev xs Ls pd_ck pd_ak pd_mj d) pd_m63 34 L st S 64 1 3) o := pd_Gs (i := .invokevirtual 202) (n := 3) rfl
theorem p63_37 : pd_G xs Ls d pd_m63 (37, L, st, S) o ↔ pd_K xs Ls d pd_m63 (mm_i st fun x r => mm_icmp .eq x 0 (mm_go 41 L r S) (mm_go 40 L r S)) o := pd_Gs (i := .ifCond .eq 4) (n := 3) rfl
theorem p63_40 : pd_G xs Ls d pd_m63 (40, L, st, S) o ↔ pd_K xs Ls d pd_m63 (mm_rV S st) o := pd_Gs (i := .return_) (n := 1) rfl
theorem p63_41 : pd_G xs Ls d pd_m63 (41, L, st, S) o ↔ pd_K xs Ls d pd_m63 (mm_lA L 0 fun v => mm_go 42 L (v :: st) S) o := pd_Gs (i := .aload_n 0) (n := 1) rfl
theorem p63_42 : pd_G xs Ls d pd_m63 (42, L, st, S) o ↔ pd_K xs Ls d pd_m63 (mm_lA L 4 fun v => mm_go 44 L (v :: st) S) o := pd_Gs (i := .aload 4) (n := 2) rfl
theorem p63_44 : pd_G xs Ls d pd_m63 (44, L, st, S) o ↔ pd_K xs Ls d pd_m63 (mm_inv (mm_ev xs Ls pd_ck pd_ak pd_mj d) pd_m63 44 L st S 65 1 3) o := pd_Gs (i := .invokevirtual 206) (n := 3) rfl
theorem p63_47 : pd_G xs Ls d pd_m63 (47, L, st, S) o ↔ pd_K xs Ls d pd_m63 (mm_i st fun x r => mm_go 48 (mm_sto L 0 2 (.int x)) r S) o := pd_Gs (i := .istore_n 2) (n := 1) rfl
theorem p63_48 : pd_G xs Ls d pd_m63 (48, L, st, S) o ↔ pd_K xs Ls d pd_m63 (mm_lI L 3 fun x => mm_go 51 (mm_sto L 0 3 (.int (x + 1))) st S) o := pd_Gs (i := .iinc 3 1) (n := 3) rfl
theorem p63_51 : pd_G xs Ls d pd_m63 (51, L, st, S) o ↔ pd_K xs Ls d pd_m63 (mm_go 4 L st S) o := pd_Gs (i := .goto (-47)) (n := 3) rfl
theorem p63_54 : pd_G xs Ls d pd_m63 (54, L, st, S) o ↔ pd_K xs Ls d pd_m63 (mm_rV S st) o := pd_Gs (i := .return_) (n := 1) rfl
theorem p64_0 : pd_G xs Ls d pd_m64 (0, L, st, S) o ↔ pd_K xs Ls d pd_m64 (mm_go 1 L (.int 0 :: st) S) o := pd_Gs (i := .iconst 0) (n := 1) rfl
theorem p64_1 : pd_G xs Ls d pd_m64 (1, L, st, S) o ↔ pd_K xs Ls d pd_m64 (mm_i st fun x r => mm_go 2 (mm_sto L 0 2 (.int x)) r S) o := pd_Gs (i := .istore_n 2) (n := 1) rfl
theorem p64_2 : pd_G xs Ls d pd_m64 (2, L, st, S) o ↔ pd_K xs Ls d pd_m64 (mm_lI L 2 fun x => mm_go 3 L (.int x :: st) S) o := pd_Gs (i := .iload_n 2) (n := 1) rfl
theorem p64_3 : pd_G xs Ls d pd_m64 (3, L, st, S) o ↔ pd_K xs Ls d pd_m64 (mm_go 5 L (.int 49 :: st) S) o := pd_Gs (i := .bipush 49) (n := 2) rfl
theorem p64_5 : pd_G xs Ls d pd_m64 (5, L, st, S) o ↔ pd_K xs Ls d pd_m64 (mm_ii st fun x y r => mm_icmp .ge x y (mm_go 71 L r S) (mm_go 8 L r S)) o := pd_Gs (i := .if_icmp .ge 66) (n := 3) rfl
theorem p64_8 : pd_G xs Ls d pd_m64 (8, L, st, S) o ↔ pd_K xs Ls d pd_m64 (mm_lA L 0 fun v => mm_go 9 L (v :: st) S) o := pd_Gs (i := .aload_n 0) (n := 1) rfl
theorem p64_9 : pd_G xs Ls d pd_m64 (9, L, st, S) o ↔ pd_K xs Ls d pd_m64 (mm_getf pd_ck 9 L st S 3 0) o := pd_Gs (i := .getfield 11) (n := 3) rfl
theorem p64_12 : pd_G xs Ls d pd_m64 (12, L, st, S) o ↔ pd_K xs Ls d pd_m64 (mm_lA L 1 fun v => mm_go 13 L (v :: st) S) o := pd_Gs (i := .aload_n 1) (n := 1) rfl
theorem p64_13 : pd_G xs Ls d pd_m64 (13, L, st, S) o ↔ pd_K xs Ls d pd_m64 (mm_getf pd_ck 13 L st S 6 3) o := pd_Gs (i := .getfield 106) (n := 3) rfl
theorem p64_16 : pd_G xs Ls d pd_m64 (16, L, st, S) o ↔ pd_K xs Ls d pd_m64 (mm_ai pd_ak S st 5 fun i a r => mm_go 17 L (va_rf (S.2.1.2.2.1 a i.toNatClampNeg) :: r) S) o := pd_Gs (i := .aaload) (n := 1) rfl
theorem p64_17 : pd_G xs Ls d pd_m64 (17, L, st, S) o ↔ pd_K xs Ls d pd_m64 (mm_r st fun x r => mm_go 18 (mm_sto L 0 3 (.ref x)) r S) o := pd_Gs (i := .astore_n 3) (n := 1) rfl
theorem p64_18 : pd_G xs Ls d pd_m64 (18, L, st, S) o ↔ pd_K xs Ls d pd_m64 (mm_lA L 3 fun v => mm_go 19 L (v :: st) S) o := pd_Gs (i := .aload_n 3) (n := 1) rfl
theorem p64_19 : pd_G xs Ls d pd_m64 (19, L, st, S) o ↔ pd_K xs Ls d pd_m64 (mm_lA L 1 fun v => mm_go 20 L (v :: st) S) o := pd_Gs (i := .aload_n 1) (n := 1) rfl
theorem p64_20 : pd_G xs Ls d pd_m64 (20, L, st, S) o ↔ pd_K xs Ls d pd_m64 (mm_getf pd_ck 20 L st S 6 4) o := pd_Gs (i := .getfield 112) (n := 3) rfl
theorem p64_23 : pd_G xs Ls d pd_m64 (23, L, st, S) o ↔ pd_K xs Ls d pd_m64 (mm_inv (mm_ev xs Ls pd_ck pd_ak pd_mj d) pd_m64 23 L st S 17 1 1) o := pd_Gs (i := .invokevirtual 115) (n := 3) rfl
theorem p64_26 : pd_G xs Ls d pd_m64 (26, L, st, S) o ↔ pd_K xs Ls d pd_m64 (mm_i st fun x r => mm_go 28 (mm_sto L 0 4 (.int x)) r S) o := pd_Gs (i := .istore 4) (n := 2) rfl
theorem p64_28 : pd_G xs Ls d pd_m64 (28, L, st, S) o ↔ pd_K xs Ls d pd_m64 (mm_lI L 4 fun x => mm_go 30 L (.int x :: st) S) o := pd_Gs (i := .iload 4) (n := 2) rfl
theorem p64_30 : pd_G xs Ls d pd_m64 (30, L, st, S) o ↔ pd_K xs Ls d pd_m64 (mm_go 31 L (.int 1 :: st) S) o := pd_Gs (i := .iconst 1) (n := 1) rfl
theorem p64_31 : pd_G xs Ls d pd_m64 (31, L, st, S) o ↔ pd_K xs Ls d pd_m64 (mm_ii st fun x y r => mm_icmp .ne x y (mm_go 49 L r S) (mm_go 34 L r S)) o := pd_Gs (i := .if_icmp .ne 18) (n := 3) rfl
theorem p64_34 : pd_G xs Ls d pd_m64 (34, L, st, S) o ↔ pd_K xs Ls d pd_m64 (mm_lA L 1 fun v => mm_go 35 L (v :: st) S) o := pd_Gs (i := .aload_n 1) (n := 1) rfl
theorem p64_35 : pd_G xs Ls d pd_m64 (35, L, st, S) o ↔ pd_K xs Ls d pd_m64 (mm_lA L 3 fun v => mm_go 36 L (v :: st) S) o := pd_Gs (i := .aload_n 3) (n := 1) rfl
theorem p64_36 : pd_G xs Ls d pd_m64 (36, L, st, S) o ↔ pd_K xs Ls d pd_m64 (mm_lA L 1 fun v => mm_go 37 L (v :: st) S) o := pd_Gs (i := .aload_n 1) (n := 1) rfl
theorem p64_37 : pd_G xs Ls d pd_m64 (37, L, st, S) o ↔ pd_K xs Ls d pd_m64 (mm_getf pd_ck 37 L st S 6 4) o := pd_Gs (i := .getfield 112) (n := 3) rfl
theorem p64_40 : pd_G xs Ls d pd_m64 (40, L, st, S) o ↔ pd_K xs Ls d pd_m64 (mm_inv (mm_ev xs Ls pd_ck pd_ak pd_mj d) pd_m64 40 L st S 18 1 1) o := pd_Gs (i := .invokevirtual 119) (n := 3) rfl
theorem p64_43 : pd_G xs Ls d pd_m64 (43, L, st, S) o ↔ pd_K xs Ls d pd_m64 (mm_putf pd_ck 43 L st S 6 4) o := pd_Gs (i := .putfield 112) (n := 3) rfl
theorem p64_46 : pd_G xs Ls d pd_m64 (46, L, st, S) o ↔ pd_K xs Ls d pd_m64 (mm_go 65 L st S) o := pd_Gs (i := .goto 19) (n := 3) rfl
theorem p64_49 : pd_G xs Ls d pd_m64 (49, L, st, S) o ↔ pd_K xs Ls d pd_m64 (mm_lI L 4 fun x => mm_go 51 L (.int x :: st) S) o := pd_Gs (i := .iload 4) (n := 2) rfl
theorem p64_51 : pd_G xs Ls d pd_m64 (51, L, st, S) o ↔ pd_K xs Ls d pd_m64 (mm_i st fun x r => mm_icmp .eq x 0 (mm_go 56 L r S) (mm_go 54 L r S)) o := pd_Gs (i := .ifCond .eq 5) (n := 3) rfl
theorem p64_54 : pd_G xs Ls d pd_m64 (54, L, st, S) o ↔ pd_K xs Ls d pd_m64 (mm_go 55 L (.int 1 :: st) S) o := pd_Gs (i := .iconst 1) (n := 1) rfl
theorem p64_55 : pd_G xs Ls d pd_m64 (55, L, st, S) o ↔ pd_K xs Ls d pd_m64 (mm_e4 S st) o := pd_Gs (i := .ireturn) (n := 1) rfl
theorem p64_56 : pd_G xs Ls d pd_m64 (56, L, st, S) o ↔ pd_K xs Ls d pd_m64 (mm_lA L 1 fun v => mm_go 57 L (v :: st) S) o := pd_Gs (i := .aload_n 1) (n := 1) rfl
theorem p64_57 : pd_G xs Ls d pd_m64 (57, L, st, S) o ↔ pd_K xs Ls d pd_m64 (mm_inv (mm_ev xs Ls pd_ck pd_ak pd_mj d) pd_m64 57 L st S 90 0 6) o := pd_Gs (i := .invokevirtual 210) (n := 3) rfl
theorem p64_60 : pd_G xs Ls d pd_m64 (60, L, st, S) o ↔ pd_K xs Ls d pd_m64 (mm_i st fun x r => mm_icmp .ne x 0 (mm_go 65 L r S) (mm_go 63 L r S)) o := pd_Gs (i := .ifCond .ne 5) (n := 3) rfl
theorem p64_63 : pd_G xs Ls d pd_m64 (63, L, st, S) o ↔ pd_K xs Ls d pd_m64 (mm_go 64 L (.int 0 :: st) S) o := pd_Gs (i := .iconst 0) (n := 1) rfl
theorem p64_64 : pd_G xs Ls d pd_m64 (64, L, st, S) o ↔ pd_K xs Ls d pd_m64 (mm_e4 S st) o := pd_Gs (i := .ireturn) (n := 1) rfl
theorem p64_65 : pd_G xs Ls d pd_m64 (65, L, st, S) o ↔ pd_K xs Ls d pd_m64 (mm_lI L 2 fun x => mm_go 68 (mm_sto L 0 2 (.int (x + 1))) st S) o := pd_Gs (i := .iinc 2 1) (n := 3) rfl
theorem p64_68 : pd_G xs Ls d pd_m64 (68, L, st, S) o ↔ pd_K xs Ls d pd_m64 (mm_go 2 L st S) o := pd_Gs (i := .goto (-66)) (n := 3) rfl
theorem p64_71 : pd_G xs Ls d pd_m64 (71, L, st, S) o ↔ pd_K xs Ls d pd_m64 (mm_go 72 L (.int 0 :: st) S) o := pd_Gs (i := .iconst 0) (n := 1) rfl
theorem p64_72 : pd_G xs Ls d pd_m64 (72, L, st, S) o ↔ pd_K xs Ls d pd_m64 (mm_e4 S st) o := pd_Gs (i := .ireturn) (n := 1) rfl
theorem p65_0 : pd_G xs Ls d pd_m65 (0, L, st, S) o ↔ pd_K xs Ls d pd_m65 (mm_lA L 1 fun v => mm_go 1 L (v :: st) S) o := pd_Gs (i := .aload_n 1) (n := 1) rfl
theorem p65_1 : pd_G xs Ls d pd_m65 (1, L, st, S) o ↔ pd_K xs Ls d pd_m65 (mm_go 2 L (.int 0 :: st) S) o := pd_Gs (i := .iconst 0) (n := 1) rfl
theorem p65_2 : pd_G xs Ls d pd_m65 (2, L, st, S) o ↔ pd_K xs Ls d pd_m65 (mm_putf pd_ck 2 L st S 6 0) o := pd_Gs (i := .putfield 89) (n := 3) rfl
theorem p65_5 : pd_G xs Ls d pd_m65 (5, L, st, S) o ↔ pd_K xs Ls d pd_m65 (mm_lA L 0 fun v => mm_go 6 L (v :: st) S) o := pd_Gs (i := .aload_n 0) (n := 1) rfl
theorem p65_6 : pd_G xs Ls d pd_m65 (6, L, st, S) o ↔ pd_K xs Ls d pd_m65 (mm_1 st fun v r => cond (mm_c2 v) none (mm_go 7 L (v :: v :: r) S)) o := pd_Gs (i := .dup) (n := 1) rfl
theorem p65_7 : pd_G xs Ls d pd_m65 (7, L, st, S) o ↔ pd_K xs Ls d pd_m65 (mm_getf pd_ck 7 L st S 3 11) o := pd_Gs (i := .getfield 55) (n := 3) rfl
theorem p65_10 : pd_G xs Ls d pd_m65 (10, L, st, S) o ↔ pd_K xs Ls d pd_m65 (mm_go 11 L (.int 1 :: st) S) o := pd_Gs (i := .iconst 1) (n := 1) rfl
theorem p65_11 : pd_G xs Ls d pd_m65 (11, L, st, S) o ↔ pd_K xs Ls d pd_m65 (mm_ii st fun x y r => mm_go 12 L (.int (x - y) :: r) S) o := pd_Gs (i := .isub) (n := 1) rfl
theorem p65_12 : pd_G xs Ls d pd_m65 (12, L, st, S) o ↔ pd_K xs Ls d pd_m65 (mm_putf pd_ck 12 L st S 3 11) o := pd_Gs (i := .putfield 55) (n := 3) rfl
theorem p65_15 : pd_G xs Ls d pd_m65 (15, L, st, S) o ↔ pd_K xs Ls d pd_m65 (mm_lA L 1 fun v => mm_go 16 L (v :: st) S) o := pd_Gs (i := .aload_n 1) (n := 1) rfl
theorem p65_16 : pd_G xs Ls d pd_m65 (16, L, st, S) o ↔ pd_K xs Ls d pd_m65 (mm_getf pd_ck 16 L st S 6 1) o := pd_Gs (i := .getfield 214) (n := 3) rfl
theorem p65_19 : pd_G xs Ls d pd_m65 (19, L, st, S) o ↔ pd_K xs Ls d pd_m65 (mm_go 20 L (.int (-1) :: st) S) o := pd_Gs (i := .iconst (-1)) (n := 1) rfl
theorem p65_20 : pd_G xs Ls d pd_m65 (20, L, st, S) o ↔ pd_K xs Ls d pd_m65 (mm_ii st fun x y r => mm_icmp .ne x y (mm_go 25 L r S) (mm_go 23 L r S)) o := pd_Gs (i := .if_icmp .ne 5) (n := 3) rfl
theorem p65_23 : pd_G xs Ls d pd_m65 (23, L, st, S) o ↔ pd_K xs Ls d pd_m65 (mm_go 24 L (.int (-1) :: st) S) o := pd_Gs (i := .iconst (-1)) (n := 1) rfl
theorem p65_24 : pd_G xs Ls d pd_m65 (24, L, st, S) o ↔ pd_K xs Ls d pd_m65 (mm_e0 S st) o := pd_Gs (i := .ireturn) (n := 1) rfl
theorem p65_25 : pd_G xs Ls d pd_m65 (25, L, st, S) o ↔ pd_K xs Ls d pd_m65 (mm_lA L 0 fun v => mm_go 26 L (v :: st) S) o := pd_Gs (i := .aload_n 0) (n := 1) rfl
theorem p65_26 : pd_G xs Ls d pd_m65 (26, L, st, S) o ↔ pd_K xs Ls d pd_m65 (mm_getf pd_ck 26 L st S 3 10) o := pd_Gs (i := .getfield 42) (n := 3) rfl
theorem p65_29 : pd_G xs Ls d pd_m65 (29, L, st, S) o ↔ pd_K xs Ls d pd_m65 (mm_lA L 1 fun v => mm_go 30 L (v :: st) S) o := pd_Gs (i := .aload_n 1) (n := 1) rfl
theorem p65_30 : pd_G xs Ls d pd_m65 (30, L, st, S) o ↔ pd_K xs Ls d pd_m65 (mm_getf pd_ck 30 L st S 6 1) o := pd_Gs (i := .getfield 214) (n := 3) rfl
theorem p65_33 : pd_G xs Ls d pd_m65 (33, L, st, S) o ↔ pd_K xs Ls d pd_m65 (mm_ai pd_ak S st 5 fun i a r => mm_go 34 L (va_rf (S.2.1.2.2.1 a i.toNatClampNeg) :: r) S) o := pd_Gs (i := .aaload) (n := 1) rfl
theorem p65_34 : pd_G xs Ls d pd_m65 (34, L, st, S) o ↔ pd_K xs Ls d pd_m65 (mm_r st fun x r => mm_go 35 (mm_sto L 0 2 (.ref x)) r S) o := pd_Gs (i := .astore_n 2) (n := 1) rfl
theorem p65_35 : pd_G xs Ls d pd_m65 (35, L, st, S) o ↔ pd_K xs Ls d pd_m65 (mm_lA L 2 fun v => mm_go 36 L (v :: st) S) o := pd_Gs (i := .aload_n 2) (n := 1) rfl
theorem p65_36 : pd_G xs Ls d pd_m65 (36, L, st, S) o ↔ pd_K xs Ls d pd_m65 (mm_1 st fun v r => cond (mm_c2 v) none (mm_go 37 L (v :: v :: r) S)) o := pd_Gs (i := .dup) (n := 1) rfl
theorem p65_37 : pd_G xs Ls d pd_m65 (37, L, st, S) o ↔ pd_K xs Ls d pd_m65 (mm_getf pd_ck 37 L st S 6 2) o := pd_Gs (i := .getfield 183) (n := 3) rfl
theorem p65_40 : pd_G xs Ls d pd_m65 (40, L, st, S) o ↔ pd_K xs Ls d pd_m65 (mm_go 41 L (.int 1 :: st) S) o := pd_Gs (i := .iconst 1) (n := 1) rfl
theorem p65_41 : pd_G xs Ls d pd_m65 (41, L, st, S) o ↔ pd_K xs Ls d pd_m65 (mm_ii st fun x y r => mm_go 42 L (.int (x - y) :: r) S) o := pd_Gs (i := .isub) (n := 1) rfl
theorem p65_42 : pd_G xs Ls d pd_m65 (42, L, st, S) o ↔ pd_K xs Ls d pd_m65 (mm_putf pd_ck 42 L st S 6 2) o := pd_Gs (i := .putfield 183) (n := 3) rfl
theorem p65_45 : pd_G xs Ls d pd_m65 (45, L, st, S) o ↔ pd_K xs Ls d pd_m65 (mm_lA L 2 fun v => mm_go 46 L (v :: st) S) o := pd_Gs (i := .aload_n 2) (n := 1) rfl
theorem p65_46 : pd_G xs Ls d pd_m65 (46, L, st, S) o ↔ pd_K xs Ls d pd_m65 (mm_getf pd_ck 46 L st S 6 2) o := pd_Gs (i := .getfield 183) (n := 3) rfl
theorem p65_49 : pd_G xs Ls d pd_m65 (49, L, st, S) o ↔ pd_K xs Ls d pd_m65 (mm_i st fun x r => mm_icmp .le x 0 (mm_go 54 L r S) (mm_go 52 L r S)) o := pd_Gs (i := .ifCond .le 5) (n := 3) rfl
theorem p65_52 : pd_G xs Ls d pd_m65 (52, L, st, S) o ↔ pd_K xs Ls d pd_m65 (mm_go 53 L (.int (-1) :: st) S) o := pd_Gs (i := .iconst (-1)) (n := 1) rfl
theorem p65_53 : pd_G xs Ls d pd_m65 (53, L, st, S) o ↔ pd_K xs Ls d pd_m65 (mm_e0 S st) o := pd_Gs (i := .ireturn) (n := 1) rfl
theorem p65_54 : pd_G xs Ls d pd_m65 (54, L, st, S) o ↔ pd_K xs Ls d pd_m65 (mm_lA L 2 fun v => mm_go 55 L (v :: st) S) o := pd_Gs (i := .aload_n 2) (n := 1) rfl
theorem p65_55 : pd_G xs Ls d pd_m65 (55, L, st, S) o ↔ pd_K xs Ls d pd_m65 (mm_go 56 L (.int 1 :: st) S) o := pd_Gs (i := .iconst 1) (n := 1) rfl
theorem p65_56 : pd_G xs Ls d pd_m65 (56, L, st, S) o ↔ pd_K xs Ls d pd_m65 (mm_putf pd_ck 56 L st S 6 0) o := pd_Gs (i := .putfield 89) (n := 3) rfl
theorem p65_59 : pd_G xs Ls d pd_m65 (59, L, st, S) o ↔ pd_K xs Ls d pd_m65 (mm_lA L 1 fun v => mm_go 60 L (v :: st) S) o := pd_Gs (i := .aload_n 1) (n := 1) rfl
theorem p65_60 : pd_G xs Ls d pd_m65 (60, L, st, S) o ↔ pd_K xs Ls d pd_m65 (mm_getf pd_ck 60 L st S 6 1) o := pd_Gs (i := .getfield 214) (n := 3) rfl
theorem p65_63 : pd_G xs Ls d pd_m65 (63, L, st, S) o ↔ pd_K xs Ls d pd_m65 (mm_e0 S st) o := pd_Gs (i := .ireturn) (n := 1) rfl
end PCS
