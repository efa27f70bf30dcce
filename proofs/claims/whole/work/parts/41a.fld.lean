/-! fields and cells by their places (printed by gen_fld.py) -/
section FLD
variable {I : pd_I} {D : pd_D} {A : pd_A} {J : pd_J} {n a pc : Nat} {L : mm_L} {r : List Value}
theorem sh0 : pd_SH[0]? = some (.inl 0) := rfl
theorem sh1 : pd_SH[1]? = some (.inl 2) := rfl
theorem sh2 : pd_SH[2]? = some (.inr (1, 48)) := rfl
theorem sh3 : pd_SH[3]? = some (.inl 1) := rfl
theorem sh4 : pd_SH[4]? = some (.inr (0, 49)) := rfl
theorem sh5 : pd_SH[5]? = some (.inr (0, 49)) := rfl
theorem sh6 : pd_SH[6]? = some (.inl 3) := rfl
theorem sh7 : pd_SH[7]? = some (.inr (11, 4)) := rfl
theorem sh8 : pd_SH[8]? = some (.inl 1) := rfl
theorem sh9 : pd_SH[9]? = some (.inr (0, 49)) := rfl
theorem sh10 : pd_SH[10]? = some (.inr (0, 49)) := rfl
theorem sh11 : pd_SH[11]? = some (.inl 1) := rfl
theorem sh12 : pd_SH[12]? = some (.inr (0, 49)) := rfl
theorem sh13 : pd_SH[13]? = some (.inr (0, 49)) := rfl
theorem sh14 : pd_SH[14]? = some (.inl 1) := rfl
theorem sh15 : pd_SH[15]? = some (.inr (0, 49)) := rfl
theorem sh16 : pd_SH[16]? = some (.inr (0, 49)) := rfl
theorem sh17 : pd_SH[17]? = some (.inl 1) := rfl
theorem sh18 : pd_SH[18]? = some (.inr (0, 49)) := rfl
theorem sh19 : pd_SH[19]? = some (.inr (0, 49)) := rfl
theorem sh20 : pd_SH[20]? = some (.inl 4) := rfl
theorem sh21 : pd_SH[21]? = some (.inr (2, 11)) := rfl
theorem sh22 : pd_SH[22]? = some (.inr (2, 49)) := rfl
theorem sh23 : pd_SH[23]? = some (.inl 5) := rfl
theorem sh24 : pd_SH[24]? = some (.inr (0, 16)) := rfl
theorem sh25 : pd_SH[25]? = some (.inr (0, 2)) := rfl
theorem sh26 : pd_SH[26]? = some (.inr (2, 12)) := rfl
theorem sh27 : pd_SH[27]? = some (.inr (16, 5)) := rfl
theorem sh28 : pd_SH[28]? = some (.inl 6) := rfl
theorem sh29 : pd_SH[29]? = some (.inr (0, 6)) := rfl
theorem sh30 : pd_SH[30]? = some (.inr (0, 6)) := rfl
theorem sh31 : pd_SH[31]? = some (.inl 6) := rfl
theorem sh32 : pd_SH[32]? = some (.inr (0, 6)) := rfl
theorem sh33 : pd_SH[33]? = some (.inr (0, 6)) := rfl
theorem sh34 : pd_SH[34]? = some (.inl 6) := rfl
theorem sh35 : pd_SH[35]? = some (.inr (0, 6)) := rfl
theorem sh36 : pd_SH[36]? = some (.inr (0, 6)) := rfl
theorem sh37 : pd_SH[37]? = some (.inl 6) := rfl
theorem sh38 : pd_SH[38]? = some (.inr (0, 6)) := rfl
theorem sh39 : pd_SH[39]? = some (.inr (0, 6)) := rfl
theorem sh40 : pd_SH[40]? = some (.inl 6) := rfl
theorem sh41 : pd_SH[41]? = some (.inr (0, 6)) := rfl
theorem sh42 : pd_SH[42]? = some (.inr (0, 6)) := rfl
theorem sh43 : pd_SH[43]? = some (.inl 7) := rfl
theorem sh44 : pd_SH[44]? = some (.inr (0, 48)) := rfl
theorem sh45 : pd_SH[45]? = some (.inr (0, 640)) := rfl
theorem sh46 : pd_SH[46]? = some (.inr (0, 640)) := rfl
theorem sh47 : pd_SH[47]? = some (.inr (0, 640)) := rfl
theorem sh48 : pd_SH[48]? = some (.inr (4, 4)) := rfl
theorem sh49 : pd_SH[49]? = some (.inr (0, 64)) := rfl
theorem sh50 : pd_SH[50]? = some (.inr (0, 64)) := rfl
theorem sh51 : pd_SH[51]? = some (.inr (4, 64)) := rfl
theorem sh52 : pd_SH[52]? = some (.inr (0, 16)) := rfl
theorem sh53 : pd_SH[53]? = some (.inr (2, 11)) := rfl
theorem sh54 : pd_SH[54]? = some (.inr (2, 12)) := rfl
theorem sh55 : pd_SH[55]? = some (.inr (2, 64)) := rfl
theorem sh56 : pd_SH[56]? = some (.inr (0, 2)) := rfl
theorem sh57 : pd_SH[57]? = some (.inr (0, 5)) := rfl
theorem sh58 : pd_SH[58]? = some (.inr (0, 5)) := rfl
theorem sh59 : pd_SH[59]? = some (.inr (0, 5)) := rfl
theorem sh60 : pd_SH[60]? = some (.inr (0, 5)) := rfl
theorem sh61 : pd_SH[61]? = some (.inr (0, 5)) := rfl
theorem sh62 : pd_SH[62]? = some (.inr (0, 5)) := rfl
theorem sh63 : pd_SH[63]? = some (.inr (0, 40)) := rfl
theorem sh64 : pd_SH[64]? = some (.inr (0, 5)) := rfl
theorem sh65 : pd_SH[65]? = some (.inr (0, 5)) := rfl
theorem sh66 : pd_SH[66]? = some (.inr (3, 1)) := rfl
theorem sh67 : pd_SH[67]? = some (.inr (2, 1)) := rfl
theorem gf0_0 (h : pd_SH[a]? = some (.inl 0)) : mm_getf pd_ck pc L (.ref a :: r) (pd_st I D A J n) 0 0 = mm_go (pc + 3) L (va_rf (A a 0) :: r) (pd_st I D A J n) := pd_gr h rfl
theorem pf0_0 {x : Nat} (h : pd_SH[a]? = some (.inl 0)) : mm_putf pd_ck pc L (.ref x :: .ref a :: r) (pd_st I D A J n) 0 0 = mm_go (pc + 3) L r (pd_st I D (mm_u A a 0 (some x)) J n) := pd_pa h rfl
theorem gf0_1 (h : pd_SH[a]? = some (.inl 0)) : mm_getf pd_ck pc L (.ref a :: r) (pd_st I D A J n) 0 1 = mm_go (pc + 3) L (va_rf (A a 1) :: r) (pd_st I D A J n) := pd_gr h rfl
theorem pf0_1 {x : Nat} (h : pd_SH[a]? = some (.inl 0)) : mm_putf pd_ck pc L (.ref x :: .ref a :: r) (pd_st I D A J n) 0 1 = mm_go (pc + 3) L r (pd_st I D (mm_u A a 1 (some x)) J n) := pd_pa h rfl
theorem gf0_2 (h : pd_SH[a]? = some (.inl 0)) : mm_getf pd_ck pc L (.ref a :: r) (pd_st I D A J n) 0 2 = mm_go (pc + 3) L (.int (I a 2) :: r) (pd_st I D A J n) := pd_gi h (Or.inl rfl)
theorem pf0_2 {x : Int32} (h : pd_SH[a]? = some (.inl 0)) : mm_putf pd_ck pc L (.int x :: .ref a :: r) (pd_st I D A J n) 0 2 = mm_go (pc + 3) L r (pd_st (mm_u I a 2 x) D A J n) := pd_pi h rfl
theorem gf1_0 (h : pd_SH[a]? = some (.inl 1)) : mm_getf pd_ck pc L (.ref a :: r) (pd_st I D A J n) 1 0 = mm_go (pc + 3) L (va_rf (A a 0) :: r) (pd_st I D A J n) := pd_gr h rfl
theorem pf1_0 {x : Nat} (h : pd_SH[a]? = some (.inl 1)) : mm_putf pd_ck pc L (.ref x :: .ref a :: r) (pd_st I D A J n) 1 0 = mm_go (pc + 3) L r (pd_st I D (mm_u A a 0 (some x)) J n) := pd_pa h rfl
theorem gf1_1 (h : pd_SH[a]? = some (.inl 1)) : mm_getf pd_ck pc L (.ref a :: r) (pd_st I D A J n) 1 1 = mm_go (pc + 3) L (va_rf (A a 1) :: r) (pd_st I D A J n) := pd_gr h rfl
theorem pf1_1 {x : Nat} (h : pd_SH[a]? = some (.inl 1)) : mm_putf pd_ck pc L (.ref x :: .ref a :: r) (pd_st I D A J n) 1 1 = mm_go (pc + 3) L r (pd_st I D (mm_u A a 1 (some x)) J n) := pd_pa h rfl
theorem gf1_2 (h : pd_SH[a]? = some (.inl 1)) : mm_getf pd_ck pc L (.ref a :: r) (pd_st I D A J n) 1 2 = mm_go (pc + 3) L (.int (I a 2) :: r) (pd_st I D A J n) := pd_gi h (Or.inl rfl)
theorem pf1_2 {x : Int32} (h : pd_SH[a]? = some (.inl 1)) : mm_putf pd_ck pc L (.int x :: .ref a :: r) (pd_st I D A J n) 1 2 = mm_go (pc + 3) L r (pd_st (mm_u I a 2 x) D A J n) := pd_pi h rfl
theorem gf1_3 (h : pd_SH[a]? = some (.inl 1)) : mm_getf pd_ck pc L (.ref a :: r) (pd_st I D A J n) 1 3 = mm_go (pc + 3) L (.int (I a 3) :: r) (pd_st I D A J n) := pd_gi h (Or.inl rfl)
theorem pf1_3 {x : Int32} (h : pd_SH[a]? = some (.inl 1)) : mm_putf pd_ck pc L (.int x :: .ref a :: r) (pd_st I D A J n) 1 3 = mm_go (pc + 3) L r (pd_st (mm_u I a 3 x) D A J n) := pd_pi h rfl
theorem gf1_4 (h : pd_SH[a]? = some (.inl 1)) : mm_getf pd_ck pc L (.ref a :: r) (pd_st I D A J n) 1 4 = mm_go (pc + 3) L (.int (I a 4) :: r) (pd_st I D A J n) := pd_gi h (Or.inr rfl)
theorem pf1_4 {x : Int32} (h : pd_SH[a]? = some (.inl 1)) (hx : x = 0 ∨ x = 1) : mm_putf pd_ck pc L (.int x :: .ref a :: r) (pd_st I D A J n) 1 4 = mm_go (pc + 3) L r (pd_st (mm_u I a 4 x) D A J n) := pd_pz h rfl hx
theorem gf2_0 (h : pd_SH[a]? = some (.inl 2)) : mm_getf pd_ck pc L (.ref a :: r) (pd_st I D A J n) 2 0 = mm_go (pc + 3) L (va_rf (A a 0) :: r) (pd_st I D A J n) := pd_gr h rfl
theorem pf2_0 {x : Nat} (h : pd_SH[a]? = some (.inl 2)) : mm_putf pd_ck pc L (.ref x :: .ref a :: r) (pd_st I D A J n) 2 0 = mm_go (pc + 3) L r (pd_st I D (mm_u A a 0 (some x)) J n) := pd_pa h rfl
theorem gf2_1 (h : pd_SH[a]? = some (.inl 2)) : mm_getf pd_ck pc L (.ref a :: r) (pd_st I D A J n) 2 1 = mm_go (pc + 3) L (.int (I a 1) :: r) (pd_st I D A J n) := pd_gi h (Or.inl rfl)
theorem pf2_1 {x : Int32} (h : pd_SH[a]? = some (.inl 2)) : mm_putf pd_ck pc L (.int x :: .ref a :: r) (pd_st I D A J n) 2 1 = mm_go (pc + 3) L r (pd_st (mm_u I a 1 x) D A J n) := pd_pi h rfl
theorem gf2_2 (h : pd_SH[a]? = some (.inl 2)) : mm_getf pd_ck pc L (.ref a :: r) (pd_st I D A J n) 2 2 = mm_go (pc + 3) L (va_rf (A a 2) :: r) (pd_st I D A J n) := pd_gr h rfl
theorem pf2_2 {x : Nat} (h : pd_SH[a]? = some (.inl 2)) : mm_putf pd_ck pc L (.ref x :: .ref a :: r) (pd_st I D A J n) 2 2 = mm_go (pc + 3) L r (pd_st I D (mm_u A a 2 (some x)) J n) := pd_pa h rfl
theorem gf2_3 (h : pd_SH[a]? = some (.inl 2)) : mm_getf pd_ck pc L (.ref a :: r) (pd_st I D A J n) 2 3 = mm_go (pc + 3) L (.int (I a 3) :: r) (pd_st I D A J n) := pd_gi h (Or.inl rfl)
theorem pf2_3 {x : Int32} (h : pd_SH[a]? = some (.inl 2)) : mm_putf pd_ck pc L (.int x :: .ref a :: r) (pd_st I D A J n) 2 3 = mm_go (pc + 3) L r (pd_st (mm_u I a 3 x) D A J n) := pd_pi h rfl
theorem gf2_4 (h : pd_SH[a]? = some (.inl 2)) : mm_getf pd_ck pc L (.ref a :: r) (pd_st I D A J n) 2 4 = mm_go (pc + 3) L (.int (I a 4) :: r) (pd_st I D A J n) := pd_gi h (Or.inr rfl)
theorem pf2_4 {x : Int32} (h : pd_SH[a]? = some (.inl 2)) (hx : x = 0 ∨ x = 1) : mm_putf pd_ck pc L (.int x :: .ref a :: r) (pd_st I D A J n) 2 4 = mm_go (pc + 3) L r (pd_st (mm_u I a 4 x) D A J n) := pd_pz h rfl hx
theorem gf2_5 (h : pd_SH[a]? = some (.inl 2)) : mm_getf pd_ck pc L (.ref a :: r) (pd_st I D A J n) 2 5 = mm_go (pc + 3) L (.int (I a 5) :: r) (pd_st I D A J n) := pd_gi h (Or.inr rfl)
theorem pf2_5 {x : Int32} (h : pd_SH[a]? = some (.inl 2)) (hx : x = 0 ∨ x = 1) : mm_putf pd_ck pc L (.int x :: .ref a :: r) (pd_st I D A J n) 2 5 = mm_go (pc + 3) L r (pd_st (mm_u I a 5 x) D A J n) := pd_pz h rfl hx
theorem gf3_0 (h : pd_SH[a]? = some (.inl 3)) : mm_getf pd_ck pc L (.ref a :: r) (pd_st I D A J n) 3 0 = mm_go (pc + 3) L (va_rf (A a 0) :: r) (pd_st I D A J n) := pd_gr h rfl
theorem pf3_0 {x : Nat} (h : pd_SH[a]? = some (.inl 3)) : mm_putf pd_ck pc L (.ref x :: .ref a :: r) (pd_st I D A J n) 3 0 = mm_go (pc + 3) L r (pd_st I D (mm_u A a 0 (some x)) J n) := pd_pa h rfl
theorem gf3_1 (h : pd_SH[a]? = some (.inl 3)) : mm_getf pd_ck pc L (.ref a :: r) (pd_st I D A J n) 3 1 = mm_go (pc + 3) L (va_rf (A a 1) :: r) (pd_st I D A J n) := pd_gr h rfl
theorem pf3_1 {x : Nat} (h : pd_SH[a]? = some (.inl 3)) : mm_putf pd_ck pc L (.ref x :: .ref a :: r) (pd_st I D A J n) 3 1 = mm_go (pc + 3) L r (pd_st I D (mm_u A a 1 (some x)) J n) := pd_pa h rfl
theorem gf3_2 (h : pd_SH[a]? = some (.inl 3)) : mm_getf pd_ck pc L (.ref a :: r) (pd_st I D A J n) 3 2 = mm_go (pc + 3) L (va_rf (A a 2) :: r) (pd_st I D A J n) := pd_gr h rfl
theorem pf3_2 {x : Nat} (h : pd_SH[a]? = some (.inl 3)) : mm_putf pd_ck pc L (.ref x :: .ref a :: r) (pd_st I D A J n) 3 2 = mm_go (pc + 3) L r (pd_st I D (mm_u A a 2 (some x)) J n) := pd_pa h rfl
theorem gf3_3 (h : pd_SH[a]? = some (.inl 3)) : mm_getf pd_ck pc L (.ref a :: r) (pd_st I D A J n) 3 3 = mm_go (pc + 3) L (va_rf (A a 3) :: r) (pd_st I D A J n) := pd_gr h rfl
theorem pf3_3 {x : Nat} (h : pd_SH[a]? = some (.inl 3)) : mm_putf pd_ck pc L (.ref x :: .ref a :: r) (pd_st I D A J n) 3 3 = mm_go (pc + 3) L r (pd_st I D (mm_u A a 3 (some x)) J n) := pd_pa h rfl
theorem gf3_4 (h : pd_SH[a]? = some (.inl 3)) : mm_getf pd_ck pc L (.ref a :: r) (pd_st I D A J n) 3 4 = mm_go (pc + 3) L (va_rf (A a 4) :: r) (pd_st I D A J n) := pd_gr h rfl
theorem pf3_4 {x : Nat} (h : pd_SH[a]? = some (.inl 3)) : mm_putf pd_ck pc L (.ref x :: .ref a :: r) (pd_st I D A J n) 3 4 = mm_go (pc + 3) L r (pd_st I D (mm_u A a 4 (some x)) J n) := pd_pa h rfl
theorem gf3_5 (h : pd_SH[a]? = some (.inl 3)) : mm_getf pd_ck pc L (.ref a :: r) (pd_st I D A J n) 3 5 = mm_go (pc + 3) L (.int (I a 5) :: r) (pd_st I D A J n) := pd_gi h (Or.inl rfl)
theorem pf3_5 {x : Int32} (h : pd_SH[a]? = some (.inl 3)) : mm_putf pd_ck pc L (.int x :: .ref a :: r) (pd_st I D A J n) 3 5 = mm_go (pc + 3) L r (pd_st (mm_u I a 5 x) D A J n) := pd_pi h rfl
theorem gf3_6 (h : pd_SH[a]? = some (.inl 3)) : mm_getf pd_ck pc L (.ref a :: r) (pd_st I D A J n) 3 6 = mm_go (pc + 3) L (.int (I a 6) :: r) (pd_st I D A J n) := pd_gi h (Or.inl rfl)
theorem pf3_6 {x : Int32} (h : pd_SH[a]? = some (.inl 3)) : mm_putf pd_ck pc L (.int x :: .ref a :: r) (pd_st I D A J n) 3 6 = mm_go (pc + 3) L r (pd_st (mm_u I a 6 x) D A J n) := pd_pi h rfl
theorem gf3_7 (h : pd_SH[a]? = some (.inl 3)) : mm_getf pd_ck pc L (.ref a :: r) (pd_st I D A J n) 3 7 = mm_go (pc + 3) L (.int (I a 7) :: r) (pd_st I D A J n) := pd_gi h (Or.inl rfl)
theorem pf3_7 {x : Int32} (h : pd_SH[a]? = some (.inl 3)) : mm_putf pd_ck pc L (.int x :: .ref a :: r) (pd_st I D A J n) 3 7 = mm_go (pc + 3) L r (pd_st (mm_u I a 7 x) D A J n) := pd_pi h rfl
theorem gf3_8 (h : pd_SH[a]? = some (.inl 3)) : mm_getf pd_ck pc L (.ref a :: r) (pd_st I D A J n) 3 8 = mm_go (pc + 3) L (.int (I a 8) :: r) (pd_st I D A J n) := pd_gi h (Or.inl rfl)
theorem pf3_8 {x : Int32} (h : pd_SH[a]? = some (.inl 3)) : mm_putf pd_ck pc L (.int x :: .ref a :: r) (pd_st I D A J n) 3 8 = mm_go (pc + 3) L r (pd_st (mm_u I a 8 x) D A J n) := pd_pi h rfl
theorem gf3_9 (h : pd_SH[a]? = some (.inl 3)) : mm_getf pd_ck pc L (.ref a :: r) (pd_st I D A J n) 3 9 = mm_go (pc + 3) L (.int (I a 9) :: r) (pd_st I D A J n) := pd_gi h (Or.inl rfl)
theorem pf3_9 {x : Int32} (h : pd_SH[a]? = some (.inl 3)) : mm_putf pd_ck pc L (.int x :: .ref a :: r) (pd_st I D A J n) 3 9 = mm_go (pc + 3) L r (pd_st (mm_u I a 9 x) D A J n) := pd_pi h rfl
theorem gf3_10 (h : pd_SH[a]? = some (.inl 3)) : mm_getf pd_ck pc L (.ref a :: r) (pd_st I D A J n) 3 10 = mm_go (pc + 3) L (va_rf (A a 10) :: r) (pd_st I D A J n) := pd_gr h rfl
theorem pf3_10 {x : Nat} (h : pd_SH[a]? = some (.inl 3)) : mm_putf pd_ck pc L (.ref x :: .ref a :: r) (pd_st I D A J n) 3 10 = mm_go (pc + 3) L r (pd_st I D (mm_u A a 10 (some x)) J n) := pd_pa h rfl
theorem gf3_11 (h : pd_SH[a]? = some (.inl 3)) : mm_getf pd_ck pc L (.ref a :: r) (pd_st I D A J n) 3 11 = mm_go (pc + 3) L (.int (I a 11) :: r) (pd_st I D A J n) := pd_gi h (Or.inl rfl)
theorem pf3_11 {x : Int32} (h : pd_SH[a]? = some (.inl 3)) : mm_putf pd_ck pc L (.int x :: .ref a :: r) (pd_st I D A J n) 3 11 = mm_go (pc + 3) L r (pd_st (mm_u I a 11 x) D A J n) := pd_pi h rfl
theorem gf4_0 (h : pd_SH[a]? = some (.inl 4)) : mm_getf pd_ck pc L (.ref a :: r) (pd_st I D A J n) 4 0 = mm_go (pc + 3) L (va_rf (A a 0) :: r) (pd_st I D A J n) := pd_gr h rfl
theorem pf4_0 {x : Nat} (h : pd_SH[a]? = some (.inl 4)) : mm_putf pd_ck pc L (.ref x :: .ref a :: r) (pd_st I D A J n) 4 0 = mm_go (pc + 3) L r (pd_st I D (mm_u A a 0 (some x)) J n) := pd_pa h rfl
theorem gf4_1 (h : pd_SH[a]? = some (.inl 4)) : mm_getf pd_ck pc L (.ref a :: r) (pd_st I D A J n) 4 1 = mm_go (pc + 3) L (va_rf (A a 1) :: r) (pd_st I D A J n) := pd_gr h rfl
theorem pf4_1 {x : Nat} (h : pd_SH[a]? = some (.inl 4)) : mm_putf pd_ck pc L (.ref x :: .ref a :: r) (pd_st I D A J n) 4 1 = mm_go (pc + 3) L r (pd_st I D (mm_u A a 1 (some x)) J n) := pd_pa h rfl
theorem gf4_2 (h : pd_SH[a]? = some (.inl 4)) : mm_getf pd_ck pc L (.ref a :: r) (pd_st I D A J n) 4 2 = mm_go (pc + 3) L (.int (I a 2) :: r) (pd_st I D A J n) := pd_gi h (Or.inl rfl)
theorem pf4_2 {x : Int32} (h : pd_SH[a]? = some (.inl 4)) : mm_putf pd_ck pc L (.int x :: .ref a :: r) (pd_st I D A J n) 4 2 = mm_go (pc + 3) L r (pd_st (mm_u I a 2 x) D A J n) := pd_pi h rfl
theorem gf5_0 (h : pd_SH[a]? = some (.inl 5)) : mm_getf pd_ck pc L (.ref a :: r) (pd_st I D A J n) 5 0 = mm_go (pc + 3) L (va_rf (A a 0) :: r) (pd_st I D A J n) := pd_gr h rfl
theorem pf5_0 {x : Nat} (h : pd_SH[a]? = some (.inl 5)) : mm_putf pd_ck pc L (.ref x :: .ref a :: r) (pd_st I D A J n) 5 0 = mm_go (pc + 3) L r (pd_st I D (mm_u A a 0 (some x)) J n) := pd_pa h rfl
theorem gf5_1 (h : pd_SH[a]? = some (.inl 5)) : mm_getf pd_ck pc L (.ref a :: r) (pd_st I D A J n) 5 1 = mm_go (pc + 3) L (.int (I a 1) :: r) (pd_st I D A J n) := pd_gi h (Or.inl rfl)
theorem pf5_1 {x : Int32} (h : pd_SH[a]? = some (.inl 5)) : mm_putf pd_ck pc L (.int x :: .ref a :: r) (pd_st I D A J n) 5 1 = mm_go (pc + 3) L r (pd_st (mm_u I a 1 x) D A J n) := pd_pi h rfl
theorem gf5_2 (h : pd_SH[a]? = some (.inl 5)) : mm_getf pd_ck pc L (.ref a :: r) (pd_st I D A J n) 5 2 = mm_go (pc + 3) L (.int (I a 2) :: r) (pd_st I D A J n) := pd_gi h (Or.inl rfl)
theorem pf5_2 {x : Int32} (h : pd_SH[a]? = some (.inl 5)) : mm_putf pd_ck pc L (.int x :: .ref a :: r) (pd_st I D A J n) 5 2 = mm_go (pc + 3) L r (pd_st (mm_u I a 2 x) D A J n) := pd_pi h rfl
theorem gf6_0 (h : pd_SH[a]? = some (.inl 6)) : mm_getf pd_ck pc L (.ref a :: r) (pd_st I D A J n) 6 0 = mm_go (pc + 3) L (.int (I a 0) :: r) (pd_st I D A J n) := pd_gi h (Or.inl rfl)
theorem pf6_0 {x : Int32} (h : pd_SH[a]? = some (.inl 6)) : mm_putf pd_ck pc L (.int x :: .ref a :: r) (pd_st I D A J n) 6 0 = mm_go (pc + 3) L r (pd_st (mm_u I a 0 x) D A J n) := pd_pi h rfl
theorem gf6_1 (h : pd_SH[a]? = some (.inl 6)) : mm_getf pd_ck pc L (.ref a :: r) (pd_st I D A J n) 6 1 = mm_go (pc + 3) L (.int (I a 1) :: r) (pd_st I D A J n) := pd_gi h (Or.inl rfl)
theorem pf6_1 {x : Int32} (h : pd_SH[a]? = some (.inl 6)) : mm_putf pd_ck pc L (.int x :: .ref a :: r) (pd_st I D A J n) 6 1 = mm_go (pc + 3) L r (pd_st (mm_u I a 1 x) D A J n) := pd_pi h rfl
theorem gf6_2 (h : pd_SH[a]? = some (.inl 6)) : mm_getf pd_ck pc L (.ref a :: r) (pd_st I D A J n) 6 2 = mm_go (pc + 3) L (.int (I a 2) :: r) (pd_st I D A J n) := pd_gi h (Or.inl rfl)
theorem pf6_2 {x : Int32} (h : pd_SH[a]? = some (.inl 6)) : mm_putf pd_ck pc L (.int x :: .ref a :: r) (pd_st I D A J n) 6 2 = mm_go (pc + 3) L r (pd_st (mm_u I a 2 x) D A J n) := pd_pi h rfl
theorem gf6_3 (h : pd_SH[a]? = some (.inl 6)) : mm_getf pd_ck pc L (.ref a :: r) (pd_st I D A J n) 6 3 = mm_go (pc + 3) L (.int (I a 3) :: r) (pd_st I D A J n) := pd_gi h (Or.inl rfl)
theorem pf6_3 {x : Int32} (h : pd_SH[a]? = some (.inl 6)) : mm_putf pd_ck pc L (.int x :: .ref a :: r) (pd_st I D A J n) 6 3 = mm_go (pc + 3) L r (pd_st (mm_u I a 3 x) D A J n) := pd_pi h rfl
theorem gf6_4 (h : pd_SH[a]? = some (.inl 6)) : mm_getf pd_ck pc L (.ref a :: r) (pd_st I D A J n) 6 4 = mm_go (pc + 3) L (.int (I a 4) :: r) (pd_st I D A J n) := pd_gi h (Or.inl rfl)
theorem pf6_4 {x : Int32} (h : pd_SH[a]? = some (.inl 6)) : mm_putf pd_ck pc L (.int x :: .ref a :: r) (pd_st I D A J n) 6 4 = mm_go (pc + 3) L r (pd_st (mm_u I a 4 x) D A J n) := pd_pi h rfl
theorem gf6_5 (h : pd_SH[a]? = some (.inl 6)) : mm_getf pd_ck pc L (.ref a :: r) (pd_st I D A J n) 6 5 = mm_go (pc + 3) L (.int (I a 5) :: r) (pd_st I D A J n) := pd_gi h (Or.inl rfl)
theorem pf6_5 {x : Int32} (h : pd_SH[a]? = some (.inl 6)) : mm_putf pd_ck pc L (.int x :: .ref a :: r) (pd_st I D A J n) 6 5 = mm_go (pc + 3) L r (pd_st (mm_u I a 5 x) D A J n) := pd_pi h rfl
theorem gf6_6 (h : pd_SH[a]? = some (.inl 6)) : mm_getf pd_ck pc L (.ref a :: r) (pd_st I D A J n) 6 6 = mm_go (pc + 3) L (.int (I a 6) :: r) (pd_st I D A J n) := pd_gi h (Or.inl rfl)
theorem pf6_6 {x : Int32} (h : pd_SH[a]? = some (.inl 6)) : mm_putf pd_ck pc L (.int x :: .ref a :: r) (pd_st I D A J n) 6 6 = mm_go (pc + 3) L r (pd_st (mm_u I a 6 x) D A J n) := pd_pi h rfl
theorem gf6_7 (h : pd_SH[a]? = some (.inl 6)) : mm_getf pd_ck pc L (.ref a :: r) (pd_st I D A J n) 6 7 = mm_go (pc + 3) L (.int (I a 7) :: r) (pd_st I D A J n) := pd_gi h (Or.inl rfl)
theorem pf6_7 {x : Int32} (h : pd_SH[a]? = some (.inl 6)) : mm_putf pd_ck pc L (.int x :: .ref a :: r) (pd_st I D A J n) 6 7 = mm_go (pc + 3) L r (pd_st (mm_u I a 7 x) D A J n) := pd_pi h rfl
theorem gf6_8 (h : pd_SH[a]? = some (.inl 6)) : mm_getf pd_ck pc L (.ref a :: r) (pd_st I D A J n) 6 8 = mm_go (pc + 3) L (.int (I a 8) :: r) (pd_st I D A J n) := pd_gi h (Or.inl rfl)
theorem pf6_8 {x : Int32} (h : pd_SH[a]? = some (.inl 6)) : mm_putf pd_ck pc L (.int x :: .ref a :: r) (pd_st I D A J n) 6 8 = mm_go (pc + 3) L r (pd_st (mm_u I a 8 x) D A J n) := pd_pi h rfl
theorem gf6_9 (h : pd_SH[a]? = some (.inl 6)) : mm_getf pd_ck pc L (.ref a :: r) (pd_st I D A J n) 6 9 = mm_go (pc + 3) L (va_rf (A a 9) :: r) (pd_st I D A J n) := pd_gr h rfl
theorem pf6_9 {x : Nat} (h : pd_SH[a]? = some (.inl 6)) : mm_putf pd_ck pc L (.ref x :: .ref a :: r) (pd_st I D A J n) 6 9 = mm_go (pc + 3) L r (pd_st I D (mm_u A a 9 (some x)) J n) := pd_pa h rfl
theorem gf6_10 (h : pd_SH[a]? = some (.inl 6)) : mm_getf pd_ck pc L (.ref a :: r) (pd_st I D A J n) 6 10 = mm_go (pc + 3) L (va_rf (A a 10) :: r) (pd_st I D A J n) := pd_gr h rfl
theorem pf6_10 {x : Nat} (h : pd_SH[a]? = some (.inl 6)) : mm_putf pd_ck pc L (.ref x :: .ref a :: r) (pd_st I D A J n) 6 10 = mm_go (pc + 3) L r (pd_st I D (mm_u A a 10 (some x)) J n) := pd_pa h rfl
theorem gf7_0 (h : pd_SH[a]? = some (.inl 7)) : mm_getf pd_ck pc L (.ref a :: r) (pd_st I D A J n) 7 0 = mm_go (pc + 3) L (va_rf (A a 0) :: r) (pd_st I D A J n) := pd_gr h rfl
theorem pf7_0 {x : Nat} (h : pd_SH[a]? = some (.inl 7)) : mm_putf pd_ck pc L (.ref x :: .ref a :: r) (pd_st I D A J n) 7 0 = mm_go (pc + 3) L r (pd_st I D (mm_u A a 0 (some x)) J n) := pd_pa h rfl
theorem gf7_1 (h : pd_SH[a]? = some (.inl 7)) : mm_getf pd_ck pc L (.ref a :: r) (pd_st I D A J n) 7 1 = mm_go (pc + 3) L (va_rf (A a 1) :: r) (pd_st I D A J n) := pd_gr h rfl
theorem pf7_1 {x : Nat} (h : pd_SH[a]? = some (.inl 7)) : mm_putf pd_ck pc L (.ref x :: .ref a :: r) (pd_st I D A J n) 7 1 = mm_go (pc + 3) L r (pd_st I D (mm_u A a 1 (some x)) J n) := pd_pa h rfl
theorem gf7_2 (h : pd_SH[a]? = some (.inl 7)) : mm_getf pd_ck pc L (.ref a :: r) (pd_st I D A J n) 7 2 = mm_go (pc + 3) L (va_rf (A a 2) :: r) (pd_st I D A J n) := pd_gr h rfl
theorem pf7_2 {x : Nat} (h : pd_SH[a]? = some (.inl 7)) : mm_putf pd_ck pc L (.ref x :: .ref a :: r) (pd_st I D A J n) 7 2 = mm_go (pc + 3) L r (pd_st I D (mm_u A a 2 (some x)) J n) := pd_pa h rfl
theorem gf7_3 (h : pd_SH[a]? = some (.inl 7)) : mm_getf pd_ck pc L (.ref a :: r) (pd_st I D A J n) 7 3 = mm_go (pc + 3) L (va_rf (A a 3) :: r) (pd_st I D A J n) := pd_gr h rfl
theorem pf7_3 {x : Nat} (h : pd_SH[a]? = some (.inl 7)) : mm_putf pd_ck pc L (.ref x :: .ref a :: r) (pd_st I D A J n) 7 3 = mm_go (pc + 3) L r (pd_st I D (mm_u A a 3 (some x)) J n) := pd_pa h rfl
theorem gf7_4 (h : pd_SH[a]? = some (.inl 7)) : mm_getf pd_ck pc L (.ref a :: r) (pd_st I D A J n) 7 4 = mm_go (pc + 3) L (va_rf (A a 4) :: r) (pd_st I D A J n) := pd_gr h rfl
theorem pf7_4 {x : Nat} (h : pd_SH[a]? = some (.inl 7)) : mm_putf pd_ck pc L (.ref x :: .ref a :: r) (pd_st I D A J n) 7 4 = mm_go (pc + 3) L r (pd_st I D (mm_u A a 4 (some x)) J n) := pd_pa h rfl
theorem gf7_5 (h : pd_SH[a]? = some (.inl 7)) : mm_getf pd_ck pc L (.ref a :: r) (pd_st I D A J n) 7 5 = mm_go (pc + 3) L (va_rf (A a 5) :: r) (pd_st I D A J n) := pd_gr h rfl
theorem pf7_5 {x : Nat} (h : pd_SH[a]? = some (.inl 7)) : mm_putf pd_ck pc L (.ref x :: .ref a :: r) (pd_st I D A J n) 7 5 = mm_go (pc + 3) L r (pd_st I D (mm_u A a 5 (some x)) J n) := pd_pa h rfl
theorem gf7_6 (h : pd_SH[a]? = some (.inl 7)) : mm_getf pd_ck pc L (.ref a :: r) (pd_st I D A J n) 7 6 = mm_go (pc + 3) L (va_rf (A a 6) :: r) (pd_st I D A J n) := pd_gr h rfl
theorem pf7_6 {x : Nat} (h : pd_SH[a]? = some (.inl 7)) : mm_putf pd_ck pc L (.ref x :: .ref a :: r) (pd_st I D A J n) 7 6 = mm_go (pc + 3) L r (pd_st I D (mm_u A a 6 (some x)) J n) := pd_pa h rfl
theorem gf7_7 (h : pd_SH[a]? = some (.inl 7)) : mm_getf pd_ck pc L (.ref a :: r) (pd_st I D A J n) 7 7 = mm_go (pc + 3) L (va_rf (A a 7) :: r) (pd_st I D A J n) := pd_gr h rfl
theorem pf7_7 {x : Nat} (h : pd_SH[a]? = some (.inl 7)) : mm_putf pd_ck pc L (.ref x :: .ref a :: r) (pd_st I D A J n) 7 7 = mm_go (pc + 3) L r (pd_st I D (mm_u A a 7 (some x)) J n) := pd_pa h rfl
theorem gf7_8 (h : pd_SH[a]? = some (.inl 7)) : mm_getf pd_ck pc L (.ref a :: r) (pd_st I D A J n) 7 8 = mm_go (pc + 3) L (.int (I a 8) :: r) (pd_st I D A J n) := pd_gi h (Or.inl rfl)
theorem pf7_8 {x : Int32} (h : pd_SH[a]? = some (.inl 7)) : mm_putf pd_ck pc L (.int x :: .ref a :: r) (pd_st I D A J n) 7 8 = mm_go (pc + 3) L r (pd_st (mm_u I a 8 x) D A J n) := pd_pi h rfl
theorem gf7_9 (h : pd_SH[a]? = some (.inl 7)) : mm_getf pd_ck pc L (.ref a :: r) (pd_st I D A J n) 7 9 = mm_go (pc + 3) L (.int (I a 9) :: r) (pd_st I D A J n) := pd_gi h (Or.inl rfl)
theorem pf7_9 {x : Int32} (h : pd_SH[a]? = some (.inl 7)) : mm_putf pd_ck pc L (.int x :: .ref a :: r) (pd_st I D A J n) 7 9 = mm_go (pc + 3) L r (pd_st (mm_u I a 9 x) D A J n) := pd_pi h rfl
theorem gf7_10 (h : pd_SH[a]? = some (.inl 7)) : mm_getf pd_ck pc L (.ref a :: r) (pd_st I D A J n) 7 10 = mm_go (pc + 3) L (.int (I a 10) :: r) (pd_st I D A J n) := pd_gi h (Or.inl rfl)
theorem pf7_10 {x : Int32} (h : pd_SH[a]? = some (.inl 7)) : mm_putf pd_ck pc L (.int x :: .ref a :: r) (pd_st I D A J n) 7 10 = mm_go (pc + 3) L r (pd_st (mm_u I a 10 x) D A J n) := pd_pi h rfl
theorem gf7_11 (h : pd_SH[a]? = some (.inl 7)) : mm_getf pd_ck pc L (.ref a :: r) (pd_st I D A J n) 7 11 = mm_go (pc + 3) L (.int (I a 11) :: r) (pd_st I D A J n) := pd_gi h (Or.inl rfl)
theorem pf7_11 {x : Int32} (h : pd_SH[a]? = some (.inl 7)) : mm_putf pd_ck pc L (.int x :: .ref a :: r) (pd_st I D A J n) 7 11 = mm_go (pc + 3) L r (pd_st (mm_u I a 11 x) D A J n) := pd_pi h rfl
theorem gf7_12 (h : pd_SH[a]? = some (.inl 7)) : mm_getf pd_ck pc L (.ref a :: r) (pd_st I D A J n) 7 12 = mm_go (pc + 3) L (.int (I a 12) :: r) (pd_st I D A J n) := pd_gi h (Or.inl rfl)
theorem pf7_12 {x : Int32} (h : pd_SH[a]? = some (.inl 7)) : mm_putf pd_ck pc L (.int x :: .ref a :: r) (pd_st I D A J n) 7 12 = mm_go (pc + 3) L r (pd_st (mm_u I a 12 x) D A J n) := pd_pi h rfl
theorem gf7_13 (h : pd_SH[a]? = some (.inl 7)) : mm_getf pd_ck pc L (.ref a :: r) (pd_st I D A J n) 7 13 = mm_go (pc + 3) L (.int (I a 13) :: r) (pd_st I D A J n) := pd_gi h (Or.inl rfl)
theorem pf7_13 {x : Int32} (h : pd_SH[a]? = some (.inl 7)) : mm_putf pd_ck pc L (.int x :: .ref a :: r) (pd_st I D A J n) 7 13 = mm_go (pc + 3) L r (pd_st (mm_u I a 13 x) D A J n) := pd_pi h rfl
theorem gf7_14 (h : pd_SH[a]? = some (.inl 7)) : mm_getf pd_ck pc L (.ref a :: r) (pd_st I D A J n) 7 14 = mm_go (pc + 3) L (.int (I a 14) :: r) (pd_st I D A J n) := pd_gi h (Or.inl rfl)
theorem pf7_14 {x : Int32} (h : pd_SH[a]? = some (.inl 7)) : mm_putf pd_ck pc L (.int x :: .ref a :: r) (pd_st I D A J n) 7 14 = mm_go (pc + 3) L r (pd_st (mm_u I a 14 x) D A J n) := pd_pi h rfl
theorem gf7_15 (h : pd_SH[a]? = some (.inl 7)) : mm_getf pd_ck pc L (.ref a :: r) (pd_st I D A J n) 7 15 = mm_go (pc + 3) L (.int (I a 15) :: r) (pd_st I D A J n) := pd_gi h (Or.inl rfl)
theorem pf7_15 {x : Int32} (h : pd_SH[a]? = some (.inl 7)) : mm_putf pd_ck pc L (.int x :: .ref a :: r) (pd_st I D A J n) 7 15 = mm_go (pc + 3) L r (pd_st (mm_u I a 15 x) D A J n) := pd_pi h rfl
theorem gf7_16 (h : pd_SH[a]? = some (.inl 7)) : mm_getf pd_ck pc L (.ref a :: r) (pd_st I D A J n) 7 16 = mm_go (pc + 3) L (.int (I a 16) :: r) (pd_st I D A J n) := pd_gi h (Or.inr rfl)
theorem pf7_16 {x : Int32} (h : pd_SH[a]? = some (.inl 7)) (hx : x = 0 ∨ x = 1) : mm_putf pd_ck pc L (.int x :: .ref a :: r) (pd_st I D A J n) 7 16 = mm_go (pc + 3) L r (pd_st (mm_u I a 16 x) D A J n) := pd_pz h rfl hx
theorem gf7_17 (h : pd_SH[a]? = some (.inl 7)) : mm_getf pd_ck pc L (.ref a :: r) (pd_st I D A J n) 7 17 = mm_go (pc + 3) L (va_rf (A a 17) :: r) (pd_st I D A J n) := pd_gr h rfl
theorem pf7_17 {x : Nat} (h : pd_SH[a]? = some (.inl 7)) : mm_putf pd_ck pc L (.ref x :: .ref a :: r) (pd_st I D A J n) 7 17 = mm_go (pc + 3) L r (pd_st I D (mm_u A a 17 (some x)) J n) := pd_pa h rfl
theorem gf7_18 (h : pd_SH[a]? = some (.inl 7)) : mm_getf pd_ck pc L (.ref a :: r) (pd_st I D A J n) 7 18 = mm_go (pc + 3) L (.int (I a 18) :: r) (pd_st I D A J n) := pd_gi h (Or.inl rfl)
theorem pf7_18 {x : Int32} (h : pd_SH[a]? = some (.inl 7)) : mm_putf pd_ck pc L (.int x :: .ref a :: r) (pd_st I D A J n) 7 18 = mm_go (pc + 3) L r (pd_st (mm_u I a 18 x) D A J n) := pd_pi h rfl
theorem gf7_19 (h : pd_SH[a]? = some (.inl 7)) : mm_getf pd_ck pc L (.ref a :: r) (pd_st I D A J n) 7 19 = mm_go (pc + 3) L (.int (I a 19) :: r) (pd_st I D A J n) := pd_gi h (Or.inl rfl)
theorem pf7_19 {x : Int32} (h : pd_SH[a]? = some (.inl 7)) : mm_putf pd_ck pc L (.int x :: .ref a :: r) (pd_st I D A J n) 7 19 = mm_go (pc + 3) L r (pd_st (mm_u I a 19 x) D A J n) := pd_pi h rfl
theorem gf7_20 (h : pd_SH[a]? = some (.inl 7)) : mm_getf pd_ck pc L (.ref a :: r) (pd_st I D A J n) 7 20 = mm_go (pc + 3) L (va_rf (A a 20) :: r) (pd_st I D A J n) := pd_gr h rfl
theorem pf7_20 {x : Nat} (h : pd_SH[a]? = some (.inl 7)) : mm_putf pd_ck pc L (.ref x :: .ref a :: r) (pd_st I D A J n) 7 20 = mm_go (pc + 3) L r (pd_st I D (mm_u A a 20 (some x)) J n) := pd_pa h rfl
theorem gf7_21 (h : pd_SH[a]? = some (.inl 7)) : mm_getf pd_ck pc L (.ref a :: r) (pd_st I D A J n) 7 21 = mm_go (pc + 3) L (va_rf (A a 21) :: r) (pd_st I D A J n) := pd_gr h rfl
theorem pf7_21 {x : Nat} (h : pd_SH[a]? = some (.inl 7)) : mm_putf pd_ck pc L (.ref x :: .ref a :: r) (pd_st I D A J n) 7 21 = mm_go (pc + 3) L r (pd_st I D (mm_u A a 21 (some x)) J n) := pd_pa h rfl
theorem gf7_22 (h : pd_SH[a]? = some (.inl 7)) : mm_getf pd_ck pc L (.ref a :: r) (pd_st I D A J n) 7 22 = mm_go (pc + 3) L (va_rf (A a 22) :: r) (pd_st I D A J n) := pd_gr h rfl
theorem pf7_22 {x : Nat} (h : pd_SH[a]? = some (.inl 7)) : mm_putf pd_ck pc L (.ref x :: .ref a :: r) (pd_st I D A J n) 7 22 = mm_go (pc + 3) L r (pd_st I D (mm_u A a 22 (some x)) J n) := pd_pa h rfl
theorem gf7_23 (h : pd_SH[a]? = some (.inl 7)) : mm_getf pd_ck pc L (.ref a :: r) (pd_st I D A J n) 7 23 = mm_go (pc + 3) L (va_rf (A a 23) :: r) (pd_st I D A J n) := pd_gr h rfl
theorem pf7_23 {x : Nat} (h : pd_SH[a]? = some (.inl 7)) : mm_putf pd_ck pc L (.ref x :: .ref a :: r) (pd_st I D A J n) 7 23 = mm_go (pc + 3) L r (pd_st I D (mm_u A a 23 (some x)) J n) := pd_pa h rfl
theorem gf7_24 (h : pd_SH[a]? = some (.inl 7)) : mm_getf pd_ck pc L (.ref a :: r) (pd_st I D A J n) 7 24 = mm_go (pc + 3) L (va_rf (A a 24) :: r) (pd_st I D A J n) := pd_gr h rfl
theorem pf7_24 {x : Nat} (h : pd_SH[a]? = some (.inl 7)) : mm_putf pd_ck pc L (.ref x :: .ref a :: r) (pd_st I D A J n) 7 24 = mm_go (pc + 3) L r (pd_st I D (mm_u A a 24 (some x)) J n) := pd_pa h rfl
theorem gf7_25 (h : pd_SH[a]? = some (.inl 7)) : mm_getf pd_ck pc L (.ref a :: r) (pd_st I D A J n) 7 25 = mm_go (pc + 3) L (va_rf (A a 25) :: r) (pd_st I D A J n) := pd_gr h rfl
theorem pf7_25 {x : Nat} (h : pd_SH[a]? = some (.inl 7)) : mm_putf pd_ck pc L (.ref x :: .ref a :: r) (pd_st I D A J n) 7 25 = mm_go (pc + 3) L r (pd_st I D (mm_u A a 25 (some x)) J n) := pd_pa h rfl
theorem gf7_26 (h : pd_SH[a]? = some (.inl 7)) : mm_getf pd_ck pc L (.ref a :: r) (pd_st I D A J n) 7 26 = mm_go (pc + 3) L (va_rf (A a 26) :: r) (pd_st I D A J n) := pd_gr h rfl
theorem pf7_26 {x : Nat} (h : pd_SH[a]? = some (.inl 7)) : mm_putf pd_ck pc L (.ref x :: .ref a :: r) (pd_st I D A J n) 7 26 = mm_go (pc + 3) L r (pd_st I D (mm_u A a 26 (some x)) J n) := pd_pa h rfl
theorem gf7_27 (h : pd_SH[a]? = some (.inl 7)) : mm_getf pd_ck pc L (.ref a :: r) (pd_st I D A J n) 7 27 = mm_go (pc + 3) L (va_rf (A a 27) :: r) (pd_st I D A J n) := pd_gr h rfl
theorem pf7_27 {x : Nat} (h : pd_SH[a]? = some (.inl 7)) : mm_putf pd_ck pc L (.ref x :: .ref a :: r) (pd_st I D A J n) 7 27 = mm_go (pc + 3) L r (pd_st I D (mm_u A a 27 (some x)) J n) := pd_pa h rfl
theorem gf7_28 (h : pd_SH[a]? = some (.inl 7)) : mm_getf pd_ck pc L (.ref a :: r) (pd_st I D A J n) 7 28 = mm_go (pc + 3) L (va_rf (A a 28) :: r) (pd_st I D A J n) := pd_gr h rfl
theorem pf7_28 {x : Nat} (h : pd_SH[a]? = some (.inl 7)) : mm_putf pd_ck pc L (.ref x :: .ref a :: r) (pd_st I D A J n) 7 28 = mm_go (pc + 3) L r (pd_st I D (mm_u A a 28 (some x)) J n) := pd_pa h rfl
theorem gf7_29 (h : pd_SH[a]? = some (.inl 7)) : mm_getf pd_ck pc L (.ref a :: r) (pd_st I D A J n) 7 29 = mm_go (pc + 3) L (va_rf (A a 29) :: r) (pd_st I D A J n) := pd_gr h rfl
theorem pf7_29 {x : Nat} (h : pd_SH[a]? = some (.inl 7)) : mm_putf pd_ck pc L (.ref x :: .ref a :: r) (pd_st I D A J n) 7 29 = mm_go (pc + 3) L r (pd_st I D (mm_u A a 29 (some x)) J n) := pd_pa h rfl
theorem gf7_30 (h : pd_SH[a]? = some (.inl 7)) : mm_getf pd_ck pc L (.ref a :: r) (pd_st I D A J n) 7 30 = mm_go (pc + 3) L (va_rf (A a 30) :: r) (pd_st I D A J n) := pd_gr h rfl
theorem pf7_30 {x : Nat} (h : pd_SH[a]? = some (.inl 7)) : mm_putf pd_ck pc L (.ref x :: .ref a :: r) (pd_st I D A J n) 7 30 = mm_go (pc + 3) L r (pd_st I D (mm_u A a 30 (some x)) J n) := pd_pa h rfl
theorem gf7_31 (h : pd_SH[a]? = some (.inl 7)) : mm_getf pd_ck pc L (.ref a :: r) (pd_st I D A J n) 7 31 = mm_go (pc + 3) L (va_rf (A a 31) :: r) (pd_st I D A J n) := pd_gr h rfl
theorem pf7_31 {x : Nat} (h : pd_SH[a]? = some (.inl 7)) : mm_putf pd_ck pc L (.ref x :: .ref a :: r) (pd_st I D A J n) 7 31 = mm_go (pc + 3) L r (pd_st I D (mm_u A a 31 (some x)) J n) := pd_pa h rfl
theorem gf7_32 (h : pd_SH[a]? = some (.inl 7)) : mm_getf pd_ck pc L (.ref a :: r) (pd_st I D A J n) 7 32 = mm_go (pc + 3) L (va_rf (A a 32) :: r) (pd_st I D A J n) := pd_gr h rfl
theorem pf7_32 {x : Nat} (h : pd_SH[a]? = some (.inl 7)) : mm_putf pd_ck pc L (.ref x :: .ref a :: r) (pd_st I D A J n) 7 32 = mm_go (pc + 3) L r (pd_st I D (mm_u A a 32 (some x)) J n) := pd_pa h rfl
theorem gf7_33 (h : pd_SH[a]? = some (.inl 7)) : mm_getf pd_ck pc L (.ref a :: r) (pd_st I D A J n) 7 33 = mm_go (pc + 3) L (.int (I a 33) :: r) (pd_st I D A J n) := pd_gi h (Or.inl rfl)
theorem pf7_33 {x : Int32} (h : pd_SH[a]? = some (.inl 7)) : mm_putf pd_ck pc L (.int x :: .ref a :: r) (pd_st I D A J n) 7 33 = mm_go (pc + 3) L r (pd_st (mm_u I a 33 x) D A J n) := pd_pi h rfl
theorem gf7_34 (h : pd_SH[a]? = some (.inl 7)) : mm_getf pd_ck pc L (.ref a :: r) (pd_st I D A J n) 7 34 = mm_go (pc + 3) L (.int (I a 34) :: r) (pd_st I D A J n) := pd_gi h (Or.inl rfl)
theorem pf7_34 {x : Int32} (h : pd_SH[a]? = some (.inl 7)) : mm_putf pd_ck pc L (.int x :: .ref a :: r) (pd_st I D A J n) 7 34 = mm_go (pc + 3) L r (pd_st (mm_u I a 34 x) D A J n) := pd_pi h rfl
theorem gf7_35 (h : pd_SH[a]? = some (.inl 7)) : mm_getf pd_ck pc L (.ref a :: r) (pd_st I D A J n) 7 35 = mm_go (pc + 3) L (.int (I a 35) :: r) (pd_st I D A J n) := pd_gi h (Or.inl rfl)
theorem pf7_35 {x : Int32} (h : pd_SH[a]? = some (.inl 7)) : mm_putf pd_ck pc L (.int x :: .ref a :: r) (pd_st I D A J n) 7 35 = mm_go (pc + 3) L r (pd_st (mm_u I a 35 x) D A J n) := pd_pi h rfl
theorem gf7_36 (h : pd_SH[a]? = some (.inl 7)) : mm_getf pd_ck pc L (.ref a :: r) (pd_st I D A J n) 7 36 = mm_go (pc + 3) L (.int (I a 36) :: r) (pd_st I D A J n) := pd_gi h (Or.inl rfl)
theorem pf7_36 {x : Int32} (h : pd_SH[a]? = some (.inl 7)) : mm_putf pd_ck pc L (.int x :: .ref a :: r) (pd_st I D A J n) 7 36 = mm_go (pc + 3) L r (pd_st (mm_u I a 36 x) D A J n) := pd_pi h rfl
theorem gf7_37 (h : pd_SH[a]? = some (.inl 7)) : mm_getf pd_ck pc L (.ref a :: r) (pd_st I D A J n) 7 37 = mm_go (pc + 3) L (.int (I a 37) :: r) (pd_st I D A J n) := pd_gi h (Or.inl rfl)
theorem pf7_37 {x : Int32} (h : pd_SH[a]? = some (.inl 7)) : mm_putf pd_ck pc L (.int x :: .ref a :: r) (pd_st I D A J n) 7 37 = mm_go (pc + 3) L r (pd_st (mm_u I a 37 x) D A J n) := pd_pi h rfl
theorem gf7_38 (h : pd_SH[a]? = some (.inl 7)) : mm_getf pd_ck pc L (.ref a :: r) (pd_st I D A J n) 7 38 = mm_go (pc + 3) L (.int (I a 38) :: r) (pd_st I D A J n) := pd_gi h (Or.inl rfl)
theorem pf7_38 {x : Int32} (h : pd_SH[a]? = some (.inl 7)) : mm_putf pd_ck pc L (.int x :: .ref a :: r) (pd_st I D A J n) 7 38 = mm_go (pc + 3) L r (pd_st (mm_u I a 38 x) D A J n) := pd_pi h rfl
theorem gf7_39 (h : pd_SH[a]? = some (.inl 7)) : mm_getf pd_ck pc L (.ref a :: r) (pd_st I D A J n) 7 39 = mm_go (pc + 3) L (.int (I a 39) :: r) (pd_st I D A J n) := pd_gi h (Or.inl rfl)
theorem pf7_39 {x : Int32} (h : pd_SH[a]? = some (.inl 7)) : mm_putf pd_ck pc L (.int x :: .ref a :: r) (pd_st I D A J n) 7 39 = mm_go (pc + 3) L r (pd_st (mm_u I a 39 x) D A J n) := pd_pi h rfl
end FLD
section STO
variable {a0 a1 a2 a3 a4 a5 a6 a7 a8 : Option Value} {x : Int32} {y : UInt64} {z : Int64} {w : Nat}
theorem so1_0i : mm_sto [a0] 0 0 (.int x) = [some (.int x)] := by rfl
theorem so1_0r : mm_sto [a0] 0 0 (.ref w) = [some (.ref w)] := by rfl
theorem so2_0i : mm_sto [a0, a1] 0 0 (.int x) = [some (.int x), a1] := by rfl
theorem so2_0r : mm_sto [a0, a1] 0 0 (.ref w) = [some (.ref w), a1] := by rfl
theorem so2_0d : mm_sto [a0, a1] 0 0 (.double y) = [some (.double y), none] := by rfl
theorem so2_0j : mm_sto [a0, a1] 0 0 (.long z) = [some (.long z), none] := by rfl
theorem so2_1i : mm_sto [a0, a1] 0 1 (.int x) = [cond (mm_o2 a0) none a0, some (.int x)] := by rfl
theorem so2_1r : mm_sto [a0, a1] 0 1 (.ref w) = [cond (mm_o2 a0) none a0, some (.ref w)] := by rfl
theorem so3_0i : mm_sto [a0, a1, a2] 0 0 (.int x) = [some (.int x), a1, a2] := by rfl
theorem so3_0r : mm_sto [a0, a1, a2] 0 0 (.ref w) = [some (.ref w), a1, a2] := by rfl
theorem so3_0d : mm_sto [a0, a1, a2] 0 0 (.double y) = [some (.double y), none, a2] := by rfl
theorem so3_0j : mm_sto [a0, a1, a2] 0 0 (.long z) = [some (.long z), none, a2] := by rfl
theorem so3_1i : mm_sto [a0, a1, a2] 0 1 (.int x) = [cond (mm_o2 a0) none a0, some (.int x), a2] := by rfl
theorem so3_1r : mm_sto [a0, a1, a2] 0 1 (.ref w) = [cond (mm_o2 a0) none a0, some (.ref w), a2] := by rfl
theorem so3_1d : mm_sto [a0, a1, a2] 0 1 (.double y) = [cond (mm_o2 a0) none a0, some (.double y), none] := by rfl
theorem so3_1j : mm_sto [a0, a1, a2] 0 1 (.long z) = [cond (mm_o2 a0) none a0, some (.long z), none] := by rfl
theorem so3_2i : mm_sto [a0, a1, a2] 0 2 (.int x) = [a0, cond (mm_o2 a1) none a1, some (.int x)] := by rfl
theorem so3_2r : mm_sto [a0, a1, a2] 0 2 (.ref w) = [a0, cond (mm_o2 a1) none a1, some (.ref w)] := by rfl
theorem so4_0i : mm_sto [a0, a1, a2, a3] 0 0 (.int x) = [some (.int x), a1, a2, a3] := by rfl
theorem so4_0r : mm_sto [a0, a1, a2, a3] 0 0 (.ref w) = [some (.ref w), a1, a2, a3] := by rfl
theorem so4_0d : mm_sto [a0, a1, a2, a3] 0 0 (.double y) = [some (.double y), none, a2, a3] := by rfl
theorem so4_0j : mm_sto [a0, a1, a2, a3] 0 0 (.long z) = [some (.long z), none, a2, a3] := by rfl
theorem so4_1i : mm_sto [a0, a1, a2, a3] 0 1 (.int x) = [cond (mm_o2 a0) none a0, some (.int x), a2, a3] := by rfl
theorem so4_1r : mm_sto [a0, a1, a2, a3] 0 1 (.ref w) = [cond (mm_o2 a0) none a0, some (.ref w), a2, a3] := by rfl
theorem so4_1d : mm_sto [a0, a1, a2, a3] 0 1 (.double y) = [cond (mm_o2 a0) none a0, some (.double y), none, a3] := by rfl
theorem so4_1j : mm_sto [a0, a1, a2, a3] 0 1 (.long z) = [cond (mm_o2 a0) none a0, some (.long z), none, a3] := by rfl
theorem so4_2i : mm_sto [a0, a1, a2, a3] 0 2 (.int x) = [a0, cond (mm_o2 a1) none a1, some (.int x), a3] := by rfl
theorem so4_2r : mm_sto [a0, a1, a2, a3] 0 2 (.ref w) = [a0, cond (mm_o2 a1) none a1, some (.ref w), a3] := by rfl
theorem so4_2d : mm_sto [a0, a1, a2, a3] 0 2 (.double y) = [a0, cond (mm_o2 a1) none a1, some (.double y), none] := by rfl
theorem so4_2j : mm_sto [a0, a1, a2, a3] 0 2 (.long z) = [a0, cond (mm_o2 a1) none a1, some (.long z), none] := by rfl
theorem so4_3i : mm_sto [a0, a1, a2, a3] 0 3 (.int x) = [a0, a1, cond (mm_o2 a2) none a2, some (.int x)] := by rfl
theorem so4_3r : mm_sto [a0, a1, a2, a3] 0 3 (.ref w) = [a0, a1, cond (mm_o2 a2) none a2, some (.ref w)] := by rfl
theorem so5_0i : mm_sto [a0, a1, a2, a3, a4] 0 0 (.int x) = [some (.int x), a1, a2, a3, a4] := by rfl
theorem so5_0r : mm_sto [a0, a1, a2, a3, a4] 0 0 (.ref w) = [some (.ref w), a1, a2, a3, a4] := by rfl
theorem so5_0d : mm_sto [a0, a1, a2, a3, a4] 0 0 (.double y) = [some (.double y), none, a2, a3, a4] := by rfl
theorem so5_0j : mm_sto [a0, a1, a2, a3, a4] 0 0 (.long z) = [some (.long z), none, a2, a3, a4] := by rfl
theorem so5_1i : mm_sto [a0, a1, a2, a3, a4] 0 1 (.int x) = [cond (mm_o2 a0) none a0, some (.int x), a2, a3, a4] := by rfl
theorem so5_1r : mm_sto [a0, a1, a2, a3, a4] 0 1 (.ref w) = [cond (mm_o2 a0) none a0, some (.ref w), a2, a3, a4] := by rfl
theorem so5_1d : mm_sto [a0, a1, a2, a3, a4] 0 1 (.double y) = [cond (mm_o2 a0) none a0, some (.double y), none, a3, a4] := by rfl
theorem so5_1j : mm_sto [a0, a1, a2, a3, a4] 0 1 (.long z) = [cond (mm_o2 a0) none a0, some (.long z), none, a3, a4] := by rfl
theorem so5_2i : mm_sto [a0, a1, a2, a3, a4] 0 2 (.int x) = [a0, cond (mm_o2 a1) none a1, some (.int x), a3, a4] := by rfl
theorem so5_2r : mm_sto [a0, a1, a2, a3, a4] 0 2 (.ref w) = [a0, cond (mm_o2 a1) none a1, some (.ref w), a3, a4] := by rfl
theorem so5_2d : mm_sto [a0, a1, a2, a3, a4] 0 2 (.double y) = [a0, cond (mm_o2 a1) none a1, some (.double y), none, a4] := by rfl
theorem so5_2j : mm_sto [a0, a1, a2, a3, a4] 0 2 (.long z) = [a0, cond (mm_o2 a1) none a1, some (.long z), none, a4] := by rfl
theorem so5_3i : mm_sto [a0, a1, a2, a3, a4] 0 3 (.int x) = [a0, a1, cond (mm_o2 a2) none a2, some (.int x), a4] := by rfl
theorem so5_3r : mm_sto [a0, a1, a2, a3, a4] 0 3 (.ref w) = [a0, a1, cond (mm_o2 a2) none a2, some (.ref w), a4] := by rfl
theorem so5_3d : mm_sto [a0, a1, a2, a3, a4] 0 3 (.double y) = [a0, a1, cond (mm_o2 a2) none a2, some (.double y), none] := by rfl
theorem so5_3j : mm_sto [a0, a1, a2, a3, a4] 0 3 (.long z) = [a0, a1, cond (mm_o2 a2) none a2, some (.long z), none] := by rfl
theorem so5_4i : mm_sto [a0, a1, a2, a3, a4] 0 4 (.int x) = [a0, a1, a2, cond (mm_o2 a3) none a3, some (.int x)] := by rfl
theorem so5_4r : mm_sto [a0, a1, a2, a3, a4] 0 4 (.ref w) = [a0, a1, a2, cond (mm_o2 a3) none a3, some (.ref w)] := by rfl
theorem so6_0i : mm_sto [a0, a1, a2, a3, a4, a5] 0 0 (.int x) = [some (.int x), a1, a2, a3, a4, a5] := by rfl
theorem so6_0r : mm_sto [a0, a1, a2, a3, a4, a5] 0 0 (.ref w) = [some (.ref w), a1, a2, a3, a4, a5] := by rfl
theorem so6_0d : mm_sto [a0, a1, a2, a3, a4, a5] 0 0 (.double y) = [some (.double y), none, a2, a3, a4, a5] := by rfl
theorem so6_0j : mm_sto [a0, a1, a2, a3, a4, a5] 0 0 (.long z) = [some (.long z), none, a2, a3, a4, a5] := by rfl
theorem so6_1i : mm_sto [a0, a1, a2, a3, a4, a5] 0 1 (.int x) = [cond (mm_o2 a0) none a0, some (.int x), a2, a3, a4, a5] := by rfl
theorem so6_1r : mm_sto [a0, a1, a2, a3, a4, a5] 0 1 (.ref w) = [cond (mm_o2 a0) none a0, some (.ref w), a2, a3, a4, a5] := by rfl
theorem so6_1d : mm_sto [a0, a1, a2, a3, a4, a5] 0 1 (.double y) = [cond (mm_o2 a0) none a0, some (.double y), none, a3, a4, a5] := by rfl
theorem so6_1j : mm_sto [a0, a1, a2, a3, a4, a5] 0 1 (.long z) = [cond (mm_o2 a0) none a0, some (.long z), none, a3, a4, a5] := by rfl
theorem so6_2i : mm_sto [a0, a1, a2, a3, a4, a5] 0 2 (.int x) = [a0, cond (mm_o2 a1) none a1, some (.int x), a3, a4, a5] := by rfl
theorem so6_2r : mm_sto [a0, a1, a2, a3, a4, a5] 0 2 (.ref w) = [a0, cond (mm_o2 a1) none a1, some (.ref w), a3, a4, a5] := by rfl
theorem so6_2d : mm_sto [a0, a1, a2, a3, a4, a5] 0 2 (.double y) = [a0, cond (mm_o2 a1) none a1, some (.double y), none, a4, a5] := by rfl
theorem so6_2j : mm_sto [a0, a1, a2, a3, a4, a5] 0 2 (.long z) = [a0, cond (mm_o2 a1) none a1, some (.long z), none, a4, a5] := by rfl
theorem so6_3i : mm_sto [a0, a1, a2, a3, a4, a5] 0 3 (.int x) = [a0, a1, cond (mm_o2 a2) none a2, some (.int x), a4, a5] := by rfl
theorem so6_3r : mm_sto [a0, a1, a2, a3, a4, a5] 0 3 (.ref w) = [a0, a1, cond (mm_o2 a2) none a2, some (.ref w), a4, a5] := by rfl
theorem so6_3d : mm_sto [a0, a1, a2, a3, a4, a5] 0 3 (.double y) = [a0, a1, cond (mm_o2 a2) none a2, some (.double y), none, a5] := by rfl
theorem so6_3j : mm_sto [a0, a1, a2, a3, a4, a5] 0 3 (.long z) = [a0, a1, cond (mm_o2 a2) none a2, some (.long z), none, a5] := by rfl
theorem so6_4i : mm_sto [a0, a1, a2, a3, a4, a5] 0 4 (.int x) = [a0, a1, a2, cond (mm_o2 a3) none a3, some (.int x), a5] := by rfl
theorem so6_4r : mm_sto [a0, a1, a2, a3, a4, a5] 0 4 (.ref w) = [a0, a1, a2, cond (mm_o2 a3) none a3, some (.ref w), a5] := by rfl
theorem so6_4d : mm_sto [a0, a1, a2, a3, a4, a5] 0 4 (.double y) = [a0, a1, a2, cond (mm_o2 a3) none a3, some (.double y), none] := by rfl
theorem so6_4j : mm_sto [a0, a1, a2, a3, a4, a5] 0 4 (.long z) = [a0, a1, a2, cond (mm_o2 a3) none a3, some (.long z), none] := by rfl
theorem so6_5i : mm_sto [a0, a1, a2, a3, a4, a5] 0 5 (.int x) = [a0, a1, a2, a3, cond (mm_o2 a4) none a4, some (.int x)] := by rfl
theorem so6_5r : mm_sto [a0, a1, a2, a3, a4, a5] 0 5 (.ref w) = [a0, a1, a2, a3, cond (mm_o2 a4) none a4, some (.ref w)] := by rfl
theorem so7_0i : mm_sto [a0, a1, a2, a3, a4, a5, a6] 0 0 (.int x) = [some (.int x), a1, a2, a3, a4, a5, a6] := by rfl
theorem so7_0r : mm_sto [a0, a1, a2, a3, a4, a5, a6] 0 0 (.ref w) = [some (.ref w), a1, a2, a3, a4, a5, a6] := by rfl
theorem so7_0d : mm_sto [a0, a1, a2, a3, a4, a5, a6] 0 0 (.double y) = [some (.double y), none, a2, a3, a4, a5, a6] := by rfl
theorem so7_0j : mm_sto [a0, a1, a2, a3, a4, a5, a6] 0 0 (.long z) = [some (.long z), none, a2, a3, a4, a5, a6] := by rfl
theorem so7_1i : mm_sto [a0, a1, a2, a3, a4, a5, a6] 0 1 (.int x) = [cond (mm_o2 a0) none a0, some (.int x), a2, a3, a4, a5, a6] := by rfl
theorem so7_1r : mm_sto [a0, a1, a2, a3, a4, a5, a6] 0 1 (.ref w) = [cond (mm_o2 a0) none a0, some (.ref w), a2, a3, a4, a5, a6] := by rfl
theorem so7_1d : mm_sto [a0, a1, a2, a3, a4, a5, a6] 0 1 (.double y) = [cond (mm_o2 a0) none a0, some (.double y), none, a3, a4, a5, a6] := by rfl
theorem so7_1j : mm_sto [a0, a1, a2, a3, a4, a5, a6] 0 1 (.long z) = [cond (mm_o2 a0) none a0, some (.long z), none, a3, a4, a5, a6] := by rfl
theorem so7_2i : mm_sto [a0, a1, a2, a3, a4, a5, a6] 0 2 (.int x) = [a0, cond (mm_o2 a1) none a1, some (.int x), a3, a4, a5, a6] := by rfl
theorem so7_2r : mm_sto [a0, a1, a2, a3, a4, a5, a6] 0 2 (.ref w) = [a0, cond (mm_o2 a1) none a1, some (.ref w), a3, a4, a5, a6] := by rfl
theorem so7_2d : mm_sto [a0, a1, a2, a3, a4, a5, a6] 0 2 (.double y) = [a0, cond (mm_o2 a1) none a1, some (.double y), none, a4, a5, a6] := by rfl
theorem so7_2j : mm_sto [a0, a1, a2, a3, a4, a5, a6] 0 2 (.long z) = [a0, cond (mm_o2 a1) none a1, some (.long z), none, a4, a5, a6] := by rfl
theorem so7_3i : mm_sto [a0, a1, a2, a3, a4, a5, a6] 0 3 (.int x) = [a0, a1, cond (mm_o2 a2) none a2, some (.int x), a4, a5, a6] := by rfl
theorem so7_3r : mm_sto [a0, a1, a2, a3, a4, a5, a6] 0 3 (.ref w) = [a0, a1, cond (mm_o2 a2) none a2, some (.ref w), a4, a5, a6] := by rfl
theorem so7_3d : mm_sto [a0, a1, a2, a3, a4, a5, a6] 0 3 (.double y) = [a0, a1, cond (mm_o2 a2) none a2, some (.double y), none, a5, a6] := by rfl
theorem so7_3j : mm_sto [a0, a1, a2, a3, a4, a5, a6] 0 3 (.long z) = [a0, a1, cond (mm_o2 a2) none a2, some (.long z), none, a5, a6] := by rfl
theorem so7_4i : mm_sto [a0, a1, a2, a3, a4, a5, a6] 0 4 (.int x) = [a0, a1, a2, cond (mm_o2 a3) none a3, some (.int x), a5, a6] := by rfl
theorem so7_4r : mm_sto [a0, a1, a2, a3, a4, a5, a6] 0 4 (.ref w) = [a0, a1, a2, cond (mm_o2 a3) none a3, some (.ref w), a5, a6] := by rfl
theorem so7_4d : mm_sto [a0, a1, a2, a3, a4, a5, a6] 0 4 (.double y) = [a0, a1, a2, cond (mm_o2 a3) none a3, some (.double y), none, a6] := by rfl
theorem so7_4j : mm_sto [a0, a1, a2, a3, a4, a5, a6] 0 4 (.long z) = [a0, a1, a2, cond (mm_o2 a3) none a3, some (.long z), none, a6] := by rfl
theorem so7_5i : mm_sto [a0, a1, a2, a3, a4, a5, a6] 0 5 (.int x) = [a0, a1, a2, a3, cond (mm_o2 a4) none a4, some (.int x), a6] := by rfl
theorem so7_5r : mm_sto [a0, a1, a2, a3, a4, a5, a6] 0 5 (.ref w) = [a0, a1, a2, a3, cond (mm_o2 a4) none a4, some (.ref w), a6] := by rfl
theorem so7_5d : mm_sto [a0, a1, a2, a3, a4, a5, a6] 0 5 (.double y) = [a0, a1, a2, a3, cond (mm_o2 a4) none a4, some (.double y), none] := by rfl
theorem so7_5j : mm_sto [a0, a1, a2, a3, a4, a5, a6] 0 5 (.long z) = [a0, a1, a2, a3, cond (mm_o2 a4) none a4, some (.long z), none] := by rfl
theorem so7_6i : mm_sto [a0, a1, a2, a3, a4, a5, a6] 0 6 (.int x) = [a0, a1, a2, a3, a4, cond (mm_o2 a5) none a5, some (.int x)] := by rfl
theorem so7_6r : mm_sto [a0, a1, a2, a3, a4, a5, a6] 0 6 (.ref w) = [a0, a1, a2, a3, a4, cond (mm_o2 a5) none a5, some (.ref w)] := by rfl
theorem so8_0i : mm_sto [a0, a1, a2, a3, a4, a5, a6, a7] 0 0 (.int x) = [some (.int x), a1, a2, a3, a4, a5, a6, a7] := by rfl
theorem so8_0r : mm_sto [a0, a1, a2, a3, a4, a5, a6, a7] 0 0 (.ref w) = [some (.ref w), a1, a2, a3, a4, a5, a6, a7] := by rfl
theorem so8_0d : mm_sto [a0, a1, a2, a3, a4, a5, a6, a7] 0 0 (.double y) = [some (.double y), none, a2, a3, a4, a5, a6, a7] := by rfl
theorem so8_0j : mm_sto [a0, a1, a2, a3, a4, a5, a6, a7] 0 0 (.long z) = [some (.long z), none, a2, a3, a4, a5, a6, a7] := by rfl
theorem so8_1i : mm_sto [a0, a1, a2, a3, a4, a5, a6, a7] 0 1 (.int x) = [cond (mm_o2 a0) none a0, some (.int x), a2, a3, a4, a5, a6, a7] := by rfl
theorem so8_1r : mm_sto [a0, a1, a2, a3, a4, a5, a6, a7] 0 1 (.ref w) = [cond (mm_o2 a0) none a0, some (.ref w), a2, a3, a4, a5, a6, a7] := by rfl
theorem so8_1d : mm_sto [a0, a1, a2, a3, a4, a5, a6, a7] 0 1 (.double y) = [cond (mm_o2 a0) none a0, some (.double y), none, a3, a4, a5, a6, a7] := by rfl
theorem so8_1j : mm_sto [a0, a1, a2, a3, a4, a5, a6, a7] 0 1 (.long z) = [cond (mm_o2 a0) none a0, some (.long z), none, a3, a4, a5, a6, a7] := by rfl
theorem so8_2i : mm_sto [a0, a1, a2, a3, a4, a5, a6, a7] 0 2 (.int x) = [a0, cond (mm_o2 a1) none a1, some (.int x), a3, a4, a5, a6, a7] := by rfl
theorem so8_2r : mm_sto [a0, a1, a2, a3, a4, a5, a6, a7] 0 2 (.ref w) = [a0, cond (mm_o2 a1) none a1, some (.ref w), a3, a4, a5, a6, a7] := by rfl
theorem so8_2d : mm_sto [a0, a1, a2, a3, a4, a5, a6, a7] 0 2 (.double y) = [a0, cond (mm_o2 a1) none a1, some (.double y), none, a4, a5, a6, a7] := by rfl
theorem so8_2j : mm_sto [a0, a1, a2, a3, a4, a5, a6, a7] 0 2 (.long z) = [a0, cond (mm_o2 a1) none a1, some (.long z), none, a4, a5, a6, a7] := by rfl
theorem so8_3i : mm_sto [a0, a1, a2, a3, a4, a5, a6, a7] 0 3 (.int x) = [a0, a1, cond (mm_o2 a2) none a2, some (.int x), a4, a5, a6, a7] := by rfl
theorem so8_3r : mm_sto [a0, a1, a2, a3, a4, a5, a6, a7] 0 3 (.ref w) = [a0, a1, cond (mm_o2 a2) none a2, some (.ref w), a4, a5, a6, a7] := by rfl
theorem so8_3d : mm_sto [a0, a1, a2, a3, a4, a5, a6, a7] 0 3 (.double y) = [a0, a1, cond (mm_o2 a2) none a2, some (.double y), none, a5, a6, a7] := by rfl
theorem so8_3j : mm_sto [a0, a1, a2, a3, a4, a5, a6, a7] 0 3 (.long z) = [a0, a1, cond (mm_o2 a2) none a2, some (.long z), none, a5, a6, a7] := by rfl
theorem so8_4i : mm_sto [a0, a1, a2, a3, a4, a5, a6, a7] 0 4 (.int x) = [a0, a1, a2, cond (mm_o2 a3) none a3, some (.int x), a5, a6, a7] := by rfl
theorem so8_4r : mm_sto [a0, a1, a2, a3, a4, a5, a6, a7] 0 4 (.ref w) = [a0, a1, a2, cond (mm_o2 a3) none a3, some (.ref w), a5, a6, a7] := by rfl
theorem so8_4d : mm_sto [a0, a1, a2, a3, a4, a5, a6, a7] 0 4 (.double y) = [a0, a1, a2, cond (mm_o2 a3) none a3, some (.double y), none, a6, a7] := by rfl
theorem so8_4j : mm_sto [a0, a1, a2, a3, a4, a5, a6, a7] 0 4 (.long z) = [a0, a1, a2, cond (mm_o2 a3) none a3, some (.long z), none, a6, a7] := by rfl
theorem so8_5i : mm_sto [a0, a1, a2, a3, a4, a5, a6, a7] 0 5 (.int x) = [a0, a1, a2, a3, cond (mm_o2 a4) none a4, some (.int x), a6, a7] := by rfl
theorem so8_5r : mm_sto [a0, a1, a2, a3, a4, a5, a6, a7] 0 5 (.ref w) = [a0, a1, a2, a3, cond (mm_o2 a4) none a4, some (.ref w), a6, a7] := by rfl
theorem so8_5d : mm_sto [a0, a1, a2, a3, a4, a5, a6, a7] 0 5 (.double y) = [a0, a1, a2, a3, cond (mm_o2 a4) none a4, some (.double y), none, a7] := by rfl
theorem so8_5j : mm_sto [a0, a1, a2, a3, a4, a5, a6, a7] 0 5 (.long z) = [a0, a1, a2, a3, cond (mm_o2 a4) none a4, some (.long z), none, a7] := by rfl
theorem so8_6i : mm_sto [a0, a1, a2, a3, a4, a5, a6, a7] 0 6 (.int x) = [a0, a1, a2, a3, a4, cond (mm_o2 a5) none a5, some (.int x), a7] := by rfl
theorem so8_6r : mm_sto [a0, a1, a2, a3, a4, a5, a6, a7] 0 6 (.ref w) = [a0, a1, a2, a3, a4, cond (mm_o2 a5) none a5, some (.ref w), a7] := by rfl
theorem so8_6d : mm_sto [a0, a1, a2, a3, a4, a5, a6, a7] 0 6 (.double y) = [a0, a1, a2, a3, a4, cond (mm_o2 a5) none a5, some (.double y), none] := by rfl
theorem so8_6j : mm_sto [a0, a1, a2, a3, a4, a5, a6, a7] 0 6 (.long z) = [a0, a1, a2, a3, a4, cond (mm_o2 a5) none a5, some (.long z), none] := by rfl
theorem so8_7i : mm_sto [a0, a1, a2, a3, a4, a5, a6, a7] 0 7 (.int x) = [a0, a1, a2, a3, a4, a5, cond (mm_o2 a6) none a6, some (.int x)] := by rfl
theorem so8_7r : mm_sto [a0, a1, a2, a3, a4, a5, a6, a7] 0 7 (.ref w) = [a0, a1, a2, a3, a4, a5, cond (mm_o2 a6) none a6, some (.ref w)] := by rfl
theorem so9_0i : mm_sto [a0, a1, a2, a3, a4, a5, a6, a7, a8] 0 0 (.int x) = [some (.int x), a1, a2, a3, a4, a5, a6, a7, a8] := by rfl
theorem so9_0r : mm_sto [a0, a1, a2, a3, a4, a5, a6, a7, a8] 0 0 (.ref w) = [some (.ref w), a1, a2, a3, a4, a5, a6, a7, a8] := by rfl
theorem so9_0d : mm_sto [a0, a1, a2, a3, a4, a5, a6, a7, a8] 0 0 (.double y) = [some (.double y), none, a2, a3, a4, a5, a6, a7, a8] := by rfl
theorem so9_0j : mm_sto [a0, a1, a2, a3, a4, a5, a6, a7, a8] 0 0 (.long z) = [some (.long z), none, a2, a3, a4, a5, a6, a7, a8] := by rfl
theorem so9_1i : mm_sto [a0, a1, a2, a3, a4, a5, a6, a7, a8] 0 1 (.int x) = [cond (mm_o2 a0) none a0, some (.int x), a2, a3, a4, a5, a6, a7, a8] := by rfl
theorem so9_1r : mm_sto [a0, a1, a2, a3, a4, a5, a6, a7, a8] 0 1 (.ref w) = [cond (mm_o2 a0) none a0, some (.ref w), a2, a3, a4, a5, a6, a7, a8] := by rfl
theorem so9_1d : mm_sto [a0, a1, a2, a3, a4, a5, a6, a7, a8] 0 1 (.double y) = [cond (mm_o2 a0) none a0, some (.double y), none, a3, a4, a5, a6, a7, a8] := by rfl
theorem so9_1j : mm_sto [a0, a1, a2, a3, a4, a5, a6, a7, a8] 0 1 (.long z) = [cond (mm_o2 a0) none a0, some (.long z), none, a3, a4, a5, a6, a7, a8] := by rfl
theorem so9_2i : mm_sto [a0, a1, a2, a3, a4, a5, a6, a7, a8] 0 2 (.int x) = [a0, cond (mm_o2 a1) none a1, some (.int x), a3, a4, a5, a6, a7, a8] := by rfl
theorem so9_2r : mm_sto [a0, a1, a2, a3, a4, a5, a6, a7, a8] 0 2 (.ref w) = [a0, cond (mm_o2 a1) none a1, some (.ref w), a3, a4, a5, a6, a7, a8] := by rfl
theorem so9_2d : mm_sto [a0, a1, a2, a3, a4, a5, a6, a7, a8] 0 2 (.double y) = [a0, cond (mm_o2 a1) none a1, some (.double y), none, a4, a5, a6, a7, a8] := by rfl
theorem so9_2j : mm_sto [a0, a1, a2, a3, a4, a5, a6, a7, a8] 0 2 (.long z) = [a0, cond (mm_o2 a1) none a1, some (.long z), none, a4, a5, a6, a7, a8] := by rfl
theorem so9_3i : mm_sto [a0, a1, a2, a3, a4, a5, a6, a7, a8] 0 3 (.int x) = [a0, a1, cond (mm_o2 a2) none a2, some (.int x), a4, a5, a6, a7, a8] := by rfl
theorem so9_3r : mm_sto [a0, a1, a2, a3, a4, a5, a6, a7, a8] 0 3 (.ref w) = [a0, a1, cond (mm_o2 a2) none a2, some (.ref w), a4, a5, a6, a7, a8] := by rfl
theorem so9_3d : mm_sto [a0, a1, a2, a3, a4, a5, a6, a7, a8] 0 3 (.double y) = [a0, a1, cond (mm_o2 a2) none a2, some (.double y), none, a5, a6, a7, a8] := by rfl
theorem so9_3j : mm_sto [a0, a1, a2, a3, a4, a5, a6, a7, a8] 0 3 (.long z) = [a0, a1, cond (mm_o2 a2) none a2, some (.long z), none, a5, a6, a7, a8] := by rfl
theorem so9_4i : mm_sto [a0, a1, a2, a3, a4, a5, a6, a7, a8] 0 4 (.int x) = [a0, a1, a2, cond (mm_o2 a3) none a3, some (.int x), a5, a6, a7, a8] := by rfl
theorem so9_4r : mm_sto [a0, a1, a2, a3, a4, a5, a6, a7, a8] 0 4 (.ref w) = [a0, a1, a2, cond (mm_o2 a3) none a3, some (.ref w), a5, a6, a7, a8] := by rfl
theorem so9_4d : mm_sto [a0, a1, a2, a3, a4, a5, a6, a7, a8] 0 4 (.double y) = [a0, a1, a2, cond (mm_o2 a3) none a3, some (.double y), none, a6, a7, a8] := by rfl
theorem so9_4j : mm_sto [a0, a1, a2, a3, a4, a5, a6, a7, a8] 0 4 (.long z) = [a0, a1, a2, cond (mm_o2 a3) none a3, some (.long z), none, a6, a7, a8] := by rfl
theorem so9_5i : mm_sto [a0, a1, a2, a3, a4, a5, a6, a7, a8] 0 5 (.int x) = [a0, a1, a2, a3, cond (mm_o2 a4) none a4, some (.int x), a6, a7, a8] := by rfl
theorem so9_5r : mm_sto [a0, a1, a2, a3, a4, a5, a6, a7, a8] 0 5 (.ref w) = [a0, a1, a2, a3, cond (mm_o2 a4) none a4, some (.ref w), a6, a7, a8] := by rfl
theorem so9_5d : mm_sto [a0, a1, a2, a3, a4, a5, a6, a7, a8] 0 5 (.double y) = [a0, a1, a2, a3, cond (mm_o2 a4) none a4, some (.double y), none, a7, a8] := by rfl
theorem so9_5j : mm_sto [a0, a1, a2, a3, a4, a5, a6, a7, a8] 0 5 (.long z) = [a0, a1, a2, a3, cond (mm_o2 a4) none a4, some (.long z), none, a7, a8] := by rfl
theorem so9_6i : mm_sto [a0, a1, a2, a3, a4, a5, a6, a7, a8] 0 6 (.int x) = [a0, a1, a2, a3, a4, cond (mm_o2 a5) none a5, some (.int x), a7, a8] := by rfl
theorem so9_6r : mm_sto [a0, a1, a2, a3, a4, a5, a6, a7, a8] 0 6 (.ref w) = [a0, a1, a2, a3, a4, cond (mm_o2 a5) none a5, some (.ref w), a7, a8] := by rfl
theorem so9_6d : mm_sto [a0, a1, a2, a3, a4, a5, a6, a7, a8] 0 6 (.double y) = [a0, a1, a2, a3, a4, cond (mm_o2 a5) none a5, some (.double y), none, a8] := by rfl
theorem so9_6j : mm_sto [a0, a1, a2, a3, a4, a5, a6, a7, a8] 0 6 (.long z) = [a0, a1, a2, a3, a4, cond (mm_o2 a5) none a5, some (.long z), none, a8] := by rfl
theorem so9_7i : mm_sto [a0, a1, a2, a3, a4, a5, a6, a7, a8] 0 7 (.int x) = [a0, a1, a2, a3, a4, a5, cond (mm_o2 a6) none a6, some (.int x), a8] := by rfl
theorem so9_7r : mm_sto [a0, a1, a2, a3, a4, a5, a6, a7, a8] 0 7 (.ref w) = [a0, a1, a2, a3, a4, a5, cond (mm_o2 a6) none a6, some (.ref w), a8] := by rfl
theorem so9_7d : mm_sto [a0, a1, a2, a3, a4, a5, a6, a7, a8] 0 7 (.double y) = [a0, a1, a2, a3, a4, a5, cond (mm_o2 a6) none a6, some (.double y), none] := by rfl
theorem so9_7j : mm_sto [a0, a1, a2, a3, a4, a5, a6, a7, a8] 0 7 (.long z) = [a0, a1, a2, a3, a4, a5, cond (mm_o2 a6) none a6, some (.long z), none] := by rfl
theorem so9_8i : mm_sto [a0, a1, a2, a3, a4, a5, a6, a7, a8] 0 8 (.int x) = [a0, a1, a2, a3, a4, a5, a6, cond (mm_o2 a7) none a7, some (.int x)] := by rfl
theorem so9_8r : mm_sto [a0, a1, a2, a3, a4, a5, a6, a7, a8] 0 8 (.ref w) = [a0, a1, a2, a3, a4, a5, a6, cond (mm_o2 a7) none a7, some (.ref w)] := by rfl
end STO
