/-! THE CLASS: prepare and perform -/
def zsc : Nat → Nat → pd_I → pd_I
  | 0, _, K => K
  | f + 1, p, K => zsc f (p + 1) (mm_u K (28 + 3 * p) 0 0)
/-- what prepare sets -/
def prK (K : pd_I) (k f s : Int32) : pd_I := mm_u (mm_u (mm_u (srK (zsc 5 0 (mm_u (mm_u (mm_u (mm_u (mm_u (mm_u K 25 0 f) 25 1 s) 6 5 0) 6 6 0) 6 9 0) 23 2 0)) 0 (-1) k 0 0) 6 7 1) 6 11 1) 6 8 1
section CL8
variable {K K' K1 K2 K3 : pd_I} {D D' : pd_D} {J : pd_J} {n : Nat} {xs : Nat → Int32} {Ls d : Nat} {q : Nat → Nat} {c h i : Nat} {v x y : UInt64} {b : Bool} {o : mm_O}
theorem lp51 {k f' s : Int32} : ∀ (f p : Nat) (K : pd_I), p + f = 5 → (pd_G xs Ls d pd_m51 (39, [some (.ref (6 : Nat)), some (.int k), some (.int f'), some (.int s), some (.int (Int32.ofNat p))], [], pd_st K D (pd_RF q) J n) o ↔ pd_G xs Ls d pd_m51 (62, [some (.ref (6 : Nat)), some (.int k), some (.int f'), some (.int s), some (.int (Int32.ofNat 5))], [], pd_st (zsc f p K) D (pd_RF q) J n) o) := by
  intro f
  induction f with
  | zero =>
    intro p K hp
    have e : p = 5 := by omega
    subst e
    have z : ((5 : Int32) ≤ Int32.ofNat 5) := by decide
    have hst : pd_SH[28]? = some (.inl 6) := rfl
    rw [p51_39]
    simp only [p51_0, p51_1, p51_4, p51_5, p51_6, p51_7, p51_8, p51_11, p51_12, p51_13, p51_14, p51_15, p51_16, p51_19, p51_20, p51_21, p51_24, p51_25, p51_26, p51_29, p51_30, p51_33, p51_36, p51_37, p51_41, p51_42, p51_45, p51_46, p51_49, p51_51, p51_52, p51_53, p51_56, p51_59, p51_63, p51_66, p51_67, p51_68, p51_69, p51_72, p51_73, p51_74, p51_77, p51_78, p51_79, p51_82, p51_83, p51_84, p51_87, gf3_10 sh6, gf3_2 sh6, gf3_3 sh6, mm_rV, pd_stI, pf3_11 sh6, pf3_5 sh6, pf3_6 sh6, pf3_7 sh6, pf3_8 sh6, pf3_9 sh6, pf6_0 hst, qi0 sh23, qi1 hst, so5_4i, mm_lA, mm_lI, mm_lD, mm_lJ, mm_ld0, mm_lds, pd_Kgo, pd_Kend, pd_Kno, pd_Kite, mm_i, mm_ii, mm_r, mm_1, mm_icmp, cond_true, cond_false, mm_o2, mm_c2, wt0, wt1, wt2, wt3, wt4, va_rfs, pd_bkv, pd_bkn, pd_bkif, pd_st1, Nat.reduceAdd, Nat.reduceLeDiff, Bool.or_false, Bool.or_self, if_pos z]
    rfl
  | succ f ih =>
    intro p K hp
    have z := five (p := p) (by omega)
    have hst := st_sh (i := p) (by omega)
    rw [p51_39]
    simp only [p51_0, p51_1, p51_4, p51_5, p51_6, p51_7, p51_8, p51_11, p51_12, p51_13, p51_14, p51_15, p51_16, p51_19, p51_20, p51_21, p51_24, p51_25, p51_26, p51_29, p51_30, p51_33, p51_36, p51_37, p51_41, p51_42, p51_45, p51_46, p51_49, p51_51, p51_52, p51_53, p51_56, p51_59, p51_63, p51_66, p51_67, p51_68, p51_69, p51_72, p51_73, p51_74, p51_77, p51_78, p51_79, p51_82, p51_83, p51_84, p51_87, gf3_10 sh6, gf3_2 sh6, gf3_3 sh6, mm_rV, pd_stI, pf3_11 sh6, pf3_5 sh6, pf3_6 sh6, pf3_7 sh6, pf3_8 sh6, pf3_9 sh6, pf6_0 hst, qi0 sh23, qi1 hst, so5_4i, mm_lA, mm_lI, mm_lD, mm_lJ, mm_ld0, mm_lds, pd_Kgo, pd_Kend, pd_Kno, pd_Kite, mm_i, mm_ii, mm_r, mm_1, mm_icmp, cond_true, cond_false, mm_o2, mm_c2, wt0, wt1, wt2, wt3, wt4, va_rfs, pd_bkv, pd_bkn, pd_bkif, pd_st1, Nat.reduceAdd, Nat.reduceLeDiff, Bool.or_false, Bool.or_self, if_neg z, rf_6a, pd_sa (i := p) (by omega), pd_suc]
    exact ih (p + 1) _ (by omega)
theorem ev51 {k f s : Int32} (hd : 3 ≤ d) : mm_ev xs Ls pd_ck pd_ak pd_mj d 51 [.ref (6 : Nat), .int k, .int f, .int s] (pd_st K D (pd_RF q) J n) = some (.inl none, pd_st (prK K k f s) D (pd_RF q) J n) := by
  obtain ⟨d, rfl⟩ : ∃ e, d = e + 1 := ⟨d - 1, by omega⟩
  have hst : pd_SH[28 + 3 * 0]? = some (.inl 6) := rfl
  have c0 := fun x pc L r => pd_ic (I := K) (D := D) (A := pd_RF q) (J := J) (n := n) (a := 25) (k := 0) (mm := 2) (x := x) (pc := pc) (L := L) (r := r) rfl (by omega) (by omega)
  have c1 := fun x pc L r => pd_ic (I := mm_u K 25 0 f) (D := D) (A := pd_RF q) (J := J) (n := n) (a := 25) (k := 1) (mm := 2) (x := x) (pc := pc) (L := L) (r := r) rfl (by omega) (by omega)
  rw [show Int32.ofNat 0 = (0 : Int32) from rfl] at c0
  rw [show Int32.ofNat 1 = (1 : Int32) from rfl] at c1
  have hz := fun o => lp51 (xs := xs) (Ls := Ls) (D := D) (J := J) (n := n) (q := q) (d := d) (k := k) (f' := f) (s := s) (o := o) 5 0 (mm_u (mm_u (mm_u (mm_u (mm_u (mm_u K 25 0 f) 25 1 s) 6 5 0) 6 6 0) 6 9 0) 23 2 0) (by omega)
  rw [show Int32.ofNat 0 = (0 : Int32) from rfl] at hz
  refine pd_ev_of (Nat.le_of_ble_eq_true rfl) ?_; rw [show pd_mj 51 = pd_m51 from rfl, show mm_pad (mm_in [.ref (6 : Nat), .int k, .int f, .int s]) pd_m51.nL = [some (.ref (6 : Nat)), some (.int k), some (.int f), some (.int s), none] from rfl]
  simp only [p51_0, p51_1, p51_4, p51_5, p51_6, p51_7, p51_8, p51_11, p51_12, p51_13, p51_14, p51_15, p51_16, p51_19, p51_20, p51_21, p51_24, p51_25, p51_26, p51_29, p51_30, p51_33, p51_36, p51_37, p51_41, p51_42, p51_45, p51_46, p51_49, p51_51, p51_52, p51_53, p51_56, p51_59, p51_62, p51_63, p51_66, p51_67, p51_68, p51_69, p51_72, p51_73, p51_74, p51_77, p51_78, p51_79, p51_82, p51_83, p51_84, p51_87, gf3_10 sh6, gf3_2 sh6, gf3_3 sh6, mm_rV, pd_stI, pf3_11 sh6, pf3_5 sh6, pf3_6 sh6, pf3_7 sh6, pf3_8 sh6, pf3_9 sh6, pf6_0 hst, qi0 sh23, qi1 hst, so5_4i, mm_lA, mm_lI, mm_lD, mm_lJ, mm_ld0, mm_lds, pd_Kgo, pd_Kend, pd_Kno, pd_Kite, mm_i, mm_ii, mm_r, mm_1, mm_icmp, cond_true, cond_false, mm_o2, mm_c2, wt0, wt1, wt2, wt3, wt4, va_rfs, pd_bkv, pd_bkn, pd_bkif, pd_st1, Nat.reduceAdd, Nat.reduceLeDiff, Bool.or_false, Bool.or_self, rf_63, rf_62, c0, c1, ev83 (d := d) (by omega)]
  rw [hz]
  unfold prK
  generalize zsc 5 0 (mm_u (mm_u (mm_u (mm_u (mm_u (mm_u K 25 0 f) 25 1 s) 6 5 0) 6 6 0) 6 9 0) 23 2 0) = Z at *
  have s0 := fun pc L r => pd_sa (K := Z) (D := D) (J := J) (n := n) (q := q) (i := 0) (pc := pc) (L := L) (r := r) (by omega)
  rw [show Int32.ofNat 0 = (0 : Int32) from rfl] at s0
  simp only [p51_0, p51_1, p51_4, p51_5, p51_6, p51_7, p51_8, p51_11, p51_12, p51_13, p51_14, p51_15, p51_16, p51_19, p51_20, p51_21, p51_24, p51_25, p51_26, p51_29, p51_30, p51_33, p51_36, p51_37, p51_41, p51_42, p51_45, p51_46, p51_49, p51_51, p51_52, p51_53, p51_56, p51_59, p51_62, p51_63, p51_66, p51_67, p51_68, p51_69, p51_72, p51_73, p51_74, p51_77, p51_78, p51_79, p51_82, p51_83, p51_84, p51_87, gf3_10 sh6, gf3_2 sh6, gf3_3 sh6, mm_rV, pd_stI, pf3_11 sh6, pf3_5 sh6, pf3_6 sh6, pf3_7 sh6, pf3_8 sh6, pf3_9 sh6, pf6_0 hst, qi0 sh23, qi1 hst, so5_4i, mm_lA, mm_lI, mm_lD, mm_lJ, mm_ld0, mm_lds, pd_Kgo, pd_Kend, pd_Kno, pd_Kite, mm_i, mm_ii, mm_r, mm_1, mm_icmp, cond_true, cond_false, mm_o2, mm_c2, wt0, wt1, wt2, wt3, wt4, va_rfs, pd_bkv, pd_bkn, pd_bkif, pd_st1, Nat.reduceAdd, Nat.reduceLeDiff, Bool.or_false, Bool.or_self, rf_6a, s0, ev86 (d := d) (i := 0) (by omega) (by omega)]
abbrev hd50 (k f s : Int32) (j : Nat) (S : mm_St) : mm_Z := (10, [some (.ref (6 : Nat)), some (.int k), some (.int f), some (.int s), some (.int (Int32.ofNat j))], [], S)
theorem lt200 {j : Nat} (h : j < 200) : ¬ ((200 : Int32) ≤ Int32.ofNat j) := by rw [show (200 : Int32) = Int32.ofNat 200 from rfl, pd_gtl (by omega) (by omega)]; omega
theorem p50_end {k f s : Int32} {j : Nat} (hj : j ≤ 200) (h : K 6 11 ≤ 0) : pd_G xs Ls d pd_m50 (hd50 k f s j (pd_st K D (pd_RF q) J n)) (.inl (some (.int (K 6 6))), pd_st K D (pd_RF q) J n) := by
  rw [p50_10]
  by_cases hj2 : j < 200
  · simp only [p50_0, p50_1, p50_2, p50_3, p50_4, p50_7, p50_8, p50_12, p50_15, p50_18, p50_19, p50_22, p50_25, p50_26, p50_27, p50_30, p50_33, p50_34, p50_37, p50_40, p50_43, p50_44, p50_47, p50_50, p50_60, p50_61, p50_64, gf3_11 sh6, gf3_6 sh6, mm_e0, qi0 sh6, qi1 sh6, qi3 sh6, so5_4i, mm_lA, mm_lI, mm_lD, mm_lJ, mm_ld0, mm_lds, pd_Kgo, pd_Kend, pd_Kno, pd_Kite, mm_i, mm_ii, mm_r, mm_1, mm_icmp, cond_true, cond_false, mm_o2, mm_c2, wt0, wt1, wt2, wt3, wt4, va_rfs, pd_bkv, pd_bkn, pd_bkif, pd_st1, Nat.reduceAdd, Nat.reduceLeDiff, Bool.or_false, Bool.or_self, if_neg (lt200 hj2), if_pos h]
  · have z : ((200 : Int32) ≤ Int32.ofNat j) := by rw [show j = 200 by omega]; decide
    simp only [p50_0, p50_1, p50_2, p50_3, p50_4, p50_7, p50_8, p50_12, p50_15, p50_18, p50_19, p50_22, p50_25, p50_26, p50_27, p50_30, p50_33, p50_34, p50_37, p50_40, p50_43, p50_44, p50_47, p50_50, p50_60, p50_61, p50_64, gf3_11 sh6, gf3_6 sh6, mm_e0, qi0 sh6, qi1 sh6, qi3 sh6, so5_4i, mm_lA, mm_lI, mm_lD, mm_lJ, mm_ld0, mm_lds, pd_Kgo, pd_Kend, pd_Kno, pd_Kite, mm_i, mm_ii, mm_r, mm_1, mm_icmp, cond_true, cond_false, mm_o2, mm_c2, wt0, wt1, wt2, wt3, wt4, va_rfs, pd_bkv, pd_bkn, pd_bkif, pd_st1, Nat.reduceAdd, Nat.reduceLeDiff, Bool.or_false, Bool.or_self, if_pos z, if_pos h]
theorem p50_lim {k f s : Int32} (h : ¬ (K 6 11 ≤ 0)) : pd_G xs Ls d pd_m50 (hd50 k f s 200 (pd_st K D (pd_RF q) J n)) (.inr 1, pd_st K D (pd_RF q) J (n + 1)) := by
  have z : ((200 : Int32) ≤ Int32.ofNat 200) := by decide
  rw [p50_10]
  simp only [p50_0, p50_1, p50_2, p50_3, p50_4, p50_7, p50_8, p50_12, p50_15, p50_18, p50_19, p50_22, p50_25, p50_26, p50_27, p50_30, p50_33, p50_34, p50_37, p50_40, p50_43, p50_44, p50_47, p50_50, p50_60, p50_61, p50_64, gf3_11 sh6, gf3_6 sh6, mm_e0, qi0 sh6, qi1 sh6, qi3 sh6, so5_4i, mm_lA, mm_lI, mm_lD, mm_lJ, mm_ld0, mm_lds, pd_Kgo, pd_Kend, pd_Kno, pd_Kite, mm_i, mm_ii, mm_r, mm_1, mm_icmp, cond_true, cond_false, mm_o2, mm_c2, wt0, wt1, wt2, wt3, wt4, va_rfs, pd_bkv, pd_bkn, pd_bkif, pd_st1, Nat.reduceAdd, Nat.reduceLeDiff, Bool.or_false, Bool.or_self, if_pos z, if_neg h, thr0]
  rfl
theorem p50_tt {k f s : Int32} {j : Nat} (hj : j < 200) (h : ¬ (K 6 11 ≤ 0)) (hT : mm_ev xs Ls pd_ck pd_ak pd_mj d 52 [.ref (6 : Nat)] (pd_st K D (pd_RF q) J n) = some (.inr 1, pd_st K D (pd_RF q) J (n + 1))) : pd_G xs Ls d pd_m50 (hd50 k f s j (pd_st K D (pd_RF q) J n)) (.inr 1, pd_st K D (pd_RF q) J (n + 1)) := by
  rw [p50_10]
  simp only [p50_0, p50_1, p50_2, p50_3, p50_4, p50_7, p50_8, p50_12, p50_15, p50_18, p50_19, p50_22, p50_25, p50_26, p50_27, p50_30, p50_33, p50_34, p50_37, p50_40, p50_43, p50_44, p50_47, p50_50, p50_60, p50_61, p50_64, gf3_11 sh6, gf3_6 sh6, mm_e0, qi0 sh6, qi1 sh6, qi3 sh6, so5_4i, mm_lA, mm_lI, mm_lD, mm_lJ, mm_ld0, mm_lds, pd_Kgo, pd_Kend, pd_Kno, pd_Kite, mm_i, mm_ii, mm_r, mm_1, mm_icmp, cond_true, cond_false, mm_o2, mm_c2, wt0, wt1, wt2, wt3, wt4, va_rfs, pd_bkv, pd_bkn, pd_bkif, pd_st1, Nat.reduceAdd, Nat.reduceLeDiff, Bool.or_false, Bool.or_self, if_neg (lt200 hj), if_neg h, hT, pd_bkE (me := pd_m50) rfl]
theorem p50_ts {k f s r : Int32} {E j : Nat} {S' : mm_St} (hj : j < 200) (h : ¬ (K 6 11 ≤ 0)) (hT : mm_ev xs Ls pd_ck pd_ak pd_mj d 52 [.ref (6 : Nat)] (pd_st K D (pd_RF q) J n) = some (.inl (some (.int r)), pd_st K1 D (pd_RF q) J n)) (hS : mm_ev xs Ls pd_ck pd_ak pd_mj d 53 [.ref (6 : Nat), .int r] (pd_st K1 D (pd_RF q) J n) = some (.inr E, S')) : pd_G xs Ls d pd_m50 (hd50 k f s j (pd_st K D (pd_RF q) J n)) (.inr E, S') := by
  rw [p50_10]
  simp only [p50_0, p50_1, p50_2, p50_3, p50_4, p50_7, p50_8, p50_12, p50_15, p50_18, p50_19, p50_22, p50_25, p50_26, p50_27, p50_30, p50_33, p50_34, p50_37, p50_40, p50_43, p50_44, p50_47, p50_50, p50_60, p50_61, p50_64, gf3_11 sh6, gf3_6 sh6, mm_e0, qi0 sh6, qi1 sh6, qi3 sh6, so5_4i, mm_lA, mm_lI, mm_lD, mm_lJ, mm_ld0, mm_lds, pd_Kgo, pd_Kend, pd_Kno, pd_Kite, mm_i, mm_ii, mm_r, mm_1, mm_icmp, cond_true, cond_false, mm_o2, mm_c2, wt0, wt1, wt2, wt3, wt4, va_rfs, pd_bkv, pd_bkn, pd_bkif, pd_st1, Nat.reduceAdd, Nat.reduceLeDiff, Bool.or_false, Bool.or_self, if_neg (lt200 hj), if_neg h, hT, hS, pd_bkE (me := pd_m50) rfl]
theorem p50_go {k f s r : Int32} {j : Nat} (hj : j < 200) (h : ¬ (K 6 11 ≤ 0)) (hT : mm_ev xs Ls pd_ck pd_ak pd_mj d 52 [.ref (6 : Nat)] (pd_st K D (pd_RF q) J n) = some (.inl (some (.int r)), pd_st K1 D (pd_RF q) J n)) (hS : mm_ev xs Ls pd_ck pd_ak pd_mj d 53 [.ref (6 : Nat), .int r] (pd_st K1 D (pd_RF q) J n) = some (.inl none, pd_st K2 D' (pd_RF q) J n)) (hL : mm_ev xs Ls pd_ck pd_ak pd_mj d 62 [.ref (6 : Nat)] (pd_st K2 D' (pd_RF q) J n) = some (.inl none, pd_st K3 D' (pd_RF q) J n)) (hG : pd_G xs Ls d pd_m50 (hd50 k f s (j + 1) (pd_st K3 D' (pd_RF q) J n)) o) : pd_G xs Ls d pd_m50 (hd50 k f s j (pd_st K D (pd_RF q) J n)) o := by
  rw [p50_10]
  simp only [p50_0, p50_1, p50_2, p50_3, p50_4, p50_7, p50_8, p50_12, p50_15, p50_18, p50_19, p50_22, p50_25, p50_26, p50_27, p50_30, p50_33, p50_34, p50_37, p50_40, p50_43, p50_44, p50_47, p50_50, p50_60, p50_61, p50_64, gf3_11 sh6, gf3_6 sh6, mm_e0, qi0 sh6, qi1 sh6, qi3 sh6, so5_4i, mm_lA, mm_lI, mm_lD, mm_lJ, mm_ld0, mm_lds, pd_Kgo, pd_Kend, pd_Kno, pd_Kite, mm_i, mm_ii, mm_r, mm_1, mm_icmp, cond_true, cond_false, mm_o2, mm_c2, wt0, wt1, wt2, wt3, wt4, va_rfs, pd_bkv, pd_bkn, pd_bkif, pd_st1, Nat.reduceAdd, Nat.reduceLeDiff, Bool.or_false, Bool.or_self, if_neg (lt200 hj), if_neg h, hT, hS, hL, pd_suc]
  exact hG
theorem ev50 {k f s : Int32} {o : mm_O} (hd : 9 ≤ d) (hG : ∀ d, 8 ≤ d → pd_G xs Ls d pd_m50 (hd50 k f s 0 (pd_st (prK K k f s) D (pd_RF q) J n)) o) : mm_ev xs Ls pd_ck pd_ak pd_mj d 50 [.ref (6 : Nat), .int k, .int f, .int s] (pd_st K D (pd_RF q) J n) = some o := by
  obtain ⟨d, rfl⟩ : ∃ e, d = e + 1 := ⟨d - 1, by omega⟩
  have hG' := hG d (by omega)
  refine pd_ev_of (Nat.le_of_ble_eq_true rfl) ?_; rw [show pd_mj 50 = pd_m50 from rfl, show mm_pad (mm_in [.ref (6 : Nat), .int k, .int f, .int s]) pd_m50.nL = [some (.ref (6 : Nat)), some (.int k), some (.int f), some (.int s), none] from rfl]
  simp only [p50_0, p50_1, p50_2, p50_3, p50_4, p50_7, p50_8, p50_12, p50_15, p50_18, p50_19, p50_22, p50_25, p50_26, p50_27, p50_30, p50_33, p50_34, p50_37, p50_40, p50_43, p50_44, p50_47, p50_50, p50_60, p50_61, p50_64, gf3_11 sh6, gf3_6 sh6, mm_e0, qi0 sh6, qi1 sh6, qi3 sh6, so5_4i, mm_lA, mm_lI, mm_lD, mm_lJ, mm_ld0, mm_lds, pd_Kgo, pd_Kend, pd_Kno, pd_Kite, mm_i, mm_ii, mm_r, mm_1, mm_icmp, cond_true, cond_false, mm_o2, mm_c2, wt0, wt1, wt2, wt3, wt4, va_rfs, pd_bkv, pd_bkn, pd_bkif, pd_st1, Nat.reduceAdd, Nat.reduceLeDiff, Bool.or_false, Bool.or_self, ev51 (d := d) (by omega)]
  exact hG'
theorem ev8 {z : Int32} {S : mm_St} (hd : 1 ≤ d) : mm_ev xs Ls pd_ck pd_ak pd_mj d 8 [.int z] S = some (.inl (some (.int (pd_b (isSe z)))), S) := by
  obtain ⟨d, rfl⟩ : ∃ e, d = e + 1 := ⟨d - 1, by omega⟩
  refine pd_ev_of (Nat.le_of_ble_eq_true rfl) ?_; rw [show pd_mj 8 = pd_m8 from rfl, show mm_pad (mm_in [.int z]) pd_m8.nL = [some (.int z)] from rfl]
  simp only [p8_0, p8_1, p8_4, p8_5, p8_7, p8_10, p8_11, p8_14, p8_15, mm_e4, mm_lA, mm_lI, mm_lD, mm_lJ, mm_ld0, mm_lds, pd_Kgo, pd_Kend, pd_Kno, pd_Kite, mm_i, mm_ii, mm_r, mm_1, mm_icmp, cond_true, cond_false, mm_o2, mm_c2, wt0, wt1, wt2, wt3, wt4, va_rfs, pd_bkv, pd_bkn, pd_bkif, pd_st1, Nat.reduceAdd, Nat.reduceLeDiff, Bool.or_false, Bool.or_self, or_true, true_or]
  unfold isSe
  by_cases h1 : z < 0
  · simp [h1, pd_b]
  · by_cases h2 : 9 < z
    · simp [h1, h2, pd_b, Int32.not_le.mpr h2]
    · simp [h1, h2, pd_b, Int32.not_lt.mp h2]
/-- run -/
theorem ev7a {k f s : Int32} (hd : 2 ≤ d) (h : isPr k = false ∨ isSe f = false ∨ isSe s = false) : mm_ev xs Ls pd_ck pd_ak pd_mj d 7 [.ref (0 : Nat), .int k, .int f, .int s] (pd_st K D (pd_RF q) J n) = some (.inr 0, pd_st K D (pd_RF q) J (n + 1)) := by
  obtain ⟨d, rfl⟩ : ∃ e, d = e + 1 := ⟨d - 1, by omega⟩
  have hc : pd_cO 3 := Or.inl rfl
  have e1 : ((pd_b true : Int32) = 0) = False := eq_false (by decide)
  have e0 : ((pd_b false : Int32) = 0) = True := eq_true (by decide)
  refine pd_ev_of (Nat.le_of_ble_eq_true rfl) ?_; rw [show pd_mj 7 = pd_m7 from rfl, show mm_pad (mm_in [.ref (0 : Nat), .int k, .int f, .int s]) pd_m7.nL = [some (.ref (0 : Nat)), some (.int k), some (.int f), some (.int s)] from rfl]
  cases h1 : isPr k
  · simp only [p7_0, p7_1, p7_4, p7_7, p7_8, p7_11, p7_14, p7_15, p7_18, p7_21, p7_31, p7_32, p7_35, p7_38, p7_39, p7_40, p7_43, p7_46, p7_56, p7_57, p7_60, p7_61, p7_62, p7_63, p7_66, gf0_1 sh0, gf1_4 hc.sh, gf3_0 sh6, mm_e0, pd_KinS1, pd_stI, qi3 sh6, mm_lA, mm_lI, mm_lD, mm_lJ, mm_ld0, mm_lds, pd_Kgo, pd_Kend, pd_Kno, pd_Kite, mm_i, mm_ii, mm_r, mm_1, mm_icmp, cond_true, cond_false, mm_o2, mm_c2, wt0, wt1, wt2, wt3, wt4, va_rfs, pd_bkv, pd_bkn, pd_bkif, pd_st1, Nat.reduceAdd, Nat.reduceLeDiff, Bool.or_false, Bool.or_self, ev5 (d := d) (by omega), h1, e0, if_true, thr0]
    rfl
  · cases h2 : isSe f
    · simp only [p7_0, p7_1, p7_4, p7_7, p7_8, p7_11, p7_14, p7_15, p7_18, p7_21, p7_31, p7_32, p7_35, p7_38, p7_39, p7_40, p7_43, p7_46, p7_56, p7_57, p7_60, p7_61, p7_62, p7_63, p7_66, gf0_1 sh0, gf1_4 hc.sh, gf3_0 sh6, mm_e0, pd_KinS1, pd_stI, qi3 sh6, mm_lA, mm_lI, mm_lD, mm_lJ, mm_ld0, mm_lds, pd_Kgo, pd_Kend, pd_Kno, pd_Kite, mm_i, mm_ii, mm_r, mm_1, mm_icmp, cond_true, cond_false, mm_o2, mm_c2, wt0, wt1, wt2, wt3, wt4, va_rfs, pd_bkv, pd_bkn, pd_bkif, pd_st1, Nat.reduceAdd, Nat.reduceLeDiff, Bool.or_false, Bool.or_self, ev5 (d := d) (by omega), ev8 (d := d) (by omega), h1, h2, e0, e1, if_true, if_false, thr0]
      rfl
    · cases h3 : isSe s
      · simp only [p7_0, p7_1, p7_4, p7_7, p7_8, p7_11, p7_14, p7_15, p7_18, p7_21, p7_31, p7_32, p7_35, p7_38, p7_39, p7_40, p7_43, p7_46, p7_56, p7_57, p7_60, p7_61, p7_62, p7_63, p7_66, gf0_1 sh0, gf1_4 hc.sh, gf3_0 sh6, mm_e0, pd_KinS1, pd_stI, qi3 sh6, mm_lA, mm_lI, mm_lD, mm_lJ, mm_ld0, mm_lds, pd_Kgo, pd_Kend, pd_Kno, pd_Kite, mm_i, mm_ii, mm_r, mm_1, mm_icmp, cond_true, cond_false, mm_o2, mm_c2, wt0, wt1, wt2, wt3, wt4, va_rfs, pd_bkv, pd_bkn, pd_bkif, pd_st1, Nat.reduceAdd, Nat.reduceLeDiff, Bool.or_false, Bool.or_self, ev5 (d := d) (by omega), ev8 (d := d) (by omega), h1, h2, h3, e0, e1, if_true, if_false, thr0]
        rfl
      · rcases h with h | h | h
        · rw [h] at h1; cases h1
        · rw [h] at h2; cases h2
        · rw [h] at h3; cases h3
theorem isPr_k {k : Nat} (hk : k < 4) : isPr (Int32.ofNat k) = true := by
  have : k = 0 ∨ k = 1 ∨ k = 2 ∨ k = 3 := by omega
  rcases this with rfl | rfl | rfl | rfl <;> decide
theorem ev7b {k : Nat} {f s : Int32} (hd : 2 ≤ d) (hk : k < 4) (hf : isSe f = true) (hs : isSe s = true) (hc : pd_cO (q k)) (h0 : K (q k) 4 = 0) : mm_ev xs Ls pd_ck pd_ak pd_mj d 7 [.ref (0 : Nat), .int (Int32.ofNat k), .int f, .int s] (pd_st K D (pd_RF q) J n) = some (.inr 2, pd_st K D (pd_RF q) J (n + 1)) := by
  obtain ⟨d, rfl⟩ : ∃ e, d = e + 1 := ⟨d - 1, by omega⟩
  have e1 : ((pd_b true : Int32) = 0) = False := eq_false (by decide)
  refine pd_ev_of (Nat.le_of_ble_eq_true rfl) ?_; rw [show pd_mj 7 = pd_m7 from rfl, show mm_pad (mm_in [.ref (0 : Nat), .int (Int32.ofNat k), .int f, .int s]) pd_m7.nL = [some (.ref (0 : Nat)), some (.int (Int32.ofNat k)), some (.int f), some (.int s)] from rfl]
  simp only [p7_0, p7_1, p7_4, p7_7, p7_8, p7_11, p7_14, p7_15, p7_18, p7_21, p7_31, p7_32, p7_35, p7_38, p7_39, p7_40, p7_43, p7_46, p7_56, p7_57, p7_60, p7_61, p7_62, p7_63, p7_66, gf0_1 sh0, gf1_4 hc.sh, gf3_0 sh6, mm_e0, pd_KinS1, pd_stI, qi3 sh6, mm_lA, mm_lI, mm_lD, mm_lJ, mm_ld0, mm_lds, pd_Kgo, pd_Kend, pd_Kno, pd_Kite, mm_i, mm_ii, mm_r, mm_1, mm_icmp, cond_true, cond_false, mm_o2, mm_c2, wt0, wt1, wt2, wt3, wt4, va_rfs, pd_bkv, pd_bkn, pd_bkif, pd_st1, Nat.reduceAdd, Nat.reduceLeDiff, Bool.or_false, Bool.or_self, ev5 (d := d) (by omega), ev8 (d := d) (by omega), isPr_k hk, hf, hs, e1, if_false, rf_01, rf_60, pd_ca hk, h0, if_true, thr0]
  rfl
theorem ev7c {k : Nat} {f s : Int32} {r : Option Value ⊕ Nat} {S' : mm_St} (hd : 10 ≤ d) (hk : k < 4) (hf : isSe f = true) (hs : isSe s = true) (hc : pd_cO (q k)) (h0 : K (q k) 4 ≠ 0) (hr : (∃ w, r = .inl (some (.int w))) ∨ ∃ E, r = .inr E) (hP : ∀ d, 9 ≤ d → mm_ev xs Ls pd_ck pd_ak pd_mj d 50 [.ref (6 : Nat), .int (Int32.ofNat k), .int f, .int s] (pd_st K D (pd_RF q) J n) = some (r, S')) : mm_ev xs Ls pd_ck pd_ak pd_mj d 7 [.ref (0 : Nat), .int (Int32.ofNat k), .int f, .int s] (pd_st K D (pd_RF q) J n) = some (r, S') := by
  obtain ⟨d, rfl⟩ : ∃ e, d = e + 1 := ⟨d - 1, by omega⟩
  have e1 : ((pd_b true : Int32) = 0) = False := eq_false (by decide)
  have hP' := hP d (by omega)
  refine pd_ev_of (Nat.le_of_ble_eq_true rfl) ?_; rw [show pd_mj 7 = pd_m7 from rfl, show mm_pad (mm_in [.ref (0 : Nat), .int (Int32.ofNat k), .int f, .int s]) pd_m7.nL = [some (.ref (0 : Nat)), some (.int (Int32.ofNat k)), some (.int f), some (.int s)] from rfl]
  rcases hr with ⟨w, rfl⟩ | ⟨E, rfl⟩
  · simp only [p7_0, p7_1, p7_4, p7_7, p7_8, p7_11, p7_14, p7_15, p7_18, p7_21, p7_31, p7_32, p7_35, p7_38, p7_39, p7_40, p7_43, p7_46, p7_56, p7_57, p7_60, p7_61, p7_62, p7_63, p7_66, gf0_1 sh0, gf1_4 hc.sh, gf3_0 sh6, mm_e0, pd_KinS1, pd_stI, qi3 sh6, mm_lA, mm_lI, mm_lD, mm_lJ, mm_ld0, mm_lds, pd_Kgo, pd_Kend, pd_Kno, pd_Kite, mm_i, mm_ii, mm_r, mm_1, mm_icmp, cond_true, cond_false, mm_o2, mm_c2, wt0, wt1, wt2, wt3, wt4, va_rfs, pd_bkv, pd_bkn, pd_bkif, pd_st1, Nat.reduceAdd, Nat.reduceLeDiff, Bool.or_false, Bool.or_self, ev5 (d := d) (by omega), ev8 (d := d) (by omega), isPr_k hk, hf, hs, e1, if_false, rf_01, rf_60, pd_ca hk, if_neg h0, hP']
  · simp only [p7_0, p7_1, p7_4, p7_7, p7_8, p7_11, p7_14, p7_15, p7_18, p7_21, p7_31, p7_32, p7_35, p7_38, p7_39, p7_40, p7_43, p7_46, p7_56, p7_57, p7_60, p7_61, p7_62, p7_63, p7_66, gf0_1 sh0, gf1_4 hc.sh, gf3_0 sh6, mm_e0, pd_KinS1, pd_stI, qi3 sh6, mm_lA, mm_lI, mm_lD, mm_lJ, mm_ld0, mm_lds, pd_Kgo, pd_Kend, pd_Kno, pd_Kite, mm_i, mm_ii, mm_r, mm_1, mm_icmp, cond_true, cond_false, mm_o2, mm_c2, wt0, wt1, wt2, wt3, wt4, va_rfs, pd_bkv, pd_bkn, pd_bkif, pd_st1, Nat.reduceAdd, Nat.reduceLeDiff, Bool.or_false, Bool.or_self, ev5 (d := d) (by omega), ev8 (d := d) (by omega), isPr_k hk, hf, hs, e1, if_false, rf_01, rf_60, pd_ca hk, if_neg h0, hP', pd_bkE (me := pd_m7) rfl]
end CL8
