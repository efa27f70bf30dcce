/-! THE CLASS: tape, strands, small methods of the runner -/
section CL3
variable {K : pd_I} {D : pd_D} {J : pd_J} {n : Nat} {xs : Nat → Int32} {Ls d : Nat} {q : Nat → Nat} {c h i : Nat} {v x y : UInt64}
theorem st_sh (h : i < 5) : pd_SH[28 + 3 * i]? = some (.inl 6) := by
  have : i = 0 ∨ i = 1 ∨ i = 2 ∨ i = 3 ∨ i = 4 := by omega
  rcases this with rfl | rfl | rfl | rfl | rfl <;> rfl
theorem st_sh9 (h : i < 5) : pd_SH[29 + 3 * i]? = some (.inr (0, 6)) := by
  have : i = 0 ∨ i = 1 ∨ i = 2 ∨ i = 3 ∨ i = 4 := by omega
  rcases this with rfl | rfl | rfl | rfl | rfl <;> rfl
theorem st_sh10 (h : i < 5) : pd_SH[30 + 3 * i]? = some (.inr (0, 6)) := by
  have : i = 0 ∨ i = 1 ∨ i = 2 ∨ i = 3 ∨ i = 4 := by omega
  rcases this with rfl | rfl | rfl | rfl | rfl <;> rfl
theorem rf_27 (h : i < 5) : pd_RF q 27 i = some (28 + 3 * i) := by
  have : i = 0 ∨ i = 1 ∨ i = 2 ∨ i = 3 ∨ i = 4 := by omega
  rcases this with rfl | rfl | rfl | rfl | rfl <;> rfl
theorem rf_s9 (h : i < 5) : pd_RF q (28 + 3 * i) 9 = some (29 + 3 * i) := by
  have : i = 0 ∨ i = 1 ∨ i = 2 ∨ i = 3 ∨ i = 4 := by omega
  rcases this with rfl | rfl | rfl | rfl | rfl <;> rfl
theorem rf_s10 (h : i < 5) : pd_RF q (28 + 3 * i) 10 = some (30 + 3 * i) := by
  have : i = 0 ∨ i = 1 ∨ i = 2 ∨ i = 3 ∨ i = 4 := by omega
  rcases this with rfl | rfl | rfl | rfl | rfl <;> rfl
/-- the strand of a process -/
theorem pd_sa {pc : Nat} {L : mm_L} {r : List Value} (h : i < 5) : (mm_ai pd_ak (pd_st K D (pd_RF q) J n) (.int (Int32.ofNat i) :: .ref (27 : Nat) :: r) 5 fun i a r => mm_go pc L (va_rf ((pd_st K D (pd_RF q) J n).2.1.2.2.1 a i.toNatClampNeg) :: r) (pd_st K D (pd_RF q) J n)) = mm_go pc L (.ref (28 + 3 * i) :: r) (pd_st K D (pd_RF q) J n) := by
  rw [pd_aa (a := 27) (t := 16) (mm := 5) rfl rfl h (by omega), rf_27 h]
  rfl
theorem lp82 {e : Int64} {m : Nat} (hm : m ≤ 16) : ∀ (f i : Nat) (K : pd_I), i + f = m → pd_G xs Ls d pd_m82 (3, [some (.ref (23 : Nat)), some (.long e), none, some (.int (Int32.ofNat m)), some (.int (Int32.ofNat i))], [], pd_st K D (pd_RF q) J n) (.inl none, pd_st (mm_u (tpL e 24 f i K) 23 1 (Int32.ofNat m)) D (pd_RF q) J n) := by
  intro f
  induction f with
  | zero =>
    intro i K hi
    have h : m ≤ i := by omega
    have e0 : tpL e 24 0 i K = K := rfl
    rw [p82_3, e0]
    simp only [p82_0, p82_1, p82_5, p82_6, p82_9, p82_11, p82_13, p82_16, p82_17, p82_20, p82_22, p82_23, p82_24, p82_26, p82_27, p82_28, p82_29, p82_31, p82_32, p82_33, p82_36, p82_39, p82_40, p82_41, p82_44, gf5_0 sh23, mm_j, mm_ji, mm_rV, pd_stI, pf5_1 sh23, so5_4i, mm_lA, mm_lI, mm_lD, mm_lJ, mm_ld0, mm_lds, pd_Kgo, pd_Kend, pd_Kno, pd_Kite, mm_i, mm_ii, mm_r, mm_1, mm_icmp, cond_true, cond_false, mm_o2, mm_c2, wt0, wt1, wt2, wt3, wt4, va_rfs, pd_bkv, pd_bkn, pd_bkif, pd_st1, Nat.reduceAdd, Nat.reduceLeDiff, Bool.or_false, Bool.or_self, pd_gtl (x := m) (y := i) (by omega) (by omega), if_pos h]
  | succ f ih =>
    intro i K hi
    have h : ¬ (m ≤ i) := by omega
    have h2 : ¬ ((16 : Int32) ≤ Int32.ofNat i) := by rw [show (16 : Int32) = Int32.ofNat 16 from rfl, pd_gtl (by omega) (by omega)]; omega
    have hI := ih (i + 1) (mm_u K 24 i (hby e (Int32.ofNat i))) (by omega)
    rw [p82_3]
    simp only [p82_0, p82_1, p82_5, p82_6, p82_9, p82_11, p82_13, p82_16, p82_17, p82_20, p82_22, p82_23, p82_24, p82_26, p82_27, p82_28, p82_29, p82_31, p82_32, p82_33, p82_36, p82_39, p82_40, p82_41, p82_44, gf5_0 sh23, mm_j, mm_ji, mm_rV, pd_stI, pf5_1 sh23, so5_4i, mm_lA, mm_lI, mm_lD, mm_lJ, mm_ld0, mm_lds, pd_Kgo, pd_Kend, pd_Kno, pd_Kite, mm_i, mm_ii, mm_r, mm_1, mm_icmp, cond_true, cond_false, mm_o2, mm_c2, wt0, wt1, wt2, wt3, wt4, va_rfs, pd_bkv, pd_bkn, pd_bkif, pd_st1, Nat.reduceAdd, Nat.reduceLeDiff, Bool.or_false, Bool.or_self, pd_gtl (x := m) (y := i) (by omega) (by omega), if_neg h, if_neg h2, rf_230, hby_e, pd_ic (a := 24) (mm := 16) rfl (show i < 16 by omega) (by omega), pd_suc]
    exact hI
theorem ev82 {e : Int64} {m : Nat} (hd : 1 ≤ d) (hm : m ≤ 16) : mm_ev xs Ls pd_ck pd_ak pd_mj d 82 [.ref (23 : Nat), .long e, .int (Int32.ofNat m)] (pd_st K D (pd_RF q) J n) = some (.inl none, pd_st (mm_u (tpL e 24 m 0 K) 23 1 (Int32.ofNat m)) D (pd_RF q) J n) := by
  obtain ⟨d, rfl⟩ : ∃ e, d = e + 1 := ⟨d - 1, by omega⟩
  refine pd_ev_of (Nat.le_of_ble_eq_true rfl) ?_; rw [show pd_mj 82 = pd_m82 from rfl, show mm_pad (mm_in [.ref (23 : Nat), .long e, .int (Int32.ofNat m)]) pd_m82.nL = [some (.ref (23 : Nat)), some (.long e), none, some (.int (Int32.ofNat m)), none] from rfl]
  have hI := lp82 (xs := xs) (Ls := Ls) (D := D) (J := J) (n := n) (q := q) (d := d) (e := e) hm m 0 K (by omega)
  rw [show Int32.ofNat 0 = (0 : Int32) from rfl] at hI
  simp only [p82_0, p82_1, p82_5, p82_6, p82_9, p82_11, p82_13, p82_16, p82_17, p82_20, p82_22, p82_23, p82_24, p82_26, p82_27, p82_28, p82_29, p82_31, p82_32, p82_33, p82_36, p82_39, p82_40, p82_41, p82_44, gf5_0 sh23, mm_j, mm_ji, mm_rV, pd_stI, pf5_1 sh23, so5_4i, mm_lA, mm_lI, mm_lD, mm_lJ, mm_ld0, mm_lds, pd_Kgo, pd_Kend, pd_Kno, pd_Kite, mm_i, mm_ii, mm_r, mm_1, mm_icmp, cond_true, cond_false, mm_o2, mm_c2, wt0, wt1, wt2, wt3, wt4, va_rfs, pd_bkv, pd_bkn, pd_bkif, pd_st1, Nat.reduceAdd, Nat.reduceLeDiff, Bool.or_false, Bool.or_self]
  exact hI
theorem ev83 (hd : 1 ≤ d) : mm_ev xs Ls pd_ck pd_ak pd_mj d 83 [.ref (23 : Nat)] (pd_st K D (pd_RF q) J n) = some (.inl none, pd_st (mm_u K 23 2 0) D (pd_RF q) J n) := by
  obtain ⟨d, rfl⟩ : ∃ e, d = e + 1 := ⟨d - 1, by omega⟩
  refine pd_ev_of (Nat.le_of_ble_eq_true rfl) ?_; rw [show pd_mj 83 = pd_m83 from rfl, show mm_pad (mm_in [.ref (23 : Nat)]) pd_m83.nL = [some (.ref (23 : Nat))] from rfl]
  simp only [p83_0, p83_1, p83_2, p83_5, mm_rV, pf5_2 sh23, mm_lA, mm_lI, mm_lD, mm_lJ, mm_ld0, mm_lds, pd_Kgo, pd_Kend, pd_Kno, pd_Kite, mm_i, mm_ii, mm_r, mm_1, mm_icmp, cond_true, cond_false, mm_o2, mm_c2, wt0, wt1, wt2, wt3, wt4, va_rfs, pd_bkv, pd_bkn, pd_bkif, pd_st1, Nat.reduceAdd, Nat.reduceLeDiff, Bool.or_false, Bool.or_self]
/-- the tape's next number: its place is at % length -/
theorem ev84 {a l : Nat} (hd : 1 ≤ d) (ha : K 23 2 = Int32.ofNat a) (hl : K 23 1 = Int32.ofNat l) (hl1 : 0 < l) (hl16 : l ≤ 16) (hal : a ≤ l) : mm_ev xs Ls pd_ck pd_ak pd_mj d 84 [.ref (23 : Nat)] (pd_st K D (pd_RF q) J n) = some (.inl (some (.int (K 24 (a % l)))), pd_st (mm_u K 23 2 (Int32.ofNat (a % l + 1))) D (pd_RF q) J n) := by
  obtain ⟨d, rfl⟩ : ∃ e, d = e + 1 := ⟨d - 1, by omega⟩
  refine pd_ev_of (Nat.le_of_ble_eq_true rfl) ?_; rw [show pd_mj 84 = pd_m84 from rfl, show mm_pad (mm_in [.ref (23 : Nat)]) pd_m84.nL = [some (.ref (23 : Nat)), none] from rfl]
  by_cases h : l ≤ a
  · have e : a % l = 0 := by rw [show a = l by omega]; exact Nat.mod_self l
    have i0 := fun pc L r => pd_il (I := mm_u K 23 2 0) (D := D) (A := pd_RF q) (J := J) (n := n) (xs := xs) (Ls := Ls) (a := 24) (k := 0) (t := 0) (mm := 16) (pc := pc) (L := L) (r := r) rfl rfl (by omega) (by omega)
    rw [show Int32.ofNat 0 = (0 : Int32) from rfl] at i0
    have z01 : (0 : Int32) + 1 = Int32.ofNat (0 + 1) := rfl
    have u24 : (mm_u K 23 2 0) 24 0 = K 24 0 := mm_u_a (by decide)
    rw [e]
    simp only [p84_0, p84_1, p84_4, p84_5, p84_8, p84_11, p84_12, p84_15, p84_17, p84_20, p84_21, p84_22, p84_25, p84_26, p84_29, p84_30, p84_33, p84_34, p84_35, p84_36, p84_37, p84_40, p84_41, p84_42, p84_45, p84_46, gf5_0 sh23, gf5_1 sh23, gf5_2 sh23, mm_e0, pf5_2 sh23, so2_1i, mm_lA, mm_lI, mm_lD, mm_lJ, mm_ld0, mm_lds, pd_Kgo, pd_Kend, pd_Kno, pd_Kite, mm_i, mm_ii, mm_r, mm_1, mm_icmp, cond_true, cond_false, mm_o2, mm_c2, wt0, wt1, wt2, wt3, wt4, va_rfs, pd_bkv, pd_bkn, pd_bkif, pd_st1, Nat.reduceAdd, Nat.reduceLeDiff, Bool.or_false, Bool.or_self, ha, hl, pd_gtl (x := l) (y := a) (by omega) (by omega), if_pos h, mm_u_s, rf_230, i0, u24, z01, mm_uu]
  · have e : a % l = a := Nat.mod_eq_of_lt (by omega)
    have z : Int32.ofNat a < 16 := by rw [show (16 : Int32) = Int32.ofNat 16 from rfl, pd_ltl (by omega) (by omega)]; omega
    rw [e]
    simp only [p84_0, p84_1, p84_4, p84_5, p84_8, p84_11, p84_12, p84_15, p84_17, p84_20, p84_21, p84_22, p84_25, p84_26, p84_29, p84_30, p84_33, p84_34, p84_35, p84_36, p84_37, p84_40, p84_41, p84_42, p84_45, p84_46, gf5_0 sh23, gf5_1 sh23, gf5_2 sh23, mm_e0, pf5_2 sh23, so2_1i, mm_lA, mm_lI, mm_lD, mm_lJ, mm_ld0, mm_lds, pd_Kgo, pd_Kend, pd_Kno, pd_Kite, mm_i, mm_ii, mm_r, mm_1, mm_icmp, cond_true, cond_false, mm_o2, mm_c2, wt0, wt1, wt2, wt3, wt4, va_rfs, pd_bkv, pd_bkn, pd_bkif, pd_st1, Nat.reduceAdd, Nat.reduceLeDiff, Bool.or_false, Bool.or_self, ha, hl, pd_gtl (x := l) (y := a) (by omega) (by omega), if_neg h, if_pos z, rf_230, pd_il (a := 24) (t := 0) (mm := 16) rfl rfl (show a < 16 by omega) (by omega), pd_suc]
/-- a strand starts -/
def srK (K : pd_I) (i : Nat) (pa k f b : Int32) : pd_I := mm_u (mm_u (mm_u (mm_u (mm_u (mm_u (mm_u K (28 + 3 * i) 0 1) (28 + 3 * i) 1 pa) (28 + 3 * i) 2 0) (28 + 3 * i) 3 k) (28 + 3 * i) 4 f) (28 + 3 * i) 7 b) (28 + 3 * i) 8 b
theorem ev87 {pa k f b : Int32} (hd : 1 ≤ d) (hi : i < 5) : mm_ev xs Ls pd_ck pd_ak pd_mj d 87 [.ref (28 + 3 * i), .int pa, .int k, .int f, .int b] (pd_st K D (pd_RF q) J n) = some (.inl none, pd_st (srK K i pa k f b) D (pd_RF q) J n) := by
  obtain ⟨d, rfl⟩ : ∃ e, d = e + 1 := ⟨d - 1, by omega⟩
  have hst := st_sh hi
  refine pd_ev_of (Nat.le_of_ble_eq_true rfl) ?_; rw [show pd_mj 87 = pd_m87 from rfl, show mm_pad (mm_in [.ref (28 + 3 * i), .int pa, .int k, .int f, .int b]) pd_m87.nL = [some (.ref (28 + 3 * i)), some (.int pa), some (.int k), some (.int f), some (.int b)] from rfl]
  simp only [p87_0, p87_1, p87_2, p87_5, p87_6, p87_7, p87_10, p87_11, p87_12, p87_15, p87_16, p87_17, p87_20, p87_21, p87_22, p87_25, p87_26, p87_28, p87_31, p87_32, p87_34, p87_37, mm_rV, pf6_0 hst, pf6_1 hst, pf6_2 hst, pf6_3 hst, pf6_4 hst, pf6_7 hst, pf6_8 hst, mm_lA, mm_lI, mm_lD, mm_lJ, mm_ld0, mm_lds, pd_Kgo, pd_Kend, pd_Kno, pd_Kite, mm_i, mm_ii, mm_r, mm_1, mm_icmp, cond_true, cond_false, mm_o2, mm_c2, wt0, wt1, wt2, wt3, wt4, va_rfs, pd_bkv, pd_bkn, pd_bkif, pd_st1, Nat.reduceAdd, Nat.reduceLeDiff, Bool.or_false, Bool.or_self]
  rfl
theorem ev86 {k : Int32} (hd : 2 ≤ d) (hi : i < 5) : mm_ev xs Ls pd_ck pd_ak pd_mj d 86 [.ref (28 + 3 * i), .int k] (pd_st K D (pd_RF q) J n) = some (.inl none, pd_st (srK K i (-1) k 0 0) D (pd_RF q) J n) := by
  obtain ⟨d, rfl⟩ : ∃ e, d = e + 1 := ⟨d - 1, by omega⟩
  have hst := st_sh hi
  refine pd_ev_of (Nat.le_of_ble_eq_true rfl) ?_; rw [show pd_mj 86 = pd_m86 from rfl, show mm_pad (mm_in [.ref (28 + 3 * i), .int k]) pd_m86.nL = [some (.ref (28 + 3 * i)), some (.int k)] from rfl]
  simp only [p86_0, p86_1, p86_2, p86_3, p86_4, p86_5, p86_8, mm_rV, qi4 hst, mm_lA, mm_lI, mm_lD, mm_lJ, mm_ld0, mm_lds, pd_Kgo, pd_Kend, pd_Kno, pd_Kite, mm_i, mm_ii, mm_r, mm_1, mm_icmp, cond_true, cond_false, mm_o2, mm_c2, wt0, wt1, wt2, wt3, wt4, va_rfs, pd_bkv, pd_bkn, pd_bkif, pd_st1, Nat.reduceAdd, Nat.reduceLeDiff, Bool.or_false, Bool.or_self, ev87 (d := d) (by omega) hi]
theorem ev89 {j : Nat} {m f : Int32} (hd : 2 ≤ d) (hi : i < 5) (hj : j < 5) : mm_ev xs Ls pd_ck pd_ak pd_mj d 89 [.ref (28 + 3 * i), .ref (28 + 3 * j), .int m, .int f] (pd_st K D (pd_RF q) J n) = some (.inl none, pd_st (srK K i m (K (28 + 3 * j) 3) f (K (28 + 3 * j) 7)) D (pd_RF q) J n) := by
  obtain ⟨d, rfl⟩ : ∃ e, d = e + 1 := ⟨d - 1, by omega⟩
  have hst := st_sh hi
  have hst2 := st_sh hj
  refine pd_ev_of (Nat.le_of_ble_eq_true rfl) ?_; rw [show pd_mj 89 = pd_m89 from rfl, show mm_pad (mm_in [.ref (28 + 3 * i), .ref (28 + 3 * j), .int m, .int f]) pd_m89.nL = [some (.ref (28 + 3 * i)), some (.ref (28 + 3 * j)), some (.int m), some (.int f)] from rfl]
  simp only [p89_0, p89_1, p89_2, p89_3, p89_6, p89_7, p89_8, p89_11, p89_14, gf6_3 hst, gf6_7 hst, mm_rV, qi4 hst, mm_lA, mm_lI, mm_lD, mm_lJ, mm_ld0, mm_lds, pd_Kgo, pd_Kend, pd_Kno, pd_Kite, mm_i, mm_ii, mm_r, mm_1, mm_icmp, cond_true, cond_false, mm_o2, mm_c2, wt0, wt1, wt2, wt3, wt4, va_rfs, pd_bkv, pd_bkn, pd_bkif, pd_st1, Nat.reduceAdd, Nat.reduceLeDiff, Bool.or_false, Bool.or_self, gf6_3 hst2, gf6_7 hst2, ev87 (d := d) (by omega) hi]
/-- enters -/
theorem ev88n {k : Int32} (hd : 1 ≤ d) (hi : i < 5) (h6 : K (28 + 3 * i) 7 = 6) : mm_ev xs Ls pd_ck pd_ak pd_mj d 88 [.ref (28 + 3 * i), .int k] (pd_st K D (pd_RF q) J n) = some (.inl (some (.int 0)), pd_st K D (pd_RF q) J n) := by
  obtain ⟨d, rfl⟩ : ∃ e, d = e + 1 := ⟨d - 1, by omega⟩
  have hst := st_sh hi
  have z : ¬ ((6 : Int32) < 0) := by decide
  have z2 : ¬ ((6 : Int32) < 6) := by decide
  refine pd_ev_of (Nat.le_of_ble_eq_true rfl) ?_; rw [show pd_mj 88 = pd_m88 from rfl, show mm_pad (mm_in [.ref (28 + 3 * i), .int k]) pd_m88.nL = [some (.ref (28 + 3 * i)), some (.int k)] from rfl]
  simp only [p88_0, p88_1, p88_4, p88_7, p88_8, p88_11, p88_13, p88_16, p88_17, p88_18, p88_19, p88_22, p88_23, p88_26, p88_27, p88_30, p88_31, p88_32, p88_35, p88_36, p88_39, p88_40, p88_43, p88_44, p88_45, p88_46, p88_49, p88_50, p88_51, p88_54, p88_55, p88_56, p88_59, p88_60, p88_61, p88_64, p88_65, gf6_10 hst, gf6_3 hst, gf6_4 hst, gf6_7 hst, gf6_9 hst, mm_e4, pd_stI, pf6_3 hst, pf6_4 hst, pf6_7 hst, mm_lA, mm_lI, mm_lD, mm_lJ, mm_ld0, mm_lds, pd_Kgo, pd_Kend, pd_Kno, pd_Kite, mm_i, mm_ii, mm_r, mm_1, mm_icmp, cond_true, cond_false, mm_o2, mm_c2, wt0, wt1, wt2, wt3, wt4, va_rfs, pd_bkv, pd_bkn, pd_bkif, pd_st1, Nat.reduceAdd, Nat.reduceLeDiff, Bool.or_false, Bool.or_self, h6, if_neg z, if_neg z2, true_or, if_true]
theorem ev88s {k : Int32} {ca : Nat} (hd : 1 ≤ d) (hi : i < 5) (h6 : K (28 + 3 * i) 7 = Int32.ofNat ca) (hc : ca < 6) : mm_ev xs Ls pd_ck pd_ak pd_mj d 88 [.ref (28 + 3 * i), .int k] (pd_st K D (pd_RF q) J n) = some (.inl (some (.int 1)), pd_st (mm_u (mm_u (mm_u (mm_u (mm_u K (29 + 3 * i) ca (K (28 + 3 * i) 3)) (30 + 3 * i) ca (K (28 + 3 * i) 4)) (28 + 3 * i) 7 (Int32.ofNat (ca + 1))) (28 + 3 * i) 3 k) (28 + 3 * i) 4 0) D (pd_RF q) J n) := by
  obtain ⟨d, rfl⟩ : ∃ e, d = e + 1 := ⟨d - 1, by omega⟩
  have hst := st_sh hi
  have z : ¬ (Int32.ofNat ca < 0) := by rw [pd_ge0 (by omega)]; exact id
  have z2 : Int32.ofNat ca < 6 := by rw [show (6 : Int32) = Int32.ofNat 6 from rfl, pd_ltl (by omega) (by omega)]; omega
  have n1 : 28 + 3 * i ≠ 29 + 3 * i := by omega
  have n2 : 28 + 3 * i ≠ 30 + 3 * i := by omega
  have u7 : ∀ w, (mm_u K (29 + 3 * i) ca w) (28 + 3 * i) 7 = Int32.ofNat ca := fun w => by rw [mm_u_a n1]; exact h6
  have u4 : ∀ w, (mm_u K (29 + 3 * i) ca w) (28 + 3 * i) 4 = K (28 + 3 * i) 4 := fun w => mm_u_a n1
  have u77 : ∀ w w', (mm_u (mm_u K (29 + 3 * i) ca w) (30 + 3 * i) ca w') (28 + 3 * i) 7 = Int32.ofNat ca := fun w w' => by rw [mm_u_a n2]; exact u7 w
  refine pd_ev_of (Nat.le_of_ble_eq_true rfl) ?_; rw [show pd_mj 88 = pd_m88 from rfl, show mm_pad (mm_in [.ref (28 + 3 * i), .int k]) pd_m88.nL = [some (.ref (28 + 3 * i)), some (.int k)] from rfl]
  simp only [p88_0, p88_1, p88_4, p88_7, p88_8, p88_11, p88_13, p88_16, p88_17, p88_18, p88_19, p88_22, p88_23, p88_26, p88_27, p88_30, p88_31, p88_32, p88_35, p88_36, p88_39, p88_40, p88_43, p88_44, p88_45, p88_46, p88_49, p88_50, p88_51, p88_54, p88_55, p88_56, p88_59, p88_60, p88_61, p88_64, p88_65, gf6_10 hst, gf6_3 hst, gf6_4 hst, gf6_7 hst, gf6_9 hst, mm_e4, pd_stI, pf6_3 hst, pf6_4 hst, pf6_7 hst, mm_lA, mm_lI, mm_lD, mm_lJ, mm_ld0, mm_lds, pd_Kgo, pd_Kend, pd_Kno, pd_Kite, mm_i, mm_ii, mm_r, mm_1, mm_icmp, cond_true, cond_false, mm_o2, mm_c2, wt0, wt1, wt2, wt3, wt4, va_rfs, pd_bkv, pd_bkn, pd_bkif, pd_st1, Nat.reduceAdd, Nat.reduceLeDiff, Bool.or_false, Bool.or_self, h6, if_neg z, if_pos z2, rf_s9 hi, rf_s10 hi, pd_ic (a := 29 + 3 * i) (mm := 6) (st_sh9 hi) hc (by omega), u7, u4, pd_ic (a := 30 + 3 * i) (mm := 6) (st_sh10 hi) hc (by omega), u77, pd_suc, or_true, if_true]
/-- goesBack -/
theorem ev90n (hd : 1 ≤ d) (hi : i < 5) (h : K (28 + 3 * i) 7 ≤ K (28 + 3 * i) 8) : mm_ev xs Ls pd_ck pd_ak pd_mj d 90 [.ref (28 + 3 * i)] (pd_st K D (pd_RF q) J n) = some (.inl (some (.int 0)), pd_st K D (pd_RF q) J n) := by
  obtain ⟨d, rfl⟩ : ∃ e, d = e + 1 := ⟨d - 1, by omega⟩
  have hst := st_sh hi
  refine pd_ev_of (Nat.le_of_ble_eq_true rfl) ?_; rw [show pd_mj 90 = pd_m90 from rfl, show mm_pad (mm_in [.ref (28 + 3 * i)]) pd_m90.nL = [some (.ref (28 + 3 * i))] from rfl]
  simp only [p90_0, p90_1, p90_4, p90_5, p90_8, p90_11, p90_12, p90_15, p90_17, p90_20, p90_21, p90_22, p90_23, p90_24, p90_27, p90_28, p90_29, p90_32, p90_33, p90_34, p90_37, p90_38, p90_41, p90_42, p90_45, p90_46, p90_47, p90_50, p90_51, p90_54, p90_55, p90_58, p90_59, gf6_10 hst, gf6_7 hst, gf6_8 hst, gf6_9 hst, mm_e4, pf6_3 hst, pf6_4 hst, pf6_7 hst, mm_lA, mm_lI, mm_lD, mm_lJ, mm_ld0, mm_lds, pd_Kgo, pd_Kend, pd_Kno, pd_Kite, mm_i, mm_ii, mm_r, mm_1, mm_icmp, cond_true, cond_false, mm_o2, mm_c2, wt0, wt1, wt2, wt3, wt4, va_rfs, pd_bkv, pd_bkn, pd_bkif, pd_st1, Nat.reduceAdd, Nat.reduceLeDiff, Bool.or_false, Bool.or_self, if_pos h, true_or, if_true]
theorem ev90s {ca cb : Nat} (hd : 1 ≤ d) (hi : i < 5) (h7 : K (28 + 3 * i) 7 = Int32.ofNat (ca + 1)) (h8 : K (28 + 3 * i) 8 = Int32.ofNat cb) (hc : ca < 6) (hb : cb ≤ ca) : mm_ev xs Ls pd_ck pd_ak pd_mj d 90 [.ref (28 + 3 * i)] (pd_st K D (pd_RF q) J n) = some (.inl (some (.int 1)), pd_st (mm_u (mm_u (mm_u K (28 + 3 * i) 7 (Int32.ofNat ca)) (28 + 3 * i) 3 (K (29 + 3 * i) ca)) (28 + 3 * i) 4 (K (30 + 3 * i) ca)) D (pd_RF q) J n) := by
  obtain ⟨d, rfl⟩ : ∃ e, d = e + 1 := ⟨d - 1, by omega⟩
  have hst := st_sh hi
  have z : ¬ (Int32.ofNat (ca + 1) ≤ Int32.ofNat cb) := by rw [pd_gtl (by omega) (by omega)]; omega
  have z2 : Int32.ofNat (ca + 1) ≤ 6 := by rw [show (6 : Int32) = Int32.ofNat 6 from rfl, pd_gtl (by omega) (by omega)]; omega
  have n1 : 29 + 3 * i ≠ 28 + 3 * i := by omega
  have n2 : 30 + 3 * i ≠ 28 + 3 * i := by omega
  have u1 : (mm_u K (28 + 3 * i) 7 (Int32.ofNat ca)) (29 + 3 * i) ca = K (29 + 3 * i) ca := mm_u_a n1
  have u2 : ∀ w, (mm_u (mm_u K (28 + 3 * i) 7 (Int32.ofNat ca)) (28 + 3 * i) 3 w) (30 + 3 * i) ca = K (30 + 3 * i) ca := fun w => by rw [mm_u_a n2, mm_u_a n2]
  have u3 : ∀ w, (mm_u (mm_u K (28 + 3 * i) 7 (Int32.ofNat ca)) (28 + 3 * i) 3 w) (28 + 3 * i) 7 = Int32.ofNat ca := fun w => by rw [mm_u_k (by decide), mm_u_s]
  refine pd_ev_of (Nat.le_of_ble_eq_true rfl) ?_; rw [show pd_mj 90 = pd_m90 from rfl, show mm_pad (mm_in [.ref (28 + 3 * i)]) pd_m90.nL = [some (.ref (28 + 3 * i))] from rfl]
  simp only [p90_0, p90_1, p90_4, p90_5, p90_8, p90_11, p90_12, p90_15, p90_17, p90_20, p90_21, p90_22, p90_23, p90_24, p90_27, p90_28, p90_29, p90_32, p90_33, p90_34, p90_37, p90_38, p90_41, p90_42, p90_45, p90_46, p90_47, p90_50, p90_51, p90_54, p90_55, p90_58, p90_59, gf6_10 hst, gf6_7 hst, gf6_8 hst, gf6_9 hst, mm_e4, pf6_3 hst, pf6_4 hst, pf6_7 hst, mm_lA, mm_lI, mm_lD, mm_lJ, mm_ld0, mm_lds, pd_Kgo, pd_Kend, pd_Kno, pd_Kite, mm_i, mm_ii, mm_r, mm_1, mm_icmp, cond_true, cond_false, mm_o2, mm_c2, wt0, wt1, wt2, wt3, wt4, va_rfs, pd_bkv, pd_bkn, pd_bkif, pd_st1, Nat.reduceAdd, Nat.reduceLeDiff, Bool.or_false, Bool.or_self, h7, h8, if_neg z, if_pos z2, i1m1, mm_u_s, rf_s9 hi, rf_s10 hi, pd_il (a := 29 + 3 * i) (t := 0) (mm := 6) (st_sh9 hi) rfl hc (by omega), u1, u2, u3, pd_il (a := 30 + 3 * i) (t := 0) (mm := 6) (st_sh10 hi) rfl hc (by omega), or_true, if_true]
end CL3
