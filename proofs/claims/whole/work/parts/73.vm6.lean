/-! THE REFERENCE: tape, variable, set, written, count -/
/-- the half byte at a place -/
def hby (e : Int64) (i : Int32) : Int32 := (e.toUInt64 >>> ((4 * i).toInt64.toUInt64 &&& Int64.toUInt64 63)).toInt64.toInt32 &&& 15
/-- the half bytes put into a row -/
def tpL (e : Int64) (b : Nat) : Nat → Nat → pd_I → pd_I
  | 0, _, K => K
  | f + 1, i, K => tpL e b f (i + 1) (mm_u K b i (hby e (Int32.ofNat i)))
def isTp (m : Int32) : Bool := if m < 1 then false else if 16 < m then false else true
/-- isVariable -/
def isVa (i : Int32) : Bool := if i < 0 then false else if 11 ≤ i then false else true
section VM6
variable {I K K' K1 K2 K3 K4 K5 : pd_I} {D D1 D2 D' : pd_D} {A : pd_A} {J : pd_J} {n : Nat} {xs : Nat → Int32} {Ls d : Nat} {q : Nat → Nat} {e : Int64}
theorem hby_e {e : Int64} {i : Int32} : (e.toUInt64 >>> ((4 * i).toInt64.toUInt64 &&& Int64.toUInt64 63)).toInt64.toInt32 &&& 15 = hby e i := rfl
theorem lp113 {m : Nat} (hm : m ≤ 16) : ∀ (f i : Nat) (K : pd_I), i + f = m → pd_G xs Ls d pd_m113 (31, [some (.ref (43 : Nat)), some (.long e), none, some (.int (Int32.ofNat m)), some (.int (Int32.ofNat i))], [], pd_st K D (pd_RF q) J n) (.inl none, pd_st (mm_u (tpL e 52 f i K) 43 18 (Int32.ofNat m)) D (pd_RF q) J n) := by
  intro f
  induction f with
  | zero =>
    intro i K hi
    have h : m ≤ i := by omega
    have e0 : tpL e 52 0 i K = K := rfl
    rw [p113_31, e0]
    simp only [p113_0, p113_1, p113_2, p113_3, p113_6, p113_7, p113_9, p113_12, p113_13, p113_16, p113_17, p113_20, p113_21, p113_24, p113_27, p113_28, p113_29, p113_33, p113_34, p113_37, p113_38, p113_41, p113_43, p113_44, p113_45, p113_47, p113_48, p113_49, p113_50, p113_52, p113_53, p113_54, p113_57, p113_60, p113_61, p113_62, p113_65, gf7_17 sh43, gf7_39 sh43, mm_j, mm_ji, mm_rV, pd_stI, pf7_18 sh43, pf7_39 sh43, so5_4i, mm_lA, mm_lI, mm_lD, mm_lJ, mm_ld0, mm_lds, pd_Kgo, pd_Kend, pd_Kno, pd_Kite, mm_i, mm_ii, mm_r, mm_1, mm_icmp, cond_true, cond_false, mm_o2, mm_c2, wt0, wt1, wt2, wt3, wt4, va_rfs, pd_bkv, pd_bkn, pd_bkif, pd_st1, Nat.reduceAdd, Nat.reduceLeDiff, Bool.or_false, Bool.or_self, pd_gtl (x := m) (y := i) (by omega) (by omega), if_pos h]
  | succ f ih =>
    intro i K hi
    have h : ¬ (m ≤ i) := by omega
    have hI := ih (i + 1) (mm_u K 52 i (hby e (Int32.ofNat i))) (by omega)
    rw [p113_31]
    simp only [p113_0, p113_1, p113_2, p113_3, p113_6, p113_7, p113_9, p113_12, p113_13, p113_16, p113_17, p113_20, p113_21, p113_24, p113_27, p113_28, p113_29, p113_33, p113_34, p113_37, p113_38, p113_41, p113_43, p113_44, p113_45, p113_47, p113_48, p113_49, p113_50, p113_52, p113_53, p113_54, p113_57, p113_60, p113_61, p113_62, p113_65, gf7_17 sh43, gf7_39 sh43, mm_j, mm_ji, mm_rV, pd_stI, pf7_18 sh43, pf7_39 sh43, so5_4i, mm_lA, mm_lI, mm_lD, mm_lJ, mm_ld0, mm_lds, pd_Kgo, pd_Kend, pd_Kno, pd_Kite, mm_i, mm_ii, mm_r, mm_1, mm_icmp, cond_true, cond_false, mm_o2, mm_c2, wt0, wt1, wt2, wt3, wt4, va_rfs, pd_bkv, pd_bkn, pd_bkif, pd_st1, Nat.reduceAdd, Nat.reduceLeDiff, Bool.or_false, Bool.or_self, pd_gtl (x := m) (y := i) (by omega) (by omega), if_neg h, rm_17, hby_e, pd_ic (a := 52) (mm := 16) rfl (show i < 16 by omega) (by omega), pd_suc]
    exact hI
theorem isTp_n {m : Int32} (h : isTp m = true) : ∃ k, 1 ≤ k ∧ k ≤ 16 ∧ m = Int32.ofNat k := by
  unfold isTp at h
  by_cases h1 : m < 1
  · rw [if_pos h1] at h; cases h
  · by_cases h2 : 16 < m
    · rw [if_neg h1, if_pos h2] at h; cases h
    · have e1 : (1 : Int32).toInt = 1 := rfl
      have e2 : (16 : Int32).toInt = 16 := rfl
      rw [Int32.lt_iff_toInt_lt, e1] at h1
      rw [Int32.lt_iff_toInt_lt, e2] at h2
      refine ⟨m.toInt.toNat, by omega, by omega, ?_⟩
      apply Int32.toInt_inj.mp
      rw [Int32.toInt_ofNat_of_lt (by omega)]
      omega
theorem ev113n {m : Int32} (hd : 1 ≤ d) (h : isTp m = false) : mm_ev xs Ls pd_ck pd_ak pd_mj d 113 [.ref (43 : Nat), .long e, .int m] (pd_st K D (pd_RF q) J n) = some (.inl none, pd_st (mm_u K 43 39 1) D (pd_RF q) J n) := by
  obtain ⟨d, rfl⟩ : ∃ e, d = e + 1 := ⟨d - 1, by omega⟩
  refine pd_ev_of (Nat.le_of_ble_eq_true rfl) ?_; rw [show pd_mj 113 = pd_m113 from rfl, show mm_pad (mm_in [.ref (43 : Nat), .long e, .int m]) pd_m113.nL = [some (.ref (43 : Nat)), some (.long e), none, some (.int m), none] from rfl]
  unfold isTp at h
  by_cases h1 : m < 1
  · simp only [p113_0, p113_1, p113_2, p113_3, p113_6, p113_7, p113_9, p113_12, p113_13, p113_16, p113_17, p113_20, p113_21, p113_24, p113_27, p113_28, p113_29, p113_33, p113_34, p113_37, p113_38, p113_41, p113_43, p113_44, p113_45, p113_47, p113_48, p113_49, p113_50, p113_52, p113_53, p113_54, p113_57, p113_60, p113_61, p113_62, p113_65, gf7_17 sh43, gf7_39 sh43, mm_j, mm_ji, mm_rV, pd_stI, pf7_18 sh43, pf7_39 sh43, so5_4i, mm_lA, mm_lI, mm_lD, mm_lJ, mm_ld0, mm_lds, pd_Kgo, pd_Kend, pd_Kno, pd_Kite, mm_i, mm_ii, mm_r, mm_1, mm_icmp, cond_true, cond_false, mm_o2, mm_c2, wt0, wt1, wt2, wt3, wt4, va_rfs, pd_bkv, pd_bkn, pd_bkif, pd_st1, Nat.reduceAdd, Nat.reduceLeDiff, Bool.or_false, Bool.or_self, if_pos h1, mm_u_s, i10, if_false]
  · rw [if_neg h1] at h
    by_cases h2 : 16 < m
    · have h3 : ¬ (m ≤ 16) := Int32.not_le.mpr h2
      simp only [p113_0, p113_1, p113_2, p113_3, p113_6, p113_7, p113_9, p113_12, p113_13, p113_16, p113_17, p113_20, p113_21, p113_24, p113_27, p113_28, p113_29, p113_33, p113_34, p113_37, p113_38, p113_41, p113_43, p113_44, p113_45, p113_47, p113_48, p113_49, p113_50, p113_52, p113_53, p113_54, p113_57, p113_60, p113_61, p113_62, p113_65, gf7_17 sh43, gf7_39 sh43, mm_j, mm_ji, mm_rV, pd_stI, pf7_18 sh43, pf7_39 sh43, so5_4i, mm_lA, mm_lI, mm_lD, mm_lJ, mm_ld0, mm_lds, pd_Kgo, pd_Kend, pd_Kno, pd_Kite, mm_i, mm_ii, mm_r, mm_1, mm_icmp, cond_true, cond_false, mm_o2, mm_c2, wt0, wt1, wt2, wt3, wt4, va_rfs, pd_bkv, pd_bkn, pd_bkif, pd_st1, Nat.reduceAdd, Nat.reduceLeDiff, Bool.or_false, Bool.or_self, if_neg h1, if_neg h3, mm_u_s, i10, if_false]
    · rw [if_neg h2] at h; cases h
theorem ev113s {m : Nat} (hd : 1 ≤ d) (h1 : 1 ≤ m) (h16 : m ≤ 16) : mm_ev xs Ls pd_ck pd_ak pd_mj d 113 [.ref (43 : Nat), .long e, .int (Int32.ofNat m)] (pd_st K D (pd_RF q) J n) = some (.inl none, pd_st (mm_u (tpL e 52 m 0 (mm_u K 43 39 0)) 43 18 (Int32.ofNat m)) D (pd_RF q) J n) := by
  obtain ⟨d, rfl⟩ : ∃ e, d = e + 1 := ⟨d - 1, by omega⟩
  refine pd_ev_of (Nat.le_of_ble_eq_true rfl) ?_; rw [show pd_mj 113 = pd_m113 from rfl, show mm_pad (mm_in [.ref (43 : Nat), .long e, .int (Int32.ofNat m)]) pd_m113.nL = [some (.ref (43 : Nat)), some (.long e), none, some (.int (Int32.ofNat m)), none] from rfl]
  have z1 : ¬ (Int32.ofNat m < 1) := by rw [show (1 : Int32) = Int32.ofNat 1 from rfl, pd_ltl (by omega) (by omega)]; omega
  have z2 : (Int32.ofNat m ≤ 16) := by rw [show (16 : Int32) = Int32.ofNat 16 from rfl, pd_gtl (by omega) (by omega)]; omega
  have hI := lp113 (xs := xs) (Ls := Ls) (D := D) (J := J) (n := n) (q := q) (d := d) (e := e) h16 m 0 (mm_u K 43 39 0) (by omega)
  rw [show Int32.ofNat 0 = (0 : Int32) from rfl] at hI
  simp only [p113_0, p113_1, p113_2, p113_3, p113_6, p113_7, p113_9, p113_12, p113_13, p113_16, p113_17, p113_20, p113_21, p113_24, p113_27, p113_28, p113_29, p113_33, p113_34, p113_37, p113_38, p113_41, p113_43, p113_44, p113_45, p113_47, p113_48, p113_49, p113_50, p113_52, p113_53, p113_54, p113_57, p113_60, p113_61, p113_62, p113_65, gf7_17 sh43, gf7_39 sh43, mm_j, mm_ji, mm_rV, pd_stI, pf7_18 sh43, pf7_39 sh43, so5_4i, mm_lA, mm_lI, mm_lD, mm_lJ, mm_ld0, mm_lds, pd_Kgo, pd_Kend, pd_Kno, pd_Kite, mm_i, mm_ii, mm_r, mm_1, mm_icmp, cond_true, cond_false, mm_o2, mm_c2, wt0, wt1, wt2, wt3, wt4, va_rfs, pd_bkv, pd_bkn, pd_bkif, pd_st1, Nat.reduceAdd, Nat.reduceLeDiff, Bool.or_false, Bool.or_self, if_neg z1, if_pos z2, mm_u_s, if_true]
  exact hI
theorem isVa_n {i : Int32} (h : isVa i = true) : ∃ k, k < 11 ∧ i = Int32.ofNat k := by
  unfold isVa at h
  by_cases h1 : i < 0
  · rw [if_pos h1] at h; cases h
  · by_cases h2 : 11 ≤ i
    · rw [if_neg h1, if_pos h2] at h; cases h
    · have e1 : (0 : Int32).toInt = 0 := rfl
      have e2 : (11 : Int32).toInt = 11 := rfl
      rw [Int32.lt_iff_toInt_lt, e1] at h1
      rw [Int32.le_iff_toInt_le, e2] at h2
      refine ⟨i.toInt.toNat, by omega, ?_⟩
      apply Int32.toInt_inj.mp
      rw [Int32.toInt_ofNat_of_lt (by omega)]
      omega
theorem isVa_f {i : Int32} (h : isVa i = false) : i < 0 ∨ (¬ (i < 0) ∧ 10 < i) := by
  unfold isVa at h
  by_cases h1 : i < 0
  · exact Or.inl h1
  · rw [if_neg h1] at h
    by_cases h2 : 11 ≤ i
    · exact Or.inr ⟨h1, Int32.lt_of_lt_of_le (by decide) h2⟩
    · rw [if_neg h2] at h; cases h
theorem ev124n {i : Int32} (hd : 1 ≤ d) (h : isVa i = false) : mm_ev xs Ls pd_ck pd_ak pd_mj d 124 [.ref (43 : Nat), .int i] (pd_st K D (pd_RF q) J n) = some (.inl (some (.double FP.dconst0)), pd_st (mm_u K 43 39 1) D (pd_RF q) J n) := by
  obtain ⟨d, rfl⟩ : ∃ e, d = e + 1 := ⟨d - 1, by omega⟩
  refine pd_ev_of (Nat.le_of_ble_eq_true rfl) ?_; rw [show pd_mj 124 = pd_m124 from rfl, show mm_pad (mm_in [.ref (43 : Nat), .int i]) pd_m124.nL = [some (.ref (43 : Nat)), some (.int i)] from rfl]
  rcases isVa_f h with h1 | ⟨h1, h2⟩
  · simp only [p124_0, p124_1, p124_2, p124_5, p124_6, p124_8, p124_11, p124_12, p124_15, p124_16, p124_19, p124_20, p124_23, p124_26, p124_27, p124_30, p124_31, p124_32, p124_35, p124_36, gf7_20 sh43, gf7_39 sh43, mm_rD, pd_stI, pf7_39 sh43, mm_lA, mm_lI, mm_lD, mm_lJ, mm_ld0, mm_lds, pd_Kgo, pd_Kend, pd_Kno, pd_Kite, mm_i, mm_ii, mm_r, mm_1, mm_icmp, cond_true, cond_false, mm_o2, mm_c2, wt0, wt1, wt2, wt3, wt4, va_rfs, pd_bkv, pd_bkn, pd_bkif, pd_st1, Nat.reduceAdd, Nat.reduceLeDiff, Bool.or_false, Bool.or_self, if_pos h1, mm_u_s, i10, if_false]
  · have h3 : ¬ (i ≤ 10) := Int32.not_le.mpr h2
    simp only [p124_0, p124_1, p124_2, p124_5, p124_6, p124_8, p124_11, p124_12, p124_15, p124_16, p124_19, p124_20, p124_23, p124_26, p124_27, p124_30, p124_31, p124_32, p124_35, p124_36, gf7_20 sh43, gf7_39 sh43, mm_rD, pd_stI, pf7_39 sh43, mm_lA, mm_lI, mm_lD, mm_lJ, mm_ld0, mm_lds, pd_Kgo, pd_Kend, pd_Kno, pd_Kite, mm_i, mm_ii, mm_r, mm_1, mm_icmp, cond_true, cond_false, mm_o2, mm_c2, wt0, wt1, wt2, wt3, wt4, va_rfs, pd_bkv, pd_bkn, pd_bkif, pd_st1, Nat.reduceAdd, Nat.reduceLeDiff, Bool.or_false, Bool.or_self, if_neg h1, if_neg h3, mm_u_s, i10, if_false]
theorem le10 {k : Nat} (hk : k < 11) : Int32.ofNat k ≤ 10 ∧ ¬ (10 < Int32.ofNat k) := by
  rw [show (10 : Int32) = Int32.ofNat 10 from rfl, pd_gtl (by omega) (by omega), pd_ltl (by omega) (by omega)]
  omega
theorem ev124s {k : Nat} (hd : 1 ≤ d) (hk : k < 11) : mm_ev xs Ls pd_ck pd_ak pd_mj d 124 [.ref (43 : Nat), .int (Int32.ofNat k)] (pd_st K D (pd_RF q) J n) = some (.inl (some (.double (D 53 k))), pd_st (mm_u K 43 39 0) D (pd_RF q) J n) := by
  obtain ⟨d, rfl⟩ : ∃ e, d = e + 1 := ⟨d - 1, by omega⟩
  refine pd_ev_of (Nat.le_of_ble_eq_true rfl) ?_; rw [show pd_mj 124 = pd_m124 from rfl, show mm_pad (mm_in [.ref (43 : Nat), .int (Int32.ofNat k)]) pd_m124.nL = [some (.ref (43 : Nat)), some (.int (Int32.ofNat k))] from rfl]
  have z1 : ¬ (Int32.ofNat k < 0) := by rw [pd_ge0 (by omega)]; exact id
  simp only [p124_0, p124_1, p124_2, p124_5, p124_6, p124_8, p124_11, p124_12, p124_15, p124_16, p124_19, p124_20, p124_23, p124_26, p124_27, p124_30, p124_31, p124_32, p124_35, p124_36, gf7_20 sh43, gf7_39 sh43, mm_rD, pd_stI, pf7_39 sh43, mm_lA, mm_lI, mm_lD, mm_lJ, mm_ld0, mm_lds, pd_Kgo, pd_Kend, pd_Kno, pd_Kite, mm_i, mm_ii, mm_r, mm_1, mm_icmp, cond_true, cond_false, mm_o2, mm_c2, wt0, wt1, wt2, wt3, wt4, va_rfs, pd_bkv, pd_bkn, pd_bkif, pd_st1, Nat.reduceAdd, Nat.reduceLeDiff, Bool.or_false, Bool.or_self, if_neg z1, if_pos (le10 hk).1, mm_u_s, if_true, rm_20, pd_stD, pd_dl (b := 53) (mm := 11) rfl hk (by omega)]
theorem ev126n {i : Int32} (hd : 1 ≤ d) (h : i < 0 ∨ K 43 35 ≤ i) : mm_ev xs Ls pd_ck pd_ak pd_mj d 126 [.ref (43 : Nat), .int i] (pd_st K D (pd_RF q) J n) = some (.inl (some (.double FP.dconst0)), pd_st (mm_u K 43 39 1) D (pd_RF q) J n) := by
  obtain ⟨d, rfl⟩ : ∃ e, d = e + 1 := ⟨d - 1, by omega⟩
  refine pd_ev_of (Nat.le_of_ble_eq_true rfl) ?_; rw [show pd_mj 126 = pd_m126 from rfl, show mm_pad (mm_in [.ref (43 : Nat), .int i]) pd_m126.nL = [some (.ref (43 : Nat)), some (.int i)] from rfl]
  by_cases h1 : i < 0
  · simp only [p126_0, p126_1, p126_2, p126_5, p126_6, p126_7, p126_10, p126_13, p126_14, p126_17, p126_18, p126_21, p126_22, p126_25, p126_28, p126_29, p126_32, p126_33, p126_34, p126_37, p126_38, gf7_21 sh43, gf7_35 sh43, gf7_39 sh43, mm_rD, pd_stI, pf7_39 sh43, mm_lA, mm_lI, mm_lD, mm_lJ, mm_ld0, mm_lds, pd_Kgo, pd_Kend, pd_Kno, pd_Kite, mm_i, mm_ii, mm_r, mm_1, mm_icmp, cond_true, cond_false, mm_o2, mm_c2, wt0, wt1, wt2, wt3, wt4, va_rfs, pd_bkv, pd_bkn, pd_bkif, pd_st1, Nat.reduceAdd, Nat.reduceLeDiff, Bool.or_false, Bool.or_self, if_pos h1, mm_u_s, i10, if_false]
  · have h3 : ¬ (i < K 43 35) := by rcases h with h | h; exact absurd h h1; exact Int32.not_lt.mpr h
    simp only [p126_0, p126_1, p126_2, p126_5, p126_6, p126_7, p126_10, p126_13, p126_14, p126_17, p126_18, p126_21, p126_22, p126_25, p126_28, p126_29, p126_32, p126_33, p126_34, p126_37, p126_38, gf7_21 sh43, gf7_35 sh43, gf7_39 sh43, mm_rD, pd_stI, pf7_39 sh43, mm_lA, mm_lI, mm_lD, mm_lJ, mm_ld0, mm_lds, pd_Kgo, pd_Kend, pd_Kno, pd_Kite, mm_i, mm_ii, mm_r, mm_1, mm_icmp, cond_true, cond_false, mm_o2, mm_c2, wt0, wt1, wt2, wt3, wt4, va_rfs, pd_bkv, pd_bkn, pd_bkif, pd_st1, Nat.reduceAdd, Nat.reduceLeDiff, Bool.or_false, Bool.or_self, if_neg h1, if_neg h3, mm_u_s, i10, if_false]
theorem ev126s {k : Nat} (hd : 1 ≤ d) (hk : k < 12) (h : Int32.ofNat k < K 43 35) : mm_ev xs Ls pd_ck pd_ak pd_mj d 126 [.ref (43 : Nat), .int (Int32.ofNat k)] (pd_st K D (pd_RF q) J n) = some (.inl (some (.double (D 54 k))), pd_st (mm_u K 43 39 0) D (pd_RF q) J n) := by
  obtain ⟨d, rfl⟩ : ∃ e, d = e + 1 := ⟨d - 1, by omega⟩
  refine pd_ev_of (Nat.le_of_ble_eq_true rfl) ?_; rw [show pd_mj 126 = pd_m126 from rfl, show mm_pad (mm_in [.ref (43 : Nat), .int (Int32.ofNat k)]) pd_m126.nL = [some (.ref (43 : Nat)), some (.int (Int32.ofNat k))] from rfl]
  have z1 : ¬ (Int32.ofNat k < 0) := by rw [pd_ge0 (by omega)]; exact id
  simp only [p126_0, p126_1, p126_2, p126_5, p126_6, p126_7, p126_10, p126_13, p126_14, p126_17, p126_18, p126_21, p126_22, p126_25, p126_28, p126_29, p126_32, p126_33, p126_34, p126_37, p126_38, gf7_21 sh43, gf7_35 sh43, gf7_39 sh43, mm_rD, pd_stI, pf7_39 sh43, mm_lA, mm_lI, mm_lD, mm_lJ, mm_ld0, mm_lds, pd_Kgo, pd_Kend, pd_Kno, pd_Kite, mm_i, mm_ii, mm_r, mm_1, mm_icmp, cond_true, cond_false, mm_o2, mm_c2, wt0, wt1, wt2, wt3, wt4, va_rfs, pd_bkv, pd_bkn, pd_bkif, pd_st1, Nat.reduceAdd, Nat.reduceLeDiff, Bool.or_false, Bool.or_self, if_neg z1, if_pos h, mm_u_s, if_true, rm_21, pd_stD, pd_dl (b := 54) (mm := 12) rfl hk (by omega)]
theorem ev92 (hd : 1 ≤ d) : mm_ev xs Ls pd_ck pd_ak pd_mj d 92 [.ref (43 : Nat)] (pd_st K D (pd_RF q) J n) = some (.inl (some (.int (K 43 39))), pd_st K D (pd_RF q) J n) := by
  obtain ⟨d, rfl⟩ : ∃ e, d = e + 1 := ⟨d - 1, by omega⟩
  refine pd_ev_of (Nat.le_of_ble_eq_true rfl) ?_; rw [show pd_mj 92 = pd_m92 from rfl, show mm_pad (mm_in [.ref (43 : Nat)]) pd_m92.nL = [some (.ref (43 : Nat))] from rfl]
  simp only [p92_0, p92_1, p92_4, gf7_39 sh43, mm_e0, mm_lA, mm_lI, mm_lD, mm_lJ, mm_ld0, mm_lds, pd_Kgo, pd_Kend, pd_Kno, pd_Kite, mm_i, mm_ii, mm_r, mm_1, mm_icmp, cond_true, cond_false, mm_o2, mm_c2, wt0, wt1, wt2, wt3, wt4, va_rfs, pd_bkv, pd_bkn, pd_bkif, pd_st1, Nat.reduceAdd, Nat.reduceLeDiff, Bool.or_false, Bool.or_self]
/-- within -1000 .. 1000 -/
abbrev inR (v : UInt64) : Prop := ¬ (cmL v 13875379345695965184 < 0) ∧ cmG v 4652007308841189376 ≤ 0
theorem ev125n {i : Int32} {v : UInt64} (hd : 1 ≤ d) (h : isVa i = false ∨ ¬ inR v) : mm_ev xs Ls pd_ck pd_ak pd_mj d 125 [.ref (43 : Nat), .int i, .double v] (pd_st K D (pd_RF q) J n) = some (.inl none, pd_st (mm_u K 43 39 1) D (pd_RF q) J n) := by
  obtain ⟨d, rfl⟩ : ∃ e, d = e + 1 := ⟨d - 1, by omega⟩
  refine pd_ev_of (Nat.le_of_ble_eq_true rfl) ?_; rw [show pd_mj 125 = pd_m125 from rfl, show mm_pad (mm_in [.ref (43 : Nat), .int i, .double v]) pd_m125.nL = [some (.ref (43 : Nat)), some (.int i), some (.double v), none, none] from rfl]
  cases hv : isVa i
  · rcases isVa_f hv with h1 | ⟨h1, h2⟩
    · simp only [p125_0, p125_1, p125_4, p125_5, p125_7, p125_10, p125_11, p125_14, p125_15, p125_18, p125_19, p125_22, p125_23, p125_26, p125_27, p125_30, p125_31, p125_33, p125_34, p125_36, p125_39, p125_40, p125_41, p125_44, p125_45, p125_47, p125_50, p125_51, p125_52, p125_53, p125_54, p125_55, p125_58, p125_59, p125_62, p125_63, p125_66, p125_67, p125_70, p125_73, p125_74, p125_77, p125_78, p125_79, p125_80, p125_83, p125_84, p125_86, p125_89, p125_90, p125_91, p125_92, p125_95, p125_96, p125_97, gf7_20 sh43, gf7_39 sh43, mm_d, mm_dd, mm_rV, pd_stI, pf7_39 sh43, so5_4i, mm_lA, mm_lI, mm_lD, mm_lJ, mm_ld0, mm_lds, pd_Kgo, pd_Kend, pd_Kno, pd_Kite, mm_i, mm_ii, mm_r, mm_1, mm_icmp, cond_true, cond_false, mm_o2, mm_c2, wt0, wt1, wt2, wt3, wt4, va_rfs, pd_bkv, pd_bkn, pd_bkif, pd_st1, Nat.reduceAdd, Nat.reduceLeDiff, Bool.or_false, Bool.or_self, if_pos h1, mm_u_s, i10, if_false]
    · simp only [p125_0, p125_1, p125_4, p125_5, p125_7, p125_10, p125_11, p125_14, p125_15, p125_18, p125_19, p125_22, p125_23, p125_26, p125_27, p125_30, p125_31, p125_33, p125_34, p125_36, p125_39, p125_40, p125_41, p125_44, p125_45, p125_47, p125_50, p125_51, p125_52, p125_53, p125_54, p125_55, p125_58, p125_59, p125_62, p125_63, p125_66, p125_67, p125_70, p125_73, p125_74, p125_77, p125_78, p125_79, p125_80, p125_83, p125_84, p125_86, p125_89, p125_90, p125_91, p125_92, p125_95, p125_96, p125_97, gf7_20 sh43, gf7_39 sh43, mm_d, mm_dd, mm_rV, pd_stI, pf7_39 sh43, so5_4i, mm_lA, mm_lI, mm_lD, mm_lJ, mm_ld0, mm_lds, pd_Kgo, pd_Kend, pd_Kno, pd_Kite, mm_i, mm_ii, mm_r, mm_1, mm_icmp, cond_true, cond_false, mm_o2, mm_c2, wt0, wt1, wt2, wt3, wt4, va_rfs, pd_bkv, pd_bkn, pd_bkif, pd_st1, Nat.reduceAdd, Nat.reduceLeDiff, Bool.or_false, Bool.or_self, if_neg h1, if_pos h2, mm_u_s, i10, if_false]
  · obtain ⟨k, hk, rfl⟩ := isVa_n hv
    have z1 : ¬ (Int32.ofNat k < 0) := by rw [pd_ge0 (by omega)]; exact id
    have h' : ¬ inR v := by rcases h with h | h; rw [hv] at h; cases h; exact h
    by_cases g1 : cmL v 13875379345695965184 < 0
    · simp only [p125_0, p125_1, p125_4, p125_5, p125_7, p125_10, p125_11, p125_14, p125_15, p125_18, p125_19, p125_22, p125_23, p125_26, p125_27, p125_30, p125_31, p125_33, p125_34, p125_36, p125_39, p125_40, p125_41, p125_44, p125_45, p125_47, p125_50, p125_51, p125_52, p125_53, p125_54, p125_55, p125_58, p125_59, p125_62, p125_63, p125_66, p125_67, p125_70, p125_73, p125_74, p125_77, p125_78, p125_79, p125_80, p125_83, p125_84, p125_86, p125_89, p125_90, p125_91, p125_92, p125_95, p125_96, p125_97, gf7_20 sh43, gf7_39 sh43, mm_d, mm_dd, mm_rV, pd_stI, pf7_39 sh43, so5_4i, mm_lA, mm_lI, mm_lD, mm_lJ, mm_ld0, mm_lds, pd_Kgo, pd_Kend, pd_Kno, pd_Kite, mm_i, mm_ii, mm_r, mm_1, mm_icmp, cond_true, cond_false, mm_o2, mm_c2, wt0, wt1, wt2, wt3, wt4, va_rfs, pd_bkv, pd_bkn, pd_bkif, pd_st1, Nat.reduceAdd, Nat.reduceLeDiff, Bool.or_false, Bool.or_self, cmL_e, cmG_e, if_neg z1, if_neg (le10 hk).2, if_pos g1, mm_u_s, i10, if_false]
    · have g2 : ¬ (cmG v 4652007308841189376 ≤ 0) := fun h9 => h' ⟨g1, h9⟩
      simp only [p125_0, p125_1, p125_4, p125_5, p125_7, p125_10, p125_11, p125_14, p125_15, p125_18, p125_19, p125_22, p125_23, p125_26, p125_27, p125_30, p125_31, p125_33, p125_34, p125_36, p125_39, p125_40, p125_41, p125_44, p125_45, p125_47, p125_50, p125_51, p125_52, p125_53, p125_54, p125_55, p125_58, p125_59, p125_62, p125_63, p125_66, p125_67, p125_70, p125_73, p125_74, p125_77, p125_78, p125_79, p125_80, p125_83, p125_84, p125_86, p125_89, p125_90, p125_91, p125_92, p125_95, p125_96, p125_97, gf7_20 sh43, gf7_39 sh43, mm_d, mm_dd, mm_rV, pd_stI, pf7_39 sh43, so5_4i, mm_lA, mm_lI, mm_lD, mm_lJ, mm_ld0, mm_lds, pd_Kgo, pd_Kend, pd_Kno, pd_Kite, mm_i, mm_ii, mm_r, mm_1, mm_icmp, cond_true, cond_false, mm_o2, mm_c2, wt0, wt1, wt2, wt3, wt4, va_rfs, pd_bkv, pd_bkn, pd_bkif, pd_st1, Nat.reduceAdd, Nat.reduceLeDiff, Bool.or_false, Bool.or_self, cmL_e, cmG_e, if_neg z1, if_neg (le10 hk).2, if_neg g1, if_neg g2, mm_u_s, i10, if_false]
theorem ev125r {k : Nat} {v : UInt64} (hd : 1 ≤ d) (hk : 4 ≤ k ∧ k ≤ 6) (h : inR v) : mm_ev xs Ls pd_ck pd_ak pd_mj d 125 [.ref (43 : Nat), .int (Int32.ofNat k), .double v] (pd_st K D (pd_RF q) J n) = some (.inl none, pd_st (mm_u K 43 39 0) (mm_u D 53 k v) (pd_RF q) J n) := by
  obtain ⟨d, rfl⟩ : ∃ e, d = e + 1 := ⟨d - 1, by omega⟩
  refine pd_ev_of (Nat.le_of_ble_eq_true rfl) ?_; rw [show pd_mj 125 = pd_m125 from rfl, show mm_pad (mm_in [.ref (43 : Nat), .int (Int32.ofNat k), .double v]) pd_m125.nL = [some (.ref (43 : Nat)), some (.int (Int32.ofNat k)), some (.double v), none, none] from rfl]
  have z1 : ¬ (Int32.ofNat k < 0) := by rw [pd_ge0 (by omega)]; exact id
  have z2 : ¬ (Int32.ofNat k < 4) := by rw [show (4 : Int32) = Int32.ofNat 4 from rfl, pd_ltl (by omega) (by omega)]; omega
  have z3 : Int32.ofNat k ≤ 6 := by rw [show (6 : Int32) = Int32.ofNat 6 from rfl, pd_gtl (by omega) (by omega)]; omega
  simp only [p125_0, p125_1, p125_4, p125_5, p125_7, p125_10, p125_11, p125_14, p125_15, p125_18, p125_19, p125_22, p125_23, p125_26, p125_27, p125_30, p125_31, p125_33, p125_34, p125_36, p125_39, p125_40, p125_41, p125_44, p125_45, p125_47, p125_50, p125_51, p125_52, p125_53, p125_54, p125_55, p125_58, p125_59, p125_62, p125_63, p125_66, p125_67, p125_70, p125_73, p125_74, p125_77, p125_78, p125_79, p125_80, p125_83, p125_84, p125_86, p125_89, p125_90, p125_91, p125_92, p125_95, p125_96, p125_97, gf7_20 sh43, gf7_39 sh43, mm_d, mm_dd, mm_rV, pd_stI, pf7_39 sh43, so5_4i, mm_lA, mm_lI, mm_lD, mm_lJ, mm_ld0, mm_lds, pd_Kgo, pd_Kend, pd_Kno, pd_Kite, mm_i, mm_ii, mm_r, mm_1, mm_icmp, cond_true, cond_false, mm_o2, mm_c2, wt0, wt1, wt2, wt3, wt4, va_rfs, pd_bkv, pd_bkn, pd_bkif, pd_st1, Nat.reduceAdd, Nat.reduceLeDiff, Bool.or_false, Bool.or_self, cmL_e, cmG_e, if_neg z1, if_neg (le10 (k := k) (by omega)).2, if_neg h.1, if_pos h.2, if_neg z2, if_pos z3, mm_u_s, if_true, rm_20, pd_dc (b := 53) (mm := 11) rfl (show k < 11 by omega) (by omega)]
theorem int_k {k : Nat} (hk : k < 4 ∨ 6 < k) (hk2 : k < 11) : Int32.ofNat k < 4 ∨ (¬ (Int32.ofNat k < 4) ∧ ¬ (Int32.ofNat k ≤ 6)) := by
  rw [show (4 : Int32) = Int32.ofNat 4 from rfl, pd_ltl (by omega) (by omega), show (6 : Int32) = Int32.ofNat 6 from rfl, pd_gtl (by omega) (by omega)]
  omega
theorem ev125w {k : Nat} {v : UInt64} (hd : 1 ≤ d) (hk : k < 4 ∨ 6 < k) (hk2 : k < 11) (h : inR v) (hw : cmL v (FP.i2d (FP.d2i v)) ≠ 0) : mm_ev xs Ls pd_ck pd_ak pd_mj d 125 [.ref (43 : Nat), .int (Int32.ofNat k), .double v] (pd_st K D (pd_RF q) J n) = some (.inl none, pd_st (mm_u K 43 39 1) D (pd_RF q) J n) := by
  obtain ⟨d, rfl⟩ : ∃ e, d = e + 1 := ⟨d - 1, by omega⟩
  refine pd_ev_of (Nat.le_of_ble_eq_true rfl) ?_; rw [show pd_mj 125 = pd_m125 from rfl, show mm_pad (mm_in [.ref (43 : Nat), .int (Int32.ofNat k), .double v]) pd_m125.nL = [some (.ref (43 : Nat)), some (.int (Int32.ofNat k)), some (.double v), none, none] from rfl]
  have z1 : ¬ (Int32.ofNat k < 0) := by rw [pd_ge0 (by omega)]; exact id
  rcases int_k hk hk2 with z2 | ⟨z2, z3⟩
  · simp only [p125_0, p125_1, p125_4, p125_5, p125_7, p125_10, p125_11, p125_14, p125_15, p125_18, p125_19, p125_22, p125_23, p125_26, p125_27, p125_30, p125_31, p125_33, p125_34, p125_36, p125_39, p125_40, p125_41, p125_44, p125_45, p125_47, p125_50, p125_51, p125_52, p125_53, p125_54, p125_55, p125_58, p125_59, p125_62, p125_63, p125_66, p125_67, p125_70, p125_73, p125_74, p125_77, p125_78, p125_79, p125_80, p125_83, p125_84, p125_86, p125_89, p125_90, p125_91, p125_92, p125_95, p125_96, p125_97, gf7_20 sh43, gf7_39 sh43, mm_d, mm_dd, mm_rV, pd_stI, pf7_39 sh43, so5_4i, mm_lA, mm_lI, mm_lD, mm_lJ, mm_ld0, mm_lds, pd_Kgo, pd_Kend, pd_Kno, pd_Kite, mm_i, mm_ii, mm_r, mm_1, mm_icmp, cond_true, cond_false, mm_o2, mm_c2, wt0, wt1, wt2, wt3, wt4, va_rfs, pd_bkv, pd_bkn, pd_bkif, pd_st1, Nat.reduceAdd, Nat.reduceLeDiff, Bool.or_false, Bool.or_self, cmL_e, cmG_e, if_neg z1, if_neg (le10 (k := k) (by omega)).2, if_neg h.1, if_pos h.2, if_pos z2, if_neg hw, mm_u_s, if_true, i10, if_false]
  · simp only [p125_0, p125_1, p125_4, p125_5, p125_7, p125_10, p125_11, p125_14, p125_15, p125_18, p125_19, p125_22, p125_23, p125_26, p125_27, p125_30, p125_31, p125_33, p125_34, p125_36, p125_39, p125_40, p125_41, p125_44, p125_45, p125_47, p125_50, p125_51, p125_52, p125_53, p125_54, p125_55, p125_58, p125_59, p125_62, p125_63, p125_66, p125_67, p125_70, p125_73, p125_74, p125_77, p125_78, p125_79, p125_80, p125_83, p125_84, p125_86, p125_89, p125_90, p125_91, p125_92, p125_95, p125_96, p125_97, gf7_20 sh43, gf7_39 sh43, mm_d, mm_dd, mm_rV, pd_stI, pf7_39 sh43, so5_4i, mm_lA, mm_lI, mm_lD, mm_lJ, mm_ld0, mm_lds, pd_Kgo, pd_Kend, pd_Kno, pd_Kite, mm_i, mm_ii, mm_r, mm_1, mm_icmp, cond_true, cond_false, mm_o2, mm_c2, wt0, wt1, wt2, wt3, wt4, va_rfs, pd_bkv, pd_bkn, pd_bkif, pd_st1, Nat.reduceAdd, Nat.reduceLeDiff, Bool.or_false, Bool.or_self, cmL_e, cmG_e, if_neg z1, if_neg (le10 (k := k) (by omega)).2, if_neg h.1, if_pos h.2, if_neg z2, if_neg z3, if_neg hw, mm_u_s, if_true, i10, if_false]
theorem ev125i {k : Nat} {v : UInt64} (hd : 1 ≤ d) (hk : k < 4 ∨ 6 < k) (hk2 : k < 11) (h : inR v) (hw : cmL v (FP.i2d (FP.d2i v)) = 0) : mm_ev xs Ls pd_ck pd_ak pd_mj d 125 [.ref (43 : Nat), .int (Int32.ofNat k), .double v] (pd_st K D (pd_RF q) J n) = some (.inl none, pd_st (mm_u K 43 39 0) (mm_u D 53 k (FP.i2d (FP.d2i v))) (pd_RF q) J n) := by
  obtain ⟨d, rfl⟩ : ∃ e, d = e + 1 := ⟨d - 1, by omega⟩
  refine pd_ev_of (Nat.le_of_ble_eq_true rfl) ?_; rw [show pd_mj 125 = pd_m125 from rfl, show mm_pad (mm_in [.ref (43 : Nat), .int (Int32.ofNat k), .double v]) pd_m125.nL = [some (.ref (43 : Nat)), some (.int (Int32.ofNat k)), some (.double v), none, none] from rfl]
  have z1 : ¬ (Int32.ofNat k < 0) := by rw [pd_ge0 (by omega)]; exact id
  rcases int_k hk hk2 with z2 | ⟨z2, z3⟩
  · simp only [p125_0, p125_1, p125_4, p125_5, p125_7, p125_10, p125_11, p125_14, p125_15, p125_18, p125_19, p125_22, p125_23, p125_26, p125_27, p125_30, p125_31, p125_33, p125_34, p125_36, p125_39, p125_40, p125_41, p125_44, p125_45, p125_47, p125_50, p125_51, p125_52, p125_53, p125_54, p125_55, p125_58, p125_59, p125_62, p125_63, p125_66, p125_67, p125_70, p125_73, p125_74, p125_77, p125_78, p125_79, p125_80, p125_83, p125_84, p125_86, p125_89, p125_90, p125_91, p125_92, p125_95, p125_96, p125_97, gf7_20 sh43, gf7_39 sh43, mm_d, mm_dd, mm_rV, pd_stI, pf7_39 sh43, so5_4i, mm_lA, mm_lI, mm_lD, mm_lJ, mm_ld0, mm_lds, pd_Kgo, pd_Kend, pd_Kno, pd_Kite, mm_i, mm_ii, mm_r, mm_1, mm_icmp, cond_true, cond_false, mm_o2, mm_c2, wt0, wt1, wt2, wt3, wt4, va_rfs, pd_bkv, pd_bkn, pd_bkif, pd_st1, Nat.reduceAdd, Nat.reduceLeDiff, Bool.or_false, Bool.or_self, cmL_e, cmG_e, if_neg z1, if_neg (le10 (k := k) (by omega)).2, if_neg h.1, if_pos h.2, if_pos z2, if_pos hw, mm_u_s, if_true, rm_20, pd_dc (b := 53) (mm := 11) rfl hk2 (by omega)]
  · simp only [p125_0, p125_1, p125_4, p125_5, p125_7, p125_10, p125_11, p125_14, p125_15, p125_18, p125_19, p125_22, p125_23, p125_26, p125_27, p125_30, p125_31, p125_33, p125_34, p125_36, p125_39, p125_40, p125_41, p125_44, p125_45, p125_47, p125_50, p125_51, p125_52, p125_53, p125_54, p125_55, p125_58, p125_59, p125_62, p125_63, p125_66, p125_67, p125_70, p125_73, p125_74, p125_77, p125_78, p125_79, p125_80, p125_83, p125_84, p125_86, p125_89, p125_90, p125_91, p125_92, p125_95, p125_96, p125_97, gf7_20 sh43, gf7_39 sh43, mm_d, mm_dd, mm_rV, pd_stI, pf7_39 sh43, so5_4i, mm_lA, mm_lI, mm_lD, mm_lJ, mm_ld0, mm_lds, pd_Kgo, pd_Kend, pd_Kno, pd_Kite, mm_i, mm_ii, mm_r, mm_1, mm_icmp, cond_true, cond_false, mm_o2, mm_c2, wt0, wt1, wt2, wt3, wt4, va_rfs, pd_bkv, pd_bkn, pd_bkif, pd_st1, Nat.reduceAdd, Nat.reduceLeDiff, Bool.or_false, Bool.or_self, cmL_e, cmG_e, if_neg z1, if_neg (le10 (k := k) (by omega)).2, if_neg h.1, if_pos h.2, if_neg z2, if_neg z3, if_pos hw, mm_u_s, if_true, rm_20, pd_dc (b := 53) (mm := 11) rfl hk2 (by omega)]
/-- the procedures that are there -/
def cn48 (g : Nat → Int32) : Nat → Nat → Nat
  | 0, _ => 0
  | f + 1, p => (if g p = 0 then 0 else 1) + cn48 g f (p + 1)
/-- what count answers: place, length, procedures, steps, written, the semaphores, born, most, waited -/
def cnV (w : Int32) (v : Nat → Int32) : Int32 := if w = 0 then v 0 else if w = 1 then v 1 else if w = 2 then v 2 else if w = 3 then v 3 else if w = 4 then v 4 else if w = 5 then v 5 else if w = 6 then v 6 else if w = 7 then v 7 else if w = 8 then v 8 else if w = 9 then v 9 else -1
def rfV (K : pd_I) (i : Nat) : Int32 := match i with
  | 0 => K 43 9
  | 1 => K 43 8
  | 2 => Int32.ofNat (cn48 (K 48) 4 0)
  | 3 => K 43 34
  | 4 => K 43 35
  | 5 => K 56 0
  | 6 => K 56 1
  | 7 => K 43 36
  | 8 => K 43 37
  | _ => K 43 38
theorem lp127 {w : Int32} {o : mm_O} : ∀ (f p m : Nat), p + f = 4 → (pd_G xs Ls d pd_m127 (9, [some (.ref (43 : Nat)), some (.int w), some (.int (Int32.ofNat m)), some (.int (Int32.ofNat p))], [], pd_st K D (pd_RF q) J n) o ↔ pd_G xs Ls d pd_m127 (32, [some (.ref (43 : Nat)), some (.int w), some (.int (Int32.ofNat (m + cn48 (K 48) f p))), some (.int (Int32.ofNat 4))], [], pd_st K D (pd_RF q) J n) o) := by
  intro f
  induction f with
  | zero =>
    intro p m hp
    have e : p = 4 := by omega
    subst e
    have z : ((4 : Int32) ≤ Int32.ofNat 4) := by decide
    rw [p127_9]
    simp only [p127_0, p127_1, p127_2, p127_5, p127_6, p127_7, p127_8, p127_10, p127_11, p127_14, p127_15, p127_18, p127_19, p127_20, p127_23, p127_26, p127_29, p127_33, p127_88, p127_89, p127_92, p127_93, p127_94, p127_97, p127_98, p127_99, p127_100, p127_101, p127_104, p127_105, p127_106, p127_109, p127_110, p127_111, p127_114, p127_115, p127_116, p127_117, p127_118, p127_119, p127_120, p127_123, p127_124, p127_125, p127_128, p127_129, p127_130, p127_133, p127_134, p127_135, gf7_23 sh43, gf7_34 sh43, gf7_35 sh43, gf7_36 sh43, gf7_37 sh43, gf7_38 sh43, gf7_4 sh43, gf7_8 sh43, gf7_9 sh43, mm_e0, pd_stI, pf7_39 sh43, so4_2i, so4_3i, mm_lA, mm_lI, mm_lD, mm_lJ, mm_ld0, mm_lds, pd_Kgo, pd_Kend, pd_Kno, pd_Kite, mm_i, mm_ii, mm_r, mm_1, mm_icmp, cond_true, cond_false, mm_o2, mm_c2, wt0, wt1, wt2, wt3, wt4, va_rfs, pd_bkv, pd_bkn, pd_bkif, pd_st1, Nat.reduceAdd, Nat.reduceLeDiff, Bool.or_false, Bool.or_self, if_pos z]
    rfl
  | succ f ih =>
    intro p m hp
    have z : ¬ ((4 : Int32) ≤ Int32.ofNat p) := by rw [show (4 : Int32) = Int32.ofNat 4 from rfl, pd_gtl (by omega) (by omega)]; omega
    unfold cn48
    rw [p127_9]
    by_cases h : K 48 p = 0
    · simp only [p127_0, p127_1, p127_2, p127_5, p127_6, p127_7, p127_8, p127_10, p127_11, p127_14, p127_15, p127_18, p127_19, p127_20, p127_23, p127_26, p127_29, p127_33, p127_88, p127_89, p127_92, p127_93, p127_94, p127_97, p127_98, p127_99, p127_100, p127_101, p127_104, p127_105, p127_106, p127_109, p127_110, p127_111, p127_114, p127_115, p127_116, p127_117, p127_118, p127_119, p127_120, p127_123, p127_124, p127_125, p127_128, p127_129, p127_130, p127_133, p127_134, p127_135, gf7_23 sh43, gf7_34 sh43, gf7_35 sh43, gf7_36 sh43, gf7_37 sh43, gf7_38 sh43, gf7_4 sh43, gf7_8 sh43, gf7_9 sh43, mm_e0, pd_stI, pf7_39 sh43, so4_2i, so4_3i, mm_lA, mm_lI, mm_lD, mm_lJ, mm_ld0, mm_lds, pd_Kgo, pd_Kend, pd_Kno, pd_Kite, mm_i, mm_ii, mm_r, mm_1, mm_icmp, cond_true, cond_false, mm_o2, mm_c2, wt0, wt1, wt2, wt3, wt4, va_rfs, pd_bkv, pd_bkn, pd_bkif, pd_st1, Nat.reduceAdd, Nat.reduceLeDiff, Bool.or_false, Bool.or_self, if_neg z, rm_4, pd_bl (a := 48) (mm := 4) rfl (show p < 4 by omega) (by omega), if_pos h, pd_suc]
      rw [Nat.zero_add]
      exact ih (p + 1) m (by omega)
    · simp only [p127_0, p127_1, p127_2, p127_5, p127_6, p127_7, p127_8, p127_10, p127_11, p127_14, p127_15, p127_18, p127_19, p127_20, p127_23, p127_26, p127_29, p127_33, p127_88, p127_89, p127_92, p127_93, p127_94, p127_97, p127_98, p127_99, p127_100, p127_101, p127_104, p127_105, p127_106, p127_109, p127_110, p127_111, p127_114, p127_115, p127_116, p127_117, p127_118, p127_119, p127_120, p127_123, p127_124, p127_125, p127_128, p127_129, p127_130, p127_133, p127_134, p127_135, gf7_23 sh43, gf7_34 sh43, gf7_35 sh43, gf7_36 sh43, gf7_37 sh43, gf7_38 sh43, gf7_4 sh43, gf7_8 sh43, gf7_9 sh43, mm_e0, pd_stI, pf7_39 sh43, so4_2i, so4_3i, mm_lA, mm_lI, mm_lD, mm_lJ, mm_ld0, mm_lds, pd_Kgo, pd_Kend, pd_Kno, pd_Kite, mm_i, mm_ii, mm_r, mm_1, mm_icmp, cond_true, cond_false, mm_o2, mm_c2, wt0, wt1, wt2, wt3, wt4, va_rfs, pd_bkv, pd_bkn, pd_bkif, pd_st1, Nat.reduceAdd, Nat.reduceLeDiff, Bool.or_false, Bool.or_self, if_neg z, rm_4, pd_bl (a := 48) (mm := 4) rfl (show p < 4 by omega) (by omega), if_neg h, pd_suc]
      rw [← Nat.add_assoc]
      exact ih (p + 1) (m + 1) (by omega)
theorem ev127 {w : Int32} (hd : 1 ≤ d) : mm_ev xs Ls pd_ck pd_ak pd_mj d 127 [.ref (43 : Nat), .int w] (pd_st K D (pd_RF q) J n) = some (.inl (some (.int (cnV w (rfV K)))), pd_st (mm_u K 43 39 0) D (pd_RF q) J n) := by
  obtain ⟨d, rfl⟩ : ∃ e, d = e + 1 := ⟨d - 1, by omega⟩
  refine pd_ev_of (Nat.le_of_ble_eq_true rfl) ?_; rw [show pd_mj 127 = pd_m127 from rfl, show mm_pad (mm_in [.ref (43 : Nat), .int w]) pd_m127.nL = [some (.ref (43 : Nat)), some (.int w), none, none] from rfl]
  simp only [p127_0, p127_1, p127_2, p127_5, p127_6, p127_7, p127_8, p127_10, p127_11, p127_14, p127_15, p127_18, p127_19, p127_20, p127_23, p127_26, p127_29, p127_32, p127_33, p127_88, p127_89, p127_92, p127_93, p127_94, p127_97, p127_98, p127_99, p127_100, p127_101, p127_104, p127_105, p127_106, p127_109, p127_110, p127_111, p127_114, p127_115, p127_116, p127_117, p127_118, p127_119, p127_120, p127_123, p127_124, p127_125, p127_128, p127_129, p127_130, p127_133, p127_134, p127_135, gf7_23 sh43, gf7_34 sh43, gf7_35 sh43, gf7_36 sh43, gf7_37 sh43, gf7_38 sh43, gf7_4 sh43, gf7_8 sh43, gf7_9 sh43, mm_e0, pd_stI, pf7_39 sh43, so4_2i, so4_3i, mm_lA, mm_lI, mm_lD, mm_lJ, mm_ld0, mm_lds, pd_Kgo, pd_Kend, pd_Kno, pd_Kite, mm_i, mm_ii, mm_r, mm_1, mm_icmp, cond_true, cond_false, mm_o2, mm_c2, wt0, wt1, wt2, wt3, wt4, va_rfs, pd_bkv, pd_bkn, pd_bkif, pd_st1, Nat.reduceAdd, Nat.reduceLeDiff, Bool.or_false, Bool.or_self]
  have hz := fun o => lp127 (xs := xs) (Ls := Ls) (D := D) (J := J) (n := n) (q := q) (d := d) (K := mm_u K 43 39 0) (w := w) (o := o) 4 0 0 (by omega)
  rw [show Int32.ofNat 0 = (0 : Int32) from rfl] at hz
  rw [hz, Nat.zero_add]
  unfold cnV
  have i0 := fun pc L r => pd_il (I := mm_u K 43 39 0) (D := D) (A := pd_RF q) (J := J) (n := n) (xs := xs) (Ls := Ls) (a := 56) (k := 0) (t := 0) (mm := 2) (pc := pc) (L := L) (r := r) rfl rfl (by omega) (by omega)
  have i1 := fun pc L r => pd_il (I := mm_u K 43 39 0) (D := D) (A := pd_RF q) (J := J) (n := n) (xs := xs) (Ls := Ls) (a := 56) (k := 1) (t := 0) (mm := 2) (pc := pc) (L := L) (r := r) rfl rfl (by omega) (by omega)
  rw [show Int32.ofNat 0 = (0 : Int32) from rfl] at i0
  rw [show Int32.ofNat 1 = (1 : Int32) from rfl] at i1
  have e55 : (5 : Int32) - 5 = 0 := by decide
  have e65 : (6 : Int32) - 5 = 1 := by decide
  by_cases w0 : w = 0
  · subst w0
    simp only [p127_0, p127_1, p127_2, p127_5, p127_6, p127_7, p127_8, p127_10, p127_11, p127_14, p127_15, p127_18, p127_19, p127_20, p127_23, p127_26, p127_29, p127_32, p127_33, p127_88, p127_89, p127_92, p127_93, p127_94, p127_97, p127_98, p127_99, p127_100, p127_101, p127_104, p127_105, p127_106, p127_109, p127_110, p127_111, p127_114, p127_115, p127_116, p127_117, p127_118, p127_119, p127_120, p127_123, p127_124, p127_125, p127_128, p127_129, p127_130, p127_133, p127_134, p127_135, gf7_23 sh43, gf7_34 sh43, gf7_35 sh43, gf7_36 sh43, gf7_37 sh43, gf7_38 sh43, gf7_4 sh43, gf7_8 sh43, gf7_9 sh43, mm_e0, pd_stI, pf7_39 sh43, so4_2i, so4_3i, mm_lA, mm_lI, mm_lD, mm_lJ, mm_ld0, mm_lds, pd_Kgo, pd_Kend, pd_Kno, pd_Kite, mm_i, mm_ii, mm_r, mm_1, mm_icmp, cond_true, cond_false, mm_o2, mm_c2, wt0, wt1, wt2, wt3, wt4, va_rfs, pd_bkv, pd_bkn, pd_bkif, pd_st1, Nat.reduceAdd, Nat.reduceLeDiff, Bool.or_false, Bool.or_self, if_true]
    rfl
  · by_cases w1 : w = 1
    · subst w1
      simp only [p127_0, p127_1, p127_2, p127_5, p127_6, p127_7, p127_8, p127_10, p127_11, p127_14, p127_15, p127_18, p127_19, p127_20, p127_23, p127_26, p127_29, p127_32, p127_33, p127_88, p127_89, p127_92, p127_93, p127_94, p127_97, p127_98, p127_99, p127_100, p127_101, p127_104, p127_105, p127_106, p127_109, p127_110, p127_111, p127_114, p127_115, p127_116, p127_117, p127_118, p127_119, p127_120, p127_123, p127_124, p127_125, p127_128, p127_129, p127_130, p127_133, p127_134, p127_135, gf7_23 sh43, gf7_34 sh43, gf7_35 sh43, gf7_36 sh43, gf7_37 sh43, gf7_38 sh43, gf7_4 sh43, gf7_8 sh43, gf7_9 sh43, mm_e0, pd_stI, pf7_39 sh43, so4_2i, so4_3i, mm_lA, mm_lI, mm_lD, mm_lJ, mm_ld0, mm_lds, pd_Kgo, pd_Kend, pd_Kno, pd_Kite, mm_i, mm_ii, mm_r, mm_1, mm_icmp, cond_true, cond_false, mm_o2, mm_c2, wt0, wt1, wt2, wt3, wt4, va_rfs, pd_bkv, pd_bkn, pd_bkif, pd_st1, Nat.reduceAdd, Nat.reduceLeDiff, Bool.or_false, Bool.or_self, if_true, if_false, show ((1 : Int32) = 0) = False from eq_false (by decide)]
      rfl
    · by_cases w2 : w = 2
      · subst w2
        simp only [p127_0, p127_1, p127_2, p127_5, p127_6, p127_7, p127_8, p127_10, p127_11, p127_14, p127_15, p127_18, p127_19, p127_20, p127_23, p127_26, p127_29, p127_32, p127_33, p127_88, p127_89, p127_92, p127_93, p127_94, p127_97, p127_98, p127_99, p127_100, p127_101, p127_104, p127_105, p127_106, p127_109, p127_110, p127_111, p127_114, p127_115, p127_116, p127_117, p127_118, p127_119, p127_120, p127_123, p127_124, p127_125, p127_128, p127_129, p127_130, p127_133, p127_134, p127_135, gf7_23 sh43, gf7_34 sh43, gf7_35 sh43, gf7_36 sh43, gf7_37 sh43, gf7_38 sh43, gf7_4 sh43, gf7_8 sh43, gf7_9 sh43, mm_e0, pd_stI, pf7_39 sh43, so4_2i, so4_3i, mm_lA, mm_lI, mm_lD, mm_lJ, mm_ld0, mm_lds, pd_Kgo, pd_Kend, pd_Kno, pd_Kite, mm_i, mm_ii, mm_r, mm_1, mm_icmp, cond_true, cond_false, mm_o2, mm_c2, wt0, wt1, wt2, wt3, wt4, va_rfs, pd_bkv, pd_bkn, pd_bkif, pd_st1, Nat.reduceAdd, Nat.reduceLeDiff, Bool.or_false, Bool.or_self, if_true, if_false, show ((2 : Int32) = 0) = False from eq_false (by decide), show ((2 : Int32) = 1) = False from eq_false (by decide)]
        rfl
      · by_cases w3 : w = 3
        · subst w3
          simp only [p127_0, p127_1, p127_2, p127_5, p127_6, p127_7, p127_8, p127_10, p127_11, p127_14, p127_15, p127_18, p127_19, p127_20, p127_23, p127_26, p127_29, p127_32, p127_33, p127_88, p127_89, p127_92, p127_93, p127_94, p127_97, p127_98, p127_99, p127_100, p127_101, p127_104, p127_105, p127_106, p127_109, p127_110, p127_111, p127_114, p127_115, p127_116, p127_117, p127_118, p127_119, p127_120, p127_123, p127_124, p127_125, p127_128, p127_129, p127_130, p127_133, p127_134, p127_135, gf7_23 sh43, gf7_34 sh43, gf7_35 sh43, gf7_36 sh43, gf7_37 sh43, gf7_38 sh43, gf7_4 sh43, gf7_8 sh43, gf7_9 sh43, mm_e0, pd_stI, pf7_39 sh43, so4_2i, so4_3i, mm_lA, mm_lI, mm_lD, mm_lJ, mm_ld0, mm_lds, pd_Kgo, pd_Kend, pd_Kno, pd_Kite, mm_i, mm_ii, mm_r, mm_1, mm_icmp, cond_true, cond_false, mm_o2, mm_c2, wt0, wt1, wt2, wt3, wt4, va_rfs, pd_bkv, pd_bkn, pd_bkif, pd_st1, Nat.reduceAdd, Nat.reduceLeDiff, Bool.or_false, Bool.or_self, if_true, if_false, show ((3 : Int32) = 0) = False from eq_false (by decide), show ((3 : Int32) = 1) = False from eq_false (by decide), show ((3 : Int32) = 2) = False from eq_false (by decide)]
          rfl
        · by_cases w4 : w = 4
          · subst w4
            simp only [p127_0, p127_1, p127_2, p127_5, p127_6, p127_7, p127_8, p127_10, p127_11, p127_14, p127_15, p127_18, p127_19, p127_20, p127_23, p127_26, p127_29, p127_32, p127_33, p127_88, p127_89, p127_92, p127_93, p127_94, p127_97, p127_98, p127_99, p127_100, p127_101, p127_104, p127_105, p127_106, p127_109, p127_110, p127_111, p127_114, p127_115, p127_116, p127_117, p127_118, p127_119, p127_120, p127_123, p127_124, p127_125, p127_128, p127_129, p127_130, p127_133, p127_134, p127_135, gf7_23 sh43, gf7_34 sh43, gf7_35 sh43, gf7_36 sh43, gf7_37 sh43, gf7_38 sh43, gf7_4 sh43, gf7_8 sh43, gf7_9 sh43, mm_e0, pd_stI, pf7_39 sh43, so4_2i, so4_3i, mm_lA, mm_lI, mm_lD, mm_lJ, mm_ld0, mm_lds, pd_Kgo, pd_Kend, pd_Kno, pd_Kite, mm_i, mm_ii, mm_r, mm_1, mm_icmp, cond_true, cond_false, mm_o2, mm_c2, wt0, wt1, wt2, wt3, wt4, va_rfs, pd_bkv, pd_bkn, pd_bkif, pd_st1, Nat.reduceAdd, Nat.reduceLeDiff, Bool.or_false, Bool.or_self, if_true, if_false, show ((4 : Int32) = 0) = False from eq_false (by decide), show ((4 : Int32) = 1) = False from eq_false (by decide), show ((4 : Int32) = 2) = False from eq_false (by decide), show ((4 : Int32) = 3) = False from eq_false (by decide)]
            rfl
          · by_cases w5 : w = 5
            · subst w5
              simp only [p127_0, p127_1, p127_2, p127_5, p127_6, p127_7, p127_8, p127_10, p127_11, p127_14, p127_15, p127_18, p127_19, p127_20, p127_23, p127_26, p127_29, p127_32, p127_33, p127_88, p127_89, p127_92, p127_93, p127_94, p127_97, p127_98, p127_99, p127_100, p127_101, p127_104, p127_105, p127_106, p127_109, p127_110, p127_111, p127_114, p127_115, p127_116, p127_117, p127_118, p127_119, p127_120, p127_123, p127_124, p127_125, p127_128, p127_129, p127_130, p127_133, p127_134, p127_135, gf7_23 sh43, gf7_34 sh43, gf7_35 sh43, gf7_36 sh43, gf7_37 sh43, gf7_38 sh43, gf7_4 sh43, gf7_8 sh43, gf7_9 sh43, mm_e0, pd_stI, pf7_39 sh43, so4_2i, so4_3i, mm_lA, mm_lI, mm_lD, mm_lJ, mm_ld0, mm_lds, pd_Kgo, pd_Kend, pd_Kno, pd_Kite, mm_i, mm_ii, mm_r, mm_1, mm_icmp, cond_true, cond_false, mm_o2, mm_c2, wt0, wt1, wt2, wt3, wt4, va_rfs, pd_bkv, pd_bkn, pd_bkif, pd_st1, Nat.reduceAdd, Nat.reduceLeDiff, Bool.or_false, Bool.or_self, if_true, if_false, show ((5 : Int32) = 0) = False from eq_false (by decide), show ((5 : Int32) = 1) = False from eq_false (by decide), show ((5 : Int32) = 2) = False from eq_false (by decide), show ((5 : Int32) = 3) = False from eq_false (by decide), show ((5 : Int32) = 4) = False from eq_false (by decide), rm_23, e55, i0]
              rfl
            · by_cases w6 : w = 6
              · subst w6
                simp only [p127_0, p127_1, p127_2, p127_5, p127_6, p127_7, p127_8, p127_10, p127_11, p127_14, p127_15, p127_18, p127_19, p127_20, p127_23, p127_26, p127_29, p127_32, p127_33, p127_88, p127_89, p127_92, p127_93, p127_94, p127_97, p127_98, p127_99, p127_100, p127_101, p127_104, p127_105, p127_106, p127_109, p127_110, p127_111, p127_114, p127_115, p127_116, p127_117, p127_118, p127_119, p127_120, p127_123, p127_124, p127_125, p127_128, p127_129, p127_130, p127_133, p127_134, p127_135, gf7_23 sh43, gf7_34 sh43, gf7_35 sh43, gf7_36 sh43, gf7_37 sh43, gf7_38 sh43, gf7_4 sh43, gf7_8 sh43, gf7_9 sh43, mm_e0, pd_stI, pf7_39 sh43, so4_2i, so4_3i, mm_lA, mm_lI, mm_lD, mm_lJ, mm_ld0, mm_lds, pd_Kgo, pd_Kend, pd_Kno, pd_Kite, mm_i, mm_ii, mm_r, mm_1, mm_icmp, cond_true, cond_false, mm_o2, mm_c2, wt0, wt1, wt2, wt3, wt4, va_rfs, pd_bkv, pd_bkn, pd_bkif, pd_st1, Nat.reduceAdd, Nat.reduceLeDiff, Bool.or_false, Bool.or_self, if_true, if_false, show ((6 : Int32) = 0) = False from eq_false (by decide), show ((6 : Int32) = 1) = False from eq_false (by decide), show ((6 : Int32) = 2) = False from eq_false (by decide), show ((6 : Int32) = 3) = False from eq_false (by decide), show ((6 : Int32) = 4) = False from eq_false (by decide), show ((6 : Int32) = 5) = False from eq_false (by decide), rm_23, e65, i1]
                rfl
              · by_cases w7 : w = 7
                · subst w7
                  simp only [p127_0, p127_1, p127_2, p127_5, p127_6, p127_7, p127_8, p127_10, p127_11, p127_14, p127_15, p127_18, p127_19, p127_20, p127_23, p127_26, p127_29, p127_32, p127_33, p127_88, p127_89, p127_92, p127_93, p127_94, p127_97, p127_98, p127_99, p127_100, p127_101, p127_104, p127_105, p127_106, p127_109, p127_110, p127_111, p127_114, p127_115, p127_116, p127_117, p127_118, p127_119, p127_120, p127_123, p127_124, p127_125, p127_128, p127_129, p127_130, p127_133, p127_134, p127_135, gf7_23 sh43, gf7_34 sh43, gf7_35 sh43, gf7_36 sh43, gf7_37 sh43, gf7_38 sh43, gf7_4 sh43, gf7_8 sh43, gf7_9 sh43, mm_e0, pd_stI, pf7_39 sh43, so4_2i, so4_3i, mm_lA, mm_lI, mm_lD, mm_lJ, mm_ld0, mm_lds, pd_Kgo, pd_Kend, pd_Kno, pd_Kite, mm_i, mm_ii, mm_r, mm_1, mm_icmp, cond_true, cond_false, mm_o2, mm_c2, wt0, wt1, wt2, wt3, wt4, va_rfs, pd_bkv, pd_bkn, pd_bkif, pd_st1, Nat.reduceAdd, Nat.reduceLeDiff, Bool.or_false, Bool.or_self, if_true, if_false, show ((7 : Int32) = 0) = False from eq_false (by decide), show ((7 : Int32) = 1) = False from eq_false (by decide), show ((7 : Int32) = 2) = False from eq_false (by decide), show ((7 : Int32) = 3) = False from eq_false (by decide), show ((7 : Int32) = 4) = False from eq_false (by decide), show ((7 : Int32) = 5) = False from eq_false (by decide), show ((7 : Int32) = 6) = False from eq_false (by decide)]
                  rfl
                · by_cases w8 : w = 8
                  · subst w8
                    simp only [p127_0, p127_1, p127_2, p127_5, p127_6, p127_7, p127_8, p127_10, p127_11, p127_14, p127_15, p127_18, p127_19, p127_20, p127_23, p127_26, p127_29, p127_32, p127_33, p127_88, p127_89, p127_92, p127_93, p127_94, p127_97, p127_98, p127_99, p127_100, p127_101, p127_104, p127_105, p127_106, p127_109, p127_110, p127_111, p127_114, p127_115, p127_116, p127_117, p127_118, p127_119, p127_120, p127_123, p127_124, p127_125, p127_128, p127_129, p127_130, p127_133, p127_134, p127_135, gf7_23 sh43, gf7_34 sh43, gf7_35 sh43, gf7_36 sh43, gf7_37 sh43, gf7_38 sh43, gf7_4 sh43, gf7_8 sh43, gf7_9 sh43, mm_e0, pd_stI, pf7_39 sh43, so4_2i, so4_3i, mm_lA, mm_lI, mm_lD, mm_lJ, mm_ld0, mm_lds, pd_Kgo, pd_Kend, pd_Kno, pd_Kite, mm_i, mm_ii, mm_r, mm_1, mm_icmp, cond_true, cond_false, mm_o2, mm_c2, wt0, wt1, wt2, wt3, wt4, va_rfs, pd_bkv, pd_bkn, pd_bkif, pd_st1, Nat.reduceAdd, Nat.reduceLeDiff, Bool.or_false, Bool.or_self, if_true, if_false, show ((8 : Int32) = 0) = False from eq_false (by decide), show ((8 : Int32) = 1) = False from eq_false (by decide), show ((8 : Int32) = 2) = False from eq_false (by decide), show ((8 : Int32) = 3) = False from eq_false (by decide), show ((8 : Int32) = 4) = False from eq_false (by decide), show ((8 : Int32) = 5) = False from eq_false (by decide), show ((8 : Int32) = 6) = False from eq_false (by decide), show ((8 : Int32) = 7) = False from eq_false (by decide)]
                    rfl
                  · by_cases w9 : w = 9
                    · subst w9
                      simp only [p127_0, p127_1, p127_2, p127_5, p127_6, p127_7, p127_8, p127_10, p127_11, p127_14, p127_15, p127_18, p127_19, p127_20, p127_23, p127_26, p127_29, p127_32, p127_33, p127_88, p127_89, p127_92, p127_93, p127_94, p127_97, p127_98, p127_99, p127_100, p127_101, p127_104, p127_105, p127_106, p127_109, p127_110, p127_111, p127_114, p127_115, p127_116, p127_117, p127_118, p127_119, p127_120, p127_123, p127_124, p127_125, p127_128, p127_129, p127_130, p127_133, p127_134, p127_135, gf7_23 sh43, gf7_34 sh43, gf7_35 sh43, gf7_36 sh43, gf7_37 sh43, gf7_38 sh43, gf7_4 sh43, gf7_8 sh43, gf7_9 sh43, mm_e0, pd_stI, pf7_39 sh43, so4_2i, so4_3i, mm_lA, mm_lI, mm_lD, mm_lJ, mm_ld0, mm_lds, pd_Kgo, pd_Kend, pd_Kno, pd_Kite, mm_i, mm_ii, mm_r, mm_1, mm_icmp, cond_true, cond_false, mm_o2, mm_c2, wt0, wt1, wt2, wt3, wt4, va_rfs, pd_bkv, pd_bkn, pd_bkif, pd_st1, Nat.reduceAdd, Nat.reduceLeDiff, Bool.or_false, Bool.or_self, if_true, if_false, show ((9 : Int32) = 0) = False from eq_false (by decide), show ((9 : Int32) = 1) = False from eq_false (by decide), show ((9 : Int32) = 2) = False from eq_false (by decide), show ((9 : Int32) = 3) = False from eq_false (by decide), show ((9 : Int32) = 4) = False from eq_false (by decide), show ((9 : Int32) = 5) = False from eq_false (by decide), show ((9 : Int32) = 6) = False from eq_false (by decide), show ((9 : Int32) = 7) = False from eq_false (by decide), show ((9 : Int32) = 8) = False from eq_false (by decide)]
                      rfl
                    · rw [if_neg w0, if_neg w1, if_neg w2, if_neg w3, if_neg w4, if_neg w5, if_neg w6, if_neg w7, if_neg w8, if_neg w9]
                      simp only [p127_0, p127_1, p127_2, p127_5, p127_6, p127_7, p127_8, p127_10, p127_11, p127_14, p127_15, p127_18, p127_19, p127_20, p127_23, p127_26, p127_29, p127_32, p127_33, p127_88, p127_89, p127_92, p127_93, p127_94, p127_97, p127_98, p127_99, p127_100, p127_101, p127_104, p127_105, p127_106, p127_109, p127_110, p127_111, p127_114, p127_115, p127_116, p127_117, p127_118, p127_119, p127_120, p127_123, p127_124, p127_125, p127_128, p127_129, p127_130, p127_133, p127_134, p127_135, gf7_23 sh43, gf7_34 sh43, gf7_35 sh43, gf7_36 sh43, gf7_37 sh43, gf7_38 sh43, gf7_4 sh43, gf7_8 sh43, gf7_9 sh43, mm_e0, pd_stI, pf7_39 sh43, so4_2i, so4_3i, mm_lA, mm_lI, mm_lD, mm_lJ, mm_ld0, mm_lds, pd_Kgo, pd_Kend, pd_Kno, pd_Kite, mm_i, mm_ii, mm_r, mm_1, mm_icmp, cond_true, cond_false, mm_o2, mm_c2, wt0, wt1, wt2, wt3, wt4, va_rfs, pd_bkv, pd_bkn, pd_bkif, pd_st1, Nat.reduceAdd, Nat.reduceLeDiff, Bool.or_false, Bool.or_self, if_neg w0, if_neg w1, if_neg w2, if_neg w3, if_neg w4, if_neg w5, if_neg w6, if_neg w7, if_neg w8, if_neg w9]
end VM6
