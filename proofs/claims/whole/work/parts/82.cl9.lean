/-! THE CLASS: what is typed and asked -/
/-- the class's text, put in -/
def tcK (K : pd_I) (x : Nat × (Nat → Int32)) : pd_I := fun a k => if a = 2 then x.2 k else if a = 1 ∧ k = 1 then Int32.ofNat x.1 else K a k
section CL9
variable {K K' K1 K2 K3 : pd_I} {D D' : pd_D} {J : pd_J} {n : Nat} {xs : Nat → Int32} {Ls d : Nat} {q : Nat → Nat} {c h i : Nat} {v x y : UInt64} {b : Bool} {o : mm_O} {e : Int64}
theorem ev3 {s : Int32} {S : mm_St} (hd : 1 ≤ d) : mm_ev xs Ls pd_ck pd_ak pd_mj d 3 [.long e, .int s] S = some (.inl (some (.int (byt e s))), S) := by
  obtain ⟨d, rfl⟩ : ∃ e, d = e + 1 := ⟨d - 1, by omega⟩
  refine pd_ev_of (Nat.le_of_ble_eq_true rfl) ?_; rw [show pd_mj 3 = pd_m3 from rfl, show mm_pad (mm_in [.long e, .int s]) pd_m3.nL = [some (.long e), none, some (.int s)] from rfl]
  simp only [p3_0, p3_1, p3_2, p3_3, p3_4, p3_7, p3_8, mm_e0, mm_j, mm_ji, mm_lA, mm_lI, mm_lD, mm_lJ, mm_ld0, mm_lds, pd_Kgo, pd_Kend, pd_Kno, pd_Kite, mm_i, mm_ii, mm_r, mm_1, mm_icmp, cond_true, cond_false, mm_o2, mm_c2, wt0, wt1, wt2, wt3, wt4, va_rfs, pd_bkv, pd_bkn, pd_bkif, pd_st1, Nat.reduceAdd, Nat.reduceLeDiff, Bool.or_false, Bool.or_self, byt_e]
theorem ev20 {l : Nat} (hd : 1 ≤ d) (hl : K 1 1 = Int32.ofNat l) (h : l ≤ 48) : mm_ev xs Ls pd_ck pd_ak pd_mj d 20 [.ref (1 : Nat)] (pd_st K D (pd_RF q) J n) = some (.inl (some (.int (Int32.ofNat (48 - l)))), pd_st K D (pd_RF q) J n) := by
  obtain ⟨d, rfl⟩ : ∃ e, d = e + 1 := ⟨d - 1, by omega⟩
  have e9 : (48 : Int32) - Int32.ofNat l = Int32.ofNat (48 - l) := by
    have : (48 : Int32) = Int32.ofNat (48 - l) + Int32.ofNat l := by rw [pd_addn, show 48 - l + l = 48 by omega]; rfl
    rw [this, Int32.add_sub_cancel]
  refine pd_ev_of (Nat.le_of_ble_eq_true rfl) ?_; rw [show pd_mj 20 = pd_m20 from rfl, show mm_pad (mm_in [.ref (1 : Nat)]) pd_m20.nL = [some (.ref (1 : Nat))] from rfl]
  simp only [p20_0, p20_2, p20_3, p20_6, p20_7, gf2_1 sh1, mm_e0, mm_lA, mm_lI, mm_lD, mm_lJ, mm_ld0, mm_lds, pd_Kgo, pd_Kend, pd_Kno, pd_Kite, mm_i, mm_ii, mm_r, mm_1, mm_icmp, cond_true, cond_false, mm_o2, mm_c2, wt0, wt1, wt2, wt3, wt4, va_rfs, pd_bkv, pd_bkn, pd_bkif, pd_st1, Nat.reduceAdd, Nat.reduceLeDiff, Bool.or_false, Bool.or_self, hl, e9]
theorem tcK_u {x : Nat × (Nat → Int32)} {c : Int32} : mm_u (mm_u (tcK K x) 2 x.1 c) 1 1 (Int32.ofNat (x.1 + 1)) = tcK K (x.1 + 1, pd_up x.2 x.1 c) := by
  funext a k
  unfold tcK mm_u pd_up
  by_cases h1 : a = 2
  · subst h1; simp
  · by_cases h2 : a = 1
    · subst h2
      by_cases h3 : k = 1
      · subst h3; simp
      · simp [h3]
    · simp [h1, h2]
theorem tcK_0 {l : Nat} (h : K 1 1 = Int32.ofNat l) : tcK K (l, K 2) = K := by
  funext a k
  unfold tcK
  by_cases h1 : a = 2
  · subst h1; rfl
  · rw [if_neg h1]
    by_cases h2 : a = 1 ∧ k = 1
    · rw [if_pos h2, h2.1, h2.2, h]
    · rw [if_neg h2]
theorem pd_cc {a k mm : Nat} {x : Int32} {pc : Nat} {L : mm_L} {r : List Value} (h1 : pd_SH[a]? = some (.inr (1, mm))) (hk : k < mm) (hm : mm ≤ 1000) : (mm_ai pd_ak (pd_st K D (pd_RF q) J n) (.int (Int32.ofNat k) :: .ref a :: r) 1 fun i a r => mm_go pc L r (mm_sI (pd_st K D (pd_RF q) J n) a i.toNatClampNeg x)) = mm_go pc L r (pd_st (mm_u K a k x) D (pd_RF q) J n) := by
  rw [pd_ai (ty := 1) h1 rfl hk hm, pd_nn (by omega)]
  rfl
theorem ev21 {x : Nat × (Nat → Int32)} {c : Int32} (hd : 1 ≤ d) (hx : x.1 < 48) (hc : vp_nar .char c = c) : mm_ev xs Ls pd_ck pd_ak pd_mj d 21 [.ref (1 : Nat), .int c] (pd_st (tcK K x) D (pd_RF q) J n) = some (.inl none, pd_st (tcK K (x.1 + 1, pd_up x.2 x.1 c)) D (pd_RF q) J n) := by
  obtain ⟨d, rfl⟩ : ∃ e, d = e + 1 := ⟨d - 1, by omega⟩
  have h1 : tcK K x 1 1 = Int32.ofNat x.1 := rfl
  have z : ¬ ((48 : Int32) ≤ Int32.ofNat x.1) := by rw [show (48 : Int32) = Int32.ofNat 48 from rfl, pd_gtl (by omega) (by omega)]; omega
  have u1 : (mm_u (tcK K x) 2 x.1 c) 1 1 = Int32.ofNat x.1 := by rw [mm_u_a (by decide)]; exact h1
  refine pd_ev_of (Nat.le_of_ble_eq_true rfl) ?_; rw [show pd_mj 21 = pd_m21 from rfl, show mm_pad (mm_in [.ref (1 : Nat), .int c]) pd_m21.nL = [some (.ref (1 : Nat)), some (.int c)] from rfl]
  simp only [p21_0, p21_1, p21_4, p21_6, p21_9, p21_10, p21_13, p21_14, p21_17, p21_18, p21_19, p21_20, p21_21, p21_24, p21_25, p21_26, p21_29, gf2_0 sh1, gf2_1 sh1, mm_rV, pd_stI, pf2_1 sh1, mm_lA, mm_lI, mm_lD, mm_lJ, mm_ld0, mm_lds, pd_Kgo, pd_Kend, pd_Kno, pd_Kite, mm_i, mm_ii, mm_r, mm_1, mm_icmp, cond_true, cond_false, mm_o2, mm_c2, wt0, wt1, wt2, wt3, wt4, va_rfs, pd_bkv, pd_bkn, pd_bkif, pd_st1, Nat.reduceAdd, Nat.reduceLeDiff, Bool.or_false, Bool.or_self, h1, if_neg z, rf_10, hc, pd_cc (a := 2) (mm := 48) rfl hx (by omega), u1, pd_suc, tcK_u]
theorem ev6n {m : Int32} (hd : 1 ≤ d) (h : isTp m = false) : mm_ev xs Ls pd_ck pd_ak pd_mj d 6 [.ref (0 : Nat), .long e, .int m] (pd_st K D (pd_RF q) J n) = some (.inr 0, pd_st K D (pd_RF q) J (n + 1)) := by
  obtain ⟨d, rfl⟩ : ∃ e, d = e + 1 := ⟨d - 1, by omega⟩
  refine pd_ev_of (Nat.le_of_ble_eq_true rfl) ?_; rw [show pd_mj 6 = pd_m6 from rfl, show mm_pad (mm_in [.ref (0 : Nat), .long e, .int m]) pd_m6.nL = [some (.ref (0 : Nat)), some (.long e), none, some (.int m)] from rfl]
  unfold isTp at h
  by_cases h1 : m < 1
  · simp only [p6_0, p6_1, p6_2, p6_5, p6_6, p6_8, p6_11, p6_21, p6_22, p6_25, p6_28, p6_29, p6_30, p6_33, gf0_1 sh0, gf3_2 sh6, mm_rV, qi2 sh23, mm_lA, mm_lI, mm_lD, mm_lJ, mm_ld0, mm_lds, pd_Kgo, pd_Kend, pd_Kno, pd_Kite, mm_i, mm_ii, mm_r, mm_1, mm_icmp, cond_true, cond_false, mm_o2, mm_c2, wt0, wt1, wt2, wt3, wt4, va_rfs, pd_bkv, pd_bkn, pd_bkif, pd_st1, Nat.reduceAdd, Nat.reduceLeDiff, Bool.or_false, Bool.or_self, if_pos h1, thr0]
    rfl
  · rw [if_neg h1] at h
    by_cases h2 : 16 < m
    · have h3 : ¬ (m ≤ 16) := Int32.not_le.mpr h2
      simp only [p6_0, p6_1, p6_2, p6_5, p6_6, p6_8, p6_11, p6_21, p6_22, p6_25, p6_28, p6_29, p6_30, p6_33, gf0_1 sh0, gf3_2 sh6, mm_rV, qi2 sh23, mm_lA, mm_lI, mm_lD, mm_lJ, mm_ld0, mm_lds, pd_Kgo, pd_Kend, pd_Kno, pd_Kite, mm_i, mm_ii, mm_r, mm_1, mm_icmp, cond_true, cond_false, mm_o2, mm_c2, wt0, wt1, wt2, wt3, wt4, va_rfs, pd_bkv, pd_bkn, pd_bkif, pd_st1, Nat.reduceAdd, Nat.reduceLeDiff, Bool.or_false, Bool.or_self, if_neg h1, if_neg h3, thr0]
      rfl
    · rw [if_neg h2] at h; cases h
theorem ev6s {m : Nat} (hd : 2 ≤ d) (h1 : 1 ≤ m) (h16 : m ≤ 16) : mm_ev xs Ls pd_ck pd_ak pd_mj d 6 [.ref (0 : Nat), .long e, .int (Int32.ofNat m)] (pd_st K D (pd_RF q) J n) = some (.inl none, pd_st (mm_u (tpL e 24 m 0 K) 23 1 (Int32.ofNat m)) D (pd_RF q) J n) := by
  obtain ⟨d, rfl⟩ : ∃ e, d = e + 1 := ⟨d - 1, by omega⟩
  refine pd_ev_of (Nat.le_of_ble_eq_true rfl) ?_; rw [show pd_mj 6 = pd_m6 from rfl, show mm_pad (mm_in [.ref (0 : Nat), .long e, .int (Int32.ofNat m)]) pd_m6.nL = [some (.ref (0 : Nat)), some (.long e), none, some (.int (Int32.ofNat m))] from rfl]
  have z1 : ¬ (Int32.ofNat m < 1) := by rw [show (1 : Int32) = Int32.ofNat 1 from rfl, pd_ltl (by omega) (by omega)]; omega
  have z2 : (Int32.ofNat m ≤ 16) := by rw [show (16 : Int32) = Int32.ofNat 16 from rfl, pd_gtl (by omega) (by omega)]; omega
  simp only [p6_0, p6_1, p6_2, p6_5, p6_6, p6_8, p6_11, p6_21, p6_22, p6_25, p6_28, p6_29, p6_30, p6_33, gf0_1 sh0, gf3_2 sh6, mm_rV, qi2 sh23, mm_lA, mm_lI, mm_lD, mm_lJ, mm_ld0, mm_lds, pd_Kgo, pd_Kend, pd_Kno, pd_Kite, mm_i, mm_ii, mm_r, mm_1, mm_icmp, cond_true, cond_false, mm_o2, mm_c2, wt0, wt1, wt2, wt3, wt4, va_rfs, pd_bkv, pd_bkn, pd_bkif, pd_st1, Nat.reduceAdd, Nat.reduceLeDiff, Bool.or_false, Bool.or_self, if_neg z1, if_pos z2, rf_01, rf_62, ev82 (d := d) (by omega) h16]
theorem ev9n {z : Int32} (hd : 2 ≤ d) (h : isVa z = false) : mm_ev xs Ls pd_ck pd_ak pd_mj d 9 [.ref (0 : Nat), .int z] (pd_st K D (pd_RF q) J n) = some (.inr 0, pd_st K D (pd_RF q) J (n + 1)) := by
  obtain ⟨d, rfl⟩ : ∃ e, d = e + 1 := ⟨d - 1, by omega⟩
  have e0 : ((pd_b false : Int32) = 0) = True := eq_true (by decide)
  refine pd_ev_of (Nat.le_of_ble_eq_true rfl) ?_; rw [show pd_mj 9 = pd_m9 from rfl, show mm_pad (mm_in [.ref (0 : Nat), .int z]) pd_m9.nL = [some (.ref (0 : Nat)), some (.int z)] from rfl]
  simp only [p9_0, p9_1, p9_4, p9_7, p9_17, p9_18, p9_21, p9_24, p9_27, p9_28, p9_29, gf0_1 sh0, gf3_1 sh6, gf4_0 sh20, mm_rD, pd_KinS1, pd_stI, mm_lA, mm_lI, mm_lD, mm_lJ, mm_ld0, mm_lds, pd_Kgo, pd_Kend, pd_Kno, pd_Kite, mm_i, mm_ii, mm_r, mm_1, mm_icmp, cond_true, cond_false, mm_o2, mm_c2, wt0, wt1, wt2, wt3, wt4, va_rfs, pd_bkv, pd_bkn, pd_bkif, pd_st1, Nat.reduceAdd, Nat.reduceLeDiff, Bool.or_false, Bool.or_self, ev71 (d := d) (by omega), h, e0, if_true, thr0]
  rfl
theorem ev9s {k : Nat} (hd : 2 ≤ d) (hk : k < 11) : mm_ev xs Ls pd_ck pd_ak pd_mj d 9 [.ref (0 : Nat), .int (Int32.ofNat k)] (pd_st K D (pd_RF q) J n) = some (.inl (some (.double (D 21 k))), pd_st K D (pd_RF q) J n) := by
  obtain ⟨d, rfl⟩ : ∃ e, d = e + 1 := ⟨d - 1, by omega⟩
  have e1 : ((pd_b true : Int32) = 0) = False := eq_false (by decide)
  refine pd_ev_of (Nat.le_of_ble_eq_true rfl) ?_; rw [show pd_mj 9 = pd_m9 from rfl, show mm_pad (mm_in [.ref (0 : Nat), .int (Int32.ofNat k)]) pd_m9.nL = [some (.ref (0 : Nat)), some (.int (Int32.ofNat k))] from rfl]
  simp only [p9_0, p9_1, p9_4, p9_7, p9_17, p9_18, p9_21, p9_24, p9_27, p9_28, p9_29, gf0_1 sh0, gf3_1 sh6, gf4_0 sh20, mm_rD, pd_KinS1, pd_stI, mm_lA, mm_lI, mm_lD, mm_lJ, mm_ld0, mm_lds, pd_Kgo, pd_Kend, pd_Kno, pd_Kite, mm_i, mm_ii, mm_r, mm_1, mm_icmp, cond_true, cond_false, mm_o2, mm_c2, wt0, wt1, wt2, wt3, wt4, va_rfs, pd_bkv, pd_bkn, pd_bkif, pd_st1, Nat.reduceAdd, Nat.reduceLeDiff, Bool.or_false, Bool.or_self, ev71 (d := d) (by omega), isVa_k hk, e1, if_false, rf_01, rf_61, rf_200, pd_stD, pd_dl (b := 21) (mm := 11) rfl hk (by omega)]
theorem ev11n {z : Int32} (hd : 1 ≤ d) (h : z < 0 ∨ K 6 5 ≤ z) : mm_ev xs Ls pd_ck pd_ak pd_mj d 11 [.ref (0 : Nat), .int z] (pd_st K D (pd_RF q) J n) = some (.inr 2, pd_st K D (pd_RF q) J (n + 1)) := by
  obtain ⟨d, rfl⟩ : ∃ e, d = e + 1 := ⟨d - 1, by omega⟩
  refine pd_ev_of (Nat.le_of_ble_eq_true rfl) ?_; rw [show pd_mj 11 = pd_m11 from rfl, show mm_pad (mm_in [.ref (0 : Nat), .int z]) pd_m11.nL = [some (.ref (0 : Nat)), some (.int z)] from rfl]
  by_cases h1 : z < 0
  · simp only [p11_0, p11_1, p11_4, p11_5, p11_6, p11_9, p11_12, p11_15, p11_25, p11_26, p11_29, p11_32, p11_33, p11_34, gf0_1 sh0, gf3_4 sh6, gf3_5 sh6, mm_rD, pd_stI, mm_lA, mm_lI, mm_lD, mm_lJ, mm_ld0, mm_lds, pd_Kgo, pd_Kend, pd_Kno, pd_Kite, mm_i, mm_ii, mm_r, mm_1, mm_icmp, cond_true, cond_false, mm_o2, mm_c2, wt0, wt1, wt2, wt3, wt4, va_rfs, pd_bkv, pd_bkn, pd_bkif, pd_st1, Nat.reduceAdd, Nat.reduceLeDiff, Bool.or_false, Bool.or_self, if_pos h1, thr0]
    rfl
  · have h3 : ¬ (z < K 6 5) := by rcases h with h | h; exact absurd h h1; exact Int32.not_lt.mpr h
    simp only [p11_0, p11_1, p11_4, p11_5, p11_6, p11_9, p11_12, p11_15, p11_25, p11_26, p11_29, p11_32, p11_33, p11_34, gf0_1 sh0, gf3_4 sh6, gf3_5 sh6, mm_rD, pd_stI, mm_lA, mm_lI, mm_lD, mm_lJ, mm_ld0, mm_lds, pd_Kgo, pd_Kend, pd_Kno, pd_Kite, mm_i, mm_ii, mm_r, mm_1, mm_icmp, cond_true, cond_false, mm_o2, mm_c2, wt0, wt1, wt2, wt3, wt4, va_rfs, pd_bkv, pd_bkn, pd_bkif, pd_st1, Nat.reduceAdd, Nat.reduceLeDiff, Bool.or_false, Bool.or_self, if_neg h1, rf_01, if_neg h3, thr0]
    rfl
theorem ev11s {k : Nat} (hd : 1 ≤ d) (hk : k < 12) (h : Int32.ofNat k < K 6 5) : mm_ev xs Ls pd_ck pd_ak pd_mj d 11 [.ref (0 : Nat), .int (Int32.ofNat k)] (pd_st K D (pd_RF q) J n) = some (.inl (some (.double (D 26 k))), pd_st K D (pd_RF q) J n) := by
  obtain ⟨d, rfl⟩ : ∃ e, d = e + 1 := ⟨d - 1, by omega⟩
  refine pd_ev_of (Nat.le_of_ble_eq_true rfl) ?_; rw [show pd_mj 11 = pd_m11 from rfl, show mm_pad (mm_in [.ref (0 : Nat), .int (Int32.ofNat k)]) pd_m11.nL = [some (.ref (0 : Nat)), some (.int (Int32.ofNat k))] from rfl]
  have z1 : ¬ (Int32.ofNat k < 0) := by rw [pd_ge0 (by omega)]; exact id
  simp only [p11_0, p11_1, p11_4, p11_5, p11_6, p11_9, p11_12, p11_15, p11_25, p11_26, p11_29, p11_32, p11_33, p11_34, gf0_1 sh0, gf3_4 sh6, gf3_5 sh6, mm_rD, pd_stI, mm_lA, mm_lI, mm_lD, mm_lJ, mm_ld0, mm_lds, pd_Kgo, pd_Kend, pd_Kno, pd_Kite, mm_i, mm_ii, mm_r, mm_1, mm_icmp, cond_true, cond_false, mm_o2, mm_c2, wt0, wt1, wt2, wt3, wt4, va_rfs, pd_bkv, pd_bkn, pd_bkif, pd_st1, Nat.reduceAdd, Nat.reduceLeDiff, Bool.or_false, Bool.or_self, if_neg z1, rf_01, if_pos h, rf_64, pd_stD, pd_dl (b := 26) (mm := 12) rfl hk (by omega)]
/-- set -/
theorem ev10n {z : Int32} (hd : 2 ≤ d) (h : isVa z = false ∨ ¬ inR v) : mm_ev xs Ls pd_ck pd_ak pd_mj d 10 [.ref (0 : Nat), .int z, .double v] (pd_st K D (pd_RF q) J n) = some (.inr 0, pd_st K D (pd_RF q) J (n + 1)) := by
  obtain ⟨d, rfl⟩ : ∃ e, d = e + 1 := ⟨d - 1, by omega⟩
  have e0 : ((pd_b false : Int32) = 0) = True := eq_true (by decide)
  have e1 : ((pd_b true : Int32) = 0) = False := eq_false (by decide)
  refine pd_ev_of (Nat.le_of_ble_eq_true rfl) ?_; rw [show pd_mj 10 = pd_m10 from rfl, show mm_pad (mm_in [.ref (0 : Nat), .int z, .double v]) pd_m10.nL = [some (.ref (0 : Nat)), some (.int z), some (.double v), none, none, none] from rfl]
  cases hv : isVa z
  · by_cases g1 : cmL v 13875379345695965184 < 0
    · simp only [p10_0, p10_1, p10_4, p10_5, p10_8, p10_9, p10_12, p10_13, p10_16, p10_17, p10_20, p10_21, p10_23, p10_24, p10_27, p10_30, p10_32, p10_35, p10_45, p10_46, p10_49, p10_52, p10_53, p10_56, p10_59, p10_62, p10_63, p10_64, p10_65, p10_66, p10_67, p10_68, p10_70, p10_72, p10_73, p10_74, p10_75, p10_78, p10_88, p10_89, p10_92, p10_95, p10_98, p10_99, p10_101, p10_102, p10_103, gf0_1 sh0, gf3_1 sh6, gf4_0 sh20, mm_d, mm_dd, mm_rV, pd_KinS1, pd_stI, so6_4i, so6_5i, mm_lA, mm_lI, mm_lD, mm_lJ, mm_ld0, mm_lds, pd_Kgo, pd_Kend, pd_Kno, pd_Kite, mm_i, mm_ii, mm_r, mm_1, mm_icmp, cond_true, cond_false, mm_o2, mm_c2, wt0, wt1, wt2, wt3, wt4, va_rfs, pd_bkv, pd_bkn, pd_bkif, pd_st1, Nat.reduceAdd, Nat.reduceLeDiff, Bool.or_false, Bool.or_self, cmL_e, cmG_e, if_pos g1, ev71 (d := d) (by omega), hv, e0, if_true, thr0]
      rfl
    · by_cases g2 : 0 < cmG v 4652007308841189376
      · simp only [p10_0, p10_1, p10_4, p10_5, p10_8, p10_9, p10_12, p10_13, p10_16, p10_17, p10_20, p10_21, p10_23, p10_24, p10_27, p10_30, p10_32, p10_35, p10_45, p10_46, p10_49, p10_52, p10_53, p10_56, p10_59, p10_62, p10_63, p10_64, p10_65, p10_66, p10_67, p10_68, p10_70, p10_72, p10_73, p10_74, p10_75, p10_78, p10_88, p10_89, p10_92, p10_95, p10_98, p10_99, p10_101, p10_102, p10_103, gf0_1 sh0, gf3_1 sh6, gf4_0 sh20, mm_d, mm_dd, mm_rV, pd_KinS1, pd_stI, so6_4i, so6_5i, mm_lA, mm_lI, mm_lD, mm_lJ, mm_ld0, mm_lds, pd_Kgo, pd_Kend, pd_Kno, pd_Kite, mm_i, mm_ii, mm_r, mm_1, mm_icmp, cond_true, cond_false, mm_o2, mm_c2, wt0, wt1, wt2, wt3, wt4, va_rfs, pd_bkv, pd_bkn, pd_bkif, pd_st1, Nat.reduceAdd, Nat.reduceLeDiff, Bool.or_false, Bool.or_self, cmL_e, cmG_e, if_neg g1, if_pos g2, ev71 (d := d) (by omega), hv, e0, if_true, thr0]
        rfl
      · simp only [p10_0, p10_1, p10_4, p10_5, p10_8, p10_9, p10_12, p10_13, p10_16, p10_17, p10_20, p10_21, p10_23, p10_24, p10_27, p10_30, p10_32, p10_35, p10_45, p10_46, p10_49, p10_52, p10_53, p10_56, p10_59, p10_62, p10_63, p10_64, p10_65, p10_66, p10_67, p10_68, p10_70, p10_72, p10_73, p10_74, p10_75, p10_78, p10_88, p10_89, p10_92, p10_95, p10_98, p10_99, p10_101, p10_102, p10_103, gf0_1 sh0, gf3_1 sh6, gf4_0 sh20, mm_d, mm_dd, mm_rV, pd_KinS1, pd_stI, so6_4i, so6_5i, mm_lA, mm_lI, mm_lD, mm_lJ, mm_ld0, mm_lds, pd_Kgo, pd_Kend, pd_Kno, pd_Kite, mm_i, mm_ii, mm_r, mm_1, mm_icmp, cond_true, cond_false, mm_o2, mm_c2, wt0, wt1, wt2, wt3, wt4, va_rfs, pd_bkv, pd_bkn, pd_bkif, pd_st1, Nat.reduceAdd, Nat.reduceLeDiff, Bool.or_false, Bool.or_self, cmL_e, cmG_e, if_neg g1, if_neg g2, ev71 (d := d) (by omega), hv, e0, if_true, thr0]
        rfl
  · have h' : ¬ inR v := by rcases h with h | h; rw [hv] at h; cases h; exact h
    by_cases g1 : cmL v 13875379345695965184 < 0
    · simp only [p10_0, p10_1, p10_4, p10_5, p10_8, p10_9, p10_12, p10_13, p10_16, p10_17, p10_20, p10_21, p10_23, p10_24, p10_27, p10_30, p10_32, p10_35, p10_45, p10_46, p10_49, p10_52, p10_53, p10_56, p10_59, p10_62, p10_63, p10_64, p10_65, p10_66, p10_67, p10_68, p10_70, p10_72, p10_73, p10_74, p10_75, p10_78, p10_88, p10_89, p10_92, p10_95, p10_98, p10_99, p10_101, p10_102, p10_103, gf0_1 sh0, gf3_1 sh6, gf4_0 sh20, mm_d, mm_dd, mm_rV, pd_KinS1, pd_stI, so6_4i, so6_5i, mm_lA, mm_lI, mm_lD, mm_lJ, mm_ld0, mm_lds, pd_Kgo, pd_Kend, pd_Kno, pd_Kite, mm_i, mm_ii, mm_r, mm_1, mm_icmp, cond_true, cond_false, mm_o2, mm_c2, wt0, wt1, wt2, wt3, wt4, va_rfs, pd_bkv, pd_bkn, pd_bkif, pd_st1, Nat.reduceAdd, Nat.reduceLeDiff, Bool.or_false, Bool.or_self, cmL_e, cmG_e, if_pos g1, ev71 (d := d) (by omega), hv, e1, if_true, if_false, thr0]
      rfl
    · have g2 : 0 < cmG v 4652007308841189376 := Int32.not_le.mp (fun h9 => h' ⟨g1, h9⟩)
      simp only [p10_0, p10_1, p10_4, p10_5, p10_8, p10_9, p10_12, p10_13, p10_16, p10_17, p10_20, p10_21, p10_23, p10_24, p10_27, p10_30, p10_32, p10_35, p10_45, p10_46, p10_49, p10_52, p10_53, p10_56, p10_59, p10_62, p10_63, p10_64, p10_65, p10_66, p10_67, p10_68, p10_70, p10_72, p10_73, p10_74, p10_75, p10_78, p10_88, p10_89, p10_92, p10_95, p10_98, p10_99, p10_101, p10_102, p10_103, gf0_1 sh0, gf3_1 sh6, gf4_0 sh20, mm_d, mm_dd, mm_rV, pd_KinS1, pd_stI, so6_4i, so6_5i, mm_lA, mm_lI, mm_lD, mm_lJ, mm_ld0, mm_lds, pd_Kgo, pd_Kend, pd_Kno, pd_Kite, mm_i, mm_ii, mm_r, mm_1, mm_icmp, cond_true, cond_false, mm_o2, mm_c2, wt0, wt1, wt2, wt3, wt4, va_rfs, pd_bkv, pd_bkn, pd_bkif, pd_st1, Nat.reduceAdd, Nat.reduceLeDiff, Bool.or_false, Bool.or_self, cmL_e, cmG_e, if_neg g1, if_pos g2, ev71 (d := d) (by omega), hv, e1, if_true, if_false, thr0]
      rfl
theorem isR_k {k : Nat} (hk : k < 11) : (isR (Int32.ofNat k) = true ∧ 4 ≤ k ∧ k ≤ 6) ∨ (isR (Int32.ofNat k) = false ∧ (k < 4 ∨ 6 < k)) := by
  have : k = 0 ∨ k = 1 ∨ k = 2 ∨ k = 3 ∨ k = 4 ∨ k = 5 ∨ k = 6 ∨ k = 7 ∨ k = 8 ∨ k = 9 ∨ k = 10 := by omega
  rcases this with rfl | rfl | rfl | rfl | rfl | rfl | rfl | rfl | rfl | rfl | rfl <;> first | exact Or.inl ⟨by decide, by omega, by omega⟩ | exact Or.inr ⟨by decide, by omega⟩
theorem ev10r {k : Nat} (hd : 2 ≤ d) (hk : k < 11) (hr : isR (Int32.ofNat k) = true) (h : inR v) : mm_ev xs Ls pd_ck pd_ak pd_mj d 10 [.ref (0 : Nat), .int (Int32.ofNat k), .double v] (pd_st K D (pd_RF q) J n) = some (.inl none, pd_st K (mm_u D 21 k v) (pd_RF q) J n) := by
  obtain ⟨d, rfl⟩ : ∃ e, d = e + 1 := ⟨d - 1, by omega⟩
  have e1 : ((pd_b true : Int32) = 0) = False := eq_false (by decide)
  have g2 : ¬ (0 < cmG v 4652007308841189376) := Int32.not_lt.mpr h.2
  refine pd_ev_of (Nat.le_of_ble_eq_true rfl) ?_; rw [show pd_mj 10 = pd_m10 from rfl, show mm_pad (mm_in [.ref (0 : Nat), .int (Int32.ofNat k), .double v]) pd_m10.nL = [some (.ref (0 : Nat)), some (.int (Int32.ofNat k)), some (.double v), none, none, none] from rfl]
  simp only [p10_0, p10_1, p10_4, p10_5, p10_8, p10_9, p10_12, p10_13, p10_16, p10_17, p10_20, p10_21, p10_23, p10_24, p10_27, p10_30, p10_32, p10_35, p10_45, p10_46, p10_49, p10_52, p10_53, p10_56, p10_59, p10_62, p10_63, p10_64, p10_65, p10_66, p10_67, p10_68, p10_70, p10_72, p10_73, p10_74, p10_75, p10_78, p10_88, p10_89, p10_92, p10_95, p10_98, p10_99, p10_101, p10_102, p10_103, gf0_1 sh0, gf3_1 sh6, gf4_0 sh20, mm_d, mm_dd, mm_rV, pd_KinS1, pd_stI, so6_4i, so6_5i, mm_lA, mm_lI, mm_lD, mm_lJ, mm_ld0, mm_lds, pd_Kgo, pd_Kend, pd_Kno, pd_Kite, mm_i, mm_ii, mm_r, mm_1, mm_icmp, cond_true, cond_false, mm_o2, mm_c2, wt0, wt1, wt2, wt3, wt4, va_rfs, pd_bkv, pd_bkn, pd_bkif, pd_st1, Nat.reduceAdd, Nat.reduceLeDiff, Bool.or_false, Bool.or_self, cmL_e, cmG_e, if_neg h.1, if_neg g2, ev71 (d := d) (by omega), isVa_k hk, e1, i10, if_false, ev67 (d := d) (by omega), hr, rf_01, rf_61, rf_200, mm_d, pd_dc (b := 21) (mm := 11) rfl hk (by omega)]
theorem ev10w {k : Nat} (hd : 2 ≤ d) (hk : k < 11) (hr : isR (Int32.ofNat k) = false) (h : inR v) (hw : cmL (FP.i2d (FP.d2i v)) v ≠ 0) : mm_ev xs Ls pd_ck pd_ak pd_mj d 10 [.ref (0 : Nat), .int (Int32.ofNat k), .double v] (pd_st K D (pd_RF q) J n) = some (.inr 0, pd_st K D (pd_RF q) J (n + 1)) := by
  obtain ⟨d, rfl⟩ : ∃ e, d = e + 1 := ⟨d - 1, by omega⟩
  have e0 : ((pd_b false : Int32) = 0) = True := eq_true (by decide)
  have e1 : ((pd_b true : Int32) = 0) = False := eq_false (by decide)
  have g2 : ¬ (0 < cmG v 4652007308841189376) := Int32.not_lt.mpr h.2
  refine pd_ev_of (Nat.le_of_ble_eq_true rfl) ?_; rw [show pd_mj 10 = pd_m10 from rfl, show mm_pad (mm_in [.ref (0 : Nat), .int (Int32.ofNat k), .double v]) pd_m10.nL = [some (.ref (0 : Nat)), some (.int (Int32.ofNat k)), some (.double v), none, none, none] from rfl]
  simp only [p10_0, p10_1, p10_4, p10_5, p10_8, p10_9, p10_12, p10_13, p10_16, p10_17, p10_20, p10_21, p10_23, p10_24, p10_27, p10_30, p10_32, p10_35, p10_45, p10_46, p10_49, p10_52, p10_53, p10_56, p10_59, p10_62, p10_63, p10_64, p10_65, p10_66, p10_67, p10_68, p10_70, p10_72, p10_73, p10_74, p10_75, p10_78, p10_88, p10_89, p10_92, p10_95, p10_98, p10_99, p10_101, p10_102, p10_103, gf0_1 sh0, gf3_1 sh6, gf4_0 sh20, mm_d, mm_dd, mm_rV, pd_KinS1, pd_stI, so6_4i, so6_5i, mm_lA, mm_lI, mm_lD, mm_lJ, mm_ld0, mm_lds, pd_Kgo, pd_Kend, pd_Kno, pd_Kite, mm_i, mm_ii, mm_r, mm_1, mm_icmp, cond_true, cond_false, mm_o2, mm_c2, wt0, wt1, wt2, wt3, wt4, va_rfs, pd_bkv, pd_bkn, pd_bkif, pd_st1, Nat.reduceAdd, Nat.reduceLeDiff, Bool.or_false, Bool.or_self, cmL_e, cmG_e, if_neg h.1, if_neg g2, ev71 (d := d) (by omega), isVa_k hk, e0, e1, i10, if_true, if_false, ev67 (d := d) (by omega), hr, if_neg hw, thr0]
  rfl
theorem ev10i {k : Nat} (hd : 2 ≤ d) (hk : k < 11) (hr : isR (Int32.ofNat k) = false) (h : inR v) (hw : cmL (FP.i2d (FP.d2i v)) v = 0) : mm_ev xs Ls pd_ck pd_ak pd_mj d 10 [.ref (0 : Nat), .int (Int32.ofNat k), .double v] (pd_st K D (pd_RF q) J n) = some (.inl none, pd_st K (mm_u D 21 k (FP.i2d (FP.d2i v))) (pd_RF q) J n) := by
  obtain ⟨d, rfl⟩ : ∃ e, d = e + 1 := ⟨d - 1, by omega⟩
  have e0 : ((pd_b false : Int32) = 0) = True := eq_true (by decide)
  have e1 : ((pd_b true : Int32) = 0) = False := eq_false (by decide)
  have g2 : ¬ (0 < cmG v 4652007308841189376) := Int32.not_lt.mpr h.2
  refine pd_ev_of (Nat.le_of_ble_eq_true rfl) ?_; rw [show pd_mj 10 = pd_m10 from rfl, show mm_pad (mm_in [.ref (0 : Nat), .int (Int32.ofNat k), .double v]) pd_m10.nL = [some (.ref (0 : Nat)), some (.int (Int32.ofNat k)), some (.double v), none, none, none] from rfl]
  simp only [p10_0, p10_1, p10_4, p10_5, p10_8, p10_9, p10_12, p10_13, p10_16, p10_17, p10_20, p10_21, p10_23, p10_24, p10_27, p10_30, p10_32, p10_35, p10_45, p10_46, p10_49, p10_52, p10_53, p10_56, p10_59, p10_62, p10_63, p10_64, p10_65, p10_66, p10_67, p10_68, p10_70, p10_72, p10_73, p10_74, p10_75, p10_78, p10_88, p10_89, p10_92, p10_95, p10_98, p10_99, p10_101, p10_102, p10_103, gf0_1 sh0, gf3_1 sh6, gf4_0 sh20, mm_d, mm_dd, mm_rV, pd_KinS1, pd_stI, so6_4i, so6_5i, mm_lA, mm_lI, mm_lD, mm_lJ, mm_ld0, mm_lds, pd_Kgo, pd_Kend, pd_Kno, pd_Kite, mm_i, mm_ii, mm_r, mm_1, mm_icmp, cond_true, cond_false, mm_o2, mm_c2, wt0, wt1, wt2, wt3, wt4, va_rfs, pd_bkv, pd_bkn, pd_bkif, pd_st1, Nat.reduceAdd, Nat.reduceLeDiff, Bool.or_false, Bool.or_self, cmL_e, cmG_e, if_neg h.1, if_neg g2, ev71 (d := d) (by omega), isVa_k hk, e0, e1, i10, if_true, if_false, ev67 (d := d) (by omega), hr, hw, rf_01, rf_61, rf_200, mm_d, pd_dc (b := 21) (mm := 11) rfl hk (by omega)]
/-- equality of doubles, both ways round -/
theorem cm_sym {x y : UInt64} : cmL x y = 0 ↔ cmL y x = 0 := by
  unfold cmL
  have h : FP.dcmp y x = (FP.dcmp x y).map Ordering.swap := FP.Core.dcmp_swap x y
  rw [h]
  cases FP.dcmp x y with
  | none => exact Iff.rfl
  | some o => cases o <;> simp [Op.cmpValue] <;> decide
end CL9
