/-! THE CLASS: small methods of the runner -/
def Sd (K : pd_I) (i : Nat) : Nat → Int32 := K (28 + 3 * i)
def cntc (K : pd_I) : Nat → Nat → Nat
  | 0, _ => 0
  | f + 1, p => (if Sd K p 0 = 1 then 1 else 0) + cntc K f (p + 1)
section CL4
variable {K : pd_I} {D : pd_D} {J : pd_J} {n : Nat} {xs : Nat → Int32} {Ls d : Nat} {q : Nat → Nat} {c h i : Nat} {v x y : UInt64}
theorem ev55s {w : Nat} (hd : 1 ≤ d) (hw : w < 12) (h5 : K 6 5 = Int32.ofNat w) : mm_ev xs Ls pd_ck pd_ak pd_mj d 55 [.ref (6 : Nat), .double v] (pd_st K D (pd_RF q) J n) = some (.inl none, pd_st (mm_u K 6 5 (Int32.ofNat (w + 1))) (mm_u D 26 w v) (pd_RF q) J n) := by
  obtain ⟨d, rfl⟩ : ∃ e, d = e + 1 := ⟨d - 1, by omega⟩
  refine pd_ev_of (Nat.le_of_ble_eq_true rfl) ?_; rw [show pd_mj 55 = pd_m55 from rfl, show mm_pad (mm_in [.ref (6 : Nat), .double v]) pd_m55.nL = [some (.ref (6 : Nat)), some (.double v), none] from rfl]
  have z : Int32.ofNat w < 12 := by rw [show (12 : Int32) = Int32.ofNat 12 from rfl, pd_ltl (by omega) (by omega)]; omega
  simp only [p55_0, p55_1, p55_4, p55_6, p55_9, p55_19, p55_20, p55_23, p55_24, p55_27, p55_28, p55_29, p55_30, p55_31, p55_34, p55_35, p55_36, p55_39, gf3_4 sh6, gf3_5 sh6, mm_rV, pd_stI, pf3_5 sh6, mm_lA, mm_lI, mm_lD, mm_lJ, mm_ld0, mm_lds, pd_Kgo, pd_Kend, pd_Kno, pd_Kite, mm_i, mm_ii, mm_r, mm_1, mm_icmp, cond_true, cond_false, mm_o2, mm_c2, wt0, wt1, wt2, wt3, wt4, va_rfs, pd_bkv, pd_bkn, pd_bkif, pd_st1, Nat.reduceAdd, Nat.reduceLeDiff, Bool.or_false, Bool.or_self, h5, if_pos z, rf_64, mm_d, pd_dc (b := 26) (mm := 12) rfl hw (by omega), pd_suc]
theorem ev55n (hd : 1 ≤ d) (h5 : K 6 5 = 12) : mm_ev xs Ls pd_ck pd_ak pd_mj d 55 [.ref (6 : Nat), .double v] (pd_st K D (pd_RF q) J n) = some (.inr 1, pd_st K D (pd_RF q) J (n + 1)) := by
  obtain ⟨d, rfl⟩ : ∃ e, d = e + 1 := ⟨d - 1, by omega⟩
  refine pd_ev_of (Nat.le_of_ble_eq_true rfl) ?_; rw [show pd_mj 55 = pd_m55 from rfl, show mm_pad (mm_in [.ref (6 : Nat), .double v]) pd_m55.nL = [some (.ref (6 : Nat)), some (.double v), none] from rfl]
  have z : ¬ ((12 : Int32) < 12) := by decide
  simp only [p55_0, p55_1, p55_4, p55_6, p55_9, p55_19, p55_20, p55_23, p55_24, p55_27, p55_28, p55_29, p55_30, p55_31, p55_34, p55_35, p55_36, p55_39, gf3_4 sh6, gf3_5 sh6, mm_rV, pd_stI, pf3_5 sh6, mm_lA, mm_lI, mm_lD, mm_lJ, mm_ld0, mm_lds, pd_Kgo, pd_Kend, pd_Kno, pd_Kite, mm_i, mm_ii, mm_r, mm_1, mm_icmp, cond_true, cond_false, mm_o2, mm_c2, wt0, wt1, wt2, wt3, wt4, va_rfs, pd_bkv, pd_bkn, pd_bkif, pd_st1, Nat.reduceAdd, Nat.reduceLeDiff, Bool.or_false, Bool.or_self, h5, if_neg z, thr0]
  rfl
theorem ev56s {s : Nat} (hd : 1 ≤ d) (hs : s < 2) (hg : ¬ (K 25 s ≤ 0)) : mm_ev xs Ls pd_ck pd_ak pd_mj d 56 [.ref (6 : Nat), .ref (28 + 3 * i), .int (Int32.ofNat s)] (pd_st K D (pd_RF q) J n) = some (.inl none, pd_st (mm_u K 25 s (K 25 s - 1)) D (pd_RF q) J n) := by
  obtain ⟨d, rfl⟩ : ∃ e, d = e + 1 := ⟨d - 1, by omega⟩
  by_cases hi : i < 5
  · have hst := st_sh hi
    refine pd_ev_of (Nat.le_of_ble_eq_true rfl) ?_; rw [show pd_mj 56 = pd_m56 from rfl, show mm_pad (mm_in [.ref (6 : Nat), .ref (28 + 3 * i), .int (Int32.ofNat s)]) pd_m56.nL = [some (.ref (6 : Nat)), some (.ref (28 + 3 * i)), some (.int (Int32.ofNat s))] from rfl]
    simp only [p56_0, p56_1, p56_4, p56_5, p56_6, p56_9, p56_10, p56_13, p56_14, p56_15, p56_16, p56_17, p56_18, p56_19, p56_20, p56_21, p56_22, p56_25, p56_26, p56_27, p56_30, p56_31, p56_32, p56_35, p56_36, p56_37, p56_40, p56_41, p56_42, p56_45, p56_48, gf3_3 sh6, gf3_9 sh6, mm_2, mm_rV, pd_stI, pf3_9 sh6, pf6_0 hst, pf6_5 hst, pf6_6 hst, mm_lA, mm_lI, mm_lD, mm_lJ, mm_ld0, mm_lds, pd_Kgo, pd_Kend, pd_Kno, pd_Kite, mm_i, mm_ii, mm_r, mm_1, mm_icmp, cond_true, cond_false, mm_o2, mm_c2, wt0, wt1, wt2, wt3, wt4, va_rfs, pd_bkv, pd_bkn, pd_bkif, pd_st1, Nat.reduceAdd, Nat.reduceLeDiff, Bool.or_false, Bool.or_self, rf_63, pd_il (a := 25) (t := 0) (mm := 2) rfl rfl hs (by omega), if_neg hg, mm_2, pd_ic (a := 25) (mm := 2) rfl hs (by omega)]
  · have hst : pd_SH[28]? = some (.inl 6) := rfl
    refine pd_ev_of (Nat.le_of_ble_eq_true rfl) ?_; rw [show pd_mj 56 = pd_m56 from rfl, show mm_pad (mm_in [.ref (6 : Nat), .ref (28 + 3 * i), .int (Int32.ofNat s)]) pd_m56.nL = [some (.ref (6 : Nat)), some (.ref (28 + 3 * i)), some (.int (Int32.ofNat s))] from rfl]
    simp only [p56_0, p56_1, p56_4, p56_5, p56_6, p56_9, p56_10, p56_13, p56_14, p56_15, p56_16, p56_17, p56_18, p56_19, p56_20, p56_21, p56_22, p56_25, p56_26, p56_27, p56_30, p56_31, p56_32, p56_35, p56_36, p56_37, p56_40, p56_41, p56_42, p56_45, p56_48, gf3_3 sh6, gf3_9 sh6, mm_2, mm_rV, pd_stI, pf3_9 sh6, pf6_0 hst, pf6_5 hst, pf6_6 hst, mm_lA, mm_lI, mm_lD, mm_lJ, mm_ld0, mm_lds, pd_Kgo, pd_Kend, pd_Kno, pd_Kite, mm_i, mm_ii, mm_r, mm_1, mm_icmp, cond_true, cond_false, mm_o2, mm_c2, wt0, wt1, wt2, wt3, wt4, va_rfs, pd_bkv, pd_bkn, pd_bkif, pd_st1, Nat.reduceAdd, Nat.reduceLeDiff, Bool.or_false, Bool.or_self, rf_63, pd_il (a := 25) (t := 0) (mm := 2) rfl rfl hs (by omega), if_neg hg, mm_2, pd_ic (a := 25) (mm := 2) rfl hs (by omega)]
theorem ev56w {s : Nat} (hd : 1 ≤ d) (hi : i < 5) (hs : s < 2) (hg : K 25 s ≤ 0) : mm_ev xs Ls pd_ck pd_ak pd_mj d 56 [.ref (6 : Nat), .ref (28 + 3 * i), .int (Int32.ofNat s)] (pd_st K D (pd_RF q) J n) = some (.inl none, pd_st (mm_u (mm_u (mm_u (mm_u K 6 9 (K 6 9 + 1)) (28 + 3 * i) 0 3) (28 + 3 * i) 5 (Int32.ofNat s)) (28 + 3 * i) 6 (K 6 9 + 1)) D (pd_RF q) J n) := by
  obtain ⟨d, rfl⟩ : ∃ e, d = e + 1 := ⟨d - 1, by omega⟩
  have hst := st_sh hi
  have n6 : 6 ≠ 28 + 3 * i := by omega
  have u9 : (mm_u (mm_u (mm_u K 6 9 (K 6 9 + 1)) (28 + 3 * i) 0 3) (28 + 3 * i) 5 (Int32.ofNat s)) 6 9 = K 6 9 + 1 := by rw [mm_u_a n6, mm_u_a n6, mm_u_s]
  refine pd_ev_of (Nat.le_of_ble_eq_true rfl) ?_; rw [show pd_mj 56 = pd_m56 from rfl, show mm_pad (mm_in [.ref (6 : Nat), .ref (28 + 3 * i), .int (Int32.ofNat s)]) pd_m56.nL = [some (.ref (6 : Nat)), some (.ref (28 + 3 * i)), some (.int (Int32.ofNat s))] from rfl]
  simp only [p56_0, p56_1, p56_4, p56_5, p56_6, p56_9, p56_10, p56_13, p56_14, p56_15, p56_16, p56_17, p56_18, p56_19, p56_20, p56_21, p56_22, p56_25, p56_26, p56_27, p56_30, p56_31, p56_32, p56_35, p56_36, p56_37, p56_40, p56_41, p56_42, p56_45, p56_48, gf3_3 sh6, gf3_9 sh6, mm_2, mm_rV, pd_stI, pf3_9 sh6, pf6_0 hst, pf6_5 hst, pf6_6 hst, mm_lA, mm_lI, mm_lD, mm_lJ, mm_ld0, mm_lds, pd_Kgo, pd_Kend, pd_Kno, pd_Kite, mm_i, mm_ii, mm_r, mm_1, mm_icmp, cond_true, cond_false, mm_o2, mm_c2, wt0, wt1, wt2, wt3, wt4, va_rfs, pd_bkv, pd_bkn, pd_bkif, pd_st1, Nat.reduceAdd, Nat.reduceLeDiff, Bool.or_false, Bool.or_self, rf_63, pd_il (a := 25) (t := 0) (mm := 2) rfl rfl hs (by omega), if_pos hg, u9]
theorem ev61 {t : Nat} (hd : 1 ≤ d) (ht : t < 5) (h0 : Sd K t 0 = 0) (hj : ∀ j, j < t → Sd K j 0 ≠ 0) : mm_ev xs Ls pd_ck pd_ak pd_mj d 61 [.ref (6 : Nat)] (pd_st K D (pd_RF q) J n) = some (.inl (some (.int (Int32.ofNat t))), pd_st K D (pd_RF q) J n) := by
  obtain ⟨d, rfl⟩ : ∃ e, d = e + 1 := ⟨d - 1, by omega⟩
  have lp : ∀ (f : Nat) (z : Int32), f ≤ 5 → (t < f ∨ z = Int32.ofNat t) → pd_G xs Ls d pd_m61 (4, [some (.ref (6 : Nat)), some (.int z), some (.int (Int32.ofNat f + Int32.ofInt (-1)))], [], pd_st K D (pd_RF q) J n) (.inl (some (.int (Int32.ofNat t))), pd_st K D (pd_RF q) J n) := by
    intro f
    induction f with
    | zero =>
      intro z _ hz
      have hz' : z = Int32.ofNat t := by rcases hz with h | h; omega; exact h
      have hst : pd_SH[28]? = some (.inl 6) := rfl
      have zz : Int32.ofNat 0 + Int32.ofInt (-1) < 0 := by decide
      rw [p61_4]
      simp only [p61_0, p61_1, p61_2, p61_3, p61_5, p61_8, p61_9, p61_12, p61_13, p61_14, p61_17, p61_20, p61_21, p61_22, p61_25, p61_28, p61_29, gf3_10 sh6, gf6_0 hst, mm_e0, pd_stI, so3_1i, so3_2i, mm_lA, mm_lI, mm_lD, mm_lJ, mm_ld0, mm_lds, pd_Kgo, pd_Kend, pd_Kno, pd_Kite, mm_i, mm_ii, mm_r, mm_1, mm_icmp, cond_true, cond_false, mm_o2, mm_c2, wt0, wt1, wt2, wt3, wt4, va_rfs, pd_bkv, pd_bkn, pd_bkif, pd_st1, Nat.reduceAdd, Nat.reduceLeDiff, Bool.or_false, Bool.or_self, if_pos zz, hz']
    | succ f ih =>
      intro z hf hz
      have hst := st_sh (i := f) (by omega)
      have e1 : Int32.ofNat (f + 1) + Int32.ofInt (-1) = Int32.ofNat f := by
        rw [← pd_suc, Int32.add_assoc, show (1 : Int32) + Int32.ofInt (-1) = 0 from by decide, Int32.add_zero]
      have zz : ¬ (Int32.ofNat f < 0) := by rw [pd_ge0 (by omega)]; exact id
      rw [e1, p61_4]
      by_cases h : K (28 + 3 * f) 0 = 0
      · have hft : t ≤ f := by
          rcases Nat.lt_or_ge f t with h9 | h9
          · exact absurd h (hj f h9)
          · exact h9
        have hI := ih (Int32.ofNat f) (by omega) (by rcases Nat.lt_or_ge t f with h9 | h9; exact Or.inl h9; right; rw [show f = t by omega])
        simp only [p61_0, p61_1, p61_2, p61_3, p61_5, p61_8, p61_9, p61_12, p61_13, p61_14, p61_17, p61_20, p61_21, p61_22, p61_25, p61_28, p61_29, gf3_10 sh6, gf6_0 hst, mm_e0, pd_stI, so3_1i, so3_2i, mm_lA, mm_lI, mm_lD, mm_lJ, mm_ld0, mm_lds, pd_Kgo, pd_Kend, pd_Kno, pd_Kite, mm_i, mm_ii, mm_r, mm_1, mm_icmp, cond_true, cond_false, mm_o2, mm_c2, wt0, wt1, wt2, wt3, wt4, va_rfs, pd_bkv, pd_bkn, pd_bkif, pd_st1, Nat.reduceAdd, Nat.reduceLeDiff, Bool.or_false, Bool.or_self, if_neg zz, rf_6a, pd_sa (i := f) (by omega), h, if_true]
        exact hI
      · have hI := ih z (by omega) (by
          rcases hz with h9 | h9
          · rcases Nat.lt_or_ge t f with h8 | h8
            · exact Or.inl h8
            · exfalso; have : t = f := by omega
              subst this; exact h h0
          · exact Or.inr h9)
        simp only [p61_0, p61_1, p61_2, p61_3, p61_5, p61_8, p61_9, p61_12, p61_13, p61_14, p61_17, p61_20, p61_21, p61_22, p61_25, p61_28, p61_29, gf3_10 sh6, gf6_0 hst, mm_e0, pd_stI, so3_1i, so3_2i, mm_lA, mm_lI, mm_lD, mm_lJ, mm_ld0, mm_lds, pd_Kgo, pd_Kend, pd_Kno, pd_Kite, mm_i, mm_ii, mm_r, mm_1, mm_icmp, cond_true, cond_false, mm_o2, mm_c2, wt0, wt1, wt2, wt3, wt4, va_rfs, pd_bkv, pd_bkn, pd_bkif, pd_st1, Nat.reduceAdd, Nat.reduceLeDiff, Bool.or_false, Bool.or_self, if_neg zz, rf_6a, pd_sa (i := f) (by omega), if_neg h]
        exact hI
  refine pd_ev_of (Nat.le_of_ble_eq_true rfl) ?_; rw [show pd_mj 61 = pd_m61 from rfl, show mm_pad (mm_in [.ref (6 : Nat)]) pd_m61.nL = [some (.ref (6 : Nat)), none, none] from rfl]
  have h5 := lp 5 0 (Nat.le_refl _) (Or.inl ht)
  rw [show Int32.ofNat 5 + Int32.ofInt (-1) = (4 : Int32) from by decide] at h5
  have hst : pd_SH[28]? = some (.inl 6) := rfl
  simp only [p61_0, p61_1, p61_2, p61_3, p61_5, p61_8, p61_9, p61_12, p61_13, p61_14, p61_17, p61_20, p61_21, p61_22, p61_25, p61_28, p61_29, gf3_10 sh6, gf6_0 hst, mm_e0, pd_stI, so3_1i, so3_2i, mm_lA, mm_lI, mm_lD, mm_lJ, mm_ld0, mm_lds, pd_Kgo, pd_Kend, pd_Kno, pd_Kite, mm_i, mm_ii, mm_r, mm_1, mm_icmp, cond_true, cond_false, mm_o2, mm_c2, wt0, wt1, wt2, wt3, wt4, va_rfs, pd_bkv, pd_bkn, pd_bkif, pd_st1, Nat.reduceAdd, Nat.reduceLeDiff, Bool.or_false, Bool.or_self]
  exact h5
theorem ev135 {a b : Int32} {S : mm_St} (hd : 1 ≤ d) : mm_ev xs Ls pd_ck pd_ak pd_mj d 135 [.int a, .int b] S = some (.inl (some (.int (if a < b then b else a))), S) := by
  obtain ⟨d, rfl⟩ : ∃ e, d = e + 1 := ⟨d - 1, by omega⟩
  refine pd_ev_of (Nat.le_of_ble_eq_true rfl) ?_; rw [show pd_mj 135 = pd_m135 from rfl, show mm_pad (mm_in [.int a, .int b]) pd_m135.nL = [some (.int a), some (.int b)] from rfl]
  by_cases h : a < b
  · simp only [p135_0, p135_1, p135_2, p135_5, p135_6, p135_9, p135_10, mm_e0, mm_lA, mm_lI, mm_lD, mm_lJ, mm_ld0, mm_lds, pd_Kgo, pd_Kend, pd_Kno, pd_Kite, mm_i, mm_ii, mm_r, mm_1, mm_icmp, cond_true, cond_false, mm_o2, mm_c2, wt0, wt1, wt2, wt3, wt4, va_rfs, pd_bkv, pd_bkn, pd_bkif, pd_st1, Nat.reduceAdd, Nat.reduceLeDiff, Bool.or_false, Bool.or_self, if_pos h]
  · simp only [p135_0, p135_1, p135_2, p135_5, p135_6, p135_9, p135_10, mm_e0, mm_lA, mm_lI, mm_lD, mm_lJ, mm_ld0, mm_lds, pd_Kgo, pd_Kend, pd_Kno, pd_Kite, mm_i, mm_ii, mm_r, mm_1, mm_icmp, cond_true, cond_false, mm_o2, mm_c2, wt0, wt1, wt2, wt3, wt4, va_rfs, pd_bkv, pd_bkn, pd_bkif, pd_st1, Nat.reduceAdd, Nat.reduceLeDiff, Bool.or_false, Bool.or_self, if_neg h]
theorem ev59a {k : Nat} (hd : 1 ≤ d) (hi : i < 5) (hk : k < 4) (hc : pd_cO (q k)) (h0 : K (q k) 4 = 0) : mm_ev xs Ls pd_ck pd_ak pd_mj d 59 [.ref (6 : Nat), .ref (28 + 3 * i), .int (Int32.ofNat k)] (pd_st K D (pd_RF q) J n) = some (.inr 2, pd_st K D (pd_RF q) J (n + 1)) := by
  obtain ⟨d, rfl⟩ : ∃ e, d = e + 1 := ⟨d - 1, by omega⟩
  have hst := st_sh hi
  refine pd_ev_of (Nat.le_of_ble_eq_true rfl) ?_; rw [show pd_mj 59 = pd_m59 from rfl, show mm_pad (mm_in [.ref (6 : Nat), .ref (28 + 3 * i), .int (Int32.ofNat k)]) pd_m59.nL = [some (.ref (6 : Nat)), some (.ref (28 + 3 * i)), some (.int (Int32.ofNat k))] from rfl]
  simp only [p59_0, p59_1, p59_4, p59_5, p59_6, p59_9, p59_12, p59_22, p59_23, p59_24, p59_27, p59_30, p59_40, gf1_4 hc.sh, gf3_0 sh6, mm_rV, pd_stI, qi1 hst, mm_lA, mm_lI, mm_lD, mm_lJ, mm_ld0, mm_lds, pd_Kgo, pd_Kend, pd_Kno, pd_Kite, mm_i, mm_ii, mm_r, mm_1, mm_icmp, cond_true, cond_false, mm_o2, mm_c2, wt0, wt1, wt2, wt3, wt4, va_rfs, pd_bkv, pd_bkn, pd_bkif, pd_st1, Nat.reduceAdd, Nat.reduceLeDiff, Bool.or_false, Bool.or_self, rf_60, pd_aa (a := 7) (t := 11) (mm := 4) rfl rfl hk (by omega), rf_7 hk, h0, if_true, thr0]
  rfl
theorem ev59b {k : Nat} (hd : 2 ≤ d) (hi : i < 5) (hk : k < 4) (hc : pd_cO (q k)) (h0 : K (q k) 4 ≠ 0) (h6 : K (28 + 3 * i) 7 = 6) : mm_ev xs Ls pd_ck pd_ak pd_mj d 59 [.ref (6 : Nat), .ref (28 + 3 * i), .int (Int32.ofNat k)] (pd_st K D (pd_RF q) J n) = some (.inr 1, pd_st K D (pd_RF q) J (n + 1)) := by
  obtain ⟨d, rfl⟩ : ∃ e, d = e + 1 := ⟨d - 1, by omega⟩
  have hst := st_sh hi
  refine pd_ev_of (Nat.le_of_ble_eq_true rfl) ?_; rw [show pd_mj 59 = pd_m59 from rfl, show mm_pad (mm_in [.ref (6 : Nat), .ref (28 + 3 * i), .int (Int32.ofNat k)]) pd_m59.nL = [some (.ref (6 : Nat)), some (.ref (28 + 3 * i)), some (.int (Int32.ofNat k))] from rfl]
  simp only [p59_0, p59_1, p59_4, p59_5, p59_6, p59_9, p59_12, p59_22, p59_23, p59_24, p59_27, p59_30, p59_40, gf1_4 hc.sh, gf3_0 sh6, mm_rV, pd_stI, qi1 hst, mm_lA, mm_lI, mm_lD, mm_lJ, mm_ld0, mm_lds, pd_Kgo, pd_Kend, pd_Kno, pd_Kite, mm_i, mm_ii, mm_r, mm_1, mm_icmp, cond_true, cond_false, mm_o2, mm_c2, wt0, wt1, wt2, wt3, wt4, va_rfs, pd_bkv, pd_bkn, pd_bkif, pd_st1, Nat.reduceAdd, Nat.reduceLeDiff, Bool.or_false, Bool.or_self, rf_60, pd_aa (a := 7) (t := 11) (mm := 4) rfl rfl hk (by omega), rf_7 hk, if_neg h0, ev88n (d := d) (by omega) hi h6, if_true, thr0]
  rfl
theorem ev59c {k ca : Nat} (hd : 2 ≤ d) (hi : i < 5) (hk : k < 4) (hc : pd_cO (q k)) (h0 : K (q k) 4 ≠ 0) (h6 : K (28 + 3 * i) 7 = Int32.ofNat ca) (hca : ca < 6) : mm_ev xs Ls pd_ck pd_ak pd_mj d 59 [.ref (6 : Nat), .ref (28 + 3 * i), .int (Int32.ofNat k)] (pd_st K D (pd_RF q) J n) = some (.inl none, pd_st (mm_u (mm_u (mm_u (mm_u (mm_u K (29 + 3 * i) ca (K (28 + 3 * i) 3)) (30 + 3 * i) ca (K (28 + 3 * i) 4)) (28 + 3 * i) 7 (Int32.ofNat (ca + 1))) (28 + 3 * i) 3 (Int32.ofNat k)) (28 + 3 * i) 4 0) D (pd_RF q) J n) := by
  obtain ⟨d, rfl⟩ : ∃ e, d = e + 1 := ⟨d - 1, by omega⟩
  have hst := st_sh hi
  refine pd_ev_of (Nat.le_of_ble_eq_true rfl) ?_; rw [show pd_mj 59 = pd_m59 from rfl, show mm_pad (mm_in [.ref (6 : Nat), .ref (28 + 3 * i), .int (Int32.ofNat k)]) pd_m59.nL = [some (.ref (6 : Nat)), some (.ref (28 + 3 * i)), some (.int (Int32.ofNat k))] from rfl]
  simp only [p59_0, p59_1, p59_4, p59_5, p59_6, p59_9, p59_12, p59_22, p59_23, p59_24, p59_27, p59_30, p59_40, gf1_4 hc.sh, gf3_0 sh6, mm_rV, pd_stI, qi1 hst, mm_lA, mm_lI, mm_lD, mm_lJ, mm_ld0, mm_lds, pd_Kgo, pd_Kend, pd_Kno, pd_Kite, mm_i, mm_ii, mm_r, mm_1, mm_icmp, cond_true, cond_false, mm_o2, mm_c2, wt0, wt1, wt2, wt3, wt4, va_rfs, pd_bkv, pd_bkn, pd_bkif, pd_st1, Nat.reduceAdd, Nat.reduceLeDiff, Bool.or_false, Bool.or_self, rf_60, pd_aa (a := 7) (t := 11) (mm := 4) rfl rfl hk (by omega), rf_7 hk, if_neg h0, ev88s (d := d) (by omega) hi h6 hca, i10, if_false]
/-- leave -/
theorem ev65a (hd : 1 ≤ d) (hi : i < 5) (hp : K (28 + 3 * i) 1 = -1) : mm_ev xs Ls pd_ck pd_ak pd_mj d 65 [.ref (6 : Nat), .ref (28 + 3 * i)] (pd_st K D (pd_RF q) J n) = some (.inl (some (.int (-1))), pd_st (mm_u (mm_u K (28 + 3 * i) 0 0) 6 11 (K 6 11 - 1)) D (pd_RF q) J n) := by
  obtain ⟨d, rfl⟩ : ∃ e, d = e + 1 := ⟨d - 1, by omega⟩
  have hst := st_sh hi
  have n6 : 6 ≠ 28 + 3 * i := by omega
  have n6' : 28 + 3 * i ≠ 6 := by omega
  have u11 : (mm_u K (28 + 3 * i) 0 0) 6 11 = K 6 11 := mm_u_a n6
  have u1 : ∀ w, (mm_u (mm_u K (28 + 3 * i) 0 0) 6 11 w) (28 + 3 * i) 1 = -1 := fun w => by rw [mm_u_a n6', mm_u_k (by decide)]; exact hp
  refine pd_ev_of (Nat.le_of_ble_eq_true rfl) ?_; rw [show pd_mj 65 = pd_m65 from rfl, show mm_pad (mm_in [.ref (6 : Nat), .ref (28 + 3 * i)]) pd_m65.nL = [some (.ref (6 : Nat)), some (.ref (28 + 3 * i)), none] from rfl]
  simp only [p65_0, p65_1, p65_2, p65_5, p65_6, p65_7, p65_10, p65_11, p65_12, p65_15, p65_16, p65_19, p65_20, p65_23, p65_24, p65_25, p65_26, p65_29, p65_30, p65_33, p65_34, p65_35, p65_36, p65_37, p65_40, p65_41, p65_42, p65_45, p65_46, p65_49, p65_52, p65_53, p65_54, p65_55, p65_56, p65_59, p65_60, p65_63, gf3_10 sh6, gf3_11 sh6, gf6_1 hst, gf6_2 hst, mm_e0, pd_stI, pf3_11 sh6, pf6_0 hst, pf6_2 hst, so3_2r, mm_lA, mm_lI, mm_lD, mm_lJ, mm_ld0, mm_lds, pd_Kgo, pd_Kend, pd_Kno, pd_Kite, mm_i, mm_ii, mm_r, mm_1, mm_icmp, cond_true, cond_false, mm_o2, mm_c2, wt0, wt1, wt2, wt3, wt4, va_rfs, pd_bkv, pd_bkn, pd_bkif, pd_st1, Nat.reduceAdd, Nat.reduceLeDiff, Bool.or_false, Bool.or_self, u11, u1, if_true]
theorem ev65b {j : Nat} (hd : 1 ≤ d) (hi : i < 5) (hj : j < 5) (hp : K (28 + 3 * i) 1 = Int32.ofNat j) (hg : ¬ (Sd K j 2 - 1 ≤ 0)) : mm_ev xs Ls pd_ck pd_ak pd_mj d 65 [.ref (6 : Nat), .ref (28 + 3 * i)] (pd_st K D (pd_RF q) J n) = some (.inl (some (.int (-1))), pd_st (mm_u (mm_u (mm_u K (28 + 3 * i) 0 0) 6 11 (K 6 11 - 1)) (28 + 3 * j) 2 (Sd K j 2 - 1)) D (pd_RF q) J n) := by
  obtain ⟨d, rfl⟩ : ∃ e, d = e + 1 := ⟨d - 1, by omega⟩
  have hst := st_sh hi
  have hst2 := st_sh hj
  have n6 : 6 ≠ 28 + 3 * i := by omega
  have n6' : 28 + 3 * i ≠ 6 := by omega
  have n6j : 28 + 3 * j ≠ 6 := by omega
  have u11 : (mm_u K (28 + 3 * i) 0 0) 6 11 = K 6 11 := mm_u_a n6
  have u1 : ∀ w, (mm_u (mm_u K (28 + 3 * i) 0 0) 6 11 w) (28 + 3 * i) 1 = Int32.ofNat j := fun w => by rw [mm_u_a n6', mm_u_k (by decide)]; exact hp
  have u2 : ∀ w, (mm_u (mm_u K (28 + 3 * i) 0 0) 6 11 w) (28 + 3 * j) 2 = Sd K j 2 := fun w => by rw [mm_u_a n6j, mm_u_k (by decide)]; rfl
  have zj : ¬ (Int32.ofNat j = -1) := by
    intro h9
    have h8 := congrArg Int32.toInt h9
    rw [Int32.toInt_ofNat_of_lt (by omega), show (-1 : Int32).toInt = -1 from rfl] at h8
    omega
  refine pd_ev_of (Nat.le_of_ble_eq_true rfl) ?_; rw [show pd_mj 65 = pd_m65 from rfl, show mm_pad (mm_in [.ref (6 : Nat), .ref (28 + 3 * i)]) pd_m65.nL = [some (.ref (6 : Nat)), some (.ref (28 + 3 * i)), none] from rfl]
  simp only [p65_0, p65_1, p65_2, p65_5, p65_6, p65_7, p65_10, p65_11, p65_12, p65_15, p65_16, p65_19, p65_20, p65_23, p65_24, p65_25, p65_26, p65_29, p65_30, p65_33, p65_34, p65_35, p65_36, p65_37, p65_40, p65_41, p65_42, p65_45, p65_46, p65_49, p65_52, p65_53, p65_54, p65_55, p65_56, p65_59, p65_60, p65_63, gf3_10 sh6, gf3_11 sh6, gf6_1 hst, gf6_2 hst, mm_e0, pd_stI, pf3_11 sh6, pf6_0 hst, pf6_2 hst, so3_2r, mm_lA, mm_lI, mm_lD, mm_lJ, mm_ld0, mm_lds, pd_Kgo, pd_Kend, pd_Kno, pd_Kite, mm_i, mm_ii, mm_r, mm_1, mm_icmp, cond_true, cond_false, mm_o2, mm_c2, wt0, wt1, wt2, wt3, wt4, va_rfs, pd_bkv, pd_bkn, pd_bkif, pd_st1, Nat.reduceAdd, Nat.reduceLeDiff, Bool.or_false, Bool.or_self, u11, u1, if_neg zj, rf_6a, pd_sa hj, gf6_2 hst2, pf6_2 hst2, u2, mm_u_s, if_neg hg]
theorem ev65c {j : Nat} (hd : 1 ≤ d) (hi : i < 5) (hj : j < 5) (hij : i ≠ j) (hp : K (28 + 3 * i) 1 = Int32.ofNat j) (hg : Sd K j 2 - 1 ≤ 0) : mm_ev xs Ls pd_ck pd_ak pd_mj d 65 [.ref (6 : Nat), .ref (28 + 3 * i)] (pd_st K D (pd_RF q) J n) = some (.inl (some (.int (Int32.ofNat j))), pd_st (mm_u (mm_u (mm_u (mm_u K (28 + 3 * i) 0 0) 6 11 (K 6 11 - 1)) (28 + 3 * j) 2 (Sd K j 2 - 1)) (28 + 3 * j) 0 1) D (pd_RF q) J n) := by
  obtain ⟨d, rfl⟩ : ∃ e, d = e + 1 := ⟨d - 1, by omega⟩
  have hst := st_sh hi
  have hst2 := st_sh hj
  have n6 : 6 ≠ 28 + 3 * i := by omega
  have n6' : 28 + 3 * i ≠ 6 := by omega
  have n6j : 28 + 3 * j ≠ 6 := by omega
  have nij : 28 + 3 * i ≠ 28 + 3 * j := by omega
  have u11 : (mm_u K (28 + 3 * i) 0 0) 6 11 = K 6 11 := mm_u_a n6
  have u1 : ∀ w, (mm_u (mm_u K (28 + 3 * i) 0 0) 6 11 w) (28 + 3 * i) 1 = Int32.ofNat j := fun w => by rw [mm_u_a n6', mm_u_k (by decide)]; exact hp
  have u2 : ∀ w, (mm_u (mm_u K (28 + 3 * i) 0 0) 6 11 w) (28 + 3 * j) 2 = Sd K j 2 := fun w => by rw [mm_u_a n6j, mm_u_k (by decide)]; rfl
  have u3 : ∀ w w', (mm_u (mm_u (mm_u (mm_u K (28 + 3 * i) 0 0) 6 11 w) (28 + 3 * j) 2 w') (28 + 3 * j) 0 1) (28 + 3 * i) 1 = Int32.ofNat j := fun w w' => by rw [mm_u_a nij, mm_u_a nij]; exact u1 w
  have zj : ¬ (Int32.ofNat j = -1) := by
    intro h9
    have h8 := congrArg Int32.toInt h9
    rw [Int32.toInt_ofNat_of_lt (by omega), show (-1 : Int32).toInt = -1 from rfl] at h8
    omega
  refine pd_ev_of (Nat.le_of_ble_eq_true rfl) ?_; rw [show pd_mj 65 = pd_m65 from rfl, show mm_pad (mm_in [.ref (6 : Nat), .ref (28 + 3 * i)]) pd_m65.nL = [some (.ref (6 : Nat)), some (.ref (28 + 3 * i)), none] from rfl]
  simp only [p65_0, p65_1, p65_2, p65_5, p65_6, p65_7, p65_10, p65_11, p65_12, p65_15, p65_16, p65_19, p65_20, p65_23, p65_24, p65_25, p65_26, p65_29, p65_30, p65_33, p65_34, p65_35, p65_36, p65_37, p65_40, p65_41, p65_42, p65_45, p65_46, p65_49, p65_52, p65_53, p65_54, p65_55, p65_56, p65_59, p65_60, p65_63, gf3_10 sh6, gf3_11 sh6, gf6_1 hst, gf6_2 hst, mm_e0, pd_stI, pf3_11 sh6, pf6_0 hst, pf6_2 hst, so3_2r, mm_lA, mm_lI, mm_lD, mm_lJ, mm_ld0, mm_lds, pd_Kgo, pd_Kend, pd_Kno, pd_Kite, mm_i, mm_ii, mm_r, mm_1, mm_icmp, cond_true, cond_false, mm_o2, mm_c2, wt0, wt1, wt2, wt3, wt4, va_rfs, pd_bkv, pd_bkn, pd_bkif, pd_st1, Nat.reduceAdd, Nat.reduceLeDiff, Bool.or_false, Bool.or_self, u11, u1, if_neg zj, rf_6a, pd_sa hj, gf6_2 hst2, pf6_2 hst2, pf6_0 hst2, u2, mm_u_s, if_pos hg, u3]
end CL4
