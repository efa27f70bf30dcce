/-! THE REFERENCE: chosen and signal -/
def cntr (K : pd_I) : Nat → Nat → Nat
  | 0, _ => 0
  | f + 1, p => (if K 57 p = 1 then 1 else 0) + cntr K f (p + 1)
/-- the row without its first element, from k on -/
def shf : Nat → Nat → pd_I → pd_I
  | 0, _, K => K
  | f + 1, k, K => shf f (k + 1) (mm_u K 64 k (K 64 (k + 1)))
section VM2
variable {I K K' : pd_I} {D : pd_D} {A : pd_A} {J : pd_J} {n : Nat} {xs : Nat → Int32} {Ls d : Nat} {q : Nat → Nat}
theorem five {p : Nat} (h : p < 5) : ¬ ((5 : Int32) ≤ Int32.ofNat p) := by rw [show (5 : Int32) = Int32.ofNat 5 from rfl, pd_gtl (by omega) (by omega)]; omega
theorem lp117a {t : Int32} {o : mm_O} {a4 : Option Value} : ∀ (f p m : Nat), p + f = 5 → (pd_G xs Ls d pd_m117 (4, [some (.ref (43 : Nat)), some (.int t), some (.int (Int32.ofNat m)), some (.int (Int32.ofNat p)), a4], [], pd_st K D (pd_RF q) J n) o ↔ pd_G xs Ls d pd_m117 (28, [some (.ref (43 : Nat)), some (.int t), some (.int (Int32.ofNat (m + cntr K f p))), some (.int (Int32.ofNat 5)), a4], [], pd_st K D (pd_RF q) J n) o) := by
  intro f
  induction f with
  | zero =>
    intro p m hp
    have e : p = 5 := by omega
    subst e
    have z : ((5 : Int32) ≤ Int32.ofNat 5) := by decide
    rw [p117_4]
    simp only [p117_0, p117_1, p117_2, p117_3, p117_5, p117_6, p117_9, p117_10, p117_13, p117_14, p117_15, p117_16, p117_19, p117_22, p117_25, p117_29, p117_32, p117_33, p117_34, p117_35, p117_36, p117_37, p117_38, p117_39, p117_41, p117_42, p117_45, p117_47, p117_48, p117_49, p117_52, p117_53, p117_56, p117_57, p117_60, p117_62, p117_63, p117_64, p117_67, p117_70, p117_73, p117_76, p117_78, gf7_24 sh43, mm_e0, so5_2i, so5_3i, so5_4i, mm_lA, mm_lI, mm_lD, mm_lJ, mm_ld0, mm_lds, pd_Kgo, pd_Kend, pd_Kno, pd_Kite, mm_i, mm_ii, mm_r, mm_1, mm_icmp, cond_true, cond_false, mm_o2, mm_c2, wt0, wt1, wt2, wt3, wt4, va_rfs, pd_bkv, pd_bkn, pd_bkif, pd_st1, Nat.reduceAdd, Nat.reduceLeDiff, Bool.or_false, Bool.or_self, if_pos z]
    rfl
  | succ f ih =>
    intro p m hp
    have z := five (p := p) (by omega)
    unfold cntr
    rw [p117_4]
    by_cases h : K 57 p = 1
    · simp only [p117_0, p117_1, p117_2, p117_3, p117_5, p117_6, p117_9, p117_10, p117_13, p117_14, p117_15, p117_16, p117_19, p117_22, p117_25, p117_29, p117_32, p117_33, p117_34, p117_35, p117_36, p117_37, p117_38, p117_39, p117_41, p117_42, p117_45, p117_47, p117_48, p117_49, p117_52, p117_53, p117_56, p117_57, p117_60, p117_62, p117_63, p117_64, p117_67, p117_70, p117_73, p117_76, p117_78, gf7_24 sh43, mm_e0, so5_2i, so5_3i, so5_4i, mm_lA, mm_lI, mm_lD, mm_lJ, mm_ld0, mm_lds, pd_Kgo, pd_Kend, pd_Kno, pd_Kite, mm_i, mm_ii, mm_r, mm_1, mm_icmp, cond_true, cond_false, mm_o2, mm_c2, wt0, wt1, wt2, wt3, wt4, va_rfs, pd_bkv, pd_bkn, pd_bkif, pd_st1, Nat.reduceAdd, Nat.reduceLeDiff, Bool.or_false, Bool.or_self, if_neg z, rm_24, pd_il (a := 57) (t := 0) (mm := 5) rfl rfl (show p < 5 by omega) (by omega), if_pos h, pd_suc]
      rw [← Nat.add_assoc]
      exact ih (p + 1) (m + 1) (by omega)
    · simp only [p117_0, p117_1, p117_2, p117_3, p117_5, p117_6, p117_9, p117_10, p117_13, p117_14, p117_15, p117_16, p117_19, p117_22, p117_25, p117_29, p117_32, p117_33, p117_34, p117_35, p117_36, p117_37, p117_38, p117_39, p117_41, p117_42, p117_45, p117_47, p117_48, p117_49, p117_52, p117_53, p117_56, p117_57, p117_60, p117_62, p117_63, p117_64, p117_67, p117_70, p117_73, p117_76, p117_78, gf7_24 sh43, mm_e0, so5_2i, so5_3i, so5_4i, mm_lA, mm_lI, mm_lD, mm_lJ, mm_ld0, mm_lds, pd_Kgo, pd_Kend, pd_Kno, pd_Kite, mm_i, mm_ii, mm_r, mm_1, mm_icmp, cond_true, cond_false, mm_o2, mm_c2, wt0, wt1, wt2, wt3, wt4, va_rfs, pd_bkv, pd_bkn, pd_bkif, pd_st1, Nat.reduceAdd, Nat.reduceLeDiff, Bool.or_false, Bool.or_self, if_neg z, rm_24, pd_il (a := 57) (t := 0) (mm := 5) rfl rfl (show p < 5 by omega) (by omega), if_neg h, pd_suc]
      rw [Nat.zero_add]
      exact ih (p + 1) m (by omega)
theorem lp117b {t m : Int32} {r : Nat} (hr : r < 5) (hr1 : K 57 r = 1) : ∀ (f p k : Nat), p + f = r → k = cntr K f p → k ≤ 5 → pd_G xs Ls d pd_m117 (41, [some (.ref (43 : Nat)), some (.int t), some (.int m), some (.int (Int32.ofNat k)), some (.int (Int32.ofNat p))], [], pd_st K D (pd_RF q) J n) (.inl (some (.int (Int32.ofNat r))), pd_st K D (pd_RF q) J n) := by
  intro f
  induction f with
  | zero =>
    intro p k hp hk hk5
    have e : p = r := by omega
    subst e
    have e2 : k = 0 := hk
    subst e2
    have z : (Int32.ofNat 0 ≤ 0) := by decide
    rw [p117_41]
    simp only [p117_0, p117_1, p117_2, p117_3, p117_4, p117_5, p117_6, p117_9, p117_10, p117_13, p117_14, p117_15, p117_16, p117_19, p117_22, p117_25, p117_28, p117_29, p117_32, p117_33, p117_34, p117_35, p117_36, p117_37, p117_38, p117_39, p117_42, p117_45, p117_47, p117_48, p117_49, p117_52, p117_53, p117_56, p117_57, p117_60, p117_62, p117_63, p117_64, p117_67, p117_70, p117_73, p117_76, p117_78, gf7_24 sh43, mm_e0, so5_2i, so5_3i, so5_4i, mm_lA, mm_lI, mm_lD, mm_lJ, mm_ld0, mm_lds, pd_Kgo, pd_Kend, pd_Kno, pd_Kite, mm_i, mm_ii, mm_r, mm_1, mm_icmp, cond_true, cond_false, mm_o2, mm_c2, wt0, wt1, wt2, wt3, wt4, va_rfs, pd_bkv, pd_bkn, pd_bkif, pd_st1, Nat.reduceAdd, Nat.reduceLeDiff, Bool.or_false, Bool.or_self, rm_24, pd_il (a := 57) (t := 0) (mm := 5) rfl rfl hr (by omega), hr1, if_true, if_pos z]
  | succ f ih =>
    intro p k hp hk hk5
    have hk' : k = (if K 57 p = 1 then 1 else 0) + cntr K f (p + 1) := hk
    rw [p117_41]
    by_cases h : K 57 p = 1
    · rw [if_pos h] at hk'
      have z : ¬ (Int32.ofNat k ≤ 0) := by rw [show (0 : Int32) = Int32.ofNat 0 from rfl, pd_gtl (by omega) (by omega)]; omega
      have e9 : Int32.ofNat k + Int32.ofInt (-1) = Int32.ofNat (k - 1) := by
        have : Int32.ofNat k = Int32.ofNat (k - 1) + 1 := by rw [pd_suc]; congr 1; omega
        rw [this, Int32.add_assoc, show (1 : Int32) + Int32.ofInt (-1) = 0 from by decide, Int32.add_zero]
      simp only [p117_0, p117_1, p117_2, p117_3, p117_4, p117_5, p117_6, p117_9, p117_10, p117_13, p117_14, p117_15, p117_16, p117_19, p117_22, p117_25, p117_28, p117_29, p117_32, p117_33, p117_34, p117_35, p117_36, p117_37, p117_38, p117_39, p117_42, p117_45, p117_47, p117_48, p117_49, p117_52, p117_53, p117_56, p117_57, p117_60, p117_62, p117_63, p117_64, p117_67, p117_70, p117_73, p117_76, p117_78, gf7_24 sh43, mm_e0, so5_2i, so5_3i, so5_4i, mm_lA, mm_lI, mm_lD, mm_lJ, mm_ld0, mm_lds, pd_Kgo, pd_Kend, pd_Kno, pd_Kite, mm_i, mm_ii, mm_r, mm_1, mm_icmp, cond_true, cond_false, mm_o2, mm_c2, wt0, wt1, wt2, wt3, wt4, va_rfs, pd_bkv, pd_bkn, pd_bkif, pd_st1, Nat.reduceAdd, Nat.reduceLeDiff, Bool.or_false, Bool.or_self, rm_24, pd_il (a := 57) (t := 0) (mm := 5) rfl rfl (show p < 5 by omega) (by omega), h, if_true, if_neg z, e9, pd_suc]
      exact ih (p + 1) (k - 1) (by omega) (by omega) (by omega)
    · rw [if_neg h, Nat.zero_add] at hk'
      simp only [p117_0, p117_1, p117_2, p117_3, p117_4, p117_5, p117_6, p117_9, p117_10, p117_13, p117_14, p117_15, p117_16, p117_19, p117_22, p117_25, p117_28, p117_29, p117_32, p117_33, p117_34, p117_35, p117_36, p117_37, p117_38, p117_39, p117_42, p117_45, p117_47, p117_48, p117_49, p117_52, p117_53, p117_56, p117_57, p117_60, p117_62, p117_63, p117_64, p117_67, p117_70, p117_73, p117_76, p117_78, gf7_24 sh43, mm_e0, so5_2i, so5_3i, so5_4i, mm_lA, mm_lI, mm_lD, mm_lJ, mm_ld0, mm_lds, pd_Kgo, pd_Kend, pd_Kno, pd_Kite, mm_i, mm_ii, mm_r, mm_1, mm_icmp, cond_true, cond_false, mm_o2, mm_c2, wt0, wt1, wt2, wt3, wt4, va_rfs, pd_bkv, pd_bkn, pd_bkif, pd_st1, Nat.reduceAdd, Nat.reduceLeDiff, Bool.or_false, Bool.or_self, rm_24, pd_il (a := 57) (t := 0) (mm := 5) rfl rfl (show p < 5 by omega) (by omega), if_neg h, pd_suc]
      exact ih (p + 1) k (by omega) hk' hk5
theorem rem16 : ∀ t : Nat, t < 16 → ∀ m : Nat, m < 6 → 0 < m → Int32.ofNat t - Int32.ofNat t / Int32.ofNat m * Int32.ofNat m = Int32.ofNat (t % m) := by decide +kernel
theorem cntr_le : ∀ (f p : Nat), cntr K f p ≤ f := by
  intro f
  induction f with
  | zero => intro p; exact Nat.le_refl _
  | succ f ih => intro p; unfold cntr; have := ih (p + 1); split <;> omega
theorem ev117n {t : Int32} (hd : 1 ≤ d) (h0 : cntr K 5 0 = 0) : mm_ev xs Ls pd_ck pd_ak pd_mj d 117 [.ref (43 : Nat), .int t] (pd_st K D (pd_RF q) J n) = some (.inl (some (.int (-1))), pd_st K D (pd_RF q) J n) := by
  obtain ⟨d, rfl⟩ : ∃ e, d = e + 1 := ⟨d - 1, by omega⟩
  refine pd_ev_of (Nat.le_of_ble_eq_true rfl) ?_; rw [show pd_mj 117 = pd_m117 from rfl, show mm_pad (mm_in [.ref (43 : Nat), .int t]) pd_m117.nL = [some (.ref (43 : Nat)), some (.int t), none, none, none] from rfl]
  simp only [p117_0, p117_1, p117_2, p117_3, p117_5, p117_6, p117_9, p117_10, p117_13, p117_14, p117_15, p117_16, p117_19, p117_22, p117_25, p117_28, p117_29, p117_32, p117_33, p117_34, p117_35, p117_36, p117_37, p117_38, p117_39, p117_41, p117_42, p117_45, p117_47, p117_48, p117_49, p117_52, p117_53, p117_56, p117_57, p117_60, p117_62, p117_63, p117_64, p117_67, p117_70, p117_73, p117_76, p117_78, gf7_24 sh43, mm_e0, so5_2i, so5_3i, so5_4i, mm_lA, mm_lI, mm_lD, mm_lJ, mm_ld0, mm_lds, pd_Kgo, pd_Kend, pd_Kno, pd_Kite, mm_i, mm_ii, mm_r, mm_1, mm_icmp, cond_true, cond_false, mm_o2, mm_c2, wt0, wt1, wt2, wt3, wt4, va_rfs, pd_bkv, pd_bkn, pd_bkif, pd_st1, Nat.reduceAdd, Nat.reduceLeDiff, Bool.or_false, Bool.or_self]
  rw [show (0 : Int32) = Int32.ofNat 0 from rfl, lp117a 5 0 0 (by omega), h0]
  have z : Int32.ofNat (0 + 0) = 0 := rfl
  simp only [p117_0, p117_1, p117_2, p117_3, p117_5, p117_6, p117_9, p117_10, p117_13, p117_14, p117_15, p117_16, p117_19, p117_22, p117_25, p117_28, p117_29, p117_32, p117_33, p117_34, p117_35, p117_36, p117_37, p117_38, p117_39, p117_42, p117_45, p117_47, p117_48, p117_49, p117_52, p117_53, p117_56, p117_57, p117_60, p117_62, p117_63, p117_64, p117_67, p117_70, p117_73, p117_76, p117_78, gf7_24 sh43, mm_e0, so5_2i, so5_3i, so5_4i, mm_lA, mm_lI, mm_lD, mm_lJ, mm_ld0, mm_lds, pd_Kgo, pd_Kend, pd_Kno, pd_Kite, mm_i, mm_ii, mm_r, mm_1, mm_icmp, cond_true, cond_false, mm_o2, mm_c2, wt0, wt1, wt2, wt3, wt4, va_rfs, pd_bkv, pd_bkn, pd_bkif, pd_st1, Nat.reduceAdd, Nat.reduceLeDiff, Bool.or_false, Bool.or_self, z, if_true]
theorem ev117s {t r : Nat} (hd : 1 ≤ d) (ht : t < 16) (h0 : 0 < cntr K 5 0) (hr : r < 5) (hr1 : K 57 r = 1) (hk : t % cntr K 5 0 = cntr K r 0) : mm_ev xs Ls pd_ck pd_ak pd_mj d 117 [.ref (43 : Nat), .int (Int32.ofNat t)] (pd_st K D (pd_RF q) J n) = some (.inl (some (.int (Int32.ofNat r))), pd_st K D (pd_RF q) J n) := by
  obtain ⟨d, rfl⟩ : ∃ e, d = e + 1 := ⟨d - 1, by omega⟩
  refine pd_ev_of (Nat.le_of_ble_eq_true rfl) ?_; rw [show pd_mj 117 = pd_m117 from rfl, show mm_pad (mm_in [.ref (43 : Nat), .int (Int32.ofNat t)]) pd_m117.nL = [some (.ref (43 : Nat)), some (.int (Int32.ofNat t)), none, none, none] from rfl]
  simp only [p117_0, p117_1, p117_2, p117_3, p117_5, p117_6, p117_9, p117_10, p117_13, p117_14, p117_15, p117_16, p117_19, p117_22, p117_25, p117_28, p117_29, p117_32, p117_33, p117_34, p117_35, p117_36, p117_37, p117_38, p117_39, p117_41, p117_42, p117_45, p117_47, p117_48, p117_49, p117_52, p117_53, p117_56, p117_57, p117_60, p117_62, p117_63, p117_64, p117_67, p117_70, p117_73, p117_76, p117_78, gf7_24 sh43, mm_e0, so5_2i, so5_3i, so5_4i, mm_lA, mm_lI, mm_lD, mm_lJ, mm_ld0, mm_lds, pd_Kgo, pd_Kend, pd_Kno, pd_Kite, mm_i, mm_ii, mm_r, mm_1, mm_icmp, cond_true, cond_false, mm_o2, mm_c2, wt0, wt1, wt2, wt3, wt4, va_rfs, pd_bkv, pd_bkn, pd_bkif, pd_st1, Nat.reduceAdd, Nat.reduceLeDiff, Bool.or_false, Bool.or_self]
  have hl := cntr_le (K := K) 5 0
  have hl2 := cntr_le (K := K) r 0
  have hm : Int32.ofNat (0 + cntr K 5 0) = Int32.ofNat (cntr K 5 0) := by rw [Nat.zero_add]
  have z1 : ¬ (Int32.ofNat (cntr K 5 0) = 0) := by rw [pd_eq0 (by omega)]; omega
  have hR := rem16 t ht (cntr K 5 0) (by omega) h0
  have hB := lp117b (xs := xs) (Ls := Ls) (d := d) (D := D) (J := J) (n := n) (q := q) (t := Int32.ofNat t) (m := Int32.ofNat (cntr K 5 0)) hr hr1 r 0 (cntr K r 0) (by omega) rfl (by omega)
  rw [show (0 : Int32) = Int32.ofNat 0 from rfl, lp117a 5 0 0 (by omega), hm]
  simp only [p117_0, p117_1, p117_2, p117_3, p117_5, p117_6, p117_9, p117_10, p117_13, p117_14, p117_15, p117_16, p117_19, p117_22, p117_25, p117_28, p117_29, p117_32, p117_33, p117_34, p117_35, p117_36, p117_37, p117_38, p117_39, p117_42, p117_45, p117_47, p117_48, p117_49, p117_52, p117_53, p117_56, p117_57, p117_60, p117_62, p117_63, p117_64, p117_67, p117_70, p117_73, p117_76, p117_78, gf7_24 sh43, mm_e0, so5_2i, so5_3i, so5_4i, mm_lA, mm_lI, mm_lD, mm_lJ, mm_ld0, mm_lds, pd_Kgo, pd_Kend, pd_Kno, pd_Kite, mm_i, mm_ii, mm_r, mm_1, mm_icmp, cond_true, cond_false, mm_o2, mm_c2, wt0, wt1, wt2, wt3, wt4, va_rfs, pd_bkv, pd_bkn, pd_bkif, pd_st1, Nat.reduceAdd, Nat.reduceLeDiff, Bool.or_false, Bool.or_self, if_neg z1, hR, hk]
  exact hB
/-! signal -/
theorem lp122a {s : Nat} {rw' : Nat → Nat} {rs : Nat} {o : mm_O} {a3 a4 : Option Value} (h33 : K 43 33 = Int32.ofNat rs) (hrs : rs ≤ 5) (hr : ∀ j, j < rs → K 64 j = Int32.ofNat (rw' j) ∧ rw' j < 5) : ∀ (f k t : Nat), k + f = t → t ≤ rs → (∀ j, k ≤ j → j < t → K 65 (rw' j) ≠ Int32.ofNat s) → (t < rs → K 65 (rw' t) = Int32.ofNat s) → (pd_G xs Ls d pd_m122 (2, [some (.ref (43 : Nat)), some (.int (Int32.ofNat s)), some (.int (Int32.ofNat k)), a3, a4], [], pd_st K D (pd_RF q) J n) o ↔ pd_G xs Ls d pd_m122 (31, [some (.ref (43 : Nat)), some (.int (Int32.ofNat s)), some (.int (Int32.ofNat t)), a3, a4], [], pd_st K D (pd_RF q) J n) o) := by
  intro f
  induction f with
  | zero =>
    intro k t hk ht hj h1
    have e : k = t := by omega
    subst e
    rw [p122_2]
    by_cases h : rs ≤ k
    · simp only [p122_0, p122_1, p122_3, p122_4, p122_7, p122_10, p122_11, p122_14, p122_15, p122_18, p122_19, p122_20, p122_21, p122_22, p122_25, p122_28, p122_32, p122_33, p122_36, p122_39, p122_40, p122_43, p122_44, p122_45, p122_46, p122_47, p122_48, p122_49, p122_50, p122_51, p122_54, p122_55, p122_56, p122_57, p122_58, p122_59, p122_62, p122_63, p122_64, p122_67, p122_68, p122_72, p122_73, p122_76, p122_79, p122_80, p122_83, p122_85, p122_86, p122_89, p122_91, p122_92, p122_93, p122_94, p122_95, p122_98, p122_101, p122_102, p122_105, p122_106, p122_107, p122_108, p122_109, p122_110, p122_113, gf7_23 sh43, gf7_24 sh43, gf7_31 sh43, gf7_32 sh43, gf7_33 sh43, mm_2, mm_rV, pd_stI, pf7_33 sh43, qi1 sh43, so5_2i, so5_3i, so5_4i, mm_lA, mm_lI, mm_lD, mm_lJ, mm_ld0, mm_lds, pd_Kgo, pd_Kend, pd_Kno, pd_Kite, mm_i, mm_ii, mm_r, mm_1, mm_icmp, cond_true, cond_false, mm_o2, mm_c2, wt0, wt1, wt2, wt3, wt4, va_rfs, pd_bkv, pd_bkn, pd_bkif, pd_st1, Nat.reduceAdd, Nat.reduceLeDiff, Bool.or_false, Bool.or_self, h33, pd_gtl (x := rs) (y := k) (by omega) (by omega), if_pos h]
    · have h2 := h1 (by omega)
      obtain ⟨r1, r2⟩ := hr k (by omega)
      simp only [p122_0, p122_1, p122_3, p122_4, p122_7, p122_10, p122_11, p122_14, p122_15, p122_18, p122_19, p122_20, p122_21, p122_22, p122_25, p122_28, p122_32, p122_33, p122_36, p122_39, p122_40, p122_43, p122_44, p122_45, p122_46, p122_47, p122_48, p122_49, p122_50, p122_51, p122_54, p122_55, p122_56, p122_57, p122_58, p122_59, p122_62, p122_63, p122_64, p122_67, p122_68, p122_72, p122_73, p122_76, p122_79, p122_80, p122_83, p122_85, p122_86, p122_89, p122_91, p122_92, p122_93, p122_94, p122_95, p122_98, p122_101, p122_102, p122_105, p122_106, p122_107, p122_108, p122_109, p122_110, p122_113, gf7_23 sh43, gf7_24 sh43, gf7_31 sh43, gf7_32 sh43, gf7_33 sh43, mm_2, mm_rV, pd_stI, pf7_33 sh43, qi1 sh43, so5_2i, so5_3i, so5_4i, mm_lA, mm_lI, mm_lD, mm_lJ, mm_ld0, mm_lds, pd_Kgo, pd_Kend, pd_Kno, pd_Kite, mm_i, mm_ii, mm_r, mm_1, mm_icmp, cond_true, cond_false, mm_o2, mm_c2, wt0, wt1, wt2, wt3, wt4, va_rfs, pd_bkv, pd_bkn, pd_bkif, pd_st1, Nat.reduceAdd, Nat.reduceLeDiff, Bool.or_false, Bool.or_self, h33, pd_gtl (x := rs) (y := k) (by omega) (by omega), if_neg h, rm_31, rm_32, pd_il (a := 64) (t := 0) (mm := 5) rfl rfl (show k < 5 by omega) (by omega), r1, pd_il (a := 65) (t := 0) (mm := 5) rfl rfl r2 (by omega), h2, if_true]
  | succ f ih =>
    intro k t hk ht hj h1
    have h : ¬ (rs ≤ k) := by omega
    have h2 := hj k (Nat.le_refl _) (by omega)
    obtain ⟨r1, r2⟩ := hr k (by omega)
    rw [p122_2]
    simp only [p122_0, p122_1, p122_3, p122_4, p122_7, p122_10, p122_11, p122_14, p122_15, p122_18, p122_19, p122_20, p122_21, p122_22, p122_25, p122_28, p122_32, p122_33, p122_36, p122_39, p122_40, p122_43, p122_44, p122_45, p122_46, p122_47, p122_48, p122_49, p122_50, p122_51, p122_54, p122_55, p122_56, p122_57, p122_58, p122_59, p122_62, p122_63, p122_64, p122_67, p122_68, p122_72, p122_73, p122_76, p122_79, p122_80, p122_83, p122_85, p122_86, p122_89, p122_91, p122_92, p122_93, p122_94, p122_95, p122_98, p122_101, p122_102, p122_105, p122_106, p122_107, p122_108, p122_109, p122_110, p122_113, gf7_23 sh43, gf7_24 sh43, gf7_31 sh43, gf7_32 sh43, gf7_33 sh43, mm_2, mm_rV, pd_stI, pf7_33 sh43, qi1 sh43, so5_2i, so5_3i, so5_4i, mm_lA, mm_lI, mm_lD, mm_lJ, mm_ld0, mm_lds, pd_Kgo, pd_Kend, pd_Kno, pd_Kite, mm_i, mm_ii, mm_r, mm_1, mm_icmp, cond_true, cond_false, mm_o2, mm_c2, wt0, wt1, wt2, wt3, wt4, va_rfs, pd_bkv, pd_bkn, pd_bkif, pd_st1, Nat.reduceAdd, Nat.reduceLeDiff, Bool.or_false, Bool.or_self, h33, pd_gtl (x := rs) (y := k) (by omega) (by omega), if_neg h, rm_31, rm_32, pd_il (a := 64) (t := 0) (mm := 5) rfl rfl (show k < 5 by omega) (by omega), r1, pd_il (a := 65) (t := 0) (mm := 5) rfl rfl r2 (by omega), if_neg h2, pd_suc]
    exact ih (k + 1) t (by omega) ht (fun j j1 j2 => hj j (by omega) j2) h1
theorem shf_43 : ∀ (f k : Nat) (K : pd_I) (j : Nat), shf f k K 43 j = K 43 j := by
  intro f
  induction f with
  | zero => intro k K j; rfl
  | succ f ih => intro k K j; unfold shf; rw [ih, mm_u_a (by decide)]
theorem lp122b {s k0 p3 : Int32} {rs : Nat} {o : mm_O} (hrs : rs ≤ 5) : ∀ (f k : Nat) (K : pd_I), K 43 33 = Int32.ofNat rs → k + f = rs → k + f + 1 ≤ 5 → (pd_G xs Ls d pd_m122 (70, [some (.ref (43 : Nat)), some (.int s), some (.int k0), some (.int p3), some (.int (Int32.ofNat k))], [], pd_st K D (pd_RF q) J n) o ↔ pd_G xs Ls d pd_m122 (101, [some (.ref (43 : Nat)), some (.int s), some (.int k0), some (.int p3), some (.int (Int32.ofNat rs))], [], pd_st (shf f k K) D (pd_RF q) J n) o) := by
  intro f
  induction f with
  | zero =>
    intro k K h33 hk _
    have e : k = rs := by omega
    subst e
    have h : k ≤ k := Nat.le_refl _
    rw [p122_70]
    simp only [p122_0, p122_1, p122_2, p122_3, p122_4, p122_7, p122_10, p122_11, p122_14, p122_15, p122_18, p122_19, p122_20, p122_21, p122_22, p122_25, p122_28, p122_31, p122_32, p122_33, p122_36, p122_39, p122_40, p122_43, p122_44, p122_45, p122_46, p122_47, p122_48, p122_49, p122_50, p122_51, p122_54, p122_55, p122_56, p122_57, p122_58, p122_59, p122_62, p122_63, p122_64, p122_67, p122_68, p122_72, p122_73, p122_76, p122_79, p122_80, p122_83, p122_85, p122_86, p122_89, p122_91, p122_92, p122_93, p122_94, p122_95, p122_98, p122_102, p122_105, p122_106, p122_107, p122_108, p122_109, p122_110, p122_113, gf7_23 sh43, gf7_24 sh43, gf7_31 sh43, gf7_32 sh43, gf7_33 sh43, mm_2, mm_rV, pd_stI, pf7_33 sh43, qi1 sh43, so5_2i, so5_3i, so5_4i, mm_lA, mm_lI, mm_lD, mm_lJ, mm_ld0, mm_lds, pd_Kgo, pd_Kend, pd_Kno, pd_Kite, mm_i, mm_ii, mm_r, mm_1, mm_icmp, cond_true, cond_false, mm_o2, mm_c2, wt0, wt1, wt2, wt3, wt4, va_rfs, pd_bkv, pd_bkn, pd_bkif, pd_st1, Nat.reduceAdd, Nat.reduceLeDiff, Bool.or_false, Bool.or_self, h33, pd_gtl (x := k) (y := k) (by omega) (by omega), if_pos h]
    rfl
  | succ f ih =>
    intro k K h33 hk h5
    have h : ¬ (rs ≤ k) := by omega
    rw [p122_70]
    simp only [p122_0, p122_1, p122_2, p122_3, p122_4, p122_7, p122_10, p122_11, p122_14, p122_15, p122_18, p122_19, p122_20, p122_21, p122_22, p122_25, p122_28, p122_31, p122_32, p122_33, p122_36, p122_39, p122_40, p122_43, p122_44, p122_45, p122_46, p122_47, p122_48, p122_49, p122_50, p122_51, p122_54, p122_55, p122_56, p122_57, p122_58, p122_59, p122_62, p122_63, p122_64, p122_67, p122_68, p122_72, p122_73, p122_76, p122_79, p122_80, p122_83, p122_85, p122_86, p122_89, p122_91, p122_92, p122_93, p122_94, p122_95, p122_98, p122_102, p122_105, p122_106, p122_107, p122_108, p122_109, p122_110, p122_113, gf7_23 sh43, gf7_24 sh43, gf7_31 sh43, gf7_32 sh43, gf7_33 sh43, mm_2, mm_rV, pd_stI, pf7_33 sh43, qi1 sh43, so5_2i, so5_3i, so5_4i, mm_lA, mm_lI, mm_lD, mm_lJ, mm_ld0, mm_lds, pd_Kgo, pd_Kend, pd_Kno, pd_Kite, mm_i, mm_ii, mm_r, mm_1, mm_icmp, cond_true, cond_false, mm_o2, mm_c2, wt0, wt1, wt2, wt3, wt4, va_rfs, pd_bkv, pd_bkn, pd_bkif, pd_st1, Nat.reduceAdd, Nat.reduceLeDiff, Bool.or_false, Bool.or_self, h33, pd_gtl (x := rs) (y := k) (by omega) (by omega), if_neg h, rm_31, pd_suc, pd_il (a := 64) (t := 0) (mm := 5) rfl rfl (show k + 1 < 5 by omega) (by omega), pd_ic (a := 64) (mm := 5) rfl (show k < 5 by omega) (by omega)]
    exact ih (k + 1) (mm_u K 64 k (K 64 (k + 1))) h33 (by omega) (by omega)
theorem ev122n {s rs : Nat} {rw' : Nat → Nat} (hd : 2 ≤ d) (hs : s < 2) (h33 : K 43 33 = Int32.ofNat rs) (hrs : rs ≤ 5) (hr : ∀ j, j < rs → K 64 j = Int32.ofNat (rw' j) ∧ rw' j < 5) (hj : ∀ j, j < rs → K 65 (rw' j) ≠ Int32.ofNat s) : mm_ev xs Ls pd_ck pd_ak pd_mj d 122 [.ref (43 : Nat), .int (Int32.ofNat s)] (pd_st K D (pd_RF q) J n) = some (.inl none, pd_st (mm_u K 56 s (K 56 s + 1)) D (pd_RF q) J n) := by
  obtain ⟨d, rfl⟩ : ∃ e, d = e + 1 := ⟨d - 1, by omega⟩
  refine pd_ev_of (Nat.le_of_ble_eq_true rfl) ?_; rw [show pd_mj 122 = pd_m122 from rfl, show mm_pad (mm_in [.ref (43 : Nat), .int (Int32.ofNat s)]) pd_m122.nL = [some (.ref (43 : Nat)), some (.int (Int32.ofNat s)), none, none, none] from rfl]
  simp only [p122_0, p122_1, p122_3, p122_4, p122_7, p122_10, p122_11, p122_14, p122_15, p122_18, p122_19, p122_20, p122_21, p122_22, p122_25, p122_28, p122_31, p122_32, p122_33, p122_36, p122_39, p122_40, p122_43, p122_44, p122_45, p122_46, p122_47, p122_48, p122_49, p122_50, p122_51, p122_54, p122_55, p122_56, p122_57, p122_58, p122_59, p122_62, p122_63, p122_64, p122_67, p122_68, p122_70, p122_72, p122_73, p122_76, p122_79, p122_80, p122_83, p122_85, p122_86, p122_89, p122_91, p122_92, p122_93, p122_94, p122_95, p122_98, p122_101, p122_102, p122_105, p122_106, p122_107, p122_108, p122_109, p122_110, p122_113, gf7_23 sh43, gf7_24 sh43, gf7_31 sh43, gf7_32 sh43, gf7_33 sh43, mm_2, mm_rV, pd_stI, pf7_33 sh43, qi1 sh43, so5_2i, so5_3i, so5_4i, mm_lA, mm_lI, mm_lD, mm_lJ, mm_ld0, mm_lds, pd_Kgo, pd_Kend, pd_Kno, pd_Kite, mm_i, mm_ii, mm_r, mm_1, mm_icmp, cond_true, cond_false, mm_o2, mm_c2, wt0, wt1, wt2, wt3, wt4, va_rfs, pd_bkv, pd_bkn, pd_bkif, pd_st1, Nat.reduceAdd, Nat.reduceLeDiff, Bool.or_false, Bool.or_self]
  rw [show (0 : Int32) = Int32.ofNat 0 from rfl, lp122a h33 hrs hr rs 0 rs (by omega) (Nat.le_refl _) (fun j _ h => hj j h) (fun h => absurd h (Nat.lt_irrefl _))]
  simp only [p122_0, p122_1, p122_3, p122_4, p122_7, p122_10, p122_11, p122_14, p122_15, p122_18, p122_19, p122_20, p122_21, p122_22, p122_25, p122_28, p122_31, p122_32, p122_33, p122_36, p122_39, p122_40, p122_43, p122_44, p122_45, p122_46, p122_47, p122_48, p122_49, p122_50, p122_51, p122_54, p122_55, p122_56, p122_57, p122_58, p122_59, p122_62, p122_63, p122_64, p122_67, p122_68, p122_72, p122_73, p122_76, p122_79, p122_80, p122_83, p122_85, p122_86, p122_89, p122_91, p122_92, p122_93, p122_94, p122_95, p122_98, p122_101, p122_102, p122_105, p122_106, p122_107, p122_108, p122_109, p122_110, p122_113, gf7_23 sh43, gf7_24 sh43, gf7_31 sh43, gf7_32 sh43, gf7_33 sh43, mm_2, mm_rV, pd_stI, pf7_33 sh43, qi1 sh43, so5_2i, so5_3i, so5_4i, mm_lA, mm_lI, mm_lD, mm_lJ, mm_ld0, mm_lds, pd_Kgo, pd_Kend, pd_Kno, pd_Kite, mm_i, mm_ii, mm_r, mm_1, mm_icmp, cond_true, cond_false, mm_o2, mm_c2, wt0, wt1, wt2, wt3, wt4, va_rfs, pd_bkv, pd_bkn, pd_bkif, pd_st1, Nat.reduceAdd, Nat.reduceLeDiff, Bool.or_false, Bool.or_self, h33, if_true, rm_23, mm_2, pd_il (a := 56) (t := 0) (mm := 2) rfl rfl hs (by omega), pd_ic (a := 56) (mm := 2) rfl hs (by omega)]
theorem ev122s {s rs t : Nat} {rw' : Nat → Nat} (hd : 2 ≤ d) (hs : s < 2) (h33 : K 43 33 = Int32.ofNat rs) (hrs : rs ≤ 5) (hr : ∀ j, j < rs → K 64 j = Int32.ofNat (rw' j) ∧ rw' j < 5) (ht : t < rs) (hj : ∀ j, j < t → K 65 (rw' j) ≠ Int32.ofNat s) (h1 : K 65 (rw' t) = Int32.ofNat s) (hS : Stl (Int32.ofNat (rw' t)) (mm_u (shf (rs - 1 - t) t (mm_u K 43 33 (Int32.ofNat (rs - 1)))) 57 (rw' t) 1) K') : mm_ev xs Ls pd_ck pd_ak pd_mj d 122 [.ref (43 : Nat), .int (Int32.ofNat s)] (pd_st K D (pd_RF q) J n) = some (.inl none, pd_st K' D (pd_RF q) J n) := by
  obtain ⟨d, rfl⟩ : ∃ e, d = e + 1 := ⟨d - 1, by omega⟩
  refine pd_ev_of (Nat.le_of_ble_eq_true rfl) ?_; rw [show pd_mj 122 = pd_m122 from rfl, show mm_pad (mm_in [.ref (43 : Nat), .int (Int32.ofNat s)]) pd_m122.nL = [some (.ref (43 : Nat)), some (.int (Int32.ofNat s)), none, none, none] from rfl]
  simp only [p122_0, p122_1, p122_3, p122_4, p122_7, p122_10, p122_11, p122_14, p122_15, p122_18, p122_19, p122_20, p122_21, p122_22, p122_25, p122_28, p122_31, p122_32, p122_33, p122_36, p122_39, p122_40, p122_43, p122_44, p122_45, p122_46, p122_47, p122_48, p122_49, p122_50, p122_51, p122_54, p122_55, p122_56, p122_57, p122_58, p122_59, p122_62, p122_63, p122_64, p122_67, p122_68, p122_70, p122_72, p122_73, p122_76, p122_79, p122_80, p122_83, p122_85, p122_86, p122_89, p122_91, p122_92, p122_93, p122_94, p122_95, p122_98, p122_101, p122_102, p122_105, p122_106, p122_107, p122_108, p122_109, p122_110, p122_113, gf7_23 sh43, gf7_24 sh43, gf7_31 sh43, gf7_32 sh43, gf7_33 sh43, mm_2, mm_rV, pd_stI, pf7_33 sh43, qi1 sh43, so5_2i, so5_3i, so5_4i, mm_lA, mm_lI, mm_lD, mm_lJ, mm_ld0, mm_lds, pd_Kgo, pd_Kend, pd_Kno, pd_Kite, mm_i, mm_ii, mm_r, mm_1, mm_icmp, cond_true, cond_false, mm_o2, mm_c2, wt0, wt1, wt2, wt3, wt4, va_rfs, pd_bkv, pd_bkn, pd_bkif, pd_st1, Nat.reduceAdd, Nat.reduceLeDiff, Bool.or_false, Bool.or_self]
  obtain ⟨r1, r2⟩ := hr t ht
  rw [show (0 : Int32) = Int32.ofNat 0 from rfl, lp122a h33 hrs hr t 0 t (by omega) (by omega) (fun j _ h => hj j h) (fun _ => h1)]
  have z : ¬ (Int32.ofNat t = Int32.ofNat rs) := by
    intro h9
    have h8 := congrArg Int32.toInt h9
    rw [Int32.toInt_ofNat_of_lt (by omega), Int32.toInt_ofNat_of_lt (by omega)] at h8
    omega
  have hE := ev123 (xs := xs) (Ls := Ls) (D := D) (J := J) (n := n) (q := q) (d := d) hS (by omega)
  have hB := fun o => lp122b (xs := xs) (Ls := Ls) (D := D) (J := J) (n := n) (q := q) (d := d) (s := Int32.ofNat s) (k0 := Int32.ofNat t) (p3 := Int32.ofNat (rw' t)) (o := o) (rs := rs - 1) (by omega) (rs - 1 - t) t (mm_u K 43 33 (Int32.ofNat (rs - 1))) rfl (by omega) (by omega)
  simp only [p122_0, p122_1, p122_3, p122_4, p122_7, p122_10, p122_11, p122_14, p122_15, p122_18, p122_19, p122_20, p122_21, p122_22, p122_25, p122_28, p122_31, p122_32, p122_33, p122_36, p122_39, p122_40, p122_43, p122_44, p122_45, p122_46, p122_47, p122_48, p122_49, p122_50, p122_51, p122_54, p122_55, p122_56, p122_57, p122_58, p122_59, p122_62, p122_63, p122_64, p122_67, p122_68, p122_72, p122_73, p122_76, p122_79, p122_80, p122_83, p122_85, p122_86, p122_89, p122_91, p122_92, p122_93, p122_94, p122_95, p122_98, p122_101, p122_102, p122_105, p122_106, p122_107, p122_108, p122_109, p122_110, p122_113, gf7_23 sh43, gf7_24 sh43, gf7_31 sh43, gf7_32 sh43, gf7_33 sh43, mm_2, mm_rV, pd_stI, pf7_33 sh43, qi1 sh43, so5_2i, so5_3i, so5_4i, mm_lA, mm_lI, mm_lD, mm_lJ, mm_ld0, mm_lds, pd_Kgo, pd_Kend, pd_Kno, pd_Kite, mm_i, mm_ii, mm_r, mm_1, mm_icmp, cond_true, cond_false, mm_o2, mm_c2, wt0, wt1, wt2, wt3, wt4, va_rfs, pd_bkv, pd_bkn, pd_bkif, pd_st1, Nat.reduceAdd, Nat.reduceLeDiff, Bool.or_false, Bool.or_self, h33, if_neg z, rm_31, pd_il (a := 64) (t := 0) (mm := 5) rfl rfl (show t < 5 by omega) (by omega), r1, pd_sub1 (x := rs) (by omega)]
  rw [hB]
  generalize shf (rs - 1 - t) t (mm_u K 43 33 (Int32.ofNat (rs - 1))) = K5 at *
  simp only [p122_0, p122_1, p122_3, p122_4, p122_7, p122_10, p122_11, p122_14, p122_15, p122_18, p122_19, p122_20, p122_21, p122_22, p122_25, p122_28, p122_31, p122_32, p122_33, p122_36, p122_39, p122_40, p122_43, p122_44, p122_45, p122_46, p122_47, p122_48, p122_49, p122_50, p122_51, p122_54, p122_55, p122_56, p122_57, p122_58, p122_59, p122_62, p122_63, p122_64, p122_67, p122_68, p122_72, p122_73, p122_76, p122_79, p122_80, p122_83, p122_85, p122_86, p122_89, p122_91, p122_92, p122_93, p122_94, p122_95, p122_98, p122_101, p122_102, p122_105, p122_106, p122_107, p122_108, p122_109, p122_110, p122_113, gf7_23 sh43, gf7_24 sh43, gf7_31 sh43, gf7_32 sh43, gf7_33 sh43, mm_2, mm_rV, pd_stI, pf7_33 sh43, qi1 sh43, so5_2i, so5_3i, so5_4i, mm_lA, mm_lI, mm_lD, mm_lJ, mm_ld0, mm_lds, pd_Kgo, pd_Kend, pd_Kno, pd_Kite, mm_i, mm_ii, mm_r, mm_1, mm_icmp, cond_true, cond_false, mm_o2, mm_c2, wt0, wt1, wt2, wt3, wt4, va_rfs, pd_bkv, pd_bkn, pd_bkif, pd_st1, Nat.reduceAdd, Nat.reduceLeDiff, Bool.or_false, Bool.or_self, rm_24, pd_ic (a := 57) (mm := 5) rfl r2 (by omega), hE]
end VM2
