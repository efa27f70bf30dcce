/-! THE CLASS: whose turn, who waits, parting, prepare -/
/-- the first that waits for s: the one with the least ticket -/
abbrev wts (K : pd_I) (s i : Nat) : Prop := Sd K i 0 = 3 ∧ Sd K i 5 = Int32.ofNat s
/-- firstWaiting's loop: what it holds, from p on -/
def fwL (K : pd_I) (s : Nat) : Nat → Nat → Option Nat → Option Nat
  | 0, _, b => b
  | f + 1, p, b => fwL K s f (p + 1) (if wts K s p then (match b with | none => some p | some g => if Sd K p 6 < Sd K g 6 then some p else some g) else b)
def oI : Option Nat → Int32
  | none => -1
  | some g => Int32.ofNat g
section CL5
variable {K : pd_I} {D : pd_D} {J : pd_J} {n : Nat} {xs : Nat → Int32} {Ls d : Nat} {q : Nat → Nat} {c h i : Nat} {v x y : UInt64}
theorem neg1 {j : Nat} (h : j ≤ 1000) : ¬ (Int32.ofNat j = -1) := by
  intro h9
  have h8 := congrArg Int32.toInt h9
  rw [Int32.toInt_ofNat_of_lt (by omega), show (-1 : Int32).toInt = -1 from rfl] at h8
  omega
theorem lp58 {s : Nat} {a4 a5 : Option Value} : ∀ (f p : Nat) (b : Option Nat) (a4 a5 : Option Value), p + f = 5 → (∀ g, b = some g → g < 5) → pd_G xs Ls d pd_m58 (4, [some (.ref (6 : Nat)), some (.int (Int32.ofNat s)), some (.int (oI b)), some (.int (Int32.ofNat p)), a4, a5], [], pd_st K D (pd_RF q) J n) (.inl (some (.int (oI (fwL K s f p b)))), pd_st K D (pd_RF q) J n) := by
  intro f
  induction f with
  | zero =>
    intro p b a4 a5 hp _
    have e : p = 5 := by omega
    subst e
    have z : ((5 : Int32) ≤ Int32.ofNat 5) := by decide
    have hst : pd_SH[28]? = some (.inl 6) := rfl
    rw [p58_4]
    simp only [p58_0, p58_1, p58_2, p58_3, p58_5, p58_6, p58_9, p58_10, p58_13, p58_14, p58_15, p58_17, p58_19, p58_22, p58_23, p58_26, p58_28, p58_31, p58_32, p58_35, p58_36, p58_39, p58_40, p58_42, p58_44, p58_47, p58_48, p58_49, p58_52, p58_54, p58_57, p58_58, p58_61, p58_62, p58_63, p58_66, p58_69, p58_70, p58_71, p58_74, p58_77, p58_78, gf3_10 sh6, gf6_0 hst, gf6_5 hst, gf6_6 hst, mm_e0, pd_stI, so6_2i, so6_3i, so6_4r, so6_5i, mm_lA, mm_lI, mm_lD, mm_lJ, mm_ld0, mm_lds, pd_Kgo, pd_Kend, pd_Kno, pd_Kite, mm_i, mm_ii, mm_r, mm_1, mm_icmp, cond_true, cond_false, mm_o2, mm_c2, wt0, wt1, wt2, wt3, wt4, va_rfs, pd_bkv, pd_bkn, pd_bkif, pd_st1, Nat.reduceAdd, Nat.reduceLeDiff, Bool.or_false, Bool.or_self, if_pos z]
    rfl
  | succ f ih =>
    intro p b a4 a5 hp hb
    have z := five (p := p) (by omega)
    have hst := st_sh (i := p) (by omega)
    unfold fwL
    rw [p58_4]
    by_cases w1 : K (28 + 3 * p) 0 = 3
    · by_cases w2 : K (28 + 3 * p) 5 = Int32.ofNat s
      · rw [if_pos (show wts K s p from ⟨w1, w2⟩)]
        match b, hb with
        | none, hb =>
          have hI := ih (p + 1) (some p) (some (.ref (28 + 3 * p))) (some (.int 1)) (by omega) (fun g hg => by cases hg; omega)
          have e1 : oI none = -1 := rfl
          simp only [p58_0, p58_1, p58_2, p58_3, p58_5, p58_6, p58_9, p58_10, p58_13, p58_14, p58_15, p58_17, p58_19, p58_22, p58_23, p58_26, p58_28, p58_31, p58_32, p58_35, p58_36, p58_39, p58_40, p58_42, p58_44, p58_47, p58_48, p58_49, p58_52, p58_54, p58_57, p58_58, p58_61, p58_62, p58_63, p58_66, p58_69, p58_70, p58_71, p58_74, p58_77, p58_78, gf3_10 sh6, gf6_0 hst, gf6_5 hst, gf6_6 hst, mm_e0, pd_stI, so6_2i, so6_3i, so6_4r, so6_5i, mm_lA, mm_lI, mm_lD, mm_lJ, mm_ld0, mm_lds, pd_Kgo, pd_Kend, pd_Kno, pd_Kite, mm_i, mm_ii, mm_r, mm_1, mm_icmp, cond_true, cond_false, mm_o2, mm_c2, wt0, wt1, wt2, wt3, wt4, va_rfs, pd_bkv, pd_bkn, pd_bkif, pd_st1, Nat.reduceAdd, Nat.reduceLeDiff, Bool.or_false, Bool.or_self, if_neg z, rf_6a, pd_sa (i := p) (by omega), if_pos w1, if_pos w2, i10, if_false, e1, if_true, pd_suc]
          exact hI
        | some g, hb =>
          have hg5 := hb g rfl
          have hst2 := st_sh hg5
          have e1 : oI (some g) = Int32.ofNat g := rfl
          have zg := neg1 (j := g) (by omega)
          by_cases w3 : K (28 + 3 * p) 6 < K (28 + 3 * g) 6
          · have hI := ih (p + 1) (some p) (some (.ref (28 + 3 * p))) (some (.int 1)) (by omega) (fun g hg => by cases hg; omega)
            have w3' : ¬ (K (28 + 3 * g) 6 ≤ K (28 + 3 * p) 6) := Int32.not_le.mpr w3
            show pd_G xs Ls d pd_m58 _ (.inl (some (.int (oI (fwL K s f (p + 1) (if Sd K p 6 < Sd K g 6 then some p else some g))))), _)
            rw [if_pos (show Sd K p 6 < Sd K g 6 from w3)]
            simp only [p58_0, p58_1, p58_2, p58_3, p58_5, p58_6, p58_9, p58_10, p58_13, p58_14, p58_15, p58_17, p58_19, p58_22, p58_23, p58_26, p58_28, p58_31, p58_32, p58_35, p58_36, p58_39, p58_40, p58_42, p58_44, p58_47, p58_48, p58_49, p58_52, p58_54, p58_57, p58_58, p58_61, p58_62, p58_63, p58_66, p58_69, p58_70, p58_71, p58_74, p58_77, p58_78, gf3_10 sh6, gf6_0 hst, gf6_5 hst, gf6_6 hst, mm_e0, pd_stI, so6_2i, so6_3i, so6_4r, so6_5i, mm_lA, mm_lI, mm_lD, mm_lJ, mm_ld0, mm_lds, pd_Kgo, pd_Kend, pd_Kno, pd_Kite, mm_i, mm_ii, mm_r, mm_1, mm_icmp, cond_true, cond_false, mm_o2, mm_c2, wt0, wt1, wt2, wt3, wt4, va_rfs, pd_bkv, pd_bkn, pd_bkif, pd_st1, Nat.reduceAdd, Nat.reduceLeDiff, Bool.or_false, Bool.or_self, if_neg z, rf_6a, pd_sa (i := p) (by omega), pd_sa hg5, gf6_6 hst2, if_pos w1, if_pos w2, i10, if_false, e1, if_neg zg, if_neg w3', pd_suc]
            exact hI
          · have hI := ih (p + 1) (some g) (some (.ref (28 + 3 * p))) (some (.int 1)) (by omega) (fun g' hg => by cases hg; exact hg5)
            have w3' : K (28 + 3 * g) 6 ≤ K (28 + 3 * p) 6 := Int32.not_lt.mp w3
            show pd_G xs Ls d pd_m58 _ (.inl (some (.int (oI (fwL K s f (p + 1) (if Sd K p 6 < Sd K g 6 then some p else some g))))), _)
            rw [if_neg (show ¬ (Sd K p 6 < Sd K g 6) from w3)]
            simp only [p58_0, p58_1, p58_2, p58_3, p58_5, p58_6, p58_9, p58_10, p58_13, p58_14, p58_15, p58_17, p58_19, p58_22, p58_23, p58_26, p58_28, p58_31, p58_32, p58_35, p58_36, p58_39, p58_40, p58_42, p58_44, p58_47, p58_48, p58_49, p58_52, p58_54, p58_57, p58_58, p58_61, p58_62, p58_63, p58_66, p58_69, p58_70, p58_71, p58_74, p58_77, p58_78, gf3_10 sh6, gf6_0 hst, gf6_5 hst, gf6_6 hst, mm_e0, pd_stI, so6_2i, so6_3i, so6_4r, so6_5i, mm_lA, mm_lI, mm_lD, mm_lJ, mm_ld0, mm_lds, pd_Kgo, pd_Kend, pd_Kno, pd_Kite, mm_i, mm_ii, mm_r, mm_1, mm_icmp, cond_true, cond_false, mm_o2, mm_c2, wt0, wt1, wt2, wt3, wt4, va_rfs, pd_bkv, pd_bkn, pd_bkif, pd_st1, Nat.reduceAdd, Nat.reduceLeDiff, Bool.or_false, Bool.or_self, if_neg z, rf_6a, pd_sa (i := p) (by omega), pd_sa hg5, gf6_6 hst2, if_pos w1, if_pos w2, i10, if_false, e1, if_neg zg, if_pos w3', pd_suc]
            exact hI
      · rw [if_neg (fun h => w2 h.2)]
        have hI := ih (p + 1) b (some (.ref (28 + 3 * p))) (some (.int 0)) (by omega) hb
        simp only [p58_0, p58_1, p58_2, p58_3, p58_5, p58_6, p58_9, p58_10, p58_13, p58_14, p58_15, p58_17, p58_19, p58_22, p58_23, p58_26, p58_28, p58_31, p58_32, p58_35, p58_36, p58_39, p58_40, p58_42, p58_44, p58_47, p58_48, p58_49, p58_52, p58_54, p58_57, p58_58, p58_61, p58_62, p58_63, p58_66, p58_69, p58_70, p58_71, p58_74, p58_77, p58_78, gf3_10 sh6, gf6_0 hst, gf6_5 hst, gf6_6 hst, mm_e0, pd_stI, so6_2i, so6_3i, so6_4r, so6_5i, mm_lA, mm_lI, mm_lD, mm_lJ, mm_ld0, mm_lds, pd_Kgo, pd_Kend, pd_Kno, pd_Kite, mm_i, mm_ii, mm_r, mm_1, mm_icmp, cond_true, cond_false, mm_o2, mm_c2, wt0, wt1, wt2, wt3, wt4, va_rfs, pd_bkv, pd_bkn, pd_bkif, pd_st1, Nat.reduceAdd, Nat.reduceLeDiff, Bool.or_false, Bool.or_self, if_neg z, rf_6a, pd_sa (i := p) (by omega), if_pos w1, if_neg w2, if_true, pd_suc]
        exact hI
    · rw [if_neg (fun h => w1 h.1)]
      have hI := ih (p + 1) b (some (.ref (28 + 3 * p))) (some (.int 0)) (by omega) hb
      simp only [p58_0, p58_1, p58_2, p58_3, p58_5, p58_6, p58_9, p58_10, p58_13, p58_14, p58_15, p58_17, p58_19, p58_22, p58_23, p58_26, p58_28, p58_31, p58_32, p58_35, p58_36, p58_39, p58_40, p58_42, p58_44, p58_47, p58_48, p58_49, p58_52, p58_54, p58_57, p58_58, p58_61, p58_62, p58_63, p58_66, p58_69, p58_70, p58_71, p58_74, p58_77, p58_78, gf3_10 sh6, gf6_0 hst, gf6_5 hst, gf6_6 hst, mm_e0, pd_stI, so6_2i, so6_3i, so6_4r, so6_5i, mm_lA, mm_lI, mm_lD, mm_lJ, mm_ld0, mm_lds, pd_Kgo, pd_Kend, pd_Kno, pd_Kite, mm_i, mm_ii, mm_r, mm_1, mm_icmp, cond_true, cond_false, mm_o2, mm_c2, wt0, wt1, wt2, wt3, wt4, va_rfs, pd_bkv, pd_bkn, pd_bkif, pd_st1, Nat.reduceAdd, Nat.reduceLeDiff, Bool.or_false, Bool.or_self, if_neg z, rf_6a, pd_sa (i := p) (by omega), if_neg w1, if_true, pd_suc]
      exact hI
theorem ev58 {s : Nat} (hd : 1 ≤ d) : mm_ev xs Ls pd_ck pd_ak pd_mj d 58 [.ref (6 : Nat), .int (Int32.ofNat s)] (pd_st K D (pd_RF q) J n) = some (.inl (some (.int (oI (fwL K s 5 0 none)))), pd_st K D (pd_RF q) J n) := by
  obtain ⟨d, rfl⟩ : ∃ e, d = e + 1 := ⟨d - 1, by omega⟩
  refine pd_ev_of (Nat.le_of_ble_eq_true rfl) ?_; rw [show pd_mj 58 = pd_m58 from rfl, show mm_pad (mm_in [.ref (6 : Nat), .int (Int32.ofNat s)]) pd_m58.nL = [some (.ref (6 : Nat)), some (.int (Int32.ofNat s)), none, none, none, none] from rfl]
  have hst : pd_SH[28]? = some (.inl 6) := rfl
  have h5 := lp58 (xs := xs) (Ls := Ls) (D := D) (J := J) (n := n) (q := q) (d := d) (K := K) (s := s) (a4 := none) (a5 := none) 5 0 none none none (by omega) (fun g h => by cases h)
  simp only [p58_0, p58_1, p58_2, p58_3, p58_5, p58_6, p58_9, p58_10, p58_13, p58_14, p58_15, p58_17, p58_19, p58_22, p58_23, p58_26, p58_28, p58_31, p58_32, p58_35, p58_36, p58_39, p58_40, p58_42, p58_44, p58_47, p58_48, p58_49, p58_52, p58_54, p58_57, p58_58, p58_61, p58_62, p58_63, p58_66, p58_69, p58_70, p58_71, p58_74, p58_77, p58_78, gf3_10 sh6, gf6_0 hst, gf6_5 hst, gf6_6 hst, mm_e0, pd_stI, so6_2i, so6_3i, so6_4r, so6_5i, mm_lA, mm_lI, mm_lD, mm_lJ, mm_ld0, mm_lds, pd_Kgo, pd_Kend, pd_Kno, pd_Kite, mm_i, mm_ii, mm_r, mm_1, mm_icmp, cond_true, cond_false, mm_o2, mm_c2, wt0, wt1, wt2, wt3, wt4, va_rfs, pd_bkv, pd_bkn, pd_bkif, pd_st1, Nat.reduceAdd, Nat.reduceLeDiff, Bool.or_false, Bool.or_self]
  exact h5
theorem ev57n {s : Nat} (hd : 2 ≤ d) (hs : s < 2) (h : fwL K s 5 0 none = none) : mm_ev xs Ls pd_ck pd_ak pd_mj d 57 [.ref (6 : Nat), .int (Int32.ofNat s)] (pd_st K D (pd_RF q) J n) = some (.inl none, pd_st (mm_u K 25 s (K 25 s + 1)) D (pd_RF q) J n) := by
  obtain ⟨d, rfl⟩ : ∃ e, d = e + 1 := ⟨d - 1, by omega⟩
  refine pd_ev_of (Nat.le_of_ble_eq_true rfl) ?_; rw [show pd_mj 57 = pd_m57 from rfl, show mm_pad (mm_in [.ref (6 : Nat), .int (Int32.ofNat s)]) pd_m57.nL = [some (.ref (6 : Nat)), some (.int (Int32.ofNat s)), none] from rfl]
  have hst : pd_SH[28]? = some (.inl 6) := rfl
  have e := ev58 (xs := xs) (Ls := Ls) (D := D) (J := J) (n := n) (q := q) (d := d) (K := K) (s := s) (by omega)
  rw [h] at e
  have e1 : oI none = -1 := rfl
  rw [e1] at e
  simp only [p57_0, p57_1, p57_2, p57_5, p57_6, p57_7, p57_8, p57_11, p57_12, p57_15, p57_16, p57_17, p57_18, p57_19, p57_20, p57_21, p57_22, p57_23, p57_26, p57_27, p57_28, p57_29, p57_32, gf3_10 sh6, gf3_3 sh6, mm_2, mm_rV, pd_stI, pf6_0 hst, qi1 sh6, so3_2i, mm_lA, mm_lI, mm_lD, mm_lJ, mm_ld0, mm_lds, pd_Kgo, pd_Kend, pd_Kno, pd_Kite, mm_i, mm_ii, mm_r, mm_1, mm_icmp, cond_true, cond_false, mm_o2, mm_c2, wt0, wt1, wt2, wt3, wt4, va_rfs, pd_bkv, pd_bkn, pd_bkif, pd_st1, Nat.reduceAdd, Nat.reduceLeDiff, Bool.or_false, Bool.or_self, e, if_true, rf_63, mm_2, pd_il (a := 25) (t := 0) (mm := 2) rfl rfl hs (by omega), pd_ic (a := 25) (mm := 2) rfl hs (by omega)]
theorem ev57s {s g : Nat} (hd : 2 ≤ d) (hg : g < 5) (h : fwL K s 5 0 none = some g) : mm_ev xs Ls pd_ck pd_ak pd_mj d 57 [.ref (6 : Nat), .int (Int32.ofNat s)] (pd_st K D (pd_RF q) J n) = some (.inl none, pd_st (mm_u K (28 + 3 * g) 0 1) D (pd_RF q) J n) := by
  obtain ⟨d, rfl⟩ : ∃ e, d = e + 1 := ⟨d - 1, by omega⟩
  refine pd_ev_of (Nat.le_of_ble_eq_true rfl) ?_; rw [show pd_mj 57 = pd_m57 from rfl, show mm_pad (mm_in [.ref (6 : Nat), .int (Int32.ofNat s)]) pd_m57.nL = [some (.ref (6 : Nat)), some (.int (Int32.ofNat s)), none] from rfl]
  have hst := st_sh hg
  have e := ev58 (xs := xs) (Ls := Ls) (D := D) (J := J) (n := n) (q := q) (d := d) (K := K) (s := s) (by omega)
  rw [h] at e
  have e1 : oI (some g) = Int32.ofNat g := rfl
  rw [e1] at e
  have zg := neg1 (j := g) (by omega)
  simp only [p57_0, p57_1, p57_2, p57_5, p57_6, p57_7, p57_8, p57_11, p57_12, p57_15, p57_16, p57_17, p57_18, p57_19, p57_20, p57_21, p57_22, p57_23, p57_26, p57_27, p57_28, p57_29, p57_32, gf3_10 sh6, gf3_3 sh6, mm_2, mm_rV, pd_stI, pf6_0 hst, qi1 sh6, so3_2i, mm_lA, mm_lI, mm_lD, mm_lJ, mm_ld0, mm_lds, pd_Kgo, pd_Kend, pd_Kno, pd_Kite, mm_i, mm_ii, mm_r, mm_1, mm_icmp, cond_true, cond_false, mm_o2, mm_c2, wt0, wt1, wt2, wt3, wt4, va_rfs, pd_bkv, pd_bkn, pd_bkif, pd_st1, Nat.reduceAdd, Nat.reduceLeDiff, Bool.or_false, Bool.or_self, e, if_neg zg, rf_6a, pd_sa hg]
/-! whoseTurn -/
theorem lp52a {o : mm_O} {a3 a4 : Option Value} : ∀ (f p m : Nat), p + f = 5 → (pd_G xs Ls d pd_m52 (4, [some (.ref (6 : Nat)), some (.int (Int32.ofNat m)), some (.int (Int32.ofNat p)), a3, a4], [], pd_st K D (pd_RF q) J n) o ↔ pd_G xs Ls d pd_m52 (31, [some (.ref (6 : Nat)), some (.int (Int32.ofNat (m + cntc K f p))), some (.int (Int32.ofNat 5)), a3, a4], [], pd_st K D (pd_RF q) J n) o) := by
  intro f
  induction f with
  | zero =>
    intro p m hp
    have e : p = 5 := by omega
    subst e
    have z : ((5 : Int32) ≤ Int32.ofNat 5) := by decide
    have hst : pd_SH[28]? = some (.inl 6) := rfl
    rw [p52_4]
    simp only [p52_0, p52_1, p52_2, p52_3, p52_5, p52_6, p52_9, p52_10, p52_13, p52_14, p52_15, p52_18, p52_19, p52_22, p52_25, p52_28, p52_32, p52_35, p52_45, p52_46, p52_49, p52_52, p52_53, p52_54, p52_55, p52_56, p52_57, p52_58, p52_62, p52_63, p52_66, p52_67, p52_70, p52_72, p52_73, p52_76, p52_77, p52_80, p52_81, p52_84, p52_86, p52_87, p52_90, p52_93, p52_96, p52_97, gf3_10 sh6, gf3_2 sh6, gf6_0 hst, mm_e0, pd_stI, qi0 sh23, so5_1i, so5_2i, so5_3i, so5_4i, mm_lA, mm_lI, mm_lD, mm_lJ, mm_ld0, mm_lds, pd_Kgo, pd_Kend, pd_Kno, pd_Kite, mm_i, mm_ii, mm_r, mm_1, mm_icmp, cond_true, cond_false, mm_o2, mm_c2, wt0, wt1, wt2, wt3, wt4, va_rfs, pd_bkv, pd_bkn, pd_bkif, pd_st1, Nat.reduceAdd, Nat.reduceLeDiff, Bool.or_false, Bool.or_self, if_pos z]
    rfl
  | succ f ih =>
    intro p m hp
    have z := five (p := p) (by omega)
    have hst := st_sh (i := p) (by omega)
    unfold cntc
    rw [p52_4]
    by_cases h : K (28 + 3 * p) 0 = 1
    · rw [if_pos (show Sd K p 0 = 1 from h)]
      simp only [p52_0, p52_1, p52_2, p52_3, p52_5, p52_6, p52_9, p52_10, p52_13, p52_14, p52_15, p52_18, p52_19, p52_22, p52_25, p52_28, p52_32, p52_35, p52_45, p52_46, p52_49, p52_52, p52_53, p52_54, p52_55, p52_56, p52_57, p52_58, p52_62, p52_63, p52_66, p52_67, p52_70, p52_72, p52_73, p52_76, p52_77, p52_80, p52_81, p52_84, p52_86, p52_87, p52_90, p52_93, p52_96, p52_97, gf3_10 sh6, gf3_2 sh6, gf6_0 hst, mm_e0, pd_stI, qi0 sh23, so5_1i, so5_2i, so5_3i, so5_4i, mm_lA, mm_lI, mm_lD, mm_lJ, mm_ld0, mm_lds, pd_Kgo, pd_Kend, pd_Kno, pd_Kite, mm_i, mm_ii, mm_r, mm_1, mm_icmp, cond_true, cond_false, mm_o2, mm_c2, wt0, wt1, wt2, wt3, wt4, va_rfs, pd_bkv, pd_bkn, pd_bkif, pd_st1, Nat.reduceAdd, Nat.reduceLeDiff, Bool.or_false, Bool.or_self, if_neg z, rf_6a, pd_sa (i := p) (by omega), if_pos h, pd_suc]
      rw [← Nat.add_assoc]
      exact ih (p + 1) (m + 1) (by omega)
    · rw [if_neg (show ¬ (Sd K p 0 = 1) from h)]
      simp only [p52_0, p52_1, p52_2, p52_3, p52_5, p52_6, p52_9, p52_10, p52_13, p52_14, p52_15, p52_18, p52_19, p52_22, p52_25, p52_28, p52_32, p52_35, p52_45, p52_46, p52_49, p52_52, p52_53, p52_54, p52_55, p52_56, p52_57, p52_58, p52_62, p52_63, p52_66, p52_67, p52_70, p52_72, p52_73, p52_76, p52_77, p52_80, p52_81, p52_84, p52_86, p52_87, p52_90, p52_93, p52_96, p52_97, gf3_10 sh6, gf3_2 sh6, gf6_0 hst, mm_e0, pd_stI, qi0 sh23, so5_1i, so5_2i, so5_3i, so5_4i, mm_lA, mm_lI, mm_lD, mm_lJ, mm_ld0, mm_lds, pd_Kgo, pd_Kend, pd_Kno, pd_Kite, mm_i, mm_ii, mm_r, mm_1, mm_icmp, cond_true, cond_false, mm_o2, mm_c2, wt0, wt1, wt2, wt3, wt4, va_rfs, pd_bkv, pd_bkn, pd_bkif, pd_st1, Nat.reduceAdd, Nat.reduceLeDiff, Bool.or_false, Bool.or_self, if_neg z, rf_6a, pd_sa (i := p) (by omega), if_neg h, pd_suc]
      rw [Nat.zero_add]
      exact ih (p + 1) m (by omega)
/-- behind the one whose turn it is -/
theorem lp52c {m : Int32} {r : Nat} : ∀ (f p k : Nat), p + f = 5 → k + f ≤ 20 → pd_G xs Ls d pd_m52 (60, [some (.ref (6 : Nat)), some (.int m), some (.int (Int32.ofInt (-1 - (k : Int)))), some (.int (Int32.ofNat r)), some (.int (Int32.ofNat p))], [], pd_st K D (pd_RF q) J n) (.inl (some (.int (Int32.ofNat r))), pd_st K D (pd_RF q) J n) := by
  intro f
  induction f with
  | zero =>
    intro p k hp _
    have e : p = 5 := by omega
    subst e
    have z : ((5 : Int32) ≤ Int32.ofNat 5) := by decide
    have hst : pd_SH[28]? = some (.inl 6) := rfl
    rw [p52_60]
    simp only [p52_0, p52_1, p52_2, p52_3, p52_4, p52_5, p52_6, p52_9, p52_10, p52_13, p52_14, p52_15, p52_18, p52_19, p52_22, p52_25, p52_28, p52_31, p52_32, p52_35, p52_45, p52_46, p52_49, p52_52, p52_53, p52_54, p52_55, p52_56, p52_57, p52_58, p52_62, p52_63, p52_66, p52_67, p52_70, p52_72, p52_73, p52_76, p52_77, p52_80, p52_81, p52_84, p52_86, p52_87, p52_90, p52_93, p52_96, p52_97, gf3_10 sh6, gf3_2 sh6, gf6_0 hst, mm_e0, pd_stI, qi0 sh23, so5_1i, so5_2i, so5_3i, so5_4i, mm_lA, mm_lI, mm_lD, mm_lJ, mm_ld0, mm_lds, pd_Kgo, pd_Kend, pd_Kno, pd_Kite, mm_i, mm_ii, mm_r, mm_1, mm_icmp, cond_true, cond_false, mm_o2, mm_c2, wt0, wt1, wt2, wt3, wt4, va_rfs, pd_bkv, pd_bkn, pd_bkif, pd_st1, Nat.reduceAdd, Nat.reduceLeDiff, Bool.or_false, Bool.or_self, if_pos z]
  | succ f ih =>
    intro p k hp hk
    have z := five (p := p) (by omega)
    have hst := st_sh (i := p) (by omega)
    have z2 : ¬ (Int32.ofInt (-1 - (k : Int)) = 0) := by
      intro h9
      have h8 := congrArg Int32.toInt h9
      rw [Int32.toInt_ofInt_of_le (by omega) (by omega), show (0 : Int32).toInt = 0 from rfl] at h8
      omega
    have e9 : Int32.ofInt (-1 - (k : Int)) + Int32.ofInt (-1) = Int32.ofInt (-1 - ((k + 1 : Nat) : Int)) := by
      rw [← Int32.ofInt_add]; congr 1; omega
    rw [p52_60]
    by_cases h : K (28 + 3 * p) 0 = 1
    · have hI := ih (p + 1) (k + 1) (by omega) (by omega)
      simp only [p52_0, p52_1, p52_2, p52_3, p52_4, p52_5, p52_6, p52_9, p52_10, p52_13, p52_14, p52_15, p52_18, p52_19, p52_22, p52_25, p52_28, p52_31, p52_32, p52_35, p52_45, p52_46, p52_49, p52_52, p52_53, p52_54, p52_55, p52_56, p52_57, p52_58, p52_62, p52_63, p52_66, p52_67, p52_70, p52_72, p52_73, p52_76, p52_77, p52_80, p52_81, p52_84, p52_86, p52_87, p52_90, p52_93, p52_96, p52_97, gf3_10 sh6, gf3_2 sh6, gf6_0 hst, mm_e0, pd_stI, qi0 sh23, so5_1i, so5_2i, so5_3i, so5_4i, mm_lA, mm_lI, mm_lD, mm_lJ, mm_ld0, mm_lds, pd_Kgo, pd_Kend, pd_Kno, pd_Kite, mm_i, mm_ii, mm_r, mm_1, mm_icmp, cond_true, cond_false, mm_o2, mm_c2, wt0, wt1, wt2, wt3, wt4, va_rfs, pd_bkv, pd_bkn, pd_bkif, pd_st1, Nat.reduceAdd, Nat.reduceLeDiff, Bool.or_false, Bool.or_self, if_neg z, rf_6a, pd_sa (i := p) (by omega), if_pos h, if_neg z2, e9, pd_suc]
      exact hI
    · have hI := ih (p + 1) k (by omega) (by omega)
      simp only [p52_0, p52_1, p52_2, p52_3, p52_4, p52_5, p52_6, p52_9, p52_10, p52_13, p52_14, p52_15, p52_18, p52_19, p52_22, p52_25, p52_28, p52_31, p52_32, p52_35, p52_45, p52_46, p52_49, p52_52, p52_53, p52_54, p52_55, p52_56, p52_57, p52_58, p52_62, p52_63, p52_66, p52_67, p52_70, p52_72, p52_73, p52_76, p52_77, p52_80, p52_81, p52_84, p52_86, p52_87, p52_90, p52_93, p52_96, p52_97, gf3_10 sh6, gf3_2 sh6, gf6_0 hst, mm_e0, pd_stI, qi0 sh23, so5_1i, so5_2i, so5_3i, so5_4i, mm_lA, mm_lI, mm_lD, mm_lJ, mm_ld0, mm_lds, pd_Kgo, pd_Kend, pd_Kno, pd_Kite, mm_i, mm_ii, mm_r, mm_1, mm_icmp, cond_true, cond_false, mm_o2, mm_c2, wt0, wt1, wt2, wt3, wt4, va_rfs, pd_bkv, pd_bkn, pd_bkif, pd_st1, Nat.reduceAdd, Nat.reduceLeDiff, Bool.or_false, Bool.or_self, if_neg z, rf_6a, pd_sa (i := p) (by omega), if_neg h, pd_suc]
      exact hI
theorem lp52b {m tu : Int32} {r : Nat} (hr : r < 5) (hr1 : Sd K r 0 = 1) : ∀ (f p k : Nat), p + f = r → k = cntc K f p → pd_G xs Ls d pd_m52 (60, [some (.ref (6 : Nat)), some (.int m), some (.int (Int32.ofNat k)), some (.int tu), some (.int (Int32.ofNat p))], [], pd_st K D (pd_RF q) J n) (.inl (some (.int (Int32.ofNat r))), pd_st K D (pd_RF q) J n) := by
  intro f
  induction f with
  | zero =>
    intro p k hp hk
    have e : p = r := by omega
    subst e
    have e2 : k = 0 := hk
    subst e2
    have z := five (p := p) hr
    have hst := st_sh hr
    have hr1' : K (28 + 3 * p) 0 = 1 := hr1
    have e3 : Int32.ofNat 0 + Int32.ofInt (-1) = Int32.ofInt (-1 - ((0 : Nat) : Int)) := rfl
    have z0 : Int32.ofNat 0 = (0 : Int32) := rfl
    have hI := lp52c (xs := xs) (Ls := Ls) (D := D) (J := J) (n := n) (q := q) (d := d) (K := K) (m := m) (r := p) (4 - p) (p + 1) 0 (by omega) (by omega)
    rw [p52_60]
    simp only [p52_0, p52_1, p52_2, p52_3, p52_4, p52_5, p52_6, p52_9, p52_10, p52_13, p52_14, p52_15, p52_18, p52_19, p52_22, p52_25, p52_28, p52_31, p52_32, p52_35, p52_45, p52_46, p52_49, p52_52, p52_53, p52_54, p52_55, p52_56, p52_57, p52_58, p52_62, p52_63, p52_66, p52_67, p52_70, p52_72, p52_73, p52_76, p52_77, p52_80, p52_81, p52_84, p52_86, p52_87, p52_90, p52_93, p52_96, p52_97, gf3_10 sh6, gf3_2 sh6, gf6_0 hst, mm_e0, pd_stI, qi0 sh23, so5_1i, so5_2i, so5_3i, so5_4i, mm_lA, mm_lI, mm_lD, mm_lJ, mm_ld0, mm_lds, pd_Kgo, pd_Kend, pd_Kno, pd_Kite, mm_i, mm_ii, mm_r, mm_1, mm_icmp, cond_true, cond_false, mm_o2, mm_c2, wt0, wt1, wt2, wt3, wt4, va_rfs, pd_bkv, pd_bkn, pd_bkif, pd_st1, Nat.reduceAdd, Nat.reduceLeDiff, Bool.or_false, Bool.or_self, if_neg z, rf_6a, pd_sa hr, if_pos hr1', if_pos z0, e3, pd_suc]
    exact hI
  | succ f ih =>
    intro p k hp hk
    have z := five (p := p) (by omega)
    have hst := st_sh (i := p) (by omega)
    have hk' : k = (if Sd K p 0 = 1 then 1 else 0) + cntc K f (p + 1) := hk
    rw [p52_60]
    by_cases h : K (28 + 3 * p) 0 = 1
    · rw [if_pos (show Sd K p 0 = 1 from h)] at hk'
      have z2 : ¬ (Int32.ofNat k = 0) := by
        have : ∀ f p, cntc K f p ≤ f := by
          intro f
          induction f with
          | zero => intro p; exact Nat.le_refl _
          | succ f ih => intro p; unfold cntc; have := ih (p + 1); split <;> omega
        have := this f (p + 1)
        rw [pd_eq0 (by omega)]; omega
      have e9 : Int32.ofNat k + Int32.ofInt (-1) = Int32.ofNat (k - 1) := by
        have : Int32.ofNat k = Int32.ofNat (k - 1) + 1 := by rw [pd_suc]; congr 1; omega
        rw [this, Int32.add_assoc, show (1 : Int32) + Int32.ofInt (-1) = 0 from by decide, Int32.add_zero]
      have hI := ih (p + 1) (k - 1) (by omega) (by omega)
      simp only [p52_0, p52_1, p52_2, p52_3, p52_4, p52_5, p52_6, p52_9, p52_10, p52_13, p52_14, p52_15, p52_18, p52_19, p52_22, p52_25, p52_28, p52_31, p52_32, p52_35, p52_45, p52_46, p52_49, p52_52, p52_53, p52_54, p52_55, p52_56, p52_57, p52_58, p52_62, p52_63, p52_66, p52_67, p52_70, p52_72, p52_73, p52_76, p52_77, p52_80, p52_81, p52_84, p52_86, p52_87, p52_90, p52_93, p52_96, p52_97, gf3_10 sh6, gf3_2 sh6, gf6_0 hst, mm_e0, pd_stI, qi0 sh23, so5_1i, so5_2i, so5_3i, so5_4i, mm_lA, mm_lI, mm_lD, mm_lJ, mm_ld0, mm_lds, pd_Kgo, pd_Kend, pd_Kno, pd_Kite, mm_i, mm_ii, mm_r, mm_1, mm_icmp, cond_true, cond_false, mm_o2, mm_c2, wt0, wt1, wt2, wt3, wt4, va_rfs, pd_bkv, pd_bkn, pd_bkif, pd_st1, Nat.reduceAdd, Nat.reduceLeDiff, Bool.or_false, Bool.or_self, if_neg z, rf_6a, pd_sa (i := p) (by omega), if_pos h, if_neg z2, e9, pd_suc]
      exact hI
    · rw [if_neg (show ¬ (Sd K p 0 = 1) from h), Nat.zero_add] at hk'
      have hI := ih (p + 1) k (by omega) hk'
      simp only [p52_0, p52_1, p52_2, p52_3, p52_4, p52_5, p52_6, p52_9, p52_10, p52_13, p52_14, p52_15, p52_18, p52_19, p52_22, p52_25, p52_28, p52_31, p52_32, p52_35, p52_45, p52_46, p52_49, p52_52, p52_53, p52_54, p52_55, p52_56, p52_57, p52_58, p52_62, p52_63, p52_66, p52_67, p52_70, p52_72, p52_73, p52_76, p52_77, p52_80, p52_81, p52_84, p52_86, p52_87, p52_90, p52_93, p52_96, p52_97, gf3_10 sh6, gf3_2 sh6, gf6_0 hst, mm_e0, pd_stI, qi0 sh23, so5_1i, so5_2i, so5_3i, so5_4i, mm_lA, mm_lI, mm_lD, mm_lJ, mm_ld0, mm_lds, pd_Kgo, pd_Kend, pd_Kno, pd_Kite, mm_i, mm_ii, mm_r, mm_1, mm_icmp, cond_true, cond_false, mm_o2, mm_c2, wt0, wt1, wt2, wt3, wt4, va_rfs, pd_bkv, pd_bkn, pd_bkif, pd_st1, Nat.reduceAdd, Nat.reduceLeDiff, Bool.or_false, Bool.or_self, if_neg z, rf_6a, pd_sa (i := p) (by omega), if_neg h, pd_suc]
      exact hI
theorem ev52n (hd : 1 ≤ d) (h0 : cntc K 5 0 = 0) : mm_ev xs Ls pd_ck pd_ak pd_mj d 52 [.ref (6 : Nat)] (pd_st K D (pd_RF q) J n) = some (.inr 1, pd_st K D (pd_RF q) J (n + 1)) := by
  obtain ⟨d, rfl⟩ : ∃ e, d = e + 1 := ⟨d - 1, by omega⟩
  refine pd_ev_of (Nat.le_of_ble_eq_true rfl) ?_; rw [show pd_mj 52 = pd_m52 from rfl, show mm_pad (mm_in [.ref (6 : Nat)]) pd_m52.nL = [some (.ref (6 : Nat)), none, none, none, none] from rfl]
  have hst : pd_SH[28]? = some (.inl 6) := rfl
  simp only [p52_0, p52_1, p52_2, p52_3, p52_5, p52_6, p52_9, p52_10, p52_13, p52_14, p52_15, p52_18, p52_19, p52_22, p52_25, p52_28, p52_31, p52_32, p52_35, p52_45, p52_46, p52_49, p52_52, p52_53, p52_54, p52_55, p52_56, p52_57, p52_58, p52_62, p52_63, p52_66, p52_67, p52_70, p52_72, p52_73, p52_76, p52_77, p52_80, p52_81, p52_84, p52_86, p52_87, p52_90, p52_93, p52_96, p52_97, gf3_10 sh6, gf3_2 sh6, gf6_0 hst, mm_e0, pd_stI, qi0 sh23, so5_1i, so5_2i, so5_3i, so5_4i, mm_lA, mm_lI, mm_lD, mm_lJ, mm_ld0, mm_lds, pd_Kgo, pd_Kend, pd_Kno, pd_Kite, mm_i, mm_ii, mm_r, mm_1, mm_icmp, cond_true, cond_false, mm_o2, mm_c2, wt0, wt1, wt2, wt3, wt4, va_rfs, pd_bkv, pd_bkn, pd_bkif, pd_st1, Nat.reduceAdd, Nat.reduceLeDiff, Bool.or_false, Bool.or_self]
  rw [show (0 : Int32) = Int32.ofNat 0 from rfl, lp52a 5 0 0 (by omega), h0]
  have z : Int32.ofNat (0 + 0) = 0 := rfl
  simp only [p52_0, p52_1, p52_2, p52_3, p52_5, p52_6, p52_9, p52_10, p52_13, p52_14, p52_15, p52_18, p52_19, p52_22, p52_25, p52_28, p52_31, p52_32, p52_35, p52_45, p52_46, p52_49, p52_52, p52_53, p52_54, p52_55, p52_56, p52_57, p52_58, p52_62, p52_63, p52_66, p52_67, p52_70, p52_72, p52_73, p52_76, p52_77, p52_80, p52_81, p52_84, p52_86, p52_87, p52_90, p52_93, p52_96, p52_97, gf3_10 sh6, gf3_2 sh6, gf6_0 hst, mm_e0, pd_stI, qi0 sh23, so5_1i, so5_2i, so5_3i, so5_4i, mm_lA, mm_lI, mm_lD, mm_lJ, mm_ld0, mm_lds, pd_Kgo, pd_Kend, pd_Kno, pd_Kite, mm_i, mm_ii, mm_r, mm_1, mm_icmp, cond_true, cond_false, mm_o2, mm_c2, wt0, wt1, wt2, wt3, wt4, va_rfs, pd_bkv, pd_bkn, pd_bkif, pd_st1, Nat.reduceAdd, Nat.reduceLeDiff, Bool.or_false, Bool.or_self, z, if_true, thr0]
  rfl
theorem cntc_le : ∀ (f p : Nat), cntc K f p ≤ f := by
  intro f
  induction f with
  | zero => intro p; exact Nat.le_refl _
  | succ f ih => intro p; unfold cntc; have := ih (p + 1); split <;> omega
theorem cntc_u {w : Int32} : ∀ (f p : Nat), cntc (mm_u K 23 2 w) f p = cntc K f p := by
  intro f
  induction f with
  | zero => intro p; rfl
  | succ f ih =>
    intro p
    unfold cntc Sd
    rw [ih, mm_u_a (by omega)]
theorem ev52s {a l t r : Nat} (hd : 2 ≤ d) (ha : K 23 2 = Int32.ofNat a) (hl : K 23 1 = Int32.ofNat l) (hl1 : 0 < l) (hl16 : l ≤ 16) (hal : a ≤ l) (ht : K 24 (a % l) = Int32.ofNat t) (ht16 : t < 16) (h0 : 0 < cntc K 5 0) (hr : r < 5) (hr1 : Sd K r 0 = 1) (hk : t % cntc K 5 0 = cntc K r 0) : mm_ev xs Ls pd_ck pd_ak pd_mj d 52 [.ref (6 : Nat)] (pd_st K D (pd_RF q) J n) = some (.inl (some (.int (Int32.ofNat r))), pd_st (mm_u K 23 2 (Int32.ofNat (a % l + 1))) D (pd_RF q) J n) := by
  obtain ⟨d, rfl⟩ : ∃ e, d = e + 1 := ⟨d - 1, by omega⟩
  refine pd_ev_of (Nat.le_of_ble_eq_true rfl) ?_; rw [show pd_mj 52 = pd_m52 from rfl, show mm_pad (mm_in [.ref (6 : Nat)]) pd_m52.nL = [some (.ref (6 : Nat)), none, none, none, none] from rfl]
  have hst : pd_SH[28]? = some (.inl 6) := rfl
  simp only [p52_0, p52_1, p52_2, p52_3, p52_5, p52_6, p52_9, p52_10, p52_13, p52_14, p52_15, p52_18, p52_19, p52_22, p52_25, p52_28, p52_31, p52_32, p52_35, p52_45, p52_46, p52_49, p52_52, p52_53, p52_54, p52_55, p52_56, p52_57, p52_58, p52_62, p52_63, p52_66, p52_67, p52_70, p52_72, p52_73, p52_76, p52_77, p52_80, p52_81, p52_84, p52_86, p52_87, p52_90, p52_93, p52_96, p52_97, gf3_10 sh6, gf3_2 sh6, gf6_0 hst, mm_e0, pd_stI, qi0 sh23, so5_1i, so5_2i, so5_3i, so5_4i, mm_lA, mm_lI, mm_lD, mm_lJ, mm_ld0, mm_lds, pd_Kgo, pd_Kend, pd_Kno, pd_Kite, mm_i, mm_ii, mm_r, mm_1, mm_icmp, cond_true, cond_false, mm_o2, mm_c2, wt0, wt1, wt2, wt3, wt4, va_rfs, pd_bkv, pd_bkn, pd_bkif, pd_st1, Nat.reduceAdd, Nat.reduceLeDiff, Bool.or_false, Bool.or_self]
  have hle := cntc_le (K := K) 5 0
  have hm : Int32.ofNat (0 + cntc K 5 0) = Int32.ofNat (cntc K 5 0) := by rw [Nat.zero_add]
  have z1 : ¬ (Int32.ofNat (cntc K 5 0) = 0) := by rw [pd_eq0 (by omega)]; omega
  have hR := rem16 t ht16 (cntc K 5 0) (by omega) h0
  have e84 := ev84 (xs := xs) (Ls := Ls) (D := D) (J := J) (n := n) (q := q) (d := d) (by omega) ha hl hl1 hl16 hal
  rw [ht] at e84
  have hB := fun tu => lp52b (xs := xs) (Ls := Ls) (d := d) (D := D) (J := J) (n := n) (q := q) (K := mm_u K 23 2 (Int32.ofNat (a % l + 1))) (m := Int32.ofNat (cntc K 5 0)) (tu := tu) hr (by unfold Sd; rw [mm_u_a (by omega)]; exact hr1) r 0 (cntc K r 0) (by omega) (cntc_u r 0).symm
  rw [show Int32.ofNat 0 = (0 : Int32) from rfl] at hB
  rw [show (0 : Int32) = Int32.ofNat 0 from rfl, lp52a 5 0 0 (by omega), hm]
  simp only [p52_0, p52_1, p52_2, p52_3, p52_5, p52_6, p52_9, p52_10, p52_13, p52_14, p52_15, p52_18, p52_19, p52_22, p52_25, p52_28, p52_31, p52_32, p52_35, p52_45, p52_46, p52_49, p52_52, p52_53, p52_54, p52_55, p52_56, p52_57, p52_58, p52_62, p52_63, p52_66, p52_67, p52_70, p52_72, p52_73, p52_76, p52_77, p52_80, p52_81, p52_84, p52_86, p52_87, p52_90, p52_93, p52_96, p52_97, gf3_10 sh6, gf3_2 sh6, gf6_0 hst, mm_e0, pd_stI, qi0 sh23, so5_1i, so5_2i, so5_3i, so5_4i, mm_lA, mm_lI, mm_lD, mm_lJ, mm_ld0, mm_lds, pd_Kgo, pd_Kend, pd_Kno, pd_Kite, mm_i, mm_ii, mm_r, mm_1, mm_icmp, cond_true, cond_false, mm_o2, mm_c2, wt0, wt1, wt2, wt3, wt4, va_rfs, pd_bkv, pd_bkn, pd_bkif, pd_st1, Nat.reduceAdd, Nat.reduceLeDiff, Bool.or_false, Bool.or_self, if_neg z1, rf_62, e84, hR, hk]
  exact hB _
end CL5
