/-! THE CLASS: type and count -/
section CL10
variable {K K' K1 K2 K3 : pd_I} {D D' : pd_D} {J : pd_J} {n : Nat} {xs : Nat → Int32} {Ls d : Nat} {q : Nat → Nat} {c h i : Nat} {v x y : UInt64} {b : Bool} {o : mm_O} {e : Int64}
theorem badB_chr {c : Int32} (h : badB c = false) (h0 : c ≠ 0) : pd_chr c := by
  unfold badB at h
  rw [if_neg h0] at h
  by_cases h1 : c < 33
  · rw [if_pos h1] at h; cases h
  · rw [if_neg h1] at h
    by_cases h2 : 126 < c
    · rw [if_pos h2] at h; cases h
    · exact ⟨Int32.not_lt.mp h1, Int32.not_lt.mp h2⟩
theorem tyA_t : ∀ (f m : Nat), (tyA e f (m, true)).2 = true := by
  intro f
  induction f with
  | zero => intro m; rfl
  | succ f ih => intro m; unfold tyA; rw [Bool.true_or]; exact ih _
theorem tyA_f {f m : Nat} {b : Bool} (h : (tyA e (f + 1) (m, b)).2 = false) : badB (byt e (Int32.ofNat (8 * f))) = false := by
  unfold tyA at h
  cases hb : badB (byt e (Int32.ofNat (8 * f)))
  · rfl
  · rw [hb, Bool.or_true] at h
    simp only [] at h
    rw [tyA_t] at h
    cases h
theorem lp2a : ∀ (f m : Nat) (a5 : Option Value), f ≤ 8 → ((tyA e f (m, false)).2 = true → pd_G xs Ls (d + 1) pd_m2 (6, [some (.ref (0 : Nat)), some (.long e), none, some (.int (Int32.ofNat m)), some (.int (shi f)), a5], [], pd_st K D (pd_RF q) J n) (.inr 0, pd_st K D (pd_RF q) J (n + 1))) ∧ ((tyA e f (m, false)).2 = false → (∀ s a5, pd_G xs Ls (d + 1) pd_m2 (62, [some (.ref (0 : Nat)), some (.long e), none, some (.int (Int32.ofNat (tyA e f (m, false)).1)), some (.int s), a5], [], pd_st K D (pd_RF q) J n) o) → pd_G xs Ls (d + 1) pd_m2 (6, [some (.ref (0 : Nat)), some (.long e), none, some (.int (Int32.ofNat m)), some (.int (shi f)), a5], [], pd_st K D (pd_RF q) J n) o) := by
  intro f
  induction f with
  | zero =>
    intro m a5 _
    refine ⟨(fun h => by cases h), fun _ h => ?_⟩
    rw [p2_6]
    simp only [p2_0, p2_1, p2_2, p2_4, p2_8, p2_11, p2_12, p2_14, p2_17, p2_19, p2_21, p2_24, p2_26, p2_28, p2_31, p2_33, p2_35, p2_38, p2_48, p2_50, p2_53, p2_56, p2_59, p2_63, p2_64, p2_67, p2_70, p2_73, p2_83, p2_85, p2_89, p2_92, p2_93, p2_95, p2_98, p2_100, p2_102, p2_105, p2_106, p2_109, p2_111, p2_112, p2_115, p2_118, p2_121, p2_122, p2_125, p2_128, gf0_0 sh0, gf2_1 sh1, mm_e0, pd_KinS2, qi0 sh1, qi1 sh1, so6_3i, so6_4i, so6_5i, mm_lA, mm_lI, mm_lD, mm_lJ, mm_ld0, mm_lds, pd_Kgo, pd_Kend, pd_Kno, pd_Kite, mm_i, mm_ii, mm_r, mm_1, mm_icmp, cond_true, cond_false, mm_o2, mm_c2, wt0, wt1, wt2, wt3, wt4, va_rfs, pd_bkv, pd_bkn, pd_bkif, pd_st1, Nat.reduceAdd, Nat.reduceLeDiff, Bool.or_false, Bool.or_self, if_pos shi_n]
    exact h _ _
  | succ f ih =>
    intro m a5 hf
    have z := shi_p (f := f) (by omega)
    have hs : shi (f + 1) = Int32.ofNat (8 * f) := rfl
    have e3 := fun S => ev3 (xs := xs) (Ls := Ls) (e := e) (s := shi (f + 1)) (d := d + 1) (S := S) (by omega)
    have eT : ∀ b, tyA e (f + 1) (m, b) = tyA e f (if byt e (Int32.ofNat (8 * f)) = 0 then m else m + 1, b || badB (byt e (Int32.ofNat (8 * f)))) := fun b => rfl
    rw [eT, Bool.false_or]
    obtain ⟨i1, i2⟩ := ih (if byt e (Int32.ofNat (8 * f)) = 0 then m else m + 1) (some (.int (byt e (Int32.ofNat (8 * f))))) (by omega)
    by_cases c0 : byt e (Int32.ofNat (8 * f)) = 0
    · have eb : badB (byt e (Int32.ofNat (8 * f))) = false := by unfold badB; rw [if_pos c0]
      rw [eb]
      rw [if_pos c0] at i1 i2 ⊢
      rw [← hs] at c0 i1 i2
      constructor
      · intro h
        rw [p2_6]
        simp only [p2_0, p2_1, p2_2, p2_4, p2_8, p2_11, p2_12, p2_14, p2_17, p2_19, p2_21, p2_24, p2_26, p2_28, p2_31, p2_33, p2_35, p2_38, p2_48, p2_50, p2_53, p2_56, p2_59, p2_63, p2_64, p2_67, p2_70, p2_73, p2_83, p2_85, p2_89, p2_92, p2_93, p2_95, p2_98, p2_100, p2_102, p2_105, p2_106, p2_109, p2_111, p2_112, p2_115, p2_118, p2_121, p2_122, p2_125, p2_128, gf0_0 sh0, gf2_1 sh1, mm_e0, pd_KinS2, qi0 sh1, qi1 sh1, so6_3i, so6_4i, so6_5i, mm_lA, mm_lI, mm_lD, mm_lJ, mm_ld0, mm_lds, pd_Kgo, pd_Kend, pd_Kno, pd_Kite, mm_i, mm_ii, mm_r, mm_1, mm_icmp, cond_true, cond_false, mm_o2, mm_c2, wt0, wt1, wt2, wt3, wt4, va_rfs, pd_bkv, pd_bkn, pd_bkif, pd_st1, Nat.reduceAdd, Nat.reduceLeDiff, Bool.or_false, Bool.or_self, if_neg z, e3, if_pos c0, shi_m]
        exact i1 h
      · intro h h'
        rw [p2_6]
        simp only [p2_0, p2_1, p2_2, p2_4, p2_8, p2_11, p2_12, p2_14, p2_17, p2_19, p2_21, p2_24, p2_26, p2_28, p2_31, p2_33, p2_35, p2_38, p2_48, p2_50, p2_53, p2_56, p2_59, p2_63, p2_64, p2_67, p2_70, p2_73, p2_83, p2_85, p2_89, p2_92, p2_93, p2_95, p2_98, p2_100, p2_102, p2_105, p2_106, p2_109, p2_111, p2_112, p2_115, p2_118, p2_121, p2_122, p2_125, p2_128, gf0_0 sh0, gf2_1 sh1, mm_e0, pd_KinS2, qi0 sh1, qi1 sh1, so6_3i, so6_4i, so6_5i, mm_lA, mm_lI, mm_lD, mm_lJ, mm_ld0, mm_lds, pd_Kgo, pd_Kend, pd_Kno, pd_Kite, mm_i, mm_ii, mm_r, mm_1, mm_icmp, cond_true, cond_false, mm_o2, mm_c2, wt0, wt1, wt2, wt3, wt4, va_rfs, pd_bkv, pd_bkn, pd_bkif, pd_st1, Nat.reduceAdd, Nat.reduceLeDiff, Bool.or_false, Bool.or_self, if_neg z, e3, if_pos c0, shi_m]
        exact i2 h h'
    · rw [if_neg c0] at i1 i2 ⊢
      cases hb : badB (byt e (Int32.ofNat (8 * f)))
      · obtain ⟨c1, c2⟩ := badB_chr hb c0
        have c1' : ¬ (byt e (Int32.ofNat (8 * f)) < 33) := Int32.not_lt.mpr c1
        rw [← hs] at c0 c1' c2 i1 i2
        constructor
        · intro h
          rw [p2_6]
          simp only [p2_0, p2_1, p2_2, p2_4, p2_8, p2_11, p2_12, p2_14, p2_17, p2_19, p2_21, p2_24, p2_26, p2_28, p2_31, p2_33, p2_35, p2_38, p2_48, p2_50, p2_53, p2_56, p2_59, p2_63, p2_64, p2_67, p2_70, p2_73, p2_83, p2_85, p2_89, p2_92, p2_93, p2_95, p2_98, p2_100, p2_102, p2_105, p2_106, p2_109, p2_111, p2_112, p2_115, p2_118, p2_121, p2_122, p2_125, p2_128, gf0_0 sh0, gf2_1 sh1, mm_e0, pd_KinS2, qi0 sh1, qi1 sh1, so6_3i, so6_4i, so6_5i, mm_lA, mm_lI, mm_lD, mm_lJ, mm_ld0, mm_lds, pd_Kgo, pd_Kend, pd_Kno, pd_Kite, mm_i, mm_ii, mm_r, mm_1, mm_icmp, cond_true, cond_false, mm_o2, mm_c2, wt0, wt1, wt2, wt3, wt4, va_rfs, pd_bkv, pd_bkn, pd_bkif, pd_st1, Nat.reduceAdd, Nat.reduceLeDiff, Bool.or_false, Bool.or_self, if_neg z, e3, if_neg c0, if_neg c1', if_pos c2, shi_m, pd_suc]
          exact i1 h
        · intro h h'
          rw [p2_6]
          simp only [p2_0, p2_1, p2_2, p2_4, p2_8, p2_11, p2_12, p2_14, p2_17, p2_19, p2_21, p2_24, p2_26, p2_28, p2_31, p2_33, p2_35, p2_38, p2_48, p2_50, p2_53, p2_56, p2_59, p2_63, p2_64, p2_67, p2_70, p2_73, p2_83, p2_85, p2_89, p2_92, p2_93, p2_95, p2_98, p2_100, p2_102, p2_105, p2_106, p2_109, p2_111, p2_112, p2_115, p2_118, p2_121, p2_122, p2_125, p2_128, gf0_0 sh0, gf2_1 sh1, mm_e0, pd_KinS2, qi0 sh1, qi1 sh1, so6_3i, so6_4i, so6_5i, mm_lA, mm_lI, mm_lD, mm_lJ, mm_ld0, mm_lds, pd_Kgo, pd_Kend, pd_Kno, pd_Kite, mm_i, mm_ii, mm_r, mm_1, mm_icmp, cond_true, cond_false, mm_o2, mm_c2, wt0, wt1, wt2, wt3, wt4, va_rfs, pd_bkv, pd_bkn, pd_bkif, pd_st1, Nat.reduceAdd, Nat.reduceLeDiff, Bool.or_false, Bool.or_self, if_neg z, e3, if_neg c0, if_neg c1', if_pos c2, shi_m, pd_suc]
          exact i2 h h'
      · refine ⟨fun _ => ?_, fun h => by rw [tyA_t] at h; cases h⟩
        unfold badB at hb
        rw [if_neg c0] at hb
        rw [p2_6]
        by_cases c1 : byt e (Int32.ofNat (8 * f)) < 33
        · rw [← hs] at c0 c1
          simp only [p2_0, p2_1, p2_2, p2_4, p2_8, p2_11, p2_12, p2_14, p2_17, p2_19, p2_21, p2_24, p2_26, p2_28, p2_31, p2_33, p2_35, p2_38, p2_48, p2_50, p2_53, p2_56, p2_59, p2_63, p2_64, p2_67, p2_70, p2_73, p2_83, p2_85, p2_89, p2_92, p2_93, p2_95, p2_98, p2_100, p2_102, p2_105, p2_106, p2_109, p2_111, p2_112, p2_115, p2_118, p2_121, p2_122, p2_125, p2_128, gf0_0 sh0, gf2_1 sh1, mm_e0, pd_KinS2, qi0 sh1, qi1 sh1, so6_3i, so6_4i, so6_5i, mm_lA, mm_lI, mm_lD, mm_lJ, mm_ld0, mm_lds, pd_Kgo, pd_Kend, pd_Kno, pd_Kite, mm_i, mm_ii, mm_r, mm_1, mm_icmp, cond_true, cond_false, mm_o2, mm_c2, wt0, wt1, wt2, wt3, wt4, va_rfs, pd_bkv, pd_bkn, pd_bkif, pd_st1, Nat.reduceAdd, Nat.reduceLeDiff, Bool.or_false, Bool.or_self, if_neg z, e3, if_neg c0, if_pos c1, thr0]
          rfl
        · rw [if_neg c1] at hb
          by_cases c2 : 126 < byt e (Int32.ofNat (8 * f))
          · have c2' : ¬ (byt e (Int32.ofNat (8 * f)) ≤ 126) := Int32.not_le.mpr c2
            rw [← hs] at c0 c1 c2'
            simp only [p2_0, p2_1, p2_2, p2_4, p2_8, p2_11, p2_12, p2_14, p2_17, p2_19, p2_21, p2_24, p2_26, p2_28, p2_31, p2_33, p2_35, p2_38, p2_48, p2_50, p2_53, p2_56, p2_59, p2_63, p2_64, p2_67, p2_70, p2_73, p2_83, p2_85, p2_89, p2_92, p2_93, p2_95, p2_98, p2_100, p2_102, p2_105, p2_106, p2_109, p2_111, p2_112, p2_115, p2_118, p2_121, p2_122, p2_125, p2_128, gf0_0 sh0, gf2_1 sh1, mm_e0, pd_KinS2, qi0 sh1, qi1 sh1, so6_3i, so6_4i, so6_5i, mm_lA, mm_lI, mm_lD, mm_lJ, mm_ld0, mm_lds, pd_Kgo, pd_Kend, pd_Kno, pd_Kite, mm_i, mm_ii, mm_r, mm_1, mm_icmp, cond_true, cond_false, mm_o2, mm_c2, wt0, wt1, wt2, wt3, wt4, va_rfs, pd_bkv, pd_bkn, pd_bkif, pd_st1, Nat.reduceAdd, Nat.reduceLeDiff, Bool.or_false, Bool.or_self, if_neg z, e3, if_neg c0, if_neg c1, if_neg c2', thr0]
            rfl
          · rw [if_neg c2] at hb; cases hb
theorem lp2b {c3 : Int32} : ∀ (f m : Nat) (bb : Bool) (x : Nat × (Nat → Int32)) (a5 : Option Value), f ≤ 8 → (tyA e f (m, bb)).2 = false → (tyB e f x).1 ≤ 48 → pd_G xs Ls (d + 1) pd_m2 (87, [some (.ref (0 : Nat)), some (.long e), none, some (.int c3), some (.int (shi f)), a5], [], pd_st (tcK K x) D (pd_RF q) J n) (.inl (some (.int (Int32.ofNat (tyB e f x).1))), pd_st (tcK K (tyB e f x)) D (pd_RF q) J n) := by
  intro f
  induction f with
  | zero =>
    intro m bb x a5 _ _ _
    have h1 : tcK K x 1 1 = Int32.ofNat x.1 := rfl
    have e0 : tyB e 0 x = x := rfl
    rw [p2_87, e0]
    simp only [p2_0, p2_1, p2_2, p2_4, p2_8, p2_11, p2_12, p2_14, p2_17, p2_19, p2_21, p2_24, p2_26, p2_28, p2_31, p2_33, p2_35, p2_38, p2_48, p2_50, p2_53, p2_56, p2_59, p2_62, p2_63, p2_64, p2_67, p2_70, p2_73, p2_83, p2_85, p2_89, p2_92, p2_93, p2_95, p2_98, p2_100, p2_102, p2_105, p2_106, p2_109, p2_111, p2_112, p2_115, p2_118, p2_121, p2_122, p2_125, p2_128, gf0_0 sh0, gf2_1 sh1, mm_e0, pd_KinS2, qi0 sh1, qi1 sh1, so6_3i, so6_4i, so6_5i, mm_lA, mm_lI, mm_lD, mm_lJ, mm_ld0, mm_lds, pd_Kgo, pd_Kend, pd_Kno, pd_Kite, mm_i, mm_ii, mm_r, mm_1, mm_icmp, cond_true, cond_false, mm_o2, mm_c2, wt0, wt1, wt2, wt3, wt4, va_rfs, pd_bkv, pd_bkn, pd_bkif, pd_st1, Nat.reduceAdd, Nat.reduceLeDiff, Bool.or_false, Bool.or_self, if_pos shi_n, rf_00, h1]
  | succ f ih =>
    intro m bb x a5 hf hA hl
    have z := shi_p (f := f) (by omega)
    have hs : shi (f + 1) = Int32.ofNat (8 * f) := rfl
    have e3 := fun S => ev3 (xs := xs) (Ls := Ls) (e := e) (s := shi (f + 1)) (d := d + 1) (S := S) (by omega)
    have hb := tyA_f hA
    have eA : tyA e (f + 1) (m, bb) = tyA e f (if byt e (Int32.ofNat (8 * f)) = 0 then m else m + 1, bb || badB (byt e (Int32.ofNat (8 * f)))) := rfl
    have eT : tyB e (f + 1) x = tyB e f (if byt e (Int32.ofNat (8 * f)) = 0 then x else (x.1 + 1, pd_up x.2 x.1 (byt e (Int32.ofNat (8 * f))))) := rfl
    rw [eA] at hA
    have hI := ih _ _ (if byt e (Int32.ofNat (8 * f)) = 0 then x else (x.1 + 1, pd_up x.2 x.1 (byt e (Int32.ofNat (8 * f))))) (some (.int (byt e (Int32.ofNat (8 * f))))) (by omega) hA hl
    rw [← eT] at hI
    rw [p2_87]
    by_cases c0 : byt e (Int32.ofNat (8 * f)) = 0
    · rw [if_pos c0] at hI
      rw [← hs] at c0 hI
      simp only [p2_0, p2_1, p2_2, p2_4, p2_8, p2_11, p2_12, p2_14, p2_17, p2_19, p2_21, p2_24, p2_26, p2_28, p2_31, p2_33, p2_35, p2_38, p2_48, p2_50, p2_53, p2_56, p2_59, p2_62, p2_63, p2_64, p2_67, p2_70, p2_73, p2_83, p2_85, p2_89, p2_92, p2_93, p2_95, p2_98, p2_100, p2_102, p2_105, p2_106, p2_109, p2_111, p2_112, p2_115, p2_118, p2_121, p2_122, p2_125, p2_128, gf0_0 sh0, gf2_1 sh1, mm_e0, pd_KinS2, qi0 sh1, qi1 sh1, so6_3i, so6_4i, so6_5i, mm_lA, mm_lI, mm_lD, mm_lJ, mm_ld0, mm_lds, pd_Kgo, pd_Kend, pd_Kno, pd_Kite, mm_i, mm_ii, mm_r, mm_1, mm_icmp, cond_true, cond_false, mm_o2, mm_c2, wt0, wt1, wt2, wt3, wt4, va_rfs, pd_bkv, pd_bkn, pd_bkif, pd_st1, Nat.reduceAdd, Nat.reduceLeDiff, Bool.or_false, Bool.or_self, if_neg z, e3, if_pos c0, shi_m]
      exact hI
    · have hch := badB_chr hb c0
      have hx : x.1 < 48 := by
        have h1 := tyB_len (e := e) f 0 false (x.1 + 1, pd_up x.2 x.1 (byt e (Int32.ofNat (8 * f))))
        rw [eT, if_neg c0] at hl
        simp only [] at h1
        omega
      have hn := hch.nar
      rw [if_neg c0] at hI
      rw [← hs] at c0 hI hn hch
      have e21 := ev21 (xs := xs) (Ls := Ls) (K := K) (D := D) (J := J) (n := n) (q := q) (x := x) (d := d + 1) (c := byt e (shi (f + 1))) (by omega) hx hch.nar
      simp only [p2_0, p2_1, p2_2, p2_4, p2_8, p2_11, p2_12, p2_14, p2_17, p2_19, p2_21, p2_24, p2_26, p2_28, p2_31, p2_33, p2_35, p2_38, p2_48, p2_50, p2_53, p2_56, p2_59, p2_62, p2_63, p2_64, p2_67, p2_70, p2_73, p2_83, p2_85, p2_89, p2_92, p2_93, p2_95, p2_98, p2_100, p2_102, p2_105, p2_106, p2_109, p2_111, p2_112, p2_115, p2_118, p2_121, p2_122, p2_125, p2_128, gf0_0 sh0, gf2_1 sh1, mm_e0, pd_KinS2, qi0 sh1, qi1 sh1, so6_3i, so6_4i, so6_5i, mm_lA, mm_lI, mm_lD, mm_lJ, mm_ld0, mm_lds, pd_Kgo, pd_Kend, pd_Kno, pd_Kite, mm_i, mm_ii, mm_r, mm_1, mm_icmp, cond_true, cond_false, mm_o2, mm_c2, wt0, wt1, wt2, wt3, wt4, va_rfs, pd_bkv, pd_bkn, pd_bkif, pd_st1, Nat.reduceAdd, Nat.reduceLeDiff, Bool.or_false, Bool.or_self, if_neg z, e3, if_neg c0, rf_00, hn, e21, shi_m]
      exact hI
theorem ev2 {l : Nat} (hd : 2 ≤ d) (hl : l ≤ 48) (h1 : K 1 1 = Int32.ofNat l) : mm_ev xs Ls pd_ck pd_ak pd_mj d 2 [.ref (0 : Nat), .long e] (pd_st K D (pd_RF q) J n) = some (if (tyA e 8 (0, false)).2 = true then (.inr 0, pd_st K D (pd_RF q) J (n + 1)) else if 48 < l + (tyA e 8 (0, false)).1 then (.inr 1, pd_st K D (pd_RF q) J (n + 1)) else (.inl (some (.int (Int32.ofNat (tyB e 8 (l, K 2)).1))), pd_st (tcK K (tyB e 8 (l, K 2))) D (pd_RF q) J n)) := by
  obtain ⟨d, rfl⟩ : ∃ e, d = e + 1 + 1 := ⟨d - 2, by omega⟩
  refine pd_ev_of (Nat.le_of_ble_eq_true rfl) ?_; rw [show pd_mj 2 = pd_m2 from rfl, show mm_pad (mm_in [.ref (0 : Nat), .long e]) pd_m2.nL = [some (.ref (0 : Nat)), some (.long e), none, none, none, none] from rfl]
  have h56 : (56 : Int32) = shi 8 := rfl
  have hA := tyA_le (e := e) 8 (0, false)
  have hB := tyB_len (e := e) 8 0 false (l, K 2)
  simp only [] at hA hB
  have hz := fun o => lp2a (xs := xs) (Ls := Ls) (D := D) (J := J) (n := n) (q := q) (d := d) (e := e) (K := K) (o := o) 8 0 none (Nat.le_refl _)
  rw [show Int32.ofNat 0 = (0 : Int32) from rfl, ← h56] at hz
  simp only [p2_0, p2_1, p2_2, p2_4, p2_8, p2_11, p2_12, p2_14, p2_17, p2_19, p2_21, p2_24, p2_26, p2_28, p2_31, p2_33, p2_35, p2_38, p2_48, p2_50, p2_53, p2_56, p2_59, p2_62, p2_63, p2_64, p2_67, p2_70, p2_73, p2_83, p2_85, p2_89, p2_92, p2_93, p2_95, p2_98, p2_100, p2_102, p2_105, p2_106, p2_109, p2_111, p2_112, p2_115, p2_118, p2_121, p2_122, p2_125, p2_128, gf0_0 sh0, gf2_1 sh1, mm_e0, pd_KinS2, qi0 sh1, qi1 sh1, so6_3i, so6_4i, so6_5i, mm_lA, mm_lI, mm_lD, mm_lJ, mm_ld0, mm_lds, pd_Kgo, pd_Kend, pd_Kno, pd_Kite, mm_i, mm_ii, mm_r, mm_1, mm_icmp, cond_true, cond_false, mm_o2, mm_c2, wt0, wt1, wt2, wt3, wt4, va_rfs, pd_bkv, pd_bkn, pd_bkif, pd_st1, Nat.reduceAdd, Nat.reduceLeDiff, Bool.or_false, Bool.or_self]
  cases hb : (tyA e 8 (0, false)).2
  · rw [if_neg Bool.false_ne_true]
    refine (hz _).2 hb (fun s a5 => ?_)
    by_cases h : 48 < l + (tyA e 8 (0, false)).1
    · rw [if_pos h]
      have z : ¬ (Int32.ofNat (tyA e 8 (0, false)).1 ≤ Int32.ofNat (48 - l)) := by rw [pd_gtl (by omega) (by omega)]; omega
      simp only [p2_0, p2_1, p2_2, p2_4, p2_8, p2_11, p2_12, p2_14, p2_17, p2_19, p2_21, p2_24, p2_26, p2_28, p2_31, p2_33, p2_35, p2_38, p2_48, p2_50, p2_53, p2_56, p2_59, p2_62, p2_63, p2_64, p2_67, p2_70, p2_73, p2_83, p2_85, p2_89, p2_92, p2_93, p2_95, p2_98, p2_100, p2_102, p2_105, p2_106, p2_109, p2_111, p2_112, p2_115, p2_118, p2_121, p2_122, p2_125, p2_128, gf0_0 sh0, gf2_1 sh1, mm_e0, pd_KinS2, qi0 sh1, qi1 sh1, so6_3i, so6_4i, so6_5i, mm_lA, mm_lI, mm_lD, mm_lJ, mm_ld0, mm_lds, pd_Kgo, pd_Kend, pd_Kno, pd_Kite, mm_i, mm_ii, mm_r, mm_1, mm_icmp, cond_true, cond_false, mm_o2, mm_c2, wt0, wt1, wt2, wt3, wt4, va_rfs, pd_bkv, pd_bkn, pd_bkif, pd_st1, Nat.reduceAdd, Nat.reduceLeDiff, Bool.or_false, Bool.or_self, rf_00, ev20 (d := d + 1) (by omega) h1 hl, if_neg z, thr0]
      rfl
    · rw [if_neg h]
      have z : (Int32.ofNat (tyA e 8 (0, false)).1 ≤ Int32.ofNat (48 - l)) := by rw [pd_gtl (by omega) (by omega)]; omega
      have hL := lp2b (xs := xs) (Ls := Ls) (D := D) (J := J) (n := n) (q := q) (d := d) (e := e) (K := K) (c3 := Int32.ofNat (tyA e 8 (0, false)).1) 8 0 false (l, K 2) a5 (Nat.le_refl _) hb (by omega)
      rw [tcK_0 h1, ← h56] at hL
      simp only [p2_0, p2_1, p2_2, p2_4, p2_8, p2_11, p2_12, p2_14, p2_17, p2_19, p2_21, p2_24, p2_26, p2_28, p2_31, p2_33, p2_35, p2_38, p2_48, p2_50, p2_53, p2_56, p2_59, p2_62, p2_63, p2_64, p2_67, p2_70, p2_73, p2_83, p2_85, p2_89, p2_92, p2_93, p2_95, p2_98, p2_100, p2_102, p2_105, p2_106, p2_109, p2_111, p2_112, p2_115, p2_118, p2_121, p2_122, p2_125, p2_128, gf0_0 sh0, gf2_1 sh1, mm_e0, pd_KinS2, qi0 sh1, qi1 sh1, so6_3i, so6_4i, so6_5i, mm_lA, mm_lI, mm_lD, mm_lJ, mm_ld0, mm_lds, pd_Kgo, pd_Kend, pd_Kno, pd_Kite, mm_i, mm_ii, mm_r, mm_1, mm_icmp, cond_true, cond_false, mm_o2, mm_c2, wt0, wt1, wt2, wt3, wt4, va_rfs, pd_bkv, pd_bkn, pd_bkif, pd_st1, Nat.reduceAdd, Nat.reduceLeDiff, Bool.or_false, Bool.or_self, rf_00, ev20 (d := d + 1) (by omega) h1 hl, if_pos z]
      exact hL
  · rw [if_pos rfl]
    exact (hz (.inr 0, pd_st K D (pd_RF q) J (n + 1))).1 hb
/-- the class's procedures that are there -/
theorem lp48 {hq : pd_qO q} : ∀ (f p m : Nat), p + f = 4 → pd_G xs Ls d pd_m48 (4, [some (.ref (6 : Nat)), some (.int (Int32.ofNat m)), some (.int (Int32.ofNat p))], [], pd_st K D (pd_RF q) J n) (.inl (some (.int (Int32.ofNat (m + cn48 (fun k => K (q k) 4) f p)))), pd_st K D (pd_RF q) J n) := by
  intro f
  induction f with
  | zero =>
    intro p m hp
    have hc : pd_cO 3 := Or.inl rfl
    have e : p = 4 := by omega
    subst e
    have z : ((4 : Int32) ≤ Int32.ofNat 4) := by decide
    rw [p48_4]
    simp only [p48_0, p48_1, p48_2, p48_3, p48_5, p48_6, p48_9, p48_10, p48_13, p48_14, p48_15, p48_18, p48_21, p48_24, p48_27, p48_30, p48_31, gf1_4 hc.sh, gf3_0 sh6, mm_e0, pd_stI, so3_1i, so3_2i, mm_lA, mm_lI, mm_lD, mm_lJ, mm_ld0, mm_lds, pd_Kgo, pd_Kend, pd_Kno, pd_Kite, mm_i, mm_ii, mm_r, mm_1, mm_icmp, cond_true, cond_false, mm_o2, mm_c2, wt0, wt1, wt2, wt3, wt4, va_rfs, pd_bkv, pd_bkn, pd_bkif, pd_st1, Nat.reduceAdd, Nat.reduceLeDiff, Bool.or_false, Bool.or_self, if_pos z]
    rfl
  | succ f ih =>
    intro p m hp
    have hc := hq.1 p (by omega)
    have z : ¬ ((4 : Int32) ≤ Int32.ofNat p) := by rw [show (4 : Int32) = Int32.ofNat 4 from rfl, pd_gtl (by omega) (by omega)]; omega
    unfold cn48
    rw [p48_4]
    by_cases h : K (q p) 4 = 0
    · rw [if_pos h]
      simp only [p48_0, p48_1, p48_2, p48_3, p48_5, p48_6, p48_9, p48_10, p48_13, p48_14, p48_15, p48_18, p48_21, p48_24, p48_27, p48_30, p48_31, gf1_4 hc.sh, gf3_0 sh6, mm_e0, pd_stI, so3_1i, so3_2i, mm_lA, mm_lI, mm_lD, mm_lJ, mm_ld0, mm_lds, pd_Kgo, pd_Kend, pd_Kno, pd_Kite, mm_i, mm_ii, mm_r, mm_1, mm_icmp, cond_true, cond_false, mm_o2, mm_c2, wt0, wt1, wt2, wt3, wt4, va_rfs, pd_bkv, pd_bkn, pd_bkif, pd_st1, Nat.reduceAdd, Nat.reduceLeDiff, Bool.or_false, Bool.or_self, if_neg z, rf_60, pd_ca (k := p) (by omega), if_pos h, pd_suc]
      rw [Nat.zero_add]
      exact ih (p + 1) m (by omega)
    · rw [if_neg h]
      simp only [p48_0, p48_1, p48_2, p48_3, p48_5, p48_6, p48_9, p48_10, p48_13, p48_14, p48_15, p48_18, p48_21, p48_24, p48_27, p48_30, p48_31, gf1_4 hc.sh, gf3_0 sh6, mm_e0, pd_stI, so3_1i, so3_2i, mm_lA, mm_lI, mm_lD, mm_lJ, mm_ld0, mm_lds, pd_Kgo, pd_Kend, pd_Kno, pd_Kite, mm_i, mm_ii, mm_r, mm_1, mm_icmp, cond_true, cond_false, mm_o2, mm_c2, wt0, wt1, wt2, wt3, wt4, va_rfs, pd_bkv, pd_bkn, pd_bkif, pd_st1, Nat.reduceAdd, Nat.reduceLeDiff, Bool.or_false, Bool.or_self, if_neg z, rf_60, pd_ca (k := p) (by omega), if_neg h, pd_suc]
      rw [← Nat.add_assoc]
      exact ih (p + 1) (m + 1) (by omega)
theorem ev48 (hd : 1 ≤ d) (hq : pd_qO q) : mm_ev xs Ls pd_ck pd_ak pd_mj d 48 [.ref (6 : Nat)] (pd_st K D (pd_RF q) J n) = some (.inl (some (.int (Int32.ofNat (cn48 (fun k => K (q k) 4) 4 0)))), pd_st K D (pd_RF q) J n) := by
  obtain ⟨d, rfl⟩ : ∃ e, d = e + 1 := ⟨d - 1, by omega⟩
  have hc : pd_cO 3 := Or.inl rfl
  have h := lp48 (xs := xs) (Ls := Ls) (D := D) (J := J) (n := n) (q := q) (d := d) (K := K) (hq := hq) 4 0 0 (by omega)
  rw [Nat.zero_add] at h
  refine pd_ev_of (Nat.le_of_ble_eq_true rfl) ?_; rw [show pd_mj 48 = pd_m48 from rfl, show mm_pad (mm_in [.ref (6 : Nat)]) pd_m48.nL = [some (.ref (6 : Nat)), none, none] from rfl]
  simp only [p48_0, p48_1, p48_2, p48_3, p48_5, p48_6, p48_9, p48_10, p48_13, p48_14, p48_15, p48_18, p48_21, p48_24, p48_27, p48_30, p48_31, gf1_4 hc.sh, gf3_0 sh6, mm_e0, pd_stI, so3_1i, so3_2i, mm_lA, mm_lI, mm_lD, mm_lJ, mm_ld0, mm_lds, pd_Kgo, pd_Kend, pd_Kno, pd_Kite, mm_i, mm_ii, mm_r, mm_1, mm_icmp, cond_true, cond_false, mm_o2, mm_c2, wt0, wt1, wt2, wt3, wt4, va_rfs, pd_bkv, pd_bkn, pd_bkif, pd_st1, Nat.reduceAdd, Nat.reduceLeDiff, Bool.or_false, Bool.or_self]
  exact h
def clV (K : pd_I) (q : Nat → Nat) (i : Nat) : Int32 := match i with
  | 0 => K 0 2
  | 1 => K 1 1
  | 2 => Int32.ofNat (cn48 (fun k => K (q k) 4) 4 0)
  | 3 => K 6 6
  | 4 => K 6 5
  | 5 => K 25 0
  | 6 => K 25 1
  | 7 => K 6 7
  | 8 => K 6 8
  | _ => K 6 9
theorem ev1 {w : Int32} (hd : 2 ≤ d) (hq : pd_qO q) : mm_ev xs Ls pd_ck pd_ak pd_mj d 1 [.ref (0 : Nat), .int w] (pd_st K D (pd_RF q) J n) = some (.inl (some (.int (cnV w (clV K q)))), pd_st K D (pd_RF q) J n) := by
  obtain ⟨d, rfl⟩ : ∃ e, d = e + 1 := ⟨d - 1, by omega⟩
  have i0 := fun pc L r => pd_il (I := K) (D := D) (A := pd_RF q) (J := J) (n := n) (xs := xs) (Ls := Ls) (a := 25) (k := 0) (t := 0) (mm := 2) (pc := pc) (L := L) (r := r) rfl rfl (by omega) (by omega)
  have i1 := fun pc L r => pd_il (I := K) (D := D) (A := pd_RF q) (J := J) (n := n) (xs := xs) (Ls := Ls) (a := 25) (k := 1) (t := 0) (mm := 2) (pc := pc) (L := L) (r := r) rfl rfl (by omega) (by omega)
  rw [show Int32.ofNat 0 = (0 : Int32) from rfl] at i0
  rw [show Int32.ofNat 1 = (1 : Int32) from rfl] at i1
  refine pd_ev_of (Nat.le_of_ble_eq_true rfl) ?_; rw [show pd_mj 1 = pd_m1 from rfl, show mm_pad (mm_in [.ref (0 : Nat), .int w]) pd_m1.nL = [some (.ref (0 : Nat)), some (.int w)] from rfl]
  simp only [p1_0, p1_1, p1_56, p1_57, p1_60, p1_61, p1_62, p1_65, p1_68, p1_69, p1_70, p1_73, p1_76, p1_77, p1_78, p1_81, p1_84, p1_85, p1_86, p1_89, p1_92, p1_93, p1_94, p1_97, p1_100, p1_101, p1_102, p1_103, p1_104, p1_107, p1_110, p1_111, p1_112, p1_113, p1_114, p1_117, p1_120, p1_121, p1_122, p1_125, p1_128, p1_129, p1_130, p1_133, p1_136, p1_137, p1_138, gf0_0 sh0, gf0_1 sh0, gf0_2 sh0, gf2_1 sh1, gf3_3 sh6, gf3_5 sh6, gf3_6 sh6, gf3_7 sh6, gf3_8 sh6, gf3_9 sh6, mm_e0, qi0 sh6, mm_lA, mm_lI, mm_lD, mm_lJ, mm_ld0, mm_lds, pd_Kgo, pd_Kend, pd_Kno, pd_Kite, mm_i, mm_ii, mm_r, mm_1, mm_icmp, cond_true, cond_false, mm_o2, mm_c2, wt0, wt1, wt2, wt3, wt4, va_rfs, pd_bkv, pd_bkn, pd_bkif, pd_st1, Nat.reduceAdd, Nat.reduceLeDiff, Bool.or_false, Bool.or_self, rf_00, rf_01, rf_63, i0, i1, ev48 (d := d) (by omega) hq]
  unfold cnV
  by_cases w0 : w = 0
  · simp [w0, clV]
  · by_cases w1 : w = 1
    · simp [w1, clV]
    · by_cases w2 : w = 2
      · simp [w2, clV]
      · by_cases w3 : w = 3
        · simp [w3, clV]
        · by_cases w4 : w = 4
          · simp [w4, clV]
          · by_cases w5 : w = 5
            · simp [w5, clV]
            · by_cases w6 : w = 6
              · simp [w6, clV]
              · by_cases w7 : w = 7
                · simp [w7, clV]
                · by_cases w8 : w = 8
                  · simp [w8, clV]
                  · by_cases w9 : w = 9
                    · simp [w9, clV]
                    · simp [w0, w1, w2, w3, w4, w5, w6, w7, w8, w9]
end CL10
