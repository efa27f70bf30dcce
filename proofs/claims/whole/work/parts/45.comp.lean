/-! THE CLASS: read and compile -/
/-- the reader's start on a memory -/
def rd0 (I : pd_I) (c : Nat) : pd_P := ⟨(0, false, false, 0, 0, I (c + 1), I (c + 2)), Nat.zero_le _, Nat.zero_le _⟩
/-- what is read of m characters into c: the reader's state at its end -/
def rdP (I : pd_I) (c m : Nat) : pd_P := add (if pA (cB (mm_u I c 4 0) m 5 (rd0 I c)) < m then rfs (cB (mm_u I c 4 0) m 5 (rd0 I c)) else cB (mm_u I c 4 0) m 5 (rd0 I c)) 0 0
/-- the memory then -/
def rdI (I : pd_I) (c m : Nat) : pd_I := mm_u (pd_eP (mm_u I c 4 0) c (rdP I c m)) 1 1 0
section COMP
variable {I : pd_I} {D : pd_D} {A : pd_A} {J : pd_J} {n c m : Nat} {P : pd_P} {xs : Nat → Int32} {Ls d : Nat}
theorem ev13 (hd : 1 ≤ d) (hc : pd_cO c) : mm_ev xs Ls pd_ck pd_ak pd_mj d 13 [.ref c] (pd_st I D A J n) = some (.inl none, pd_st (mm_u (mm_u (mm_u I c 2 0) c 3 0) c 4 0) D A J n) := by
  obtain ⟨d, rfl⟩ : ∃ e, d = e + 1 := ⟨d - 1, by omega⟩
  refine pd_ev_of (Nat.le_of_ble_eq_true rfl) ?_
  rw [show pd_mj 13 = pd_m13 from rfl, show mm_pad (mm_in [.ref c]) pd_m13.nL = [some (.ref c)] from rfl]
  simp only [p13_0, p13_1, p13_2, p13_5, p13_6, p13_7, p13_10, p13_11, p13_12, p13_15, mm_rV, pf1_2 hc.sh, pf1_3 hc.sh, pf1_4 hc.sh, mm_lA, mm_lI, mm_lD, mm_lJ, mm_ld0, mm_lds, pd_Kgo, pd_Kend, pd_Kno, pd_Kite, mm_i, mm_ii, mm_r, mm_1, mm_icmp, cond_true, cond_false, mm_o2, mm_c2, wt0, wt1, wt2, wt3, wt4, va_rfs, pd_bkv, pd_bkn, pd_bkif, pd_st1, Nat.reduceAdd, Nat.reduceLeDiff, Bool.or_false, Bool.or_self, true_or]
theorem rd_start (hc : pd_cO c) : mm_u (mm_u (mm_u (mm_u (mm_u (mm_u I c 2 0) c 3 0) c 4 0) 1 3 0) 1 4 0) 1 5 0 = pd_eP (mm_u I c 4 0) c (rd0 I c) := by
  have hn := hc.ne
  have h1 : ¬ (1 = c) := fun h => hn.1 h.symm
  funext a k
  by_cases ha : a = 1
  · subst ha
    by_cases k5 : k = 5
    · subst k5; rfl
    · by_cases k4 : k = 4
      · subst k4; rfl
      · by_cases k3 : k = 3
        · subst k3; rfl
        · simp [mm_u, pd_eP, k5, k4, k3, h1]
  · by_cases hac : a = c
    · subst hac
      by_cases k2 : k = 2
      · subst k2; simp [mm_u, pd_eP, hn.1]; rfl
      · by_cases k3 : k = 3
        · subst k3; simp [mm_u, pd_eP, hn.1]; rfl
        · simp [mm_u, pd_eP, hn.1, k2, k3]
    · by_cases a1 : a = c + 1
      · subst a1; simp [mm_u, pd_eP, hn.2.1]; rfl
      · by_cases a2 : a = c + 2
        · subst a2; simp [mm_u, pd_eP]; rfl
        · simp [mm_u, pd_eP, ha, hac, a1, a2]
theorem pd_H.clr (H : pd_H I A c m) : pd_H (mm_u I c 4 0) A c m := by
  obtain ⟨hc, a10, a12, ac0, ac1, h11, hm, hch⟩ := H
  have hn := hc.ne
  have h2 : 2 ≠ c := by rcases hc with rfl | rfl | rfl | rfl | rfl <;> decide
  exact ⟨hc, a10, a12, ac0, ac1, by rw [mm_u_a (fun h => hn.1 h.symm)]; exact h11, hm, fun k hk => by rw [mm_u_a h2]; exact hch k hk⟩
theorem hc_ne (H : pd_H I A c m) : 1 ≠ c := fun h => H.1.ne.1 h.symm
theorem ev22 (hd : 50 ≤ d) (H : pd_H I A c m) : mm_ev xs Ls pd_ck pd_ak pd_mj d 22 [.ref (1 : Nat)] (pd_st I D A J n) = some (if pR (rdP I c m) = true then (.inl (some (.int (Int32.ofNat (pA (rdP I c m))))), pd_st (rdI I c m) D A J n) else if pW (rdP I c m) = true then (.inl (some (.int (Int32.ofNat m))), pd_st (rdI I c m) D A J n) else (.inl (some (.int (-1))), pd_st (mm_u (rdI I c m) c 4 1) D A J n)) := by
  obtain ⟨d, rfl⟩ : ∃ e, d = e + 1 := ⟨d - 1, by omega⟩
  have H9 := H.clr
  have hb : ∀ P, mm_ev xs Ls pd_ck pd_ak pd_mj d 23 [.ref (1 : Nat), .int 0] (pd_st (pd_eP (mm_u I c 4 0) c P) D A J n) = some (.inl none, pd_st (pd_eP (mm_u I c 4 0) c (cB (mm_u I c 4 0) m 5 P)) D A J n) := fun P => ev23c H9 5 (by omega) d P (by omega)
  have h11' := H9.2.2.2.2.2.1
  have hn0 := hc_ne H
  have hA0 := pA_le (cB (mm_u I c 4 0) m 5 (rd0 I c))
  obtain ⟨hc, a10, a12, ac0, ac1, h11, hm, hch⟩ := id H
  refine pd_ev_of (Nat.le_of_ble_eq_true rfl) ?_
  rw [show pd_mj 22 = pd_m22 from rfl, show mm_pad (mm_in [.ref (1 : Nat)]) pd_m22.nL = [some (.ref (1 : Nat)), none] from rfl]
  simp only [p22_0, p22_1, p22_4, p22_7, p22_8, p22_9, p22_12, p22_13, p22_14, p22_17, p22_18, p22_19, p22_22, p22_23, p22_24, p22_27, p22_28, p22_31, p22_32, p22_35, p22_38, p22_39, p22_40, p22_43, p22_44, p22_47, p22_48, p22_49, p22_52, p22_53, p22_54, p22_57, p22_58, p22_59, p22_60, p22_63, p22_64, p22_67, p22_70, p22_71, p22_74, p22_75, p22_76, p22_79, p22_82, p22_83, p22_84, p22_85, p22_88, p22_89, p22_92, p22_93, gf2_1 sh1, gf2_2 sh1, gf2_3 sh1, gf2_4 sh1, gf2_5 sh1, mm_e0, pf1_4 hc.sh, pf2_1 sh1, pf2_3 sh1, pf2_4 sh1, pf2_5 sh1, qi0 hc.sh, qi1 sh1, qi2 hc.sh, so2_1i, mm_lA, mm_lI, mm_lD, mm_lJ, mm_ld0, mm_lds, pd_Kgo, pd_Kend, pd_Kno, pd_Kite, mm_i, mm_ii, mm_r, mm_1, mm_icmp, cond_true, cond_false, mm_o2, mm_c2, wt0, wt1, wt2, wt3, wt4, va_rfs, pd_bkv, pd_bkn, pd_bkif, pd_st1, Nat.reduceAdd, Nat.reduceLeDiff, Bool.or_false, Bool.or_self, a12, ev13 (d := d) (by omega) hc, true_or, or_true, rd_start hc, hb, eP_13, eP_11, h11', pd_le (x := m) (y := pA (cB (mm_u I c 4 0) m 5 (rd0 I c))) (by omega) (by omega), eP_rf]
  by_cases hl : m ≤ pA (cB (mm_u I c 4 0) m 5 (rd0 I c))
  · have e1 : rdP I c m = add (cB (mm_u I c 4 0) m 5 (rd0 I c)) 0 0 := by unfold rdP; rw [if_neg (by omega)]
    simp only [if_pos hl]
    generalize hX : cB (mm_u I c 4 0) m 5 (rd0 I c) = X at *
    simp only [p22_0, p22_1, p22_4, p22_7, p22_8, p22_9, p22_12, p22_13, p22_14, p22_17, p22_18, p22_19, p22_22, p22_23, p22_24, p22_27, p22_28, p22_31, p22_32, p22_35, p22_38, p22_39, p22_40, p22_43, p22_44, p22_47, p22_48, p22_49, p22_52, p22_53, p22_54, p22_57, p22_58, p22_59, p22_60, p22_63, p22_64, p22_67, p22_70, p22_71, p22_74, p22_75, p22_76, p22_79, p22_82, p22_83, p22_84, p22_85, p22_88, p22_89, p22_92, p22_93, gf2_1 sh1, gf2_2 sh1, gf2_3 sh1, gf2_4 sh1, gf2_5 sh1, mm_e0, pf1_4 hc.sh, pf2_1 sh1, pf2_3 sh1, pf2_4 sh1, pf2_5 sh1, qi0 hc.sh, qi1 sh1, qi2 hc.sh, so2_1i, mm_lA, mm_lI, mm_lD, mm_lJ, mm_ld0, mm_lds, pd_Kgo, pd_Kend, pd_Kno, pd_Kite, mm_i, mm_ii, mm_r, mm_1, mm_icmp, cond_true, cond_false, mm_o2, mm_c2, wt0, wt1, wt2, wt3, wt4, va_rfs, pd_bkv, pd_bkn, pd_bkif, pd_st1, Nat.reduceAdd, Nat.reduceLeDiff, Bool.or_false, Bool.or_self, a12, ev14 (d := d) (by omega) H9, eP_11, h11', ← e1, mm_u_k (show (4 : Nat) ≠ 1 by decide), mm_u_k (show (5 : Nat) ≠ 1 by decide), mm_u_k (show (3 : Nat) ≠ 1 by decide), eP_14, eP_15, eP_13, pd_b0, or_true, mm_u_a (show (1 : Nat) ≠ c from hn0)]
    unfold rdI
    cases h1 : pR (rdP I c m)
    · cases h2 : pW (rdP I c m) <;> simp
    · simp
  · have e1 : rdP I c m = add (rfs (cB (mm_u I c 4 0) m 5 (rd0 I c))) 0 0 := by unfold rdP; rw [if_pos (by omega)]
    simp only [if_neg hl]
    generalize hX : cB (mm_u I c 4 0) m 5 (rd0 I c) = X at *
    simp only [p22_0, p22_1, p22_4, p22_7, p22_8, p22_9, p22_12, p22_13, p22_14, p22_17, p22_18, p22_19, p22_22, p22_23, p22_24, p22_27, p22_28, p22_31, p22_32, p22_35, p22_38, p22_39, p22_40, p22_43, p22_44, p22_47, p22_48, p22_49, p22_52, p22_53, p22_54, p22_57, p22_58, p22_59, p22_60, p22_63, p22_64, p22_67, p22_70, p22_71, p22_74, p22_75, p22_76, p22_79, p22_82, p22_83, p22_84, p22_85, p22_88, p22_89, p22_92, p22_93, gf2_1 sh1, gf2_2 sh1, gf2_3 sh1, gf2_4 sh1, gf2_5 sh1, mm_e0, pf1_4 hc.sh, pf2_1 sh1, pf2_3 sh1, pf2_4 sh1, pf2_5 sh1, qi0 hc.sh, qi1 sh1, qi2 hc.sh, so2_1i, mm_lA, mm_lI, mm_lD, mm_lJ, mm_ld0, mm_lds, pd_Kgo, pd_Kend, pd_Kno, pd_Kite, mm_i, mm_ii, mm_r, mm_1, mm_icmp, cond_true, cond_false, mm_o2, mm_c2, wt0, wt1, wt2, wt3, wt4, va_rfs, pd_bkv, pd_bkn, pd_bkif, pd_st1, Nat.reduceAdd, Nat.reduceLeDiff, Bool.or_false, Bool.or_self, a12, ev14 (d := d) (by omega) H9, eP_11, h11', ← e1, mm_u_k (show (4 : Nat) ≠ 1 by decide), mm_u_k (show (5 : Nat) ≠ 1 by decide), mm_u_k (show (3 : Nat) ≠ 1 by decide), eP_14, eP_15, eP_13, pd_b0, or_true, mm_u_a (show (1 : Nat) ≠ c from hn0)]
    unfold rdI
    cases h1 : pR (rdP I c m)
    · cases h2 : pW (rdP I c m) <;> simp
    · simp
end COMP
/-! the references -/
def pd_RFl : List (Nat × Nat × Nat) := [(0, 0, 1), (0, 1, 6), (1, 0, 2), (6, 0, 7), (6, 1, 20), (6, 2, 23), (6, 3, 25), (6, 4, 26), (6, 10, 27), (3, 0, 4), (3, 1, 5), (8, 0, 9), (8, 1, 10), (11, 0, 12), (11, 1, 13), (14, 0, 15), (14, 1, 16), (17, 0, 18), (17, 1, 19), (20, 0, 21), (20, 1, 22), (23, 0, 24), (27, 0, 28), (27, 1, 31), (27, 2, 34), (27, 3, 37), (27, 4, 40), (28, 9, 29), (28, 10, 30), (31, 9, 32), (31, 10, 33), (34, 9, 35), (34, 10, 36), (37, 9, 38), (37, 10, 39), (40, 9, 41), (40, 10, 42), (43, 0, 44), (43, 1, 45), (43, 2, 46), (43, 3, 47), (43, 4, 48), (43, 5, 49), (43, 6, 50), (43, 7, 51), (43, 17, 52), (43, 20, 53), (43, 21, 54), (43, 22, 55), (43, 23, 56), (43, 24, 57), (43, 25, 58), (43, 26, 59), (43, 27, 60), (43, 28, 61), (43, 29, 62), (43, 30, 63), (43, 31, 64), (43, 32, 65)]
def pd_R0 (l : List (Nat × Nat × Nat)) (a k : Nat) : Option Nat := match l with
  | [] => none
  | q :: r => cond (Nat.beq q.1 a && Nat.beq q.2.1 k) (some q.2.2) (pd_R0 r a k)
/-- the references: q k is procedure k's code, q 4 the reader's -/
def pd_RF (q : Nat → Nat) : pd_A := fun a k => if a = 1 ∧ k = 2 then some (q 4) else if a = 7 ∧ k < 4 then some (q k) else pd_R0 pd_RFl a k
/-- the five codes, each once -/
def pd_qO (q : Nat → Nat) : Prop := (∀ k, k < 5 → pd_cO (q k)) ∧ ∀ i j, i < 5 → j < 5 → q i = q j → i = j
section REF
variable {q : Nat → Nat} {c : Nat}
theorem rf_00 : pd_RF q 0 0 = some 1 := rfl
theorem rf_01 : pd_RF q 0 1 = some 6 := rfl
theorem rf_10 : pd_RF q 1 0 = some 2 := rfl
theorem rf_12 : pd_RF q 1 2 = some (q 4) := rfl
theorem rf_60 : pd_RF q 6 0 = some 7 := rfl
theorem rf_61 : pd_RF q 6 1 = some 20 := rfl
theorem rf_62 : pd_RF q 6 2 = some 23 := rfl
theorem rf_63 : pd_RF q 6 3 = some 25 := rfl
theorem rf_64 : pd_RF q 6 4 = some 26 := rfl
theorem rf_6a : pd_RF q 6 10 = some 27 := rfl
theorem rf_7 {k : Nat} (h : k < 4) : pd_RF q 7 k = some (q k) := by
  unfold pd_RF
  rw [if_neg (by intro h; exact absurd h.1 (by decide)), if_pos ⟨rfl, h⟩]
theorem rf_c0 (h : pd_cO c) : pd_RF q c 0 = some (c + 1) := by rcases h with rfl | rfl | rfl | rfl | rfl <;> rfl
theorem rf_c1 (h : pd_cO c) : pd_RF q c 1 = some (c + 2) := by rcases h with rfl | rfl | rfl | rfl | rfl <;> rfl
theorem rf_200 : pd_RF q 20 0 = some 21 := rfl
theorem rf_201 : pd_RF q 20 1 = some 22 := rfl
theorem rf_230 : pd_RF q 23 0 = some 24 := rfl
theorem rf_up4 {x : Nat} : mm_u (pd_RF q) 1 2 (some x) = pd_RF (pd_up q 4 x) := by
  funext a k
  by_cases h : a = 1 ∧ k = 2
  · obtain ⟨rfl, rfl⟩ := h; rfl
  · unfold pd_RF
    rw [if_neg h]
    unfold mm_u
    by_cases ha : a = 1
    · subst ha
      have hk : k ≠ 2 := fun h2 => h ⟨rfl, h2⟩
      rw [if_pos rfl, if_neg hk]
      show (if 1 = 1 ∧ k = 2 then some (q 4) else if 1 = 7 ∧ k < 4 then some (q k) else pd_R0 pd_RFl 1 k) = _
      rw [if_neg h]
      simp
    · rw [if_neg ha]
      show (if a = 1 ∧ k = 2 then some (q 4) else if a = 7 ∧ k < 4 then some (q k) else pd_R0 pd_RFl a k) = _
      rw [if_neg h]
      by_cases h7 : a = 7 ∧ k < 4
      · rw [if_pos h7, if_pos h7]
        unfold pd_up
        rw [if_neg (by omega)]
      · rw [if_neg h7, if_neg h7]
theorem rf_upk {j x : Nat} (hj : j < 4) : mm_u (pd_RF q) 7 j (some x) = pd_RF (pd_up q j x) := by
  funext a k
  by_cases h : a = 1 ∧ k = 2
  · obtain ⟨rfl, rfl⟩ := h
    show some (q 4) = some (pd_up q j x 4)
    unfold pd_up
    rw [if_neg (by omega)]
  · unfold pd_RF
    rw [if_neg h]
    unfold mm_u
    by_cases ha : a = 7
    · subst ha
      by_cases hk : k = j
      · subst hk
        rw [if_pos rfl, if_pos rfl, if_pos ⟨rfl, hj⟩]
        unfold pd_up
        rw [if_pos rfl]
      · rw [if_pos rfl, if_neg hk]
        show (if 7 = 1 ∧ k = 2 then some (q 4) else if 7 = 7 ∧ k < 4 then some (q k) else pd_R0 pd_RFl 7 k) = _
        rw [if_neg h]
        by_cases h4 : k < 4
        · rw [if_pos ⟨rfl, h4⟩, if_pos ⟨rfl, h4⟩]
          unfold pd_up
          rw [if_neg hk]
        · rw [if_neg (fun h => h4 h.2), if_neg (fun h => h4 h.2)]
    · rw [if_neg ha]
      show (if a = 1 ∧ k = 2 then some (q 4) else if a = 7 ∧ k < 4 then some (q k) else pd_R0 pd_RFl a k) = _
      rw [if_neg h, if_neg (fun h => ha h.1), if_neg (fun h => ha h.1)]
end REF
section COMP2
variable {I : pd_I} {D : pd_D} {J : pd_J} {n c m : Nat} {P : pd_P} {xs : Nat → Int32} {Ls d : Nat} {q : Nat → Nat}
/-- isProcedure -/
def isPr (k : Int32) : Bool := if k < 0 then false else if 4 ≤ k then false else true
theorem ev5 {k : Int32} {S : mm_St} (hd : 1 ≤ d) : mm_ev xs Ls pd_ck pd_ak pd_mj d 5 [.int k] S = some (.inl (some (.int (pd_b (isPr k)))), S) := by
  obtain ⟨d, rfl⟩ : ∃ e, d = e + 1 := ⟨d - 1, by omega⟩
  refine pd_ev_of (Nat.le_of_ble_eq_true rfl) ?_
  rw [show pd_mj 5 = pd_m5 from rfl, show mm_pad (mm_in [.int k]) pd_m5.nL = [some (.int k)] from rfl]
  simp only [p5_0, p5_1, p5_4, p5_5, p5_6, p5_9, p5_10, p5_13, p5_14, mm_e4, mm_lA, mm_lI, mm_lD, mm_lJ, mm_ld0, mm_lds, pd_Kgo, pd_Kend, pd_Kno, pd_Kite, mm_i, mm_ii, mm_r, mm_1, mm_icmp, cond_true, cond_false, mm_o2, mm_c2, wt0, wt1, wt2, wt3, wt4, va_rfs, pd_bkv, pd_bkn, pd_bkif, pd_st1, Nat.reduceAdd, Nat.reduceLeDiff, Bool.or_false, Bool.or_self, or_true, true_or]
  unfold isPr
  by_cases h1 : k < 0
  · simp [h1, pd_b]
  · by_cases h2 : 4 ≤ k <;> simp [h1, h2, pd_b]
theorem isPr_nat {k : Int32} (h : isPr k = true) : ∃ j : Nat, j < 4 ∧ k = Int32.ofNat j := by
  unfold isPr at h
  split at h
  · cases h
  · next h1 =>
    split at h
    · cases h
    · next h2 =>
      have e1 : (0 : Int32).toInt = 0 := by decide
      have e2 : (4 : Int32).toInt = 4 := by decide
      rw [Int32.lt_iff_toInt_lt, e1] at h1
      rw [Int32.le_iff_toInt_le, e2] at h2
      refine ⟨k.toInt.toNat, by omega, ?_⟩
      apply Int32.toInt_inj.mp
      rw [Int32.toInt_ofNat_of_lt (by omega)]
      omega
theorem pd_aa {a k mm t : Nat} {A : pd_A} {pc : Nat} {L : mm_L} {r : List Value} (h1 : pd_SH[a]? = some (.inr (t, mm))) (ht : mm_ty (pd_ak t) = 5) (hk : k < mm) (hm : mm ≤ 1000) : (mm_ai pd_ak (pd_st I D A J n) (.int (Int32.ofNat k) :: .ref a :: r) 5 fun i a r => mm_go pc L (va_rf ((pd_st I D A J n).2.1.2.2.1 a i.toNatClampNeg) :: r) (pd_st I D A J n)) = mm_go pc L (va_rf (A a k) :: r) (pd_st I D A J n) := by
  rw [pd_ai (ty := 5) h1 ht hk hm, pd_nn (by omega)]
  rfl
theorem pd_as {a k mm x ci : Nat} {A : pd_A} {f : Nat → Int32 → Nat → List Value → mm_N} {r : List Value} (h1 : pd_SH[a]? = some (.inr (10 + ci, mm))) (h2 : pd_SH[x]? = some (.inl ci)) (ht : mm_ty (pd_ak (10 + ci)) = 5) (hk : k < mm) (hm : mm ≤ 1000) : mm_aas pd_ak (pd_st I D A J n) (.ref x :: .int (Int32.ofNat k) :: .ref a :: r) f = f x (Int32.ofNat k) a r := by
  unfold mm_aas
  simp only [pd_st1, h1, h2]
  rw [show (Nat.beq (10 + ci) (10 + ci) && Nat.beq (mm_ty (pd_ak (10 + ci))) 5) = true by rw [ht]; simp]
  unfold mm_ix
  have e2 : ¬ (Int32.ofNat k < 0) := by
    rw [Int32.lt_iff_toInt_lt, Int32.toInt_ofNat_of_lt (by omega)]
    simp
  simp only [cond_true, pd_nn (k := k) (by omega)]
  rw [if_neg (by intro h9; rcases h9 with h9 | h9; exact e2 h9; omega)]
theorem ev49 {k : Nat} (hd : 1 ≤ d) (hk : k < 4) (hc : pd_cO c) : mm_ev xs Ls pd_ck pd_ak pd_mj d 49 [.ref (6 : Nat), .int (Int32.ofNat k), .ref c] (pd_st I D (pd_RF q) J n) = some (.inl (some (.ref (q k))), pd_st I D (pd_RF (pd_up q k c)) J n) := by
  obtain ⟨d, rfl⟩ : ∃ e, d = e + 1 := ⟨d - 1, by omega⟩
  refine pd_ev_of (Nat.le_of_ble_eq_true rfl) ?_
  rw [show pd_mj 49 = pd_m49 from rfl, show mm_pad (mm_in [.ref (6 : Nat), .int (Int32.ofNat k), .ref c]) pd_m49.nL = [some (.ref (6 : Nat)), some (.int (Int32.ofNat k)), some (.ref c), none] from rfl]
  simp only [p49_0, p49_1, p49_4, p49_5, p49_6, p49_7, p49_8, p49_11, p49_12, p49_13, p49_14, p49_15, gf3_0 sh6, mm_rA, pd_stI, so4_3r, mm_lA, mm_lI, mm_lD, mm_lJ, mm_ld0, mm_lds, pd_Kgo, pd_Kend, pd_Kno, pd_Kite, mm_i, mm_ii, mm_r, mm_1, mm_icmp, cond_true, cond_false, mm_o2, mm_c2, wt0, wt1, wt2, wt3, wt4, va_rfs, pd_bkv, pd_bkn, pd_bkif, pd_st1, Nat.reduceAdd, Nat.reduceLeDiff, Bool.or_false, Bool.or_self, rf_60, pd_aa (a := 7) (t := 11) (mm := 4) rfl rfl hk (by omega), rf_7 hk, pd_as (a := 7) (ci := 1) (mm := 4) (x := c) rfl hc.sh rfl hk (by omega), pd_nn (k := k) (by omega), pd_sR, rf_upk hk]
theorem pd_H.of (hq : pd_cO (q 4)) (h1 : I 1 1 = Int32.ofNat m) (hm : m ≤ 48) (hch : ∀ k, k < m → pd_chr (I 2 k)) : pd_H I (pd_RF q) (q 4) m := ⟨hq, rfl, rfl, rf_c0 hq, rf_c1 hq, h1, hm, hch⟩
theorem neg_ofNat {x : Nat} (hx : x ≤ 1000) : (Int32.ofNat x < 0) = False := pd_ge0 hx
/-- compile -/
theorem ev4 {k : Int32} (hd : 60 ≤ d) (hq : pd_qO q) (h1 : I 1 1 = Int32.ofNat m) (hm : m ≤ 48) (hch : ∀ k, k < m → pd_chr (I 2 k)) : mm_ev xs Ls pd_ck pd_ak pd_mj d 4 [.ref (0 : Nat), .int k] (pd_st I D (pd_RF q) J n) = some (if isPr k = false then (.inr 0, pd_st I D (pd_RF q) J (n + 1))
    else if pR (rdP I (q 4) m) = true then (.inr 0, pd_st (mm_u (rdI I (q 4) m) 0 2 (Int32.ofNat (pA (rdP I (q 4) m)))) D (pd_RF q) J (n + 1))
    else if pW (rdP I (q 4) m) = true then (.inr 0, pd_st (mm_u (rdI I (q 4) m) 0 2 (Int32.ofNat m)) D (pd_RF q) J (n + 1))
    else (.inl (some (.int (pS (rdP I (q 4) m)))), pd_st (mm_u (rdI I (q 4) m) (q 4) 4 1) D (pd_RF (pd_up (pd_up q k.toNatClampNeg (q 4)) 4 (q k.toNatClampNeg))) J n)) := by
  obtain ⟨d, rfl⟩ : ∃ e, d = e + 1 := ⟨d - 1, by omega⟩
  have hc := hq.1 4 (by omega)
  have H := pd_H.of (q := q) (I := I) hc h1 hm hch
  have hA := pA_le (rdP I (q 4) m)
  refine pd_ev_of (Nat.le_of_ble_eq_true rfl) ?_
  rw [show pd_mj 4 = pd_m4 from rfl, show mm_pad (mm_in [.ref (0 : Nat), .int k]) pd_m4.nL = [some (.ref (0 : Nat)), some (.int k), none] from rfl]
  simp only [p4_0, p4_1, p4_4, p4_7, p4_17, p4_18, p4_21, p4_24, p4_25, p4_26, p4_29, p4_30, p4_31, p4_34, p4_44, p4_45, p4_48, p4_49, p4_52, p4_53, p4_54, p4_57, p4_60, p4_63, p4_66, p4_67, p4_70, p4_73, p4_74, p4_75, p4_78, gf0_0 sh0, gf0_1 sh0, gf1_3 hc.sh, gf2_2 sh1, gf3_0 sh6, mm_e0, pd_KinS1, pd_stI, pf0_2 sh0, pf2_2 sh1, qi0 sh1, qi2 sh6, so3_2i, mm_lA, mm_lI, mm_lD, mm_lJ, mm_ld0, mm_lds, pd_Kgo, pd_Kend, pd_Kno, pd_Kite, mm_i, mm_ii, mm_r, mm_1, mm_icmp, cond_true, cond_false, mm_o2, mm_c2, wt0, wt1, wt2, wt3, wt4, va_rfs, pd_bkv, pd_bkn, pd_bkif, pd_st1, Nat.reduceAdd, Nat.reduceLeDiff, Bool.or_false, Bool.or_self, ev5 (d := d) (by omega), pd_b0]
  cases hk : isPr k
  · simp only [if_true, wt0, cond_true, show Nat.ble (mm_wt []) 8 = true from rfl, pd_Kend]
    rfl
  · obtain ⟨j, hj, rfl⟩ := isPr_nat hk
    rw [pd_nn (by omega)]
    simp only [Bool.true_eq_false, if_false]
    simp only [p4_0, p4_1, p4_4, p4_7, p4_17, p4_18, p4_21, p4_24, p4_25, p4_26, p4_29, p4_30, p4_31, p4_34, p4_44, p4_45, p4_48, p4_49, p4_52, p4_53, p4_54, p4_57, p4_60, p4_63, p4_66, p4_67, p4_70, p4_73, p4_74, p4_75, p4_78, gf0_0 sh0, gf0_1 sh0, gf1_3 hc.sh, gf2_2 sh1, gf3_0 sh6, mm_e0, pd_KinS1, pd_stI, pf0_2 sh0, pf2_2 sh1, qi0 sh1, qi2 sh6, so3_2i, mm_lA, mm_lI, mm_lD, mm_lJ, mm_ld0, mm_lds, pd_Kgo, pd_Kend, pd_Kno, pd_Kite, mm_i, mm_ii, mm_r, mm_1, mm_icmp, cond_true, cond_false, mm_o2, mm_c2, wt0, wt1, wt2, wt3, wt4, va_rfs, pd_bkv, pd_bkn, pd_bkif, pd_st1, Nat.reduceAdd, Nat.reduceLeDiff, Bool.or_false, Bool.or_self, rf_00, rf_01, ev22 (d := d) (by omega) H]
    cases h1 : pR (rdP I (q 4) m)
    · cases h2 : pW (rdP I (q 4) m)
      · simp only [Bool.false_eq_true, if_false]
        simp only [p4_0, p4_1, p4_4, p4_7, p4_17, p4_18, p4_21, p4_24, p4_25, p4_26, p4_29, p4_30, p4_31, p4_34, p4_44, p4_45, p4_48, p4_49, p4_52, p4_53, p4_54, p4_57, p4_60, p4_63, p4_66, p4_67, p4_70, p4_73, p4_74, p4_75, p4_78, gf0_0 sh0, gf0_1 sh0, gf1_3 hc.sh, gf2_2 sh1, gf3_0 sh6, mm_e0, pd_KinS1, pd_stI, pf0_2 sh0, pf2_2 sh1, qi0 sh1, qi2 sh6, so3_2i, mm_lA, mm_lI, mm_lD, mm_lJ, mm_ld0, mm_lds, pd_Kgo, pd_Kend, pd_Kno, pd_Kite, mm_i, mm_ii, mm_r, mm_1, mm_icmp, cond_true, cond_false, mm_o2, mm_c2, wt0, wt1, wt2, wt3, wt4, va_rfs, pd_bkv, pd_bkn, pd_bkif, pd_st1, Nat.reduceAdd, Nat.reduceLeDiff, Bool.or_false, Bool.or_self, rf_00, rf_01, show ((-1 : Int32) < 0) = True from eq_true (by decide), if_true, rf_12, ev49 (d := d) (by omega) hj hc, rf_up4, rf_60, pd_aa (a := 7) (t := 11) (mm := 4) rfl rfl hj (by omega), rf_7 hj]
        have e9 : pd_up (pd_up q j (q 4)) 4 (q j) j = q 4 := by unfold pd_up; rw [if_neg (by omega), if_pos rfl]
        have e8 : mm_u (rdI I (q 4) m) (q 4) 4 1 (q 4) 3 = pS (rdP I (q 4) m) := by
          rw [mm_u_k (by decide)]
          unfold rdI
          rw [mm_u_a hc.ne.1, eP_c3 hc]
        simp only [p4_0, p4_1, p4_4, p4_7, p4_17, p4_18, p4_21, p4_24, p4_25, p4_26, p4_29, p4_30, p4_31, p4_34, p4_44, p4_45, p4_48, p4_49, p4_52, p4_53, p4_54, p4_57, p4_60, p4_63, p4_66, p4_67, p4_70, p4_73, p4_74, p4_75, p4_78, gf0_0 sh0, gf0_1 sh0, gf1_3 hc.sh, gf2_2 sh1, gf3_0 sh6, mm_e0, pd_KinS1, pd_stI, pf0_2 sh0, pf2_2 sh1, qi0 sh1, qi2 sh6, so3_2i, mm_lA, mm_lI, mm_lD, mm_lJ, mm_ld0, mm_lds, pd_Kgo, pd_Kend, pd_Kno, pd_Kite, mm_i, mm_ii, mm_r, mm_1, mm_icmp, cond_true, cond_false, mm_o2, mm_c2, wt0, wt1, wt2, wt3, wt4, va_rfs, pd_bkv, pd_bkn, pd_bkif, pd_st1, Nat.reduceAdd, Nat.reduceLeDiff, Bool.or_false, Bool.or_self, e9, e8]
      · simp only [Bool.false_eq_true, if_false, if_true]
        simp only [p4_0, p4_1, p4_4, p4_7, p4_17, p4_18, p4_21, p4_24, p4_25, p4_26, p4_29, p4_30, p4_31, p4_34, p4_44, p4_45, p4_48, p4_49, p4_52, p4_53, p4_54, p4_57, p4_60, p4_63, p4_66, p4_67, p4_70, p4_73, p4_74, p4_75, p4_78, gf0_0 sh0, gf0_1 sh0, gf1_3 hc.sh, gf2_2 sh1, gf3_0 sh6, mm_e0, pd_KinS1, pd_stI, pf0_2 sh0, pf2_2 sh1, qi0 sh1, qi2 sh6, so3_2i, mm_lA, mm_lI, mm_lD, mm_lJ, mm_ld0, mm_lds, pd_Kgo, pd_Kend, pd_Kno, pd_Kite, mm_i, mm_ii, mm_r, mm_1, mm_icmp, cond_true, cond_false, mm_o2, mm_c2, wt0, wt1, wt2, wt3, wt4, va_rfs, pd_bkv, pd_bkn, pd_bkif, pd_st1, Nat.reduceAdd, Nat.reduceLeDiff, Bool.or_false, Bool.or_self, rf_00, rf_01, neg_ofNat (x := m) (by omega), if_false, show Nat.ble (mm_wt []) 8 = true from rfl]
        rfl
    · simp only [if_true]
      simp only [p4_0, p4_1, p4_4, p4_7, p4_17, p4_18, p4_21, p4_24, p4_25, p4_26, p4_29, p4_30, p4_31, p4_34, p4_44, p4_45, p4_48, p4_49, p4_52, p4_53, p4_54, p4_57, p4_60, p4_63, p4_66, p4_67, p4_70, p4_73, p4_74, p4_75, p4_78, gf0_0 sh0, gf0_1 sh0, gf1_3 hc.sh, gf2_2 sh1, gf3_0 sh6, mm_e0, pd_KinS1, pd_stI, pf0_2 sh0, pf2_2 sh1, qi0 sh1, qi2 sh6, so3_2i, mm_lA, mm_lI, mm_lD, mm_lJ, mm_ld0, mm_lds, pd_Kgo, pd_Kend, pd_Kno, pd_Kite, mm_i, mm_ii, mm_r, mm_1, mm_icmp, cond_true, cond_false, mm_o2, mm_c2, wt0, wt1, wt2, wt3, wt4, va_rfs, pd_bkv, pd_bkn, pd_bkif, pd_st1, Nat.reduceAdd, Nat.reduceLeDiff, Bool.or_false, Bool.or_self, rf_00, rf_01, neg_ofNat (x := pA (rdP I (q 4) m)) (by omega), if_false, show Nat.ble (mm_wt []) 8 = true from rfl]
      rfl
end COMP2
