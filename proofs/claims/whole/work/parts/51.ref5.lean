/-! THE REFERENCE: read and compile -/
def q0 (I : pd_I) : pq := (0, 0, 0, 0, I 43 13, 0, false, I 49, I 50, I 51, I 45, I 46, I 47)
/-- one place copied, and all -/
def cp1 (k i : Nat) (I : pd_I) : pd_I :=
  mm_u (mm_u (mm_u I 45 (k * 128 + i) (I 45 (512 + i))) 46 (k * 128 + i) (I 46 (512 + i))) 47 (k * 128 + i) (I 47 (512 + i))
def cpL (k : Nat) : Nat → Nat → pd_I → pd_I
  | 0, _, I => I
  | f + 1, i, I => cpL k f (i + 1) (cp1 k i I)
/-- the memory after compile, of the reading's outcome and last state -/
def cpI (I : pd_I) (k m : Nat) (Qf : pq) : Nat ⊕ pq → Int32 × pd_I
  | .inl p => (0, mm_u (mm_u (mm_u (eQ I Qf) 43 8 0) 43 9 (Int32.ofNat p)) 43 39 1)
  | .inr Q => if qm Q = true then (0, mm_u (mm_u (mm_u (eQ I Qf) 43 8 0) 43 9 (Int32.ofNat m)) 43 39 1)
    else (qn Qf, mm_u (cpL k (qs Qf) 0 (mm_u (eQ I Qf) 43 8 0)) 48 k 1)
section REF5
variable {I0 I : pd_I} {D : pd_D} {A : pd_A} {J : pd_J} {n : Nat} {Q Q' : pq} {xs : Nat → Int32} {Ls d : Nat} {q : Nat → Nat} {pc m i : Nat} {L : mm_L} {r : List Value} {s c nx : Int32} {o : mm_O}
theorem q0_eq : mm_u (mm_u (mm_u (mm_u (mm_u (mm_u I 43 10 0) 43 11 0) 43 12 0) 43 14 0) 43 15 0) 43 16 0 = eQ I (q0 I) := by
  funext a k
  unfold eQ
  by_cases ha : a = 43
  · subst ha
    rw [if_pos rfl]
    by_cases k1 : k = 10
    · subst k1; rfl
    · by_cases k2 : k = 11
      · subst k2; rfl
      · by_cases k3 : k = 12
        · subst k3; rfl
        · by_cases k4 : k = 14
          · subst k4; rfl
          · by_cases k5 : k = 15
            · subst k5; rfl
            · by_cases k6 : k = 16
              · subst k6; rfl
              · by_cases k7 : k = 13
                · subst k7; rfl
                · simp [mm_u, k1, k2, k3, k4, k5, k6, k7]
  · rw [if_neg ha]
    have e : mm_u (mm_u (mm_u (mm_u (mm_u (mm_u I 43 10 0) 43 11 0) 43 12 0) 43 14 0) 43 15 0) 43 16 0 a k = I a k := by simp [mm_u, ha]
    rw [e]
    by_cases h1 : a = 49
    · subst h1; rfl
    · by_cases h2 : a = 50
      · subst h2; rfl
      · by_cases h3 : a = 51
        · subst h3; rfl
        · by_cases h4 : a = 45
          · subst h4; rfl
          · by_cases h5 : a = 46
            · subst h5; rfl
            · by_cases h6 : a = 47
              · subst h6; rfl
              · simp [h1, h2, h3, h4, h5, h6]
theorem ev95 {ou : Nat ⊕ pq} (h : RR (I 44) m 0 0 (q0 I) ou) (hm : m ≤ 48) (hL : I 43 8 = Int32.ofNat m) (hd : 5 ≤ d) : ∃ Qf, (∀ Qd, ou = .inr Qd → Qf = qem Qd 30 0) ∧ Lw (q0 I) Qf ∧ mm_ev xs Ls pd_ck pd_ak pd_mj d 95 [.ref (43 : Nat)] (pd_st I D (pd_RF q) J n) = some (.inl (some (.int (rAn m ou))), pd_st (eQ I Qf) D (pd_RF q) J n) := by
  obtain ⟨d, rfl⟩ : ∃ e, d = e + 1 := ⟨d - 1, by omega⟩
  obtain ⟨Qf, hf, hl, hg⟩ := RR.run (I0 := I) (D := D) (J := J) (n := n) (xs := xs) (Ls := Ls) (q := q) (d := d) h rfl hm hL (by omega)
  refine ⟨Qf, hf, hl, ?_⟩
  refine pd_ev_of (Nat.le_of_ble_eq_true rfl) ?_
  rw [show pd_mj 95 = pd_m95 from rfl, show mm_pad (mm_in [.ref (43 : Nat)]) pd_m95.nL = [some (.ref (43 : Nat)), none, none, none, none, none, none] from rfl]
  simp only [p95_0, p95_1, p95_2, p95_5, p95_6, p95_7, p95_10, p95_11, p95_12, p95_15, p95_16, p95_17, p95_20, p95_21, p95_22, p95_25, p95_26, p95_27, p95_30, p95_31, p95_32, p95_33, p95_35, p95_36, p95_39, p95_42, p95_43, p95_44, p95_47, p95_50, p95_51, p95_54, p95_55, p95_56, p95_59, p95_60, p95_61, p95_62, p95_64, p95_65, p95_66, p95_69, p95_70, p95_72, p95_75, p95_76, p95_78, p95_81, p95_82, p95_84, p95_85, p95_87, p95_89, p95_90, p95_93, p95_94, p95_95, p95_98, p95_101, p95_102, p95_105, p95_106, p95_107, p95_109, p95_112, p95_113, p95_116, p95_117, p95_118, p95_120, p95_123, p95_125, p95_127, p95_128, p95_129, p95_132, p95_133, p95_134, p95_135, p95_137, p95_138, p95_140, p95_143, p95_146, p95_149, p95_150, p95_151, p95_153, p95_156, p95_157, p95_158, p95_161, p95_162, p95_165, p95_167, p95_170, p95_173, p95_174, p95_177, p95_178, p95_181, p95_182, p95_183, p95_186, p95_188, p95_191, p95_192, p95_195, p95_196, p95_197, p95_200, p95_201, p95_202, p95_205, p95_207, p95_210, p95_211, p95_212, p95_215, p95_216, p95_217, p95_220, p95_223, p95_224, p95_225, p95_228, p95_231, p95_232, p95_233, p95_236, p95_238, p95_241, p95_242, p95_243, p95_246, p95_247, p95_248, p95_251, p95_253, p95_256, p95_257, p95_260, p95_261, p95_262, p95_263, p95_266, p95_268, p95_270, p95_273, p95_274, p95_275, p95_277, p95_279, p95_282, p95_285, p95_287, p95_288, p95_291, p95_294, p95_295, p95_297, p95_298, p95_301, p95_302, p95_305, p95_308, p95_309, p95_312, p95_315, p95_316, gf7_0 sh43, gf7_16 sh43, gf7_8 sh43, mm_e0, pf7_10 sh43, pf7_11 sh43, pf7_12 sh43, pf7_14 sh43, pf7_15 sh43, pf7_16 sh43, qi0 sh43, qi1 sh43, qi2 sh43, so7_1i, so7_2i, so7_3i, so7_4i, so7_5i, so7_6i, mm_lA, mm_lI, mm_lD, mm_lJ, mm_ld0, mm_lds, pd_Kgo, pd_Kend, pd_Kno, pd_Kite, mm_i, mm_ii, mm_r, mm_1, mm_icmp, cond_true, cond_false, mm_o2, mm_c2, wt0, wt1, wt2, wt3, wt4, va_rfs, pd_bkv, pd_bkn, pd_bkif, pd_st1, Nat.reduceAdd, Nat.reduceLeDiff, Bool.or_false, Bool.or_self, true_or]
  rw [q0_eq]
  exact hg none none none none
theorem cp1_43 {k i j : Nat} : cp1 k i I 43 j = I 43 j := rfl
theorem cp1_a {k i a j : Nat} (h1 : a ≠ 45) (h2 : a ≠ 46) (h3 : a ≠ 47) : cp1 k i I a j = I a j := by
  unfold cp1
  rw [mm_u_a h3, mm_u_a h2, mm_u_a h1]
theorem pd_mul {k : Nat} : Int32.ofNat k * 128 = Int32.ofNat (k * 128) := by rw [show (128 : Int32) = Int32.ofNat 128 from rfl, ← Int32.ofNat_mul]
theorem pd_addn {x y : Nat} : Int32.ofNat x + Int32.ofNat y = Int32.ofNat (x + y) := by rw [← Int32.ofNat_add]
theorem lp94 {k : Nat} {w : Int32} (hk : k < 4) {sz : Nat} (hsz : sz < 128) : ∀ (f i : Nat) (I : pd_I), i + f = sz → I 43 12 = Int32.ofNat sz → pd_G xs Ls d pd_m94 (55, [some (.ref (43 : Nat)), some (.int (Int32.ofNat k)), some (.int w), some (.int (Int32.ofNat i))], [], pd_st I D (pd_RF q) J n) (.inl (some (.int (I 43 14))), pd_st (mm_u (cpL k f i I) 48 k 1) D (pd_RF q) J n) := by
  intro f
  induction f with
  | zero =>
    intro i I hi h12
    have hz : sz ≤ i := by omega
    have h14 : cpL k 0 i I = I := rfl
    rw [p94_55, h14]
    simp only [p94_0, p94_1, p94_2, p94_5, p94_6, p94_7, p94_10, p94_11, p94_14, p94_15, p94_18, p94_19, p94_22, p94_25, p94_26, p94_27, p94_28, p94_31, p94_32, p94_33, p94_34, p94_37, p94_38, p94_41, p94_42, p94_43, p94_46, p94_47, p94_48, p94_51, p94_52, p94_53, p94_54, p94_56, p94_57, p94_60, p94_63, p94_64, p94_67, p94_68, p94_71, p94_72, p94_73, p94_74, p94_75, p94_78, p94_81, p94_82, p94_83, p94_84, p94_85, p94_86, p94_89, p94_90, p94_93, p94_94, p94_95, p94_96, p94_97, p94_100, p94_103, p94_104, p94_105, p94_106, p94_107, p94_108, p94_111, p94_112, p94_115, p94_116, p94_117, p94_118, p94_119, p94_122, p94_125, p94_126, p94_127, p94_128, p94_129, p94_132, p94_135, p94_136, p94_139, p94_140, p94_141, p94_142, p94_143, p94_146, gf7_1 sh43, gf7_12 sh43, gf7_14 sh43, gf7_2 sh43, gf7_3 sh43, gf7_39 sh43, gf7_4 sh43, mm_e0, pd_stI, pf7_39 sh43, pf7_8 sh43, pf7_9 sh43, qi0 sh43, so4_2i, so4_3i, mm_lA, mm_lI, mm_lD, mm_lJ, mm_ld0, mm_lds, pd_Kgo, pd_Kend, pd_Kno, pd_Kite, mm_i, mm_ii, mm_r, mm_1, mm_icmp, cond_true, cond_false, mm_o2, mm_c2, wt0, wt1, wt2, wt3, wt4, va_rfs, pd_bkv, pd_bkn, pd_bkif, pd_st1, Nat.reduceAdd, Nat.reduceLeDiff, Bool.or_false, Bool.or_self, h12, pd_gtl (x := sz) (y := i) (by omega) (by omega), if_pos hz, rm_4, pd_bc (a := 48) (mm := 4) rfl hk (by omega), nar_1, mm_u_a (show (43 : Nat) ≠ 48 by decide)]
  | succ f ih =>
    intro i I hi h12
    have hz : ¬ (sz ≤ i) := by omega
    have e1 : cpL k (f + 1) i I = cpL k f (i + 1) (cp1 k i I) := rfl
    have hI := ih (i + 1) (cp1 k i I) (by omega) h12
    rw [p94_55, e1]
    rw [show I 43 14 = cp1 k i I 43 14 from rfl]
    generalize hX : cp1 k i I = X at *
    unfold cp1 at hX
    have u1 : mm_u I 45 (k * 128 + i) (I 45 (512 + i)) 46 (512 + i) = I 46 (512 + i) := mm_u_a (by decide)
    have u2 : mm_u (mm_u I 45 (k * 128 + i) (I 45 (512 + i))) 46 (k * 128 + i) (I 46 (512 + i)) 47 (512 + i) = I 47 (512 + i) := by rw [mm_u_a (by decide), mm_u_a (by decide)]
    simp only [p94_0, p94_1, p94_2, p94_5, p94_6, p94_7, p94_10, p94_11, p94_14, p94_15, p94_18, p94_19, p94_22, p94_25, p94_26, p94_27, p94_28, p94_31, p94_32, p94_33, p94_34, p94_37, p94_38, p94_41, p94_42, p94_43, p94_46, p94_47, p94_48, p94_51, p94_52, p94_53, p94_54, p94_56, p94_57, p94_60, p94_63, p94_64, p94_67, p94_68, p94_71, p94_72, p94_73, p94_74, p94_75, p94_78, p94_81, p94_82, p94_83, p94_84, p94_85, p94_86, p94_89, p94_90, p94_93, p94_94, p94_95, p94_96, p94_97, p94_100, p94_103, p94_104, p94_105, p94_106, p94_107, p94_108, p94_111, p94_112, p94_115, p94_116, p94_117, p94_118, p94_119, p94_122, p94_125, p94_126, p94_127, p94_128, p94_129, p94_132, p94_135, p94_136, p94_139, p94_140, p94_141, p94_142, p94_143, p94_146, gf7_1 sh43, gf7_12 sh43, gf7_14 sh43, gf7_2 sh43, gf7_3 sh43, gf7_39 sh43, gf7_4 sh43, mm_e0, pd_stI, pf7_39 sh43, pf7_8 sh43, pf7_9 sh43, qi0 sh43, so4_2i, so4_3i, mm_lA, mm_lI, mm_lD, mm_lJ, mm_ld0, mm_lds, pd_Kgo, pd_Kend, pd_Kno, pd_Kite, mm_i, mm_ii, mm_r, mm_1, mm_icmp, cond_true, cond_false, mm_o2, mm_c2, wt0, wt1, wt2, wt3, wt4, va_rfs, pd_bkv, pd_bkn, pd_bkif, pd_st1, Nat.reduceAdd, Nat.reduceLeDiff, Bool.or_false, Bool.or_self, h12, pd_gtl (x := sz) (y := i) (by omega) (by omega), if_neg hz, rm_1, rm_2, rm_3, pd_mul, pd_addn, pd_512, pd_il (a := 45) (t := 0) (mm := 640) rfl rfl (show 512 + i < 640 by omega) (by omega), pd_il (a := 46) (t := 0) (mm := 640) rfl rfl (show 512 + i < 640 by omega) (by omega), pd_il (a := 47) (t := 0) (mm := 640) rfl rfl (show 512 + i < 640 by omega) (by omega), pd_ic (a := 45) (mm := 640) rfl (show k * 128 + i < 640 by omega) (by omega), pd_ic (a := 46) (mm := 640) rfl (show k * 128 + i < 640 by omega) (by omega), pd_ic (a := 47) (mm := 640) rfl (show k * 128 + i < 640 by omega) (by omega), u1, u2, hX, pd_suc]
    exact hI
theorem ev94n {k : Int32} (hk : isPr k = false) (hd : 1 ≤ d) : mm_ev xs Ls pd_ck pd_ak pd_mj d 94 [.ref (43 : Nat), .int k] (pd_st I D (pd_RF q) J n) = some (.inl (some (.int 0)), pd_st (mm_u I 43 39 1) D (pd_RF q) J n) := by
  obtain ⟨d, rfl⟩ : ∃ e, d = e + 1 := ⟨d - 1, by omega⟩
  refine pd_ev_of (Nat.le_of_ble_eq_true rfl) ?_
  rw [show pd_mj 94 = pd_m94 from rfl, show mm_pad (mm_in [.ref (43 : Nat), .int k]) pd_m94.nL = [some (.ref (43 : Nat)), some (.int k), none, none] from rfl]
  unfold isPr at hk
  by_cases h1 : k < 0
  · simp only [p94_0, p94_1, p94_2, p94_5, p94_6, p94_7, p94_10, p94_11, p94_14, p94_15, p94_18, p94_19, p94_22, p94_25, p94_26, p94_27, p94_28, p94_31, p94_32, p94_33, p94_34, p94_37, p94_38, p94_41, p94_42, p94_43, p94_46, p94_47, p94_48, p94_51, p94_52, p94_53, p94_54, p94_56, p94_57, p94_60, p94_63, p94_64, p94_67, p94_68, p94_71, p94_72, p94_73, p94_74, p94_75, p94_78, p94_81, p94_82, p94_83, p94_84, p94_85, p94_86, p94_89, p94_90, p94_93, p94_94, p94_95, p94_96, p94_97, p94_100, p94_103, p94_104, p94_105, p94_106, p94_107, p94_108, p94_111, p94_112, p94_115, p94_116, p94_117, p94_118, p94_119, p94_122, p94_125, p94_126, p94_127, p94_128, p94_129, p94_132, p94_135, p94_136, p94_139, p94_140, p94_141, p94_142, p94_143, p94_146, gf7_1 sh43, gf7_12 sh43, gf7_14 sh43, gf7_2 sh43, gf7_3 sh43, gf7_39 sh43, gf7_4 sh43, mm_e0, pd_stI, pf7_39 sh43, pf7_8 sh43, pf7_9 sh43, qi0 sh43, so4_2i, so4_3i, mm_lA, mm_lI, mm_lD, mm_lJ, mm_ld0, mm_lds, pd_Kgo, pd_Kend, pd_Kno, pd_Kite, mm_i, mm_ii, mm_r, mm_1, mm_icmp, cond_true, cond_false, mm_o2, mm_c2, wt0, wt1, wt2, wt3, wt4, va_rfs, pd_bkv, pd_bkn, pd_bkif, pd_st1, Nat.reduceAdd, Nat.reduceLeDiff, Bool.or_false, Bool.or_self, if_pos h1, mm_u_s, i10, if_false]
  · rw [if_neg h1] at hk
    by_cases h2 : 4 ≤ k
    · have h3 : ¬ (k ≤ 3) := by
        intro h4
        exact absurd (Int32.le_trans h2 h4) (by decide)
      simp only [p94_0, p94_1, p94_2, p94_5, p94_6, p94_7, p94_10, p94_11, p94_14, p94_15, p94_18, p94_19, p94_22, p94_25, p94_26, p94_27, p94_28, p94_31, p94_32, p94_33, p94_34, p94_37, p94_38, p94_41, p94_42, p94_43, p94_46, p94_47, p94_48, p94_51, p94_52, p94_53, p94_54, p94_56, p94_57, p94_60, p94_63, p94_64, p94_67, p94_68, p94_71, p94_72, p94_73, p94_74, p94_75, p94_78, p94_81, p94_82, p94_83, p94_84, p94_85, p94_86, p94_89, p94_90, p94_93, p94_94, p94_95, p94_96, p94_97, p94_100, p94_103, p94_104, p94_105, p94_106, p94_107, p94_108, p94_111, p94_112, p94_115, p94_116, p94_117, p94_118, p94_119, p94_122, p94_125, p94_126, p94_127, p94_128, p94_129, p94_132, p94_135, p94_136, p94_139, p94_140, p94_141, p94_142, p94_143, p94_146, gf7_1 sh43, gf7_12 sh43, gf7_14 sh43, gf7_2 sh43, gf7_3 sh43, gf7_39 sh43, gf7_4 sh43, mm_e0, pd_stI, pf7_39 sh43, pf7_8 sh43, pf7_9 sh43, qi0 sh43, so4_2i, so4_3i, mm_lA, mm_lI, mm_lD, mm_lJ, mm_ld0, mm_lds, pd_Kgo, pd_Kend, pd_Kno, pd_Kite, mm_i, mm_ii, mm_r, mm_1, mm_icmp, cond_true, cond_false, mm_o2, mm_c2, wt0, wt1, wt2, wt3, wt4, va_rfs, pd_bkv, pd_bkn, pd_bkif, pd_st1, Nat.reduceAdd, Nat.reduceLeDiff, Bool.or_false, Bool.or_self, if_neg h1, if_neg h3, mm_u_s, i10, if_false]
    · rw [if_neg h2] at hk
      cases hk
theorem ev94 {k : Nat} {ou : Nat ⊕ pq} (hk : k < 4) (h : RR (I 44) m 0 0 (q0 I) ou) (hs : ∀ Qd, ou = .inr Qd → qs Qd < 127) (hm : m ≤ 48) (hL : I 43 8 = Int32.ofNat m) (hp : ∀ p, ou = .inl p → p ≤ m) (hd : 6 ≤ d) : ∃ Qf, (∀ Qd, ou = .inr Qd → Qf = qem Qd 30 0) ∧ Lw (q0 I) Qf ∧ mm_ev xs Ls pd_ck pd_ak pd_mj d 94 [.ref (43 : Nat), .int (Int32.ofNat k)] (pd_st I D (pd_RF q) J n) = some (.inl (some (.int (cpI (mm_u I 43 39 0) k m Qf ou).1)), pd_st (cpI (mm_u I 43 39 0) k m Qf ou).2 D (pd_RF q) J n) := by
  obtain ⟨d, rfl⟩ : ∃ e, d = e + 1 := ⟨d - 1, by omega⟩
  have e0 : q0 (mm_u I 43 39 0) = q0 I := rfl
  have h9 : RR (mm_u I 43 39 0 44) m 0 0 (q0 (mm_u I 43 39 0)) ou := h
  obtain ⟨Qf, hf, hl, hg⟩ := ev95 (I := mm_u I 43 39 0) (D := D) (J := J) (n := n) (xs := xs) (Ls := Ls) (q := q) (d := d) h9 hm hL (by omega)
  refine ⟨Qf, hf, hl, ?_⟩
  have n0 : ¬ (Int32.ofNat k < 0) := by rw [pd_ge0 (by omega)]; exact id
  have n3 : Int32.ofNat k ≤ 3 := by rw [show (3 : Int32) = Int32.ofNat 3 from rfl, pd_gtl (by omega) (by omega)]; omega
  refine pd_ev_of (Nat.le_of_ble_eq_true rfl) ?_
  rw [show pd_mj 94 = pd_m94 from rfl, show mm_pad (mm_in [.ref (43 : Nat), .int (Int32.ofNat k)]) pd_m94.nL = [some (.ref (43 : Nat)), some (.int (Int32.ofNat k)), none, none] from rfl]
  generalize hX : mm_u I 43 39 0 = X at *
  have hX39 : X 43 39 = 0 := by rw [← hX]; rfl
  simp only [p94_0, p94_1, p94_2, p94_5, p94_6, p94_7, p94_10, p94_11, p94_14, p94_15, p94_18, p94_19, p94_22, p94_25, p94_26, p94_27, p94_28, p94_31, p94_32, p94_33, p94_34, p94_37, p94_38, p94_41, p94_42, p94_43, p94_46, p94_47, p94_48, p94_51, p94_52, p94_53, p94_54, p94_56, p94_57, p94_60, p94_63, p94_64, p94_67, p94_68, p94_71, p94_72, p94_73, p94_74, p94_75, p94_78, p94_81, p94_82, p94_83, p94_84, p94_85, p94_86, p94_89, p94_90, p94_93, p94_94, p94_95, p94_96, p94_97, p94_100, p94_103, p94_104, p94_105, p94_106, p94_107, p94_108, p94_111, p94_112, p94_115, p94_116, p94_117, p94_118, p94_119, p94_122, p94_125, p94_126, p94_127, p94_128, p94_129, p94_132, p94_135, p94_136, p94_139, p94_140, p94_141, p94_142, p94_143, p94_146, gf7_1 sh43, gf7_12 sh43, gf7_14 sh43, gf7_2 sh43, gf7_3 sh43, gf7_39 sh43, gf7_4 sh43, mm_e0, pd_stI, pf7_39 sh43, pf7_8 sh43, pf7_9 sh43, qi0 sh43, so4_2i, so4_3i, mm_lA, mm_lI, mm_lD, mm_lJ, mm_ld0, mm_lds, pd_Kgo, pd_Kend, pd_Kno, pd_Kite, mm_i, mm_ii, mm_r, mm_1, mm_icmp, cond_true, cond_false, mm_o2, mm_c2, wt0, wt1, wt2, wt3, wt4, va_rfs, pd_bkv, pd_bkn, pd_bkif, pd_st1, Nat.reduceAdd, Nat.reduceLeDiff, Bool.or_false, Bool.or_self, if_neg n0, if_pos n3, hX, hX39, if_true, hg]
  match ou, hs, hp, hf with
  | .inl p, hs, hp, hf =>
    have hp1 := hp p rfl
    have n1 : ¬ (rAn m (.inl p) < 0) := by
      show ¬ (Int32.ofNat p < 0)
      rw [pd_ge0 (by omega)]; exact id
    rw [if_neg n1]
    rfl
  | .inr Q, hs, hp, hf =>
    have hs1 := hs Q rfl
    have hq := hf Q rfl
    cases hmq : qm Q
    · have n1 : rAn m (.inr Q) < 0 := by
        show (if qm Q = true then Int32.ofNat m else -1) < 0
        rw [hmq, if_neg (by decide)]; decide
      rw [if_pos n1]
      have h1 : qs Qf = qs Q + 1 := by rw [hq]; rfl
      have hI := lp94 (xs := xs) (Ls := Ls) (D := D) (J := J) (n := n) (q := q) (d := d) (w := rAn m (.inr Q)) hk (sz := qs Qf) (by omega) (qs Qf) 0 (mm_u (eQ X Qf) 43 8 0) (by omega) rfl
      have hc : cpI X k m Qf (.inr Q) = (qn Qf, mm_u (cpL k (qs Qf) 0 (mm_u (eQ X Qf) 43 8 0)) 48 k 1) := by
        simp [cpI, hmq]
      rw [hc]
      exact hI
    · have hr : rAn m (.inr Q) = Int32.ofNat m := by
        show (if qm Q = true then Int32.ofNat m else -1) = _
        rw [hmq]; rfl
      have n1 : ¬ (rAn m (.inr Q) < 0) := by
        rw [hr, pd_ge0 (by omega)]; exact id
      rw [if_neg n1, hr]
      simp [cpI, hmq]
end REF5
