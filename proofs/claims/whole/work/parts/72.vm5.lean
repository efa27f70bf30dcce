/-! THE REFERENCE: type, tape, and what is asked -/
/-- the byte at a shift -/
def byt (e : Int64) (s : Int32) : Int32 := (e.toUInt64 >>> (s.toInt64.toUInt64 &&& Int64.toUInt64 63)).toInt64.toInt32 &&& 255
def badB (c : Int32) : Bool := if c = 0 then false else if c < 33 then true else if 126 < c then true else false
/-- how many signs, and whether one is wrong -/
def tyA (e : Int64) : Nat → Nat × Bool → Nat × Bool
  | 0, x => x
  | f + 1, x => tyA e f (if byt e (Int32.ofNat (8 * f)) = 0 then x.1 else x.1 + 1, x.2 || badB (byt e (Int32.ofNat (8 * f))))
/-- the signs put behind a text -/
def tyB (e : Int64) : Nat → Nat × (Nat → Int32) → Nat × (Nat → Int32)
  | 0, x => x
  | f + 1, x => tyB e f (if byt e (Int32.ofNat (8 * f)) = 0 then x else (x.1 + 1, pd_up x.2 x.1 (byt e (Int32.ofNat (8 * f)))))
section VM5
variable {I K K' K1 K2 K3 K4 K5 : pd_I} {D D1 D2 D' : pd_D} {A : pd_A} {J : pd_J} {n : Nat} {xs : Nat → Int32} {Ls d : Nat} {q : Nat → Nat} {e : Int64}
theorem byt_e {e : Int64} {s : Int32} : (e.toUInt64 >>> (s.toInt64.toUInt64 &&& Int64.toUInt64 63)).toInt64.toInt32 &&& 255 = byt e s := rfl
theorem m8 {f : Nat} : Int32.ofNat (8 * (f + 1)) + Int32.ofInt (-8) = Int32.ofNat (8 * f) := by
  have : Int32.ofNat (8 * (f + 1)) = Int32.ofNat (8 * f) + 8 := by rw [show (8 : Int32) = Int32.ofNat 8 from rfl, pd_addn]; congr 1
  rw [this, Int32.add_assoc, show (8 : Int32) + Int32.ofInt (-8) = 0 from by decide, Int32.add_zero]
/-- the shift that belongs to f signs still to come -/
def shi : Nat → Int32
  | 0 => Int32.ofInt (-8)
  | f + 1 => Int32.ofNat (8 * f)
theorem shi_m {f : Nat} : shi (f + 1) + Int32.ofInt (-8) = shi f := by
  cases f with
  | zero => rfl
  | succ f => exact m8
theorem shi_n : shi 0 < 0 := by decide
theorem shi_p {f : Nat} (h : f < 8) : ¬ (shi (f + 1) < 0) := by
  show ¬ (Int32.ofNat (8 * f) < 0)
  rw [pd_ge0 (by omega)]; exact id
def thB (b : Bool) (K : pd_I) : pd_I := if b = true then mm_u K 43 39 1 else K
theorem lp93a {o : mm_O} {a5 : Option Value} : ∀ (f m : Nat) (b : Bool) (K : pd_I) (a5 : Option Value), f ≤ 8 → (∀ c a5', pd_G xs Ls d pd_m93 (65, [some (.ref (43 : Nat)), some (.long e), none, some (.int (Int32.ofNat (tyA e f (m, b)).1)), some (.int c), a5'], [], pd_st (thB (tyA e f (m, b)).2 K) D (pd_RF q) J n) o) → pd_G xs Ls d pd_m93 (11, [some (.ref (43 : Nat)), some (.long e), none, some (.int (Int32.ofNat m)), some (.int (shi f)), a5], [], pd_st (thB b K) D (pd_RF q) J n) o := by
  intro f
  induction f with
  | zero =>
    intro m b K a5 _ h
    rw [p93_11]
    simp only [p93_0, p93_1, p93_2, p93_5, p93_6, p93_7, p93_9, p93_13, p93_16, p93_17, p93_19, p93_20, p93_21, p93_24, p93_25, p93_27, p93_29, p93_32, p93_35, p93_37, p93_40, p93_42, p93_44, p93_47, p93_49, p93_51, p93_54, p93_55, p93_56, p93_59, p93_62, p93_66, p93_69, p93_72, p93_73, p93_76, p93_77, p93_78, p93_80, p93_83, p93_84, p93_85, p93_88, p93_90, p93_94, p93_97, p93_98, p93_101, p93_104, p93_105, p93_107, p93_108, p93_109, p93_112, p93_113, p93_115, p93_117, p93_120, p93_121, p93_124, p93_125, p93_126, p93_129, p93_130, p93_131, p93_132, p93_135, p93_137, p93_138, p93_141, p93_144, p93_145, p93_148, p93_151, p93_152, p93_155, p93_158, p93_159, gf7_0 sh43, gf7_39 sh43, gf7_8 sh43, mm_2, mm_e0, mm_j, mm_ji, pd_stI, pf7_39 sh43, pf7_8 sh43, so6_3i, so6_4i, so6_5i, mm_lA, mm_lI, mm_lD, mm_lJ, mm_ld0, mm_lds, pd_Kgo, pd_Kend, pd_Kno, pd_Kite, mm_i, mm_ii, mm_r, mm_1, mm_icmp, cond_true, cond_false, mm_o2, mm_c2, wt0, wt1, wt2, wt3, wt4, va_rfs, pd_bkv, pd_bkn, pd_bkif, pd_st1, Nat.reduceAdd, Nat.reduceLeDiff, Bool.or_false, Bool.or_self, if_pos shi_n]
    exact h _ _
  | succ f ih =>
    intro m b K a5 hf h
    have z := shi_p (f := f) (by omega)
    have hs : shi (f + 1) = Int32.ofNat (8 * f) := rfl
    have hI := ih (if byt e (Int32.ofNat (8 * f)) = 0 then m else m + 1) (b || badB (byt e (Int32.ofNat (8 * f)))) K (some (.int (byt e (Int32.ofNat (8 * f))))) (by omega) h
    rw [p93_11]
    by_cases c0 : byt e (Int32.ofNat (8 * f)) = 0
    · have eb : badB (byt e (Int32.ofNat (8 * f))) = false := by unfold badB; rw [if_pos c0]
      rw [if_pos c0, eb, Bool.or_false] at hI
      rw [← hs] at c0 hI
      simp only [p93_0, p93_1, p93_2, p93_5, p93_6, p93_7, p93_9, p93_13, p93_16, p93_17, p93_19, p93_20, p93_21, p93_24, p93_25, p93_27, p93_29, p93_32, p93_35, p93_37, p93_40, p93_42, p93_44, p93_47, p93_49, p93_51, p93_54, p93_55, p93_56, p93_59, p93_62, p93_66, p93_69, p93_72, p93_73, p93_76, p93_77, p93_78, p93_80, p93_83, p93_84, p93_85, p93_88, p93_90, p93_94, p93_97, p93_98, p93_101, p93_104, p93_105, p93_107, p93_108, p93_109, p93_112, p93_113, p93_115, p93_117, p93_120, p93_121, p93_124, p93_125, p93_126, p93_129, p93_130, p93_131, p93_132, p93_135, p93_137, p93_138, p93_141, p93_144, p93_145, p93_148, p93_151, p93_152, p93_155, p93_158, p93_159, gf7_0 sh43, gf7_39 sh43, gf7_8 sh43, mm_2, mm_e0, mm_j, mm_ji, pd_stI, pf7_39 sh43, pf7_8 sh43, so6_3i, so6_4i, so6_5i, mm_lA, mm_lI, mm_lD, mm_lJ, mm_ld0, mm_lds, pd_Kgo, pd_Kend, pd_Kno, pd_Kite, mm_i, mm_ii, mm_r, mm_1, mm_icmp, cond_true, cond_false, mm_o2, mm_c2, wt0, wt1, wt2, wt3, wt4, va_rfs, pd_bkv, pd_bkn, pd_bkif, pd_st1, Nat.reduceAdd, Nat.reduceLeDiff, Bool.or_false, Bool.or_self, if_neg z, byt_e, if_pos c0, shi_m]
      exact hI
    · rw [if_neg c0] at hI
      by_cases c1 : byt e (Int32.ofNat (8 * f)) < 33
      · have eb : badB (byt e (Int32.ofNat (8 * f))) = true := by unfold badB; rw [if_neg c0, if_pos c1]
        rw [eb, Bool.or_true] at hI
        have et : mm_u (thB b K) 43 39 1 = thB true K := by
          unfold thB
          cases b
          · rw [if_neg Bool.false_ne_true, if_pos rfl]
          · rw [if_pos rfl]
            funext x y
            unfold mm_u
            by_cases hx : x = 43
            · by_cases hy : y = 39
              · simp [hx, hy]
              · simp [hx, hy]
            · simp [hx]
        rw [← hs] at c0 c1 hI
        simp only [p93_0, p93_1, p93_2, p93_5, p93_6, p93_7, p93_9, p93_13, p93_16, p93_17, p93_19, p93_20, p93_21, p93_24, p93_25, p93_27, p93_29, p93_32, p93_35, p93_37, p93_40, p93_42, p93_44, p93_47, p93_49, p93_51, p93_54, p93_55, p93_56, p93_59, p93_62, p93_66, p93_69, p93_72, p93_73, p93_76, p93_77, p93_78, p93_80, p93_83, p93_84, p93_85, p93_88, p93_90, p93_94, p93_97, p93_98, p93_101, p93_104, p93_105, p93_107, p93_108, p93_109, p93_112, p93_113, p93_115, p93_117, p93_120, p93_121, p93_124, p93_125, p93_126, p93_129, p93_130, p93_131, p93_132, p93_135, p93_137, p93_138, p93_141, p93_144, p93_145, p93_148, p93_151, p93_152, p93_155, p93_158, p93_159, gf7_0 sh43, gf7_39 sh43, gf7_8 sh43, mm_2, mm_e0, mm_j, mm_ji, pd_stI, pf7_39 sh43, pf7_8 sh43, so6_3i, so6_4i, so6_5i, mm_lA, mm_lI, mm_lD, mm_lJ, mm_ld0, mm_lds, pd_Kgo, pd_Kend, pd_Kno, pd_Kite, mm_i, mm_ii, mm_r, mm_1, mm_icmp, cond_true, cond_false, mm_o2, mm_c2, wt0, wt1, wt2, wt3, wt4, va_rfs, pd_bkv, pd_bkn, pd_bkif, pd_st1, Nat.reduceAdd, Nat.reduceLeDiff, Bool.or_false, Bool.or_self, if_neg z, byt_e, if_neg c0, if_pos c1, shi_m, pd_suc, et]
        exact hI
      · by_cases c2 : 126 < byt e (Int32.ofNat (8 * f))
        · have eb : badB (byt e (Int32.ofNat (8 * f))) = true := by unfold badB; rw [if_neg c0, if_neg c1, if_pos c2]
          rw [eb, Bool.or_true] at hI
          have et : mm_u (thB b K) 43 39 1 = thB true K := by
            unfold thB
            cases b
            · rw [if_neg Bool.false_ne_true, if_pos rfl]
            · rw [if_pos rfl]
              funext x y
              unfold mm_u
              by_cases hx : x = 43
              · by_cases hy : y = 39
                · simp [hx, hy]
                · simp [hx, hy]
              · simp [hx]
          have c2' : ¬ (byt e (Int32.ofNat (8 * f)) ≤ 126) := Int32.not_le.mpr c2
          rw [← hs] at c0 c1 c2' hI
          simp only [p93_0, p93_1, p93_2, p93_5, p93_6, p93_7, p93_9, p93_13, p93_16, p93_17, p93_19, p93_20, p93_21, p93_24, p93_25, p93_27, p93_29, p93_32, p93_35, p93_37, p93_40, p93_42, p93_44, p93_47, p93_49, p93_51, p93_54, p93_55, p93_56, p93_59, p93_62, p93_66, p93_69, p93_72, p93_73, p93_76, p93_77, p93_78, p93_80, p93_83, p93_84, p93_85, p93_88, p93_90, p93_94, p93_97, p93_98, p93_101, p93_104, p93_105, p93_107, p93_108, p93_109, p93_112, p93_113, p93_115, p93_117, p93_120, p93_121, p93_124, p93_125, p93_126, p93_129, p93_130, p93_131, p93_132, p93_135, p93_137, p93_138, p93_141, p93_144, p93_145, p93_148, p93_151, p93_152, p93_155, p93_158, p93_159, gf7_0 sh43, gf7_39 sh43, gf7_8 sh43, mm_2, mm_e0, mm_j, mm_ji, pd_stI, pf7_39 sh43, pf7_8 sh43, so6_3i, so6_4i, so6_5i, mm_lA, mm_lI, mm_lD, mm_lJ, mm_ld0, mm_lds, pd_Kgo, pd_Kend, pd_Kno, pd_Kite, mm_i, mm_ii, mm_r, mm_1, mm_icmp, cond_true, cond_false, mm_o2, mm_c2, wt0, wt1, wt2, wt3, wt4, va_rfs, pd_bkv, pd_bkn, pd_bkif, pd_st1, Nat.reduceAdd, Nat.reduceLeDiff, Bool.or_false, Bool.or_self, if_neg z, byt_e, if_neg c0, if_neg c1, if_neg c2', shi_m, pd_suc, et]
          exact hI
        · have eb : badB (byt e (Int32.ofNat (8 * f))) = false := by unfold badB; rw [if_neg c0, if_neg c1, if_neg c2]
          rw [eb, Bool.or_false] at hI
          have c2' : byt e (Int32.ofNat (8 * f)) ≤ 126 := Int32.not_lt.mp c2
          rw [← hs] at c0 c1 c2' hI
          simp only [p93_0, p93_1, p93_2, p93_5, p93_6, p93_7, p93_9, p93_13, p93_16, p93_17, p93_19, p93_20, p93_21, p93_24, p93_25, p93_27, p93_29, p93_32, p93_35, p93_37, p93_40, p93_42, p93_44, p93_47, p93_49, p93_51, p93_54, p93_55, p93_56, p93_59, p93_62, p93_66, p93_69, p93_72, p93_73, p93_76, p93_77, p93_78, p93_80, p93_83, p93_84, p93_85, p93_88, p93_90, p93_94, p93_97, p93_98, p93_101, p93_104, p93_105, p93_107, p93_108, p93_109, p93_112, p93_113, p93_115, p93_117, p93_120, p93_121, p93_124, p93_125, p93_126, p93_129, p93_130, p93_131, p93_132, p93_135, p93_137, p93_138, p93_141, p93_144, p93_145, p93_148, p93_151, p93_152, p93_155, p93_158, p93_159, gf7_0 sh43, gf7_39 sh43, gf7_8 sh43, mm_2, mm_e0, mm_j, mm_ji, pd_stI, pf7_39 sh43, pf7_8 sh43, so6_3i, so6_4i, so6_5i, mm_lA, mm_lI, mm_lD, mm_lJ, mm_ld0, mm_lds, pd_Kgo, pd_Kend, pd_Kno, pd_Kite, mm_i, mm_ii, mm_r, mm_1, mm_icmp, cond_true, cond_false, mm_o2, mm_c2, wt0, wt1, wt2, wt3, wt4, va_rfs, pd_bkv, pd_bkn, pd_bkif, pd_st1, Nat.reduceAdd, Nat.reduceLeDiff, Bool.or_false, Bool.or_self, if_neg z, byt_e, if_neg c0, if_neg c1, if_pos c2', shi_m, pd_suc]
          exact hI
theorem tyA_le : ∀ (f : Nat) (x : Nat × Bool), (tyA e f x).1 ≤ x.1 + f ∧ x.1 ≤ (tyA e f x).1 := by
  intro f
  induction f with
  | zero => intro x; exact ⟨Nat.le_refl _, Nat.le_refl _⟩
  | succ f ih =>
    intro x
    unfold tyA
    by_cases h : byt e (Int32.ofNat (8 * f)) = 0
    · rw [if_pos h]
      obtain ⟨h1, h2⟩ : (tyA e f (x.1, x.2 || badB (byt e (Int32.ofNat (8 * f))))).1 ≤ x.1 + f ∧ x.1 ≤ (tyA e f (x.1, x.2 || badB (byt e (Int32.ofNat (8 * f))))).1 := ih _
      exact ⟨by omega, h2⟩
    · rw [if_neg h]
      obtain ⟨h1, h2⟩ : (tyA e f (x.1 + 1, x.2 || badB (byt e (Int32.ofNat (8 * f))))).1 ≤ x.1 + 1 + f ∧ x.1 + 1 ≤ (tyA e f (x.1 + 1, x.2 || badB (byt e (Int32.ofNat (8 * f))))).1 := ih _
      exact ⟨by omega, by omega⟩
theorem tyB_len : ∀ (f m : Nat) (b : Bool) (x : Nat × (Nat → Int32)), (tyB e f x).1 + m = x.1 + (tyA e f (m, b)).1 := by
  intro f
  induction f with
  | zero => intro m b x; rfl
  | succ f ih =>
    intro m b x
    unfold tyB tyA
    by_cases h : byt e (Int32.ofNat (8 * f)) = 0
    · rw [if_pos h, if_pos h]; exact ih m _ x
    · rw [if_neg h, if_neg h]
      have := ih (m + 1) (b || badB (byt e (Int32.ofNat (8 * f)))) (x.1 + 1, pd_up x.2 x.1 (byt e (Int32.ofNat (8 * f))))
      simp only [] at this ⊢
      omega
/-- the text, put in -/
def txK (K : pd_I) (x : Nat × (Nat → Int32)) : pd_I := fun a k => if a = 44 then x.2 k else if a = 43 ∧ k = 8 then Int32.ofNat x.1 else K a k
theorem txK_u {x : Nat × (Nat → Int32)} {c : Int32} : mm_u (mm_u (txK K x) 43 8 (Int32.ofNat (x.1 + 1))) 44 x.1 c = txK K (x.1 + 1, pd_up x.2 x.1 c) := by
  funext a k
  unfold txK mm_u pd_up
  by_cases h1 : a = 44
  · subst h1; simp
  · by_cases h2 : a = 43
    · subst h2
      by_cases h3 : k = 8
      · subst h3; simp
      · simp [h3]
    · simp [h1, h2]
theorem lp93b {c3 : Int32} {a5 : Option Value} : ∀ (f : Nat) (x : Nat × (Nat → Int32)) (a5 : Option Value), f ≤ 8 → K 43 39 = 0 → (tyB e f x).1 ≤ 48 → pd_G xs Ls d pd_m93 (92, [some (.ref (43 : Nat)), some (.long e), none, some (.int c3), some (.int (shi f)), a5], [], pd_st (txK K x) D (pd_RF q) J n) (.inl (some (.int (Int32.ofNat (tyB e f x).1))), pd_st (txK K (tyB e f x)) D (pd_RF q) J n) := by
  intro f
  induction f with
  | zero =>
    intro x a5 _ h0 _
    have h39 : txK K x 43 39 = 0 := h0
    have h8 : txK K x 43 8 = Int32.ofNat x.1 := rfl
    have e0 : tyB e 0 x = x := rfl
    rw [p93_92, e0]
    simp only [p93_0, p93_1, p93_2, p93_5, p93_6, p93_7, p93_9, p93_13, p93_16, p93_17, p93_19, p93_20, p93_21, p93_24, p93_25, p93_27, p93_29, p93_32, p93_35, p93_37, p93_40, p93_42, p93_44, p93_47, p93_49, p93_51, p93_54, p93_55, p93_56, p93_59, p93_62, p93_65, p93_66, p93_69, p93_72, p93_73, p93_76, p93_77, p93_78, p93_80, p93_83, p93_84, p93_85, p93_88, p93_90, p93_94, p93_97, p93_98, p93_101, p93_104, p93_105, p93_107, p93_108, p93_109, p93_112, p93_113, p93_115, p93_117, p93_120, p93_121, p93_124, p93_125, p93_126, p93_129, p93_130, p93_131, p93_132, p93_135, p93_137, p93_138, p93_141, p93_144, p93_145, p93_148, p93_151, p93_152, p93_155, p93_158, p93_159, gf7_0 sh43, gf7_39 sh43, gf7_8 sh43, mm_2, mm_e0, mm_j, mm_ji, pd_stI, pf7_39 sh43, pf7_8 sh43, so6_3i, so6_4i, so6_5i, mm_lA, mm_lI, mm_lD, mm_lJ, mm_ld0, mm_lds, pd_Kgo, pd_Kend, pd_Kno, pd_Kite, mm_i, mm_ii, mm_r, mm_1, mm_icmp, cond_true, cond_false, mm_o2, mm_c2, wt0, wt1, wt2, wt3, wt4, va_rfs, pd_bkv, pd_bkn, pd_bkif, pd_st1, Nat.reduceAdd, Nat.reduceLeDiff, Bool.or_false, Bool.or_self, if_pos shi_n, h39, if_true, h8]
  | succ f ih =>
    intro x a5 hf h0 hl
    have z := shi_p (f := f) (by omega)
    have hs : shi (f + 1) = Int32.ofNat (8 * f) := rfl
    have h39 : txK K x 43 39 = 0 := h0
    have h8 : txK K x 43 8 = Int32.ofNat x.1 := rfl
    have hml := tyB_len (e := e) (f + 1) 0 false x
    have hI := ih (if byt e (Int32.ofNat (8 * f)) = 0 then x else (x.1 + 1, pd_up x.2 x.1 (byt e (Int32.ofNat (8 * f))))) (some (.int (byt e (Int32.ofNat (8 * f))))) (by omega) h0 hl
    have eT : tyB e (f + 1) x = tyB e f (if byt e (Int32.ofNat (8 * f)) = 0 then x else (x.1 + 1, pd_up x.2 x.1 (byt e (Int32.ofNat (8 * f))))) := rfl
    rw [← eT] at hI
    rw [p93_92]
    by_cases c0 : byt e (Int32.ofNat (8 * f)) = 0
    · rw [if_pos c0] at hI
      rw [← hs] at c0 hI
      simp only [p93_0, p93_1, p93_2, p93_5, p93_6, p93_7, p93_9, p93_13, p93_16, p93_17, p93_19, p93_20, p93_21, p93_24, p93_25, p93_27, p93_29, p93_32, p93_35, p93_37, p93_40, p93_42, p93_44, p93_47, p93_49, p93_51, p93_54, p93_55, p93_56, p93_59, p93_62, p93_65, p93_66, p93_69, p93_72, p93_73, p93_76, p93_77, p93_78, p93_80, p93_83, p93_84, p93_85, p93_88, p93_90, p93_94, p93_97, p93_98, p93_101, p93_104, p93_105, p93_107, p93_108, p93_109, p93_112, p93_113, p93_115, p93_117, p93_120, p93_121, p93_124, p93_125, p93_126, p93_129, p93_130, p93_131, p93_132, p93_135, p93_137, p93_138, p93_141, p93_144, p93_145, p93_148, p93_151, p93_152, p93_155, p93_158, p93_159, gf7_0 sh43, gf7_39 sh43, gf7_8 sh43, mm_2, mm_e0, mm_j, mm_ji, pd_stI, pf7_39 sh43, pf7_8 sh43, so6_3i, so6_4i, so6_5i, mm_lA, mm_lI, mm_lD, mm_lJ, mm_ld0, mm_lds, pd_Kgo, pd_Kend, pd_Kno, pd_Kite, mm_i, mm_ii, mm_r, mm_1, mm_icmp, cond_true, cond_false, mm_o2, mm_c2, wt0, wt1, wt2, wt3, wt4, va_rfs, pd_bkv, pd_bkn, pd_bkif, pd_st1, Nat.reduceAdd, Nat.reduceLeDiff, Bool.or_false, Bool.or_self, if_neg z, h39, if_true, byt_e, if_pos c0, shi_m]
      exact hI
    · have hx : x.1 < 48 := by
        have h1 := tyB_len (e := e) f 0 false (x.1 + 1, pd_up x.2 x.1 (byt e (Int32.ofNat (8 * f))))
        rw [eT, if_neg c0] at hl
        simp only [] at h1
        omega
      rw [if_neg c0] at hI
      rw [← hs] at c0 hI
      have hu := txK_u (K := K) (x := x) (c := byt e (shi (f + 1)))
      simp only [p93_0, p93_1, p93_2, p93_5, p93_6, p93_7, p93_9, p93_13, p93_16, p93_17, p93_19, p93_20, p93_21, p93_24, p93_25, p93_27, p93_29, p93_32, p93_35, p93_37, p93_40, p93_42, p93_44, p93_47, p93_49, p93_51, p93_54, p93_55, p93_56, p93_59, p93_62, p93_65, p93_66, p93_69, p93_72, p93_73, p93_76, p93_77, p93_78, p93_80, p93_83, p93_84, p93_85, p93_88, p93_90, p93_94, p93_97, p93_98, p93_101, p93_104, p93_105, p93_107, p93_108, p93_109, p93_112, p93_113, p93_115, p93_117, p93_120, p93_121, p93_124, p93_125, p93_126, p93_129, p93_130, p93_131, p93_132, p93_135, p93_137, p93_138, p93_141, p93_144, p93_145, p93_148, p93_151, p93_152, p93_155, p93_158, p93_159, gf7_0 sh43, gf7_39 sh43, gf7_8 sh43, mm_2, mm_e0, mm_j, mm_ji, pd_stI, pf7_39 sh43, pf7_8 sh43, so6_3i, so6_4i, so6_5i, mm_lA, mm_lI, mm_lD, mm_lJ, mm_ld0, mm_lds, pd_Kgo, pd_Kend, pd_Kno, pd_Kite, mm_i, mm_ii, mm_r, mm_1, mm_icmp, cond_true, cond_false, mm_o2, mm_c2, wt0, wt1, wt2, wt3, wt4, va_rfs, pd_bkv, pd_bkn, pd_bkif, pd_st1, Nat.reduceAdd, Nat.reduceLeDiff, Bool.or_false, Bool.or_self, if_neg z, h39, if_true, byt_e, if_neg c0, rm_0, mm_2, h8, pd_suc, pd_ic (a := 44) (mm := 48) rfl hx (by omega), hu, shi_m]
      exact hI
theorem txK_0 {l : Nat} (h : K 43 8 = Int32.ofNat l) : txK K (l, K 44) = K := by
  funext a k
  unfold txK
  by_cases h1 : a = 44
  · subst h1; rfl
  · rw [if_neg h1]
    by_cases h2 : a = 43 ∧ k = 8
    · rw [if_pos h2, h2.1, h2.2, h]
    · rw [if_neg h2]
theorem ev93 {l : Nat} (hd : 1 ≤ d) (hl : l ≤ 48) (h8 : K 43 8 = Int32.ofNat l) : mm_ev xs Ls pd_ck pd_ak pd_mj d 93 [.ref (43 : Nat), .long e] (pd_st K D (pd_RF q) J n) = some (if (tyA e 8 (0, false)).2 = true then (.inl (some (.int 0)), pd_st (mm_u (mm_u K 43 39 0) 43 39 1) D (pd_RF q) J n) else if 48 < l + (tyA e 8 (0, false)).1 then (.inl (some (.int 0)), pd_st (mm_u (mm_u K 43 39 0) 43 39 2) D (pd_RF q) J n) else (.inl (some (.int (Int32.ofNat (tyB e 8 (l, K 44)).1))), pd_st (txK (mm_u K 43 39 0) (tyB e 8 (l, K 44))) D (pd_RF q) J n)) := by
  obtain ⟨d, rfl⟩ : ∃ e, d = e + 1 := ⟨d - 1, by omega⟩
  refine pd_ev_of (Nat.le_of_ble_eq_true rfl) ?_; rw [show pd_mj 93 = pd_m93 from rfl, show mm_pad (mm_in [.ref (43 : Nat), .long e]) pd_m93.nL = [some (.ref (43 : Nat)), some (.long e), none, none, none, none] from rfl]
  have h56 : (56 : Int32) = shi 8 := rfl
  have hA := tyA_le (e := e) 8 (0, false)
  have hB := tyB_len (e := e) 8 0 false (l, K 44)
  simp only [] at hA hB
  have hz := fun o => lp93a (xs := xs) (Ls := Ls) (D := D) (J := J) (n := n) (q := q) (d := d) (e := e) (o := o) (a5 := none) 8 0 false (mm_u K 43 39 0) none (Nat.le_refl _)
  rw [show thB false (mm_u K 43 39 0) = mm_u K 43 39 0 from rfl, show Int32.ofNat 0 = (0 : Int32) from rfl, ← h56] at hz
  simp only [p93_0, p93_1, p93_2, p93_5, p93_6, p93_7, p93_9, p93_13, p93_16, p93_17, p93_19, p93_20, p93_21, p93_24, p93_25, p93_27, p93_29, p93_32, p93_35, p93_37, p93_40, p93_42, p93_44, p93_47, p93_49, p93_51, p93_54, p93_55, p93_56, p93_59, p93_62, p93_65, p93_66, p93_69, p93_72, p93_73, p93_76, p93_77, p93_78, p93_80, p93_83, p93_84, p93_85, p93_88, p93_90, p93_94, p93_97, p93_98, p93_101, p93_104, p93_105, p93_107, p93_108, p93_109, p93_112, p93_113, p93_115, p93_117, p93_120, p93_121, p93_124, p93_125, p93_126, p93_129, p93_130, p93_131, p93_132, p93_135, p93_137, p93_138, p93_141, p93_144, p93_145, p93_148, p93_151, p93_152, p93_155, p93_158, p93_159, gf7_0 sh43, gf7_39 sh43, gf7_8 sh43, mm_2, mm_e0, mm_j, mm_ji, pd_stI, pf7_39 sh43, pf7_8 sh43, so6_3i, so6_4i, so6_5i, mm_lA, mm_lI, mm_lD, mm_lJ, mm_ld0, mm_lds, pd_Kgo, pd_Kend, pd_Kno, pd_Kite, mm_i, mm_ii, mm_r, mm_1, mm_icmp, cond_true, cond_false, mm_o2, mm_c2, wt0, wt1, wt2, wt3, wt4, va_rfs, pd_bkv, pd_bkn, pd_bkif, pd_st1, Nat.reduceAdd, Nat.reduceLeDiff, Bool.or_false, Bool.or_self]
  apply hz
  intro c a5'
  cases hb : (tyA e 8 (0, false)).2
  · rw [show thB false (mm_u K 43 39 0) = mm_u K 43 39 0 from rfl, if_neg Bool.false_ne_true]
    have u8 : (mm_u K 43 39 0) 43 8 = Int32.ofNat l := by rw [mm_u_k (by decide)]; exact h8
    have u48 : (48 : Int32) = Int32.ofNat 48 := rfl
    by_cases h : 48 < l + (tyA e 8 (0, false)).1
    · rw [if_pos h]
      have z : ¬ (Int32.ofNat (l + (tyA e 8 (0, false)).1) ≤ 48) := by rw [u48, pd_gtl (by omega) (by omega)]; omega
      have z2 : ¬ (shi 8 < 0) := shi_p (f := 7) (by omega)
      simp only [p93_0, p93_1, p93_2, p93_5, p93_6, p93_7, p93_9, p93_13, p93_16, p93_17, p93_19, p93_20, p93_21, p93_24, p93_25, p93_27, p93_29, p93_32, p93_35, p93_37, p93_40, p93_42, p93_44, p93_47, p93_49, p93_51, p93_54, p93_55, p93_56, p93_59, p93_62, p93_65, p93_66, p93_69, p93_72, p93_73, p93_76, p93_77, p93_78, p93_80, p93_83, p93_84, p93_85, p93_88, p93_90, p93_94, p93_97, p93_98, p93_101, p93_104, p93_105, p93_107, p93_108, p93_109, p93_112, p93_113, p93_115, p93_117, p93_120, p93_121, p93_124, p93_125, p93_126, p93_129, p93_130, p93_131, p93_132, p93_135, p93_137, p93_138, p93_141, p93_144, p93_145, p93_148, p93_151, p93_152, p93_155, p93_158, p93_159, gf7_0 sh43, gf7_39 sh43, gf7_8 sh43, mm_2, mm_e0, mm_j, mm_ji, pd_stI, pf7_39 sh43, pf7_8 sh43, so6_3i, so6_4i, so6_5i, mm_lA, mm_lI, mm_lD, mm_lJ, mm_ld0, mm_lds, pd_Kgo, pd_Kend, pd_Kno, pd_Kite, mm_i, mm_ii, mm_r, mm_1, mm_icmp, cond_true, cond_false, mm_o2, mm_c2, wt0, wt1, wt2, wt3, wt4, va_rfs, pd_bkv, pd_bkn, pd_bkif, pd_st1, Nat.reduceAdd, Nat.reduceLeDiff, Bool.or_false, Bool.or_self, mm_u_s, if_true, u8, pd_addn, if_neg z]
      rw [p93_92, h56]
      simp only [p93_0, p93_1, p93_2, p93_5, p93_6, p93_7, p93_9, p93_13, p93_16, p93_17, p93_19, p93_20, p93_21, p93_24, p93_25, p93_27, p93_29, p93_32, p93_35, p93_37, p93_40, p93_42, p93_44, p93_47, p93_49, p93_51, p93_54, p93_55, p93_56, p93_59, p93_62, p93_65, p93_66, p93_69, p93_72, p93_73, p93_76, p93_77, p93_78, p93_80, p93_83, p93_84, p93_85, p93_88, p93_90, p93_94, p93_97, p93_98, p93_101, p93_104, p93_105, p93_107, p93_108, p93_109, p93_112, p93_113, p93_115, p93_117, p93_120, p93_121, p93_124, p93_125, p93_126, p93_129, p93_130, p93_131, p93_132, p93_135, p93_137, p93_138, p93_141, p93_144, p93_145, p93_148, p93_151, p93_152, p93_155, p93_158, p93_159, gf7_0 sh43, gf7_39 sh43, gf7_8 sh43, mm_2, mm_e0, mm_j, mm_ji, pd_stI, pf7_39 sh43, pf7_8 sh43, so6_3i, so6_4i, so6_5i, mm_lA, mm_lI, mm_lD, mm_lJ, mm_ld0, mm_lds, pd_Kgo, pd_Kend, pd_Kno, pd_Kite, mm_i, mm_ii, mm_r, mm_1, mm_icmp, cond_true, cond_false, mm_o2, mm_c2, wt0, wt1, wt2, wt3, wt4, va_rfs, pd_bkv, pd_bkn, pd_bkif, pd_st1, Nat.reduceAdd, Nat.reduceLeDiff, Bool.or_false, Bool.or_self, mm_u_s, if_neg z2, show ((2 : Int32) = 0) = False from eq_false (by decide), if_false]
    · rw [if_neg h]
      have z : (Int32.ofNat (l + (tyA e 8 (0, false)).1) ≤ 48) := by rw [u48, pd_gtl (by omega) (by omega)]; omega
      simp only [p93_0, p93_1, p93_2, p93_5, p93_6, p93_7, p93_9, p93_13, p93_16, p93_17, p93_19, p93_20, p93_21, p93_24, p93_25, p93_27, p93_29, p93_32, p93_35, p93_37, p93_40, p93_42, p93_44, p93_47, p93_49, p93_51, p93_54, p93_55, p93_56, p93_59, p93_62, p93_65, p93_66, p93_69, p93_72, p93_73, p93_76, p93_77, p93_78, p93_80, p93_83, p93_84, p93_85, p93_88, p93_90, p93_94, p93_97, p93_98, p93_101, p93_104, p93_105, p93_107, p93_108, p93_109, p93_112, p93_113, p93_115, p93_117, p93_120, p93_121, p93_124, p93_125, p93_126, p93_129, p93_130, p93_131, p93_132, p93_135, p93_137, p93_138, p93_141, p93_144, p93_145, p93_148, p93_151, p93_152, p93_155, p93_158, p93_159, gf7_0 sh43, gf7_39 sh43, gf7_8 sh43, mm_2, mm_e0, mm_j, mm_ji, pd_stI, pf7_39 sh43, pf7_8 sh43, so6_3i, so6_4i, so6_5i, mm_lA, mm_lI, mm_lD, mm_lJ, mm_ld0, mm_lds, pd_Kgo, pd_Kend, pd_Kno, pd_Kite, mm_i, mm_ii, mm_r, mm_1, mm_icmp, cond_true, cond_false, mm_o2, mm_c2, wt0, wt1, wt2, wt3, wt4, va_rfs, pd_bkv, pd_bkn, pd_bkif, pd_st1, Nat.reduceAdd, Nat.reduceLeDiff, Bool.or_false, Bool.or_self, mm_u_s, if_true, u8, pd_addn, if_pos z]
      have hL := lp93b (xs := xs) (Ls := Ls) (D := D) (J := J) (n := n) (q := q) (d := d) (e := e) (K := mm_u K 43 39 0) (c3 := Int32.ofNat (tyA e 8 (0, false)).1) (a5 := a5') 8 (l, K 44) a5' (Nat.le_refl _) (mm_u_s _ _ _ _) (by omega)
      have e0 : txK (mm_u K 43 39 0) (l, K 44) = mm_u K 43 39 0 := txK_0 u8
      rw [e0] at hL
      exact hL
  · rw [show thB true (mm_u K 43 39 0) = mm_u (mm_u K 43 39 0) 43 39 1 from rfl, if_pos rfl]
    have z2 : ¬ (shi 8 < 0) := shi_p (f := 7) (by omega)
    simp only [p93_0, p93_1, p93_2, p93_5, p93_6, p93_7, p93_9, p93_13, p93_16, p93_17, p93_19, p93_20, p93_21, p93_24, p93_25, p93_27, p93_29, p93_32, p93_35, p93_37, p93_40, p93_42, p93_44, p93_47, p93_49, p93_51, p93_54, p93_55, p93_56, p93_59, p93_62, p93_65, p93_66, p93_69, p93_72, p93_73, p93_76, p93_77, p93_78, p93_80, p93_83, p93_84, p93_85, p93_88, p93_90, p93_94, p93_97, p93_98, p93_101, p93_104, p93_105, p93_107, p93_108, p93_109, p93_112, p93_113, p93_115, p93_117, p93_120, p93_121, p93_124, p93_125, p93_126, p93_129, p93_130, p93_131, p93_132, p93_135, p93_137, p93_138, p93_141, p93_144, p93_145, p93_148, p93_151, p93_152, p93_155, p93_158, p93_159, gf7_0 sh43, gf7_39 sh43, gf7_8 sh43, mm_2, mm_e0, mm_j, mm_ji, pd_stI, pf7_39 sh43, pf7_8 sh43, so6_3i, so6_4i, so6_5i, mm_lA, mm_lI, mm_lD, mm_lJ, mm_ld0, mm_lds, pd_Kgo, pd_Kend, pd_Kno, pd_Kite, mm_i, mm_ii, mm_r, mm_1, mm_icmp, cond_true, cond_false, mm_o2, mm_c2, wt0, wt1, wt2, wt3, wt4, va_rfs, pd_bkv, pd_bkn, pd_bkif, pd_st1, Nat.reduceAdd, Nat.reduceLeDiff, Bool.or_false, Bool.or_self, mm_u_s, show ((1 : Int32) = 0) = False from eq_false (by decide), if_false]
    rw [p93_92, h56]
    simp only [p93_0, p93_1, p93_2, p93_5, p93_6, p93_7, p93_9, p93_13, p93_16, p93_17, p93_19, p93_20, p93_21, p93_24, p93_25, p93_27, p93_29, p93_32, p93_35, p93_37, p93_40, p93_42, p93_44, p93_47, p93_49, p93_51, p93_54, p93_55, p93_56, p93_59, p93_62, p93_65, p93_66, p93_69, p93_72, p93_73, p93_76, p93_77, p93_78, p93_80, p93_83, p93_84, p93_85, p93_88, p93_90, p93_94, p93_97, p93_98, p93_101, p93_104, p93_105, p93_107, p93_108, p93_109, p93_112, p93_113, p93_115, p93_117, p93_120, p93_121, p93_124, p93_125, p93_126, p93_129, p93_130, p93_131, p93_132, p93_135, p93_137, p93_138, p93_141, p93_144, p93_145, p93_148, p93_151, p93_152, p93_155, p93_158, p93_159, gf7_0 sh43, gf7_39 sh43, gf7_8 sh43, mm_2, mm_e0, mm_j, mm_ji, pd_stI, pf7_39 sh43, pf7_8 sh43, so6_3i, so6_4i, so6_5i, mm_lA, mm_lI, mm_lD, mm_lJ, mm_ld0, mm_lds, pd_Kgo, pd_Kend, pd_Kno, pd_Kite, mm_i, mm_ii, mm_r, mm_1, mm_icmp, cond_true, cond_false, mm_o2, mm_c2, wt0, wt1, wt2, wt3, wt4, va_rfs, pd_bkv, pd_bkn, pd_bkif, pd_st1, Nat.reduceAdd, Nat.reduceLeDiff, Bool.or_false, Bool.or_self, mm_u_s, if_neg z2, show ((1 : Int32) = 0) = False from eq_false (by decide), if_false]
end VM5
