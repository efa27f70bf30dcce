/-! BOTH RUNS: an expression -/
/-- the class's memory in a step: process i at x, h numbers on the stack -/
def stK (K : pd_I) (i x h : Nat) : pd_I := mm_u (mm_u K (28 + 3 * i) 4 (Int32.ofNat x)) 20 2 (Int32.ofNat h)
section LK2
variable {K Kr : pd_I} {D Dr : pd_D} {J : pd_J} {n : Nat} {xs : Nat → Int32} {Ls d : Nat} {q : Nat → Nat} {c i x h h' : Nat}
theorem stK_n (hi : i < 5) : mm_u (mm_u (stK K i x h) (28 + 3 * i) 4 (Int32.ofNat (x + 1))) 20 2 (Int32.ofNat h') = stK K i (x + 1) h' := by
  have n1 : ¬ (20 = 28 + 3 * i) := by omega
  have n2 : ¬ (28 + 3 * i = 20) := by omega
  unfold stK
  funext a k
  unfold mm_u
  by_cases h1 : a = 20
  · subst h1
    by_cases h2 : k = 2
    · simp [h2]
    · simp [h2, n1]
  · by_cases h3 : a = 28 + 3 * i
    · by_cases h4 : k = 4
      · simp [h3, h4, n2]
      · simp [h3, h4, n2]
    · simp [h1, h3]
theorem stK_1 (hi : i < 5) : (mm_u (stK K i x h) (28 + 3 * i) 4 (Int32.ofNat (x + 1))) 20 2 = Int32.ofNat h := by
  rw [mm_u_a (by omega)]
  exact mm_u_s _ _ _ _
theorem stK_at (hi : i < 5) : Sd (stK K i x h) i 4 = Int32.ofNat x := by
  unfold Sd stK
  rw [mm_u_a (by omega), mm_u_s]
theorem stK_c {a k : Nat} (h1 : a ≠ 28 + 3 * i) (h2 : a ≠ 20) : stK K i x h a k = K a k := by
  unfold stK
  rw [mm_u_a h2, mm_u_a h1]
theorem cO_n (hc : pd_cO c) (hi : i < 5) : (c ≠ 28 + 3 * i ∧ c ≠ 20) ∧ (c + 1 ≠ 28 + 3 * i ∧ c + 1 ≠ 20) ∧ (c + 2 ≠ 28 + 3 * i ∧ c + 2 ≠ 20) := by
  rcases hc with rfl | rfl | rfl | rfl | rfl <;> omega
/-- one order of the class within an expression -/
theorem s53_one {j N : Nat} {or nu : Int32} {D' : pd_D} {o : mm_O} (hd : 5 ≤ d) (hi : i < 5) (hc : pd_cO c) (hN : K c 2 = Int32.ofNat N) (hN9 : N ≤ 49) (hx : x < N) (ho : K (c + 1) x = or) (hv : K (c + 2) x = nu) (hlt : or < 17) (hj : j < 49)
    (hW : ∀ d, 4 ≤ d → mm_ev xs Ls pd_ck pd_ak pd_mj d 73 [.ref (20 : Nat), .int or, .int nu] (pd_st (mm_u (stK K i x h) (28 + 3 * i) 4 (Int32.ofNat (x + 1))) D (pd_RF q) J n) = some (.inl none, pd_st (mm_u (mm_u (stK K i x h) (28 + 3 * i) 4 (Int32.ofNat (x + 1))) 20 2 (Int32.ofNat h')) D' (pd_RF q) J n)) (hG : ∀ a5 a6, pd_G xs Ls d pd_m53 (hd53 i c (j + 1) a5 a6 (pd_st (stK K i (x + 1) h') D' (pd_RF q) J n)) o) : ∀ a5 a6, pd_G xs Ls d pd_m53 (hd53 i c j a5 a6 (pd_st (stK K i x h) D (pd_RF q) J n)) o := by
  intro a5 a6
  obtain ⟨⟨c1, c2⟩, ⟨c3, c4⟩, ⟨c5, c6⟩⟩ := cO_n hc hi
  refine s53_go hd hi hc (by rw [stK_c c1 c2]; exact hN) hN9 hx (stK_at hi) (by rw [stK_c c3 c4]; exact ho) (by rw [stK_c c5 c6]; exact hv) hlt hj hW ?_
  rw [stK_n hi]
  exact hG
theorem tyS_len {op a : Int32} {t : List Nat} : (tyS op a t).length ≤ t.length + 1 := by
  have h1 : t.tail.length ≤ t.length := by rw [List.length_tail]; omega
  have h2 : t.tail.tail.length ≤ t.length := by rw [List.length_tail, List.length_tail]; omega
  unfold tyS
  by_cases k1 : op = 1
  · rw [if_pos k1, List.length_cons]; omega
  · rw [if_neg k1]
    by_cases k2 : op = 2
    · rw [if_pos k2, List.length_cons]; omega
    · rw [if_neg k2]
      by_cases k3 : op = 3
      · rw [if_pos k3, List.length_cons]; omega
      · rw [if_neg k3]
        by_cases k4 : op = 4
        · rw [if_pos k4, List.length_cons]; omega
        · rw [if_neg k4]
          by_cases k5 : op = 5
          · rw [if_pos k5, List.length_cons]; omega
          · rw [if_neg k5]
            by_cases k42 : op = 42
            · rw [if_pos k42, List.length_cons]; omega
            · rw [if_neg k42]
              by_cases k43 : op = 43
              · rw [if_pos k43, List.length_cons]; omega
              · rw [if_neg k43]
                by_cases k45 : op = 45
                · rw [if_pos k45, List.length_cons]; omega
                · rw [if_neg k45]
                  by_cases k47 : op = 47
                  · rw [if_pos k47, List.length_cons]; omega
                  · rw [if_neg k47]
                    by_cases k37 : op = 37
                    · rw [if_pos k37, List.length_cons]; omega
                    · rw [if_neg k37]
                      by_cases k60 : op = 60
                      · rw [if_pos k60, List.length_cons]; omega
                      · rw [if_neg k60]
                        by_cases k61 : op = 61
                        · rw [if_pos k61, List.length_cons]; omega
                        · rw [if_neg k61]
                          exact Nat.zero_le _
theorem ft_len {ca aa : Nat → Int32} : ∀ j, (ft ca aa j).2.length ≤ j := by
  intro j
  induction j with
  | zero => exact Nat.le_refl _
  | succ j ih =>
    have h := tyS_len (op := ca j) (a := aa j) (t := (ft ca aa j).2)
    exact Nat.le_trans h (by omega)
end LK2
