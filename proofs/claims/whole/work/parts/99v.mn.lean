/-! THE WHOLE -/
def q00 : Nat → Nat := fun k => if k = 0 then 8 else if k = 1 then 11 else if k = 2 then 14 else if k = 3 then 17 else 3
def smL : List (Nat × Nat × Nat) → Bool
  | [] => true
  | e :: l => Nat.blt e.1 68 && Nat.blt e.2.1 40 && smL l
section MN
variable {xs : Nat → Int32} {Ls : Nat} {a k : Nat}
theorem LA_out (h : ¬ (a < 68 ∧ k < 40)) : ∀ l : List (Nat × Nat × Nat), smL l = true → LA l a k = none := by
  intro l
  induction l with
  | nil => intro _; rfl
  | cons e l ih =>
    intro hl
    have hl' : (Nat.blt e.1 68 && Nat.blt e.2.1 40 && smL l) = true := hl
    simp only [Bool.and_eq_true] at hl'
    obtain ⟨⟨h1, h2⟩, h3⟩ := hl'
    have h1' : e.1 < 68 := Nat.blt_eq.mp h1
    have h2' : e.2.1 < 40 := Nat.blt_eq.mp h2
    show mm_u (LA l) e.1 e.2.1 (some e.2.2) a k = none
    by_cases ea : a = e.1
    · rw [mm_u_k (by omega)]; exact ih h3
    · rw [mm_u_a ea]; exact ih h3
theorem R0_out (h : ¬ (a < 68 ∧ k < 40)) : ∀ l : List (Nat × Nat × Nat), smL l = true → pd_R0 l a k = none := by
  intro l
  induction l with
  | nil => intro _; rfl
  | cons e l ih =>
    intro hl
    have hl' : (Nat.blt e.1 68 && Nat.blt e.2.1 40 && smL l) = true := hl
    simp only [Bool.and_eq_true] at hl'
    obtain ⟨⟨h1, h2⟩, h3⟩ := hl'
    have h1' : e.1 < 68 := Nat.blt_eq.mp h1
    have h2' : e.2.1 < 40 := Nat.blt_eq.mp h2
    show cond (Nat.beq e.1 a && Nat.beq e.2.1 k) (some e.2.2) (pd_R0 l a k) = none
    have hb : (Nat.beq e.1 a && Nat.beq e.2.1 k) = false := by
      cases hc : (Nat.beq e.1 a && Nat.beq e.2.1 k)
      · rfl
      · exfalso
        simp only [Bool.and_eq_true] at hc
        have e1 := Nat.eq_of_beq_eq_true hc.1
        have e2 := Nat.eq_of_beq_eq_true hc.2
        omega
    rw [hb]
    exact ih h3
theorem LA_in : ∀ a, a < 68 → ∀ k, k < 40 → LA stR0 a k = pd_RF q00 a k := by decide +kernel
theorem LA_RF : LA stR0 = pd_RF q00 := by
  funext a k
  by_cases h : a < 68 ∧ k < 40
  · exact LA_in a h.1 k h.2
  · rw [LA_out h stR0 (by decide +kernel)]
    unfold pd_RF
    rw [if_neg (by omega), if_neg (by omega), R0_out h pd_RFl (by decide +kernel)]
theorem tS_st : tS 68 stI stR0 = pd_st (LI stI) (fun _ _ => 0) (pd_RF q00) (fun _ _ => 0) 0 := by
  unfold tS pd_st
  rw [LA_RF]
  rfl
theorem LI_o {b z : Nat} (h1 : b ≠ 0) (h2 : b ≠ 23) (h3 : b ≠ 43) : LI stI b z = 0 := by
  unfold stI LI LI LI LI LI
  rw [mm_u_a h3, mm_u_a h3, mm_u_a h1, mm_u_a h2]
theorem LI_43 {z : Nat} (h1 : z ≠ 9) (h2 : z ≠ 18) : LI stI 43 z = 0 := by
  unfold stI LI LI LI LI LI
  rw [mm_u_k h2, mm_u_k h1, mm_u_a (by decide), mm_u_a (by decide)]
theorem mi_0 : Mi q00 (LI stI) (fun _ _ => 0) := by
  have hq : pd_qO q00 := by
    refine ⟨fun k hk => ?_, fun i j hi hj h => ?_⟩
    · have : k = 0 ∨ k = 1 ∨ k = 2 ∨ k = 3 ∨ k = 4 := by omega
      rcases this with rfl | rfl | rfl | rfl | rfl
      · exact Or.inr (Or.inl rfl)
      · exact Or.inr (Or.inr (Or.inl rfl))
      · exact Or.inr (Or.inr (Or.inr (Or.inl rfl)))
      · exact Or.inr (Or.inr (Or.inr (Or.inr rfl)))
      · exact Or.inl rfl
    · have q1 : i = 0 ∨ i = 1 ∨ i = 2 ∨ i = 3 ∨ i = 4 := by omega
      have q2 : j = 0 ∨ j = 1 ∨ j = 2 ∨ j = 3 ∨ j = 4 := by omega
      rcases q1 with rfl | rfl | rfl | rfl | rfl <;> rcases q2 with rfl | rfl | rfl | rfl | rfl <;> first | rfl | exact absurd h (by decide)
  have z48 : ∀ z, LI stI 48 z = 0 := fun z => LI_o (by decide) (by decide) (by decide)
  have o0 : Int32.ofNat 0 = 0 := rfl
  have d0 : FP.dconst0 = 0 := rfl
  refine ⟨hq, ⟨0, LI_o (by decide) (by decide) (by decide), LI_43 (by decide) (by decide), by omega, fun k hk => absurd hk (by omega)⟩, rfl, ⟨1, by omega, by omega, rfl, rfl, fun j _ => ⟨?_, 0, by omega, LI_o (by decide) (by decide) (by decide)⟩⟩, fun k hk => ?_, fun k hk h => absurd (z48 k) h, ⟨fun j hj => ⟨rfl, ?_, fun _ => ⟨0, ?_⟩⟩, ⟨0, by omega, LI_o (by decide) (by decide) (by decide), LI_43 (by decide) (by decide), fun l hl => absurd hl (by omega)⟩, ?_, ?_, ?_, ?_, fun i _ => ?_⟩⟩
  · rw [LI_o (by decide) (by decide) (by decide), LI_o (by decide) (by decide) (by decide)]
  · rw [z48]
    have hk' := hq.1 k (by omega)
    have n3 : q00 k ≠ 0 ∧ q00 k ≠ 23 ∧ q00 k ≠ 43 := by rcases hk' with h | h | h | h | h <;> rw [h] <;> decide
    rw [LI_o n3.1 n3.2.1 n3.2.2]
  · show FP.Core.DFin 0
    rw [← d0, c0_i]
    exact fin_i 0
  · show (0 : UInt64) = FP.i2d 0
    rw [← d0, c0_i]
  · rw [LI_o (by decide) (by decide) (by decide), LI_43 (by decide) (by decide)]
  · rw [LI_o (by decide) (by decide) (by decide), LI_43 (by decide) (by decide)]
  · rw [LI_o (by decide) (by decide) (by decide), LI_43 (by decide) (by decide)]
  · rw [LI_o (by decide) (by decide) (by decide), LI_43 (by decide) (by decide)]
  · rw [LI_o (by decide) (by decide) (by decide), LI_o (by decide) (by decide) (by decide)]
theorem pd_main : ∀ xs Ls, Ls ≤ 2048 → pd_Main xs Ls := by
  intro xs Ls hL
  obtain ⟨K', D', q', J', n', g1, g2⟩ := lw_loop (xs := xs) (d := 200) hL (by omega) 512 0 (LI stI) (fun _ _ => 0) q00 (fun _ _ => 0) 0 none none none (by omega) (by omega) mi_0
  rw [← tS_st] at g2
  refine ⟨200, pd_st K' D' (pd_RF q') J' n', by omega, (lw_st (by omega)).mpr g2, ?_, ?_⟩
  · show pd_SH.length + n' ≤ 601024
    have : pd_SH.length = 68 := rfl
    omega
  · show mm_sz pd_ck pd_SH + 6 * n' ≤ 7293034
    have : mm_sz pd_ck pd_SH ≤ 7000000 := by decide +kernel
    omega
end MN
