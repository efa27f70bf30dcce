/-! BOTH RUNS: a step's expression, from the class's step -/
section LK10
variable {K Kr : pd_I} {D Dr : pd_D} {J : pd_J} {n : Nat} {xs : Nat → Int32} {Ls : Nat} {q : Nat → Nat} {i B nn N k j x : Nat}
theorem mm_self {α : Type} {f : Nat → Nat → α} {a b : Nat} {z : α} (h : f a b = z) : mm_u f a b z = f := by
  funext a' b'
  unfold mm_u
  by_cases h1 : a' = a
  · by_cases h2 : b' = b
    · rw [if_pos h1, if_pos h2, h1, h2, h]
    · rw [if_pos h1, if_neg h2]
  · rw [if_neg h1]
theorem st_ex (hi : i < 5) (hk : k < 4) (hcO : pd_cO (q k)) (hp : Sd K i 3 = Int32.ofNat k) (hat : Sd K i 4 = Int32.ofNat x) (hx : x = (exF Kr B j).1) (hN : K (q k) 2 = Int32.ofNat N) (hC : Cok (fun l => Kr 45 (B + l)) (fun l => Kr 46 (B + l)) (fun l => Kr 47 (B + l)) (K (q k + 1)) (K (q k + 2)) N nn) (hB : B + nn ≤ 640) (hV : VR D Dr) (hj : j < nn) (hty : (exF Kr B j).2 = []) :
    (∃ e E K' D', ((e = 4 ∧ E = 3) ∨ (e = 5 ∧ E = 4)) ∧ Wk (Kr 45) (Kr 46) (Dr 53) (B + j) [] (.inl e) ∧ (∀ b z, ¬ (b = 28 + 3 * i ∧ z = 4) → ¬ (b = 20 ∧ z = 2) → K' b z = (mm_u K 6 6 (K 6 6 + 1)) b z) ∧ (∀ b, b ≠ 22 → D' b = D b) ∧ ∀ d, 7 ≤ d → mm_ev xs Ls pd_ck pd_ak pd_mj d 53 [.ref (6 : Nat), .int (Int32.ofNat i)] (pd_st K D (pd_RF q) J n) = some (.inr E, pd_st K' D' (pd_RF q) J (n + 1)))
    ∨ (∃ j' us' vs' cnt' D', j ≤ j' ∧ j' < nn ∧ ¬ (Kr 45 (B + j') < 20) ∧ Kr 45 (B + j') ≤ 30 ∧ SK (exF Kr B j').2 us' vs' ∧ sE (D' 22) us' ∧ (∀ b, b ≠ 22 → D' b = D b) ∧ cnt' ≤ (exF Kr B j').1 ∧ Wk (Kr 45) (Kr 46) (Dr 53) (B + j) [] (.inr (B + j', vs')) ∧ ∀ r S', (∀ d, 6 ≤ d → ∀ a5 a6, pd_G xs Ls d pd_m53 (hd53 i (q k) cnt' a5 a6 (pd_st (stK (mm_u K 6 6 (K 6 6 + 1)) i (exF Kr B j').1 us'.length) D' (pd_RF q) J n)) (r, S')) → ∀ d, 7 ≤ d → mm_ev xs Ls pd_ck pd_ak pd_mj d 53 [.ref (6 : Nat), .int (Int32.ofNat i)] (pd_st K D (pd_RF q) J n) = some (r, S')) := by
  have nc : q k ≠ 6 ∧ q k + 1 ≠ 6 ∧ q k + 2 ≠ 6 := by rcases hcO with h | h | h | h | h <;> rw [h] <;> decide
  have e1 : mm_u (mm_u K 6 6 (K 6 6 + 1)) 20 2 0 = stK (mm_u K 6 6 (K 6 6 + 1)) i (exF Kr B j).1 0 := by
    unfold stK
    rw [mm_self (f := mm_u K 6 6 (K 6 6 + 1)) (a := 28 + 3 * i) (b := 4) (z := Int32.ofNat (exF Kr B j).1) (by rw [mm_u_a (by omega), ← hx]; exact hat)]
    rfl
  have hN' : (mm_u K 6 6 (K 6 6 + 1)) (q k) 2 = Int32.ofNat N := by rw [mm_u_a nc.1]; exact hN
  have hC' : Cok (fun l => Kr 45 (B + l)) (fun l => Kr 46 (B + l)) (fun l => Kr 47 (B + l)) ((mm_u K 6 6 (K 6 6 + 1)) (q k + 1)) ((mm_u K 6 6 (K 6 6 + 1)) (q k + 2)) N nn := by
    rw [mm_u_ag nc.2.1, mm_u_ag nc.2.2]; exact hC
  have h := ex_c (xs := xs) (Ls := Ls) (q := q) (J := J) (n := n) hi hcO hN' hC' hB hV (nn - j) j 0 [] [] D (by omega) (by omega) (fun _ _ => rfl) (by rw [hty]; exact ⟨rfl, rfl⟩) trivial (Nat.zero_le _)
  rcases h with ⟨e, E, K', D', h1, h2, h3, h4, h5⟩ | ⟨j', us', vs', cnt', D', h1, h2, h3, h4, h5, h6, h7, h8, h9, h10⟩
  · refine Or.inl ⟨e, E, K', D', h1, h2, h3, h4, fun d hd => ev53 hd hi hk hp (fun d hd a5 a6 => ?_)⟩
    rw [e1]
    exact h5 d (by omega) a5 a6
  · refine Or.inr ⟨j', us', vs', cnt', D', h1, h2, h3, h4, h5, h6, h7, h8, h9, fun r S' hG d hd => ev53 hd hi hk hp (fun d hd a5 a6 => ?_)⟩
    rw [e1]
    exact h10 d (by omega) _ (hG d hd) a5 a6
end LK10
