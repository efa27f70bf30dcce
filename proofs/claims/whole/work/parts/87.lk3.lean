/-! BOTH RUNS: an expression, order by order -/
/-- all that stands still in an expression: xs Ls q J n, memories, process, code, base -/
def exF (Kr : pd_I) (B j : Nat) : Nat × List Nat := ft (fun k => Kr 45 (B + k)) (fun k => Kr 46 (B + k)) j
/-- from place j on: both throw, or both come to the order that ends the step -/
def exR (xs : Nat → Int32) (Ls : Nat) (q : Nat → Nat) (J : pd_J) (n : Nat) (K Kr : pd_I) (Dr : pd_D) (i c B nn j cnt : Nat) (us vs : List UInt64) (D : pd_D) : Prop :=
  (∃ e E K' D', ((e = 4 ∧ E = 3) ∨ (e = 5 ∧ E = 4)) ∧ Wk (Kr 45) (Kr 46) (Dr 53) (B + j) vs (.inl e) ∧ (∀ b k, ¬ (b = 28 + 3 * i ∧ k = 4) → ¬ (b = 20 ∧ k = 2) → K' b k = K b k) ∧ (∀ b, b ≠ 22 → D' b = D b) ∧ ∀ d, 5 ≤ d → ∀ a5 a6, pd_G xs Ls d pd_m53 (hd53 i c cnt a5 a6 (pd_st (stK K i (exF Kr B j).1 us.length) D (pd_RF q) J n)) (.inr E, pd_st K' D' (pd_RF q) J (n + 1)))
  ∨ (∃ j' us' vs' cnt' D', j ≤ j' ∧ j' < nn ∧ ¬ (Kr 45 (B + j') < 20) ∧ Kr 45 (B + j') ≤ 30 ∧ SK (exF Kr B j').2 us' vs' ∧ sE (D' 22) us' ∧ (∀ b, b ≠ 22 → D' b = D b) ∧ cnt' ≤ (exF Kr B j').1 ∧ Wk (Kr 45) (Kr 46) (Dr 53) (B + j) vs (.inr (B + j', vs')) ∧ ∀ d, 5 ≤ d → ∀ o, (∀ a5 a6, pd_G xs Ls d pd_m53 (hd53 i c cnt' a5 a6 (pd_st (stK K i (exF Kr B j').1 us'.length) D' (pd_RF q) J n)) o) → ∀ a5 a6, pd_G xs Ls d pd_m53 (hd53 i c cnt a5 a6 (pd_st (stK K i (exF Kr B j).1 us.length) D (pd_RF q) J n)) o)
section LK3
variable {K Kr : pd_I} {D D1 Dr : pd_D} {J : pd_J} {n : Nat} {xs : Nat → Int32} {Ls d : Nat} {q : Nat → Nat} {c i B nn j cnt cnt1 : Nat} {us vs us1 vs1 : List UInt64}
/-- the order at j is done on both sides -/
theorem ex_wrap (hD : ∀ b, b ≠ 22 → D1 b = D b) (hw : ∀ o, Wk (Kr 45) (Kr 46) (Dr 53) (B + (j + 1)) vs1 o → Wk (Kr 45) (Kr 46) (Dr 53) (B + j) vs o) (hg : ∀ d, 5 ≤ d → ∀ o, (∀ a5 a6, pd_G xs Ls d pd_m53 (hd53 i c cnt1 a5 a6 (pd_st (stK K i (exF Kr B (j + 1)).1 us1.length) D1 (pd_RF q) J n)) o) → ∀ a5 a6, pd_G xs Ls d pd_m53 (hd53 i c cnt a5 a6 (pd_st (stK K i (exF Kr B j).1 us.length) D (pd_RF q) J n)) o) (h : exR xs Ls q J n K Kr Dr i c B nn (j + 1) cnt1 us1 vs1 D1) : exR xs Ls q J n K Kr Dr i c B nn j cnt us vs D := by
  rcases h with ⟨e, E, K', D', h1, h2, h3, h4, h5⟩ | ⟨j', us', vs', cnt', D', h1, h2, h3, h4, h5, h6, h7, h8, h9, h10⟩
  · exact Or.inl ⟨e, E, K', D', h1, hw _ h2, h3, fun b hb => (h4 b hb).trans (hD b hb), fun d hd => hg d hd _ (h5 d hd)⟩
  · exact Or.inr ⟨j', us', vs', cnt', D', by omega, h2, h3, h4, h5, h6, fun b hb => (h7 b hb).trans (hD b hb), h8, hw _ h9, fun d hd o ho => hg d hd _ (h10 d hd o ho)⟩
/-- the order that ends the step -/
theorem ex_stop (hj : j < nn) (hB : B + nn ≤ 640) (h1 : ¬ (Kr 45 (B + j) < 20)) (h2 : Kr 45 (B + j) ≤ 30) (hS : SK (exF Kr B j).2 us vs) (hE : sE (D 22) us) (hc : cnt ≤ (exF Kr B j).1) : exR xs Ls q J n K Kr Dr i c B nn j cnt us vs D :=
  Or.inr ⟨j, us, vs, cnt, D, Nat.le_refl _, hj, h1, h2, hS, hE, fun _ _ => rfl, hc, .stop (by omega) h1 h2, fun _ _ _ h => h⟩
theorem sE_push {f : Nat → UInt64} {v : UInt64} {us : List UInt64} (h : sE f us) : sE (pd_up f us.length v) (v :: us) := ⟨by unfold pd_up; rw [if_pos rfl], sE_up h (Nat.le_refl _)⟩
theorem ex_num {N : Nat} {a : Int32} (hi : i < 5) (hcO : pd_cO c) (hN : K c 2 = Int32.ofNat N) (hN9 : N ≤ 49) (hB : B + nn ≤ 640) (hj : j < nn) (hx : (exF Kr B j).1 < N) (hl : us.length < 49) (hlv : vs.length < 64) (hcnt : cnt ≤ (exF Kr B j).1) (hop : Kr 45 (B + j) = 1) (ha : Kr 46 (B + j) = a) (ho : K (c + 1) (exF Kr B j).1 = 2) (hv : K (c + 2) (exF Kr B j).1 = a) (hF : (exF Kr B (j + 1)).1 = (exF Kr B j).1 + 1)
    (h : exR xs Ls q J n K Kr Dr i c B nn (j + 1) (cnt + 1) (FP.i2d a :: us) (FP.i2d a :: vs) (mm_u D 22 us.length (FP.i2d a))) : exR xs Ls q J n K Kr Dr i c B nn j cnt us vs D := by
  refine ex_wrap (mmu_b (b := 22)) (fun o hw => .num (by omega) hop hlv (by rw [ha, Nat.add_assoc]; exact hw)) (fun d hd o hG => ?_) h
  rw [hF] at hG
  exact s53_one (h' := us.length + 1) hd hi hcO hN hN9 hx ho hv (by decide) (by omega) (fun d hd => ev73_num (by omega) (stK_1 hi) hl) hG
theorem ex_ld {N k : Nat} (hi : i < 5) (hcO : pd_cO c) (hN : K c 2 = Int32.ofNat N) (hN9 : N ≤ 49) (hB : B + nn ≤ 640) (hj : j < nn) (hx : (exF Kr B j).1 < N) (hl : us.length < 49) (hlv : vs.length < 64) (hcnt : cnt ≤ (exF Kr B j).1) (hop : Kr 45 (B + j) = 2) (hk : k < 11) (ha : Kr 46 (B + j) = Int32.ofNat k) (ho : K (c + 1) (exF Kr B j).1 = 3) (hv : K (c + 2) (exF Kr B j).1 = Int32.ofNat k) (hF : (exF Kr B (j + 1)).1 = (exF Kr B j).1 + 1)
    (h : exR xs Ls q J n K Kr Dr i c B nn (j + 1) (cnt + 1) (D 21 k :: us) (Dr 53 k :: vs) (mm_u D 22 us.length (D 21 k))) : exR xs Ls q J n K Kr Dr i c B nn j cnt us vs D := by
  refine ex_wrap (mmu_b (b := 22)) (fun o hw => .ld (by omega) hop hlv hk ha (by rw [Nat.add_assoc]; exact hw)) (fun d hd o hG => ?_) h
  rw [hF] at hG
  exact s53_one (h' := us.length + 1) hd hi hcO hN hN9 hx ho hv (by decide) (by omega) (fun d hd => ev73_ld (by omega) hk (stK_1 hi) hl) hG
theorem ex_wh1 {N : Nat} {u v : UInt64} (hi : i < 5) (hcO : pd_cO c) (hN : K c 2 = Int32.ofNat N) (hN9 : N ≤ 49) (hB : B + nn ≤ 640) (hj : j < nn) (hx : (exF Kr B j).1 < N) (hl : us.length < 49) (hlv : vs.length < 64) (hcnt : cnt ≤ (exF Kr B j).1) (hop : Kr 45 (B + j) = 5) (ho : K (c + 1) (exF Kr B j).1 = 6) (hu : D 22 us.length = u) (hF : (exF Kr B (j + 1)).1 = (exF Kr B j).1 + 1)
    (h : exR xs Ls q J n K Kr Dr i c B nn (j + 1) (cnt + 1) (FP.i2d (FP.d2i u) :: us) (FP.i2d (FP.d2i v) :: vs) (mm_u D 22 us.length (FP.i2d (FP.d2i u)))) : exR xs Ls q J n K Kr Dr i c B nn j cnt (u :: us) (v :: vs) D := by
  refine ex_wrap (mmu_b (b := 22)) (fun o hw => .wh (by omega) hop hlv (by rw [Nat.add_assoc]; exact hw)) (fun d hd o hG => ?_) h
  rw [hF] at hG
  refine s53_one (h := us.length + 1) (h' := us.length + 1) hd hi hcO hN hN9 hx ho rfl (by decide) (by omega) (fun d hd => ?_) hG
  have h9 := ev73_wh (xs := xs) (Ls := Ls) (J := J) (n := n) (q := q) (d := d) (D := D) (h := us.length) (v := K (c + 2) (exF Kr B j).1) (K := mm_u (stK K i (exF Kr B j).1 (us.length + 1)) (28 + 3 * i) 4 (Int32.ofNat ((exF Kr B j).1 + 1))) (by omega) (stK_1 hi) hl
  rw [hu] at h9
  exact h9
end LK3
