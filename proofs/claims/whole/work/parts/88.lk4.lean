/-! BOTH RUNS: an expression, the other orders -/
section LK4
variable {K Kr : pd_I} {D D1 Dr : pd_D} {J : pd_J} {n : Nat} {xs : Nat → Int32} {Ls d : Nat} {q : Nat → Nat} {c i B nn j cnt cnt1 : Nat} {us vs us1 vs1 : List UInt64} {u v y yr : UInt64}
/-- one order of the class that throws -/
theorem s53_one_t {jj N E x h h' : Nat} {or nu : Int32} (hd : 5 ≤ d) (hi : i < 5) (hc : pd_cO c) (hN : K c 2 = Int32.ofNat N) (hN9 : N ≤ 49) (hx : x < N) (ho : K (c + 1) x = or) (hv : K (c + 2) x = nu) (hlt : or < 17) (hj : jj < 49)
    (hW : ∀ d, 4 ≤ d → mm_ev xs Ls pd_ck pd_ak pd_mj d 73 [.ref (20 : Nat), .int or, .int nu] (pd_st (mm_u (stK K i x h) (28 + 3 * i) 4 (Int32.ofNat (x + 1))) D (pd_RF q) J n) = some (.inr E, pd_st (mm_u (mm_u (stK K i x h) (28 + 3 * i) 4 (Int32.ofNat (x + 1))) 20 2 (Int32.ofNat h')) D (pd_RF q) J (n + 1))) : ∀ a5 a6, pd_G xs Ls d pd_m53 (hd53 i c jj a5 a6 (pd_st (stK K i x h) D (pd_RF q) J n)) (.inr E, pd_st (stK K i (x + 1) h') D (pd_RF q) J (n + 1)) := by
  intro a5 a6
  obtain ⟨⟨c1, c2⟩, ⟨c3, c4⟩, ⟨c5, c6⟩⟩ := cO_n hc hi
  have h9 := s53_thr (xs := xs) (Ls := Ls) (a5 := a5) (a6 := a6) hd hi hc (by rw [stK_c c1 c2]; exact hN) hN9 hx (stK_at hi) (by rw [stK_c c3 c4]; exact ho) (by rw [stK_c c5 c6]; exact hv) hlt hj hW
  rw [stK_n hi] at h9
  exact h9
theorem stK_fr {x h b k : Nat} (h1 : ¬ (b = 28 + 3 * i ∧ k = 4)) (h2 : ¬ (b = 20 ∧ k = 2)) : stK K i x h b k = K b k := by
  unfold stK
  by_cases hb : b = 20
  · rw [mm_u_k (fun hk => h2 ⟨hb, hk⟩)]
    by_cases hb2 : b = 28 + 3 * i
    · rw [mm_u_k (fun hk => h1 ⟨hb2, hk⟩)]
    · rw [mm_u_a hb2]
  · rw [mm_u_a hb]
    by_cases hb2 : b = 28 + 3 * i
    · rw [mm_u_k (fun hk => h1 ⟨hb2, hk⟩)]
    · rw [mm_u_a hb2]
/-- made whole where it is whole: the class has no order for it -/
theorem ex_wh0 {w : Int32} (hB : B + nn ≤ 640) (hj : j < nn) (hlv : vs.length < 64) (hop : Kr 45 (B + j) = 5) (hF : (exF Kr B (j + 1)).1 = (exF Kr B j).1)
    (h : exR xs Ls q J n K Kr Dr i c B nn (j + 1) cnt (FP.i2d w :: us) (FP.i2d w :: vs) D) : exR xs Ls q J n K Kr Dr i c B nn j cnt (FP.i2d w :: us) (FP.i2d w :: vs) D := by
  refine ex_wrap (fun _ _ => rfl) (fun o hw => .wh (by omega) hop hlv (by rw [d2i_i, Nat.add_assoc]; exact hw)) (fun d hd o hG => ?_) h
  rw [hF] at hG
  exact hG
/-- a place of the row is looked up -/
theorem ex_rp {N k : Nat} (hi : i < 5) (hcO : pd_cO c) (hN : K c 2 = Int32.ofNat N) (hN9 : N ≤ 49) (hB : B + nn ≤ 640) (hj : j < nn) (hx : (exF Kr B j).1 < N) (hl : us.length < 49) (hlv : vs.length < 64) (hcnt : cnt ≤ (exF Kr B j).1) (hk : k < 4) (hop : Kr 45 (B + j) = 4) (ho : K (c + 1) (exF Kr B j).1 = 4) (hu : D 22 us.length = FP.i2d (Int32.ofNat k)) (hF : (exF Kr B (j + 1)).1 = (exF Kr B j).1 + 1)
    (h : exR xs Ls q J n K Kr Dr i c B nn (j + 1) (cnt + 1) (FP.i2d (Int32.ofNat (7 + k)) :: us) (FP.i2d (Int32.ofNat k) :: vs) (mm_u D 22 us.length (FP.i2d (Int32.ofNat (7 + k))))) : exR xs Ls q J n K Kr Dr i c B nn j cnt (FP.i2d (Int32.ofNat k) :: us) (FP.i2d (Int32.ofNat k) :: vs) D := by
  have z1 : ¬ (cmG (FP.i2d (Int32.ofNat k)) FP.dconst0 < 0) := by rw [lt0_i, pd_ge0 (by omega)]; exact id
  have z2 : cmL (FP.i2d (Int32.ofNat k)) 4613937818241073152 ≤ 0 := by rw [le3_i, show (4 : Int32) = Int32.ofNat 4 from rfl, pd_ltl (by omega) (by omega)]; exact hk
  refine ex_wrap (mmu_b (b := 22)) (fun o hw => .rp (by omega) hop hlv z1 z2 (by rw [Nat.add_assoc]; exact hw)) (fun d hd o hG => ?_) h
  rw [hF] at hG
  refine s53_one (h := us.length + 1) (h' := us.length + 1) hd hi hcO hN hN9 hx ho rfl (by decide) (by omega) (fun d hd => ?_) hG
  exact ev73_rp (by omega) hk (stK_1 hi) hl (by rw [hu, d2i_i])
/-- the row's number is out of range -/
theorem ex_rng {N : Nat} {w : Int32} (hi : i < 5) (hcO : pd_cO c) (hN : K c 2 = Int32.ofNat N) (hN9 : N ≤ 49) (hB : B + nn ≤ 640) (hj : j < nn) (hx : (exF Kr B j).1 < N) (hl : us.length < 49) (hlv : vs.length < 64) (hcnt : cnt ≤ (exF Kr B j).1) (hop : Kr 45 (B + j) = 3 ∨ Kr 45 (B + j) = 4) (ho : K (c + 1) (exF Kr B j).1 = 4) (hu : D 22 us.length = FP.i2d w) (hw : w < 0 ∨ ¬ (w < 4)) : exR xs Ls q J n K Kr Dr i c B nn j cnt (FP.i2d w :: us) (FP.i2d w :: vs) D := by
  refine Or.inl ⟨5, 4, stK K i ((exF Kr B j).1 + 1) us.length, D, Or.inr ⟨rfl, rfl⟩, .rng (by omega) hop hlv (by rw [lt0_i, le3_i]; exact hw), fun b k h1 h2 => stK_fr h1 h2, fun _ _ => rfl, fun d hd => ?_⟩
  refine s53_one_t (h := us.length + 1) (h' := us.length) hd hi hcO hN hN9 hx ho rfl (by decide) (by omega) (fun d hd => ?_)
  exact ev73_rn (by omega) (stK_1 hi) hl (by rw [hu, d2i_i]; exact hw)
/-- a number of the row is read: two orders of the class -/
theorem ex_row {N k : Nat} (hi : i < 5) (hcO : pd_cO c) (hN : K c 2 = Int32.ofNat N) (hN9 : N ≤ 49) (hB : B + nn ≤ 640) (hj : j < nn) (hx : (exF Kr B j).1 + 1 < N) (hl : us.length < 49) (hlv : vs.length < 64) (hcnt : cnt ≤ (exF Kr B j).1) (hk : k < 4) (hop : Kr 45 (B + j) = 3) (ho : K (c + 1) (exF Kr B j).1 = 4) (ho2 : K (c + 1) ((exF Kr B j).1 + 1) = 5) (hu : D 22 us.length = FP.i2d (Int32.ofNat k)) (hF : (exF Kr B (j + 1)).1 = (exF Kr B j).1 + 2)
    (h : exR xs Ls q J n K Kr Dr i c B nn (j + 1) (cnt + 2) (D 21 (7 + k) :: us) (Dr 53 (7 + k) :: vs) (mm_u (mm_u D 22 us.length (FP.i2d (Int32.ofNat (7 + k)))) 22 us.length (D 21 (7 + k)))) : exR xs Ls q J n K Kr Dr i c B nn j cnt (FP.i2d (Int32.ofNat k) :: us) (FP.i2d (Int32.ofNat k) :: vs) D := by
  have z1 : ¬ (cmG (FP.i2d (Int32.ofNat k)) FP.dconst0 < 0) := by rw [lt0_i, pd_ge0 (by omega)]; exact id
  have z2 : cmL (FP.i2d (Int32.ofNat k)) 4613937818241073152 ≤ 0 := by rw [le3_i, show (4 : Int32) = Int32.ofNat 4 from rfl, pd_ltl (by omega) (by omega)]; exact hk
  refine ex_wrap (fun b hb => (mmu_b (b := 22) b hb).trans (mmu_b (b := 22) b hb)) (fun o hw => .row (by omega) hop hlv hk z1 z2 (d2i_i _) (by rw [Nat.add_assoc]; exact hw)) (fun d hd o hG => ?_) h
  rw [hF] at hG
  refine s53_one (h := us.length + 1) (h' := us.length + 1) hd hi hcO hN hN9 (by omega) ho rfl (by decide) (by omega) (fun d hd => ev73_rp (by omega) hk (stK_1 hi) hl (by rw [hu, d2i_i])) ?_
  refine s53_one (h := us.length + 1) (h' := us.length + 1) hd hi hcO hN hN9 hx ho2 rfl (by decide) (by omega) (fun d hd => ?_) hG
  have e21 : (mm_u D 22 us.length (FP.i2d (Int32.ofNat (7 + k)))) 21 (7 + k) = D 21 (7 + k) := mm_u_a (by decide)
  have h9 := ev73_lr (xs := xs) (Ls := Ls) (J := J) (n := n) (q := q) (d := d) (D := mm_u D 22 us.length (FP.i2d (Int32.ofNat (7 + k)))) (h := us.length) (k := 7 + k) (v := K (c + 2) ((exF Kr B j).1 + 1)) (K := mm_u (stK K i ((exF Kr B j).1 + 1) (us.length + 1)) (28 + 3 * i) 4 (Int32.ofNat ((exF Kr B j).1 + 1 + 1))) (by omega) (by omega) (stK_1 hi) hl (by rw [mm_u_s, d2i_i])
  rw [e21] at h9
  exact h9
/-- two numbers -/
theorem ex_bin {N s t : Nat} {m a : Int32} (hi : i < 5) (hcO : pd_cO c) (hN : K c 2 = Int32.ofNat N) (hN9 : N ≤ 49) (hB : B + nn ≤ 640) (hj : j < nn) (hx : (exF Kr B j).1 < N) (hl : us.length + 1 < 49) (hlv : vs.length < 63) (hcnt : cnt ≤ (exF Kr B j).1) (hop : Kr 45 (B + j) = m) (ha : Kr 46 (B + j) = a) (hb : bo m a s t (K (c + 1) (exF Kr B j).1)) (hs : s ≤ 1) (ht : t ≤ 1) (hy : D 22 (us.length + 1) = y) (hu : D 22 us.length = u) (ky : kd s y y) (ku : kd t u u) (hF : (exF Kr B (j + 1)).1 = (exF Kr B j).1 + 1)
    (h : ∀ z, nmv m (ab a) u y = some z → exR xs Ls q J n K Kr Dr i c B nn (j + 1) (cnt + 1) (z :: us) (z :: vs) (mm_u D 22 us.length z)) : exR xs Ls q J n K Kr Dr i c B nn j cnt (y :: u :: us) (y :: u :: vs) D := by
  have hB' : isB m := by
    rcases hb with ⟨rfl, _⟩ | ⟨rfl, _⟩ | ⟨rfl, _⟩ | ⟨rfl, _⟩ | ⟨rfl, _⟩ | ⟨rfl, _⟩ | ⟨rfl, _⟩ <;> simp [isB]
  have h47 : m = 47 → ab a = 1 := by
    intro h9
    rcases hb with ⟨h, _⟩ | ⟨h, _⟩ | ⟨h, _⟩ | ⟨_, rfl, _⟩ | ⟨h, _⟩ | ⟨h, _⟩ | ⟨h, _⟩
    · rw [h9] at h; exact absurd h (by decide)
    · rw [h9] at h; exact absurd h (by decide)
    · rw [h9] at h; exact absurd h (by decide)
    · rfl
    · rw [h9] at h; exact absurd h (by decide)
    · rw [h9] at h; exact absurd h (by decide)
    · rw [h9] at h; exact absurd h (by decide)
  have hys : s = 0 → ∃ w, y = FP.i2d w := by
    intro h9
    subst h9
    obtain ⟨w, hw, _⟩ := ky.z
    exact ⟨w, hw⟩
  have h37 : m = 37 → cmL y FP.dconst0 ≠ 0 → FP.d2i y ≠ 0 := by
    intro h9 hz
    have hs0 : s = 0 := by
      rcases hb with ⟨h, _⟩ | ⟨h, _⟩ | ⟨h, _⟩ | ⟨h, _⟩ | ⟨_, h, _⟩ | ⟨h, _⟩ | ⟨h, _⟩
      · rw [h9] at h; exact absurd h (by decide)
      · rw [h9] at h; exact absurd h (by decide)
      · rw [h9] at h; exact absurd h (by decide)
      · rw [h9] at h; exact absurd h (by decide)
      · exact h
      · rw [h9] at h; exact absurd h (by decide)
      · rw [h9] at h; exact absurd h (by decide)
    obtain ⟨w, rfl⟩ := hys hs0
    rw [d2i_i]
    exact fun h8 => hz (eq0_i.mpr h8)
  obtain ⟨_, _, _, _, _, hlt⟩ := bo_o hb
  have dfu := ku.fin.1
  have dfy := ky.fin.1
  cases hz : nmv m (ab a) u y with
  | some z =>
    refine ex_wrap (mmu_b (b := 22)) (fun o hw => .bin (v := z) (by omega) (by rw [hop]; exact hB') hlv (by rw [hop, ha]; exact hz) dfu dfy (by rw [hop]; exact h37) (by rw [hop, ha]; exact h47) (by rw [Nat.add_assoc]; exact hw)) (fun d hd o hG => ?_) (h z hz)
    rw [hF] at hG
    refine s53_one (h := us.length + 2) (h' := us.length + 1) hd hi hcO hN hN9 hx rfl rfl hlt (by omega) (fun d hd => ?_) hG
    exact ev73_bs (by omega) hb (stK_1 hi) hl (by rw [hu]; exact dfu) (by rw [hy]; exact dfy) (by rw [hy]; exact hys) (by rw [hu, hy]; exact hz)
  | none =>
    refine Or.inl ⟨4, 3, stK K i ((exF Kr B j).1 + 1) us.length, D, Or.inl ⟨rfl, rfl⟩, .exc (by omega) (by rw [hop]; exact hB') hlv (by rw [hop, ha]; exact hz) dfu dfy (by rw [hop, ha]; exact h47), fun b k h1 h2 => stK_fr h1 h2, fun _ _ => rfl, fun d hd => ?_⟩
    refine s53_one_t (h := us.length + 2) (h' := us.length) hd hi hcO hN hN9 hx rfl rfl hlt (by omega) (fun d hd => ?_)
    exact ev73_bn (by omega) hb (stK_1 hi) hl (by rw [hu]; exact dfu) (by rw [hy]; exact dfy) (by rw [hy]; exact hys) (by rw [hu, hy]; exact hz)
end LK4
