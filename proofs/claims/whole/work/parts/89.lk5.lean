/-! BOTH RUNS: an expression, whole -/
section LK5
variable {K Kr : pd_I} {D0 Dr : pd_D} {J : pd_J} {n : Nat} {xs : Nat → Int32} {Ls d : Nat} {q : Nat → Nat} {c i B nn N : Nat}
theorem bo_ty {m a o : Int32} {s t : Nat} {ts : List Nat} (h : bo m a s t o) : tyS m a (s :: t :: ts) = (if m = 47 then 1 else if m = 42 ∨ m = 43 ∨ m = 45 then (if a = 1 then 1 else 0) else 0) :: ts ∧ wd m (s :: t :: ts) = 1 := by
  rcases h with ⟨rfl, _⟩ | ⟨rfl, _⟩ | ⟨rfl, _⟩ | ⟨rfl, _⟩ | ⟨rfl, _⟩ | ⟨rfl, _⟩ | ⟨rfl, _⟩ <;> exact ⟨rfl, rfl⟩
theorem kd_ld {k : Nat} {Dc : pd_D} (hV : VR Dc Dr) (hk : k < 11) : kd (tg (isR (Int32.ofNat k))) (Dc 21 k) (Dr 53 k) := by
  obtain ⟨h1, h2, h3⟩ := hV k hk
  rw [h1]
  cases hr : isR (Int32.ofNat k)
  · obtain ⟨w, hw⟩ := h3 hr
    exact Or.inl ⟨rfl, w, hw, hw⟩
  · exact Or.inr (Or.inl ⟨rfl, rfl, h2⟩)
theorem int_nat {w : Int32} (h1 : ¬ (w < 0)) (h2 : w < 4) : ∃ k, k < 4 ∧ w = Int32.ofNat k := by
  rw [Int32.lt_iff_toInt_lt, show (0 : Int32).toInt = 0 from rfl] at h1
  rw [Int32.lt_iff_toInt_lt, show (4 : Int32).toInt = 4 from rfl] at h2
  refine ⟨w.toInt.toNat, by omega, ?_⟩
  apply Int32.toInt_inj.mp
  rw [Int32.toInt_ofNat_of_lt (by omega)]
  omega
theorem ex_c (hi : i < 5) (hcO : pd_cO c) (hN : K c 2 = Int32.ofNat N) (hC : Cok (fun k => Kr 45 (B + k)) (fun k => Kr 46 (B + k)) (fun k => Kr 47 (B + k)) (K (c + 1)) (K (c + 2)) N nn) (hB : B + nn ≤ 640) (hV : VR D0 Dr) : ∀ (m j cnt : Nat) (us vs : List UInt64) (D : pd_D), j + m = nn → 0 < m → (∀ b, b ≠ 22 → D b = D0 b) → SK (exF Kr B j).2 us vs → sE (D 22) us → cnt ≤ (exF Kr B j).1 → exR xs Ls q J n K Kr Dr i c B nn j cnt us vs D := by
  intro m
  induction m with
  | zero => intro j cnt us vs D _ h; omega
  | succ m ih =>
    intro j cnt us vs D hj _ hD hS hE hcnt
    have hjn : j < nn := by omega
    have hcn : Cn (fun k => Kr 45 (B + k)) (exF Kr B) (K (c + 1)) (K (c + 2)) nn j (exF Kr B j).1 (Kr 45 (B + j)) (Kr 46 (B + j)) (Kr 47 (B + j)) (exF Kr B j).2 := hC.g j (Nat.zero_le _) hjn
    have hF : exF Kr B (j + 1) = ((exF Kr B j).1 + wd (Kr 45 (B + j)) (exF Kr B j).2, tyS (Kr 45 (B + j)) (Kr 46 (B + j)) (exF Kr B j).2) := rfl
    have hle : (exF Kr B (j + 1)).1 ≤ N := by rw [hC.eN]; exact ft_le hjn
    have hN9 := hC.N9
    have hn9 := hC.n9
    have hlen : (exF Kr B j).2.length ≤ j := ft_len j
    have hD21 : D 21 = D0 21 := hD 21 (by decide)
    have hV' : VR D Dr := by unfold VR; rw [hD21]; exact hV
    have hl30 : Kr 45 (B + j) ≠ 30 → 0 < m := by
      intro h
      rcases Nat.eq_zero_or_pos m with h9 | h9
      · exfalso
        have h8 := hC.l
        apply h
        have e : j = nn - 1 := by omega
        rw [e]; exact h8
      · exact h9
    have hDp : ∀ h z, ∀ b, b ≠ 22 → (mm_u D 22 h z) b = D0 b := fun h z b hb => (mmu_b (b := 22) b hb).trans (hD b hb)
    generalize hop : Kr 45 (B + j) = op at *
    generalize haa : Kr 46 (B + j) = aa at *
    generalize hxx : Kr 47 (B + j) = xx at *
    generalize hts : (exF Kr B j).2 = ts at *
    have hlu := hS.len
    induction hcn using Cn.rc with
    | @num a x t h1 h2 =>
      have hF1 : (exF Kr B (j + 1)).1 = (exF Kr B j).1 + 1 := by rw [hF]; rfl
      have hF2 : (exF Kr B (j + 1)).2 = 0 :: t := by rw [hF]; rfl
      refine ex_num hi hcO hN hN9 hB hjn (by omega) (by omega) (by omega) hcnt hop haa h1 h2 hF1 (ih (j + 1) (cnt + 1) _ _ _ (by omega) (hl30 (by decide)) (hDp _ _) ?_ ?_ (by omega))
      · rw [hF2]; exact ⟨_, _, _, _, rfl, rfl, Or.inl ⟨rfl, a, rfl, rfl⟩, hS⟩
      · rw [mmu_up]; exact sE_push hE
    | @ld k x t h1 h2 h3 =>
      have hF1 : (exF Kr B (j + 1)).1 = (exF Kr B j).1 + 1 := by rw [hF]; rfl
      have hF2 : (exF Kr B (j + 1)).2 = tg (isR (Int32.ofNat k)) :: t := by rw [hF]; rfl
      refine ex_ld hi hcO hN hN9 hB hjn (by omega) (by omega) (by omega) hcnt hop (by omega) haa h2 h3 hF1 (ih (j + 1) (cnt + 1) _ _ _ (by omega) (hl30 (by decide)) (hDp _ _) ?_ ?_ (by omega))
      · rw [hF2]; exact ⟨_, _, _, _, rfl, rfl, kd_ld hV' (by omega), hS⟩
      · rw [mmu_up]; exact sE_push hE
    | @rw a x t h1 h2 =>
      have hF1 : (exF Kr B (j + 1)).1 = (exF Kr B j).1 + 2 := by rw [hF]; rfl
      have hF2 : (exF Kr B (j + 1)).2 = 0 :: t := by rw [hF]; rfl
      obtain ⟨u, us', v, vs', rfl, rfl, hk, hS'⟩ := hS
      obtain ⟨w, rfl, rfl⟩ := hk.z
      obtain ⟨e1, e2⟩ := hE
      have hls := hS'.len
      simp only [List.length_cons] at hlen hlu
      by_cases g1 : w < 0
      · exact ex_rng hi hcO hN hN9 hB hjn (by omega) (by omega) (by omega) hcnt (Or.inl hop) h1 e1 (Or.inl g1)
      · by_cases g2 : w < 4
        · obtain ⟨k, hk4, rfl⟩ := int_nat g1 g2
          refine ex_row hi hcO hN hN9 hB hjn (by omega) (by omega) (by omega) hcnt hk4 hop h1 h2 e1 hF1 (ih (j + 1) (cnt + 2) _ _ _ (by omega) (hl30 (by decide)) (fun b hb => (mmu_b (b := 22) b hb).trans (hDp _ _ b hb)) ?_ ?_ (by omega))
          · rw [hF2]
            have h9 := kd_ld (k := 7 + k) hV' (by omega)
            have e9 : isR (Int32.ofNat (7 + k)) = false := by
              have : k = 0 ∨ k = 1 ∨ k = 2 ∨ k = 3 := by omega
              rcases this with rfl | rfl | rfl | rfl <;> decide
            rw [e9] at h9
            exact ⟨_, _, _, _, rfl, rfl, h9, hS'⟩
          · rw [mm_uu, mmu_up]; exact sE_push e2
        · exact ex_rng hi hcO hN hN9 hB hjn (by omega) (by omega) (by omega) hcnt (Or.inl hop) h1 e1 (Or.inr g2)
    | @rp a x h1 =>
      have hF1 : (exF Kr B (j + 1)).1 = (exF Kr B j).1 + 1 := by rw [hF]; rfl
      have hF2 : (exF Kr B (j + 1)).2 = [2] := by rw [hF]; rfl
      obtain ⟨u, us', v, vs', rfl, rfl, hk, hS'⟩ := hS
      obtain ⟨w, rfl, rfl⟩ := hk.z
      obtain ⟨e1, e2⟩ := hE
      have hls := hS'.len
      simp only [List.length_cons] at hlen hlu
      by_cases g1 : w < 0
      · exact ex_rng hi hcO hN hN9 hB hjn (by omega) (by omega) (by omega) hcnt (Or.inr hop) h1 e1 (Or.inl g1)
      · by_cases g2 : w < 4
        · obtain ⟨k, hk4, rfl⟩ := int_nat g1 g2
          refine ex_rp hi hcO hN hN9 hB hjn (by omega) (by omega) (by omega) hcnt hk4 hop h1 e1 hF1 (ih (j + 1) (cnt + 1) _ _ _ (by omega) (hl30 (by decide)) (hDp _ _) ?_ ?_ (by omega))
          · rw [hF2]; exact ⟨_, _, _, _, rfl, rfl, Or.inr (Or.inr ⟨rfl, k, hk4, rfl, rfl⟩), hS'⟩
          · rw [mmu_up]; exact sE_push e2
        · exact ex_rng hi hcO hN hN9 hB hjn (by omega) (by omega) (by omega) hcnt (Or.inr hop) h1 e1 (Or.inr g2)
    | @wh1 a x t h1 =>
      have hF1 : (exF Kr B (j + 1)).1 = (exF Kr B j).1 + 1 := by rw [hF]; rfl
      have hF2 : (exF Kr B (j + 1)).2 = 0 :: t := by rw [hF]; rfl
      obtain ⟨u, us', v, vs', rfl, rfl, hk, hS'⟩ := hS
      have huv := hk.le (by omega)
      subst huv
      obtain ⟨e1, e2⟩ := hE
      have hls := hS'.len
      simp only [List.length_cons] at hlen hlu
      refine ex_wh1 hi hcO hN hN9 hB hjn (by omega) (by omega) (by omega) hcnt hop h1 e1 hF1 (ih (j + 1) (cnt + 1) _ _ _ (by omega) (hl30 (by decide)) (hDp _ _) ?_ ?_ (by omega))
      · rw [hF2]; exact ⟨_, _, _, _, rfl, rfl, Or.inl ⟨rfl, _, rfl, rfl⟩, hS'⟩
      · rw [mmu_up]; exact sE_push e2
    | @wh0 a x t =>
      have hF1 : (exF Kr B (j + 1)).1 = (exF Kr B j).1 := by rw [hF]; rfl
      have hF2 : (exF Kr B (j + 1)).2 = 0 :: t := by rw [hF]; rfl
      obtain ⟨u, us', v, vs', rfl, rfl, hk, hS'⟩ := hS
      obtain ⟨w, rfl, rfl⟩ := hk.z
      have hls := hS'.len
      simp only [List.length_cons] at hlen hlu
      refine ex_wh0 hB hjn (by omega) hop hF1 (ih (j + 1) cnt _ _ _ (by omega) (hl30 (by decide)) hD ?_ hE (by omega))
      rw [hF2]; exact ⟨_, _, _, _, rfl, rfl, Or.inl ⟨rfl, _, rfl, rfl⟩, hS'⟩
    | @bi y a x s u t h1 h2 h3 =>
      obtain ⟨b1, b2⟩ := bo_ty (ts := t) h3
      have hF1 : (exF Kr B (j + 1)).1 = (exF Kr B j).1 + 1 := by rw [hF, b2]
      obtain ⟨p, us', p', vs', rfl, rfl, hk, hS'⟩ := hS
      obtain ⟨r, us'', r', vs'', rfl, rfl, hk2, hS''⟩ := hS'
      have e1 := hk.le h1
      have e2 := hk2.le h2
      subst e1 e2
      obtain ⟨f1, f2, f3⟩ := hE
      have hls := hS''.len
      simp only [List.length_cons] at hlen hlu
      have f1' : D 22 (us''.length + 1) = p := f1
      have hm30 : y ≠ 30 := by
        intro h9
        rw [h9] at h3
        rcases h3 with ⟨h, _⟩ | ⟨h, _⟩ | ⟨h, _⟩ | ⟨h, _⟩ | ⟨h, _⟩ | ⟨h, _⟩ | ⟨h, _⟩ <;> exact absurd h (by decide)
      refine ex_bin hi hcO hN hN9 hB hjn (by omega) (by omega) (by omega) hcnt hop haa h3 h1 h2 f1' f2 hk hk2 hF1 (fun z hz => ih (j + 1) (cnt + 1) _ _ _ (by omega) (hl30 hm30) (hDp _ _) ?_ ?_ (by omega))
      · rw [hF, b1]
        exact ⟨_, _, _, _, rfl, rfl, nmv_kd h3 h1 h2 hk2.fin.1 hk.fin.1 hz, hS''⟩
      · rw [mmu_up]; exact sE_push f3
    | set _ _ _ _ _ => exact ex_stop hjn hB (by rw [hop]; decide) (by rw [hop]; decide) (by rw [hts]; exact hS) hE hcnt
    | setr _ => exact ex_stop hjn hB (by rw [hop]; decide) (by rw [hop]; decide) (by rw [hts]; exact hS) hE hcnt
    | wr _ _ => exact ex_stop hjn hB (by rw [hop]; decide) (by rw [hop]; decide) (by rw [hts]; exact hS) hE hcnt
    | wa _ _ _ => exact ex_stop hjn hB (by rw [hop]; decide) (by rw [hop]; decide) (by rw [hts]; exact hS) hE hcnt
    | sg _ _ _ => exact ex_stop hjn hB (by rw [hop]; decide) (by rw [hop]; decide) (by rw [hts]; exact hS) hE hcnt
    | ca _ _ _ => exact ex_stop hjn hB (by rw [hop]; decide) (by rw [hop]; decide) (by rw [hts]; exact hS) hE hcnt
    | bth _ _ _ _ _ _ _ _ _ _ _ _ => exact ex_stop hjn hB (by rw [hop]; decide) (by rw [hop]; decide) (by rw [hts]; exact hS) hE hcnt
    | te _ _ _ _ => exact ex_stop hjn hB (by rw [hop]; decide) (by rw [hop]; decide) (by rw [hts]; exact hS) hE hcnt
    | ju _ _ _ _ _ => exact ex_stop hjn hB (by rw [hop]; decide) (by rw [hop]; decide) (by rw [hts]; exact hS) hE hcnt
    | en _ => exact ex_stop hjn hB (by rw [hop]; decide) (by rw [hop]; decide) (by rw [hts]; exact hS) hE hcnt
end LK5
