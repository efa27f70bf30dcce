/-! BOTH RUNS: the orders that end a step -/
section OR
variable {xs : Nat → Int32} {Ls : Nat} {J Jr : pd_J} {n nr : Nat} {X : Cx} {Kc Kr Kr2 K K' K1 K2 K3 : pd_I} {Dc Dc' Dr Dr2 D' D1 D2 D3 : pd_D} {A A2 : Nat → Nat → Nat} {q : Nat → Nat} {i k j j' ws ws' : Nat} {us vs : List UInt64} {or nu : Int32}
theorem FmR.u {b z : Nat} {v : Int32} (hb : 52 < b ∨ (b = 43 ∧ 11 ≤ z ∧ z ≠ 18 ∧ z ≠ 19 ∧ z ≠ 34)) : FmR K (mm_u K b z v) := by
  intro b' z' h
  by_cases e : b' = b
  · by_cases e2 : z' = z
    · exfalso; subst e e2; rcases h with h | h | h <;> omega
    · exact mm_u_k e2
  · exact mm_u_a e
theorem FmC.u {b z : Nat} {v : Int32} (hb : b = 6 ∨ (20 ≤ b ∧ b < 23) ∨ (24 < b ∧ b < 43)) : FmC K (mm_u K b z v) := by
  intro b' z' h
  exact mm_u_a (by rintro rfl; rcases h with h | h | h | h <;> omega)
theorem FdC.u {b z : Nat} {v : UInt64} (h : FdC Dc D') (hb : b = 21 ∨ b = 22 ∨ b = 26) : FdC Dc (mm_u D' b z v) := fun b' h1 h2 h3 => by rw [mm_u_ag (by omega)]; exact h b' h1 h2 h3
theorem FdR.u {b z : Nat} {v : UInt64} (h : FdR Dc D') (hb : b = 53 ∨ b = 54 ∨ b = 55) : FdR Dc (mm_u D' b z v) := fun b' h1 h2 h3 => by rw [mm_u_ag (by omega)]; exact h b' h1 h2 h3
theorem stK_z {z z' h : Nat} (hi : i < 5) : mm_u (stK K i z h) (28 + 3 * i) 4 (Int32.ofNat z') = stK K i z' h := by
  have n1 : ¬ (20 = 28 + 3 * i) := by omega
  have n2 : ¬ (28 + 3 * i = 20) := by omega
  unfold stK
  funext a k
  unfold mm_u
  by_cases h1 : a = 20
  · subst h1; simp [n1]
  · by_cases h3 : a = 28 + 3 * i
    · by_cases h4 : k = 4
      · simp [h3, h4, n2]
      · simp [h3, h4, n2]
    · simp [h1, h3]
theorem stK_20 {z h : Nat} : stK K i z h 20 2 = Int32.ofNat h := mm_u_s _ _ _ _
/-- the place behind an order -/
theorem Aft.nx (hX : XOk X) (h : Aft xs Ls q J n Jr nr i X Kc Dc Kr Dr k j' us vs Dc' K1 D1) (hy : cxc X (k * 128 + j') = 20 ∨ cxc X (k * 128 + j') = 21 ∨ cxc X (k * 128 + j') = 22 ∨ cxc X (k * 128 + j') = 23 ∨ cxc X (k * 128 + j') = 24 ∨ cxc X (k * 128 + j') = 25 ∨ cxc X (k * 128 + j') = 28) : POk X (k * 128 + (j' + 1)) ∧ (FT X (k * 128 + (j' + 1))).1 = (FT X (k * 128 + j')).1 + 1 ∧ (k * 128 + (j' + 1)) / 128 = k := by
  have hC := hX k h.k4 h.t
  have m9 := hC.n9
  have hm := h.m
  have hne : j' ≠ cxM X k - 1 := by
    rintro e
    have hl := hC.l
    rw [← e] at hl
    rw [hl] at hy
    rcases hy with h | h | h | h | h | h | h <;> exact absurd h (by decide)
  have e1 : FT X (k * 128 + (j' + 1)) = ((FT X (k * 128 + j')).1 + wd (cxc X (k * 128 + j')) (FT X (k * 128 + j')).2, tyS (cxc X (k * 128 + j')) (cxa X (k * 128 + j')) (FT X (k * 128 + j')).2) := by
    rw [FT_kj (show j' + 1 < 128 by omega), FT_kj (show j' < 128 by omega)]
    rfl
  have ht : ∀ a t, tyS (cxc X (k * 128 + j')) a t = [] := by
    intro a t
    rcases hy with h | h | h | h | h | h | h <;> rw [h] <;> rfl
  have hw : ∀ t, wd (cxc X (k * 128 + j')) t = 1 := by
    intro t
    rcases hy with h | h | h | h | h | h | h <;> rw [h] <;> rfl
  refine ⟨.mk h.k4 h.t (by omega) (by omega) ?_, ?_, by omega⟩
  · rw [← FT_kj (show j' + 1 < 128 by omega), e1]
    exact ht _ _
  · rw [e1, hw]
/-- what the class's order does, both leave what is over -/
theorem Aft.go (hX : XOk X) (h : Aft xs Ls q J n Jr nr i X Kc Dc Kr Dr k j' us vs Dc' K1 D1) (hi : i < 5) (ho : cxO X k (FT X (k * 128 + j')).1 = or) (hv : cxV X k (FT X (k * 128 + j')).1 = nu) (hge : ¬ (or < 17)) (h54 : ∀ d, 5 ≤ d → mm_ev xs Ls pd_ck pd_ak pd_mj d 54 [.ref (6 : Nat), .int (Int32.ofNat i), .int or, .int nu] (pd_st (stK (mm_u Kc 6 6 (Kc 6 6 + 1)) i ((FT X (k * 128 + j')).1 + 1) us.length) Dc' (pd_RF q) J n) = some (.inl none, pd_st K2 D2 (pd_RF q) J n)) (hJ2 : Jv X q K2 D2 Kr2 Dr2 A2 ws') (hw : ws' ≤ ws + 1) (a1 : A2 i 0 = 1) (hn : ∀ r, r < 5 → r ≠ i → A2 r 0 = 1 → nE (cxc X (A2 r 4))) (f1 : FmC Kc K2) (h66 : K2 6 6 = Kc 6 6 + 1) (f2 : FdC Dc D2) (f3 : FmR Kr Kr2) (f4 : FdR Dr Dr2) (hS : ∀ K3, Stl (Int32.ofNat i) Kr2 K3 → Sp xs Ls q Jr nr i Kr Dr K3 Dr2) : StN xs Ls q J n Jr nr i X ws Kc Dc Kr Dr := by
  obtain ⟨K3c, K3, B, s1, s2, s3, s4, s5, s6⟩ := hJ2.stl hX hi a1 hn
  exact ⟨K2, D2, K3c, K3, Dr2, B, ws', h.fin or nu _ _ ho hv hge (Or.inl rfl) h54, s2, hS K3 s1, s3, s4, hw, by rw [s5 6 6 ⟨by omega, fun p _ => by omega⟩]; exact h66, f1.tr s5.fm, f2, f3.tr s6.fm, f4⟩
/-- the same, where nothing is over -/
theorem Aft.gn (hX : XOk X) (h : Aft xs Ls q J n Jr nr i X Kc Dc Kr Dr k j' us vs Dc' K1 D1) (hi : i < 5) (ho : cxO X k (FT X (k * 128 + j')).1 = or) (hv : cxV X k (FT X (k * 128 + j')).1 = nu) (hge : ¬ (or < 17)) (h54 : ∀ d, 5 ≤ d → mm_ev xs Ls pd_ck pd_ak pd_mj d 54 [.ref (6 : Nat), .int (Int32.ofNat i), .int or, .int nu] (pd_st (stK (mm_u Kc 6 6 (Kc 6 6 + 1)) i ((FT X (k * 128 + j')).1 + 1) us.length) Dc' (pd_RF q) J n) = some (.inl none, pd_st K2 D2 (pd_RF q) J n)) (hJ2 : Jv X q K2 D2 Kr2 Dr2 A2 ws') (hw : ws' ≤ ws + 1) (hn : ∀ r, r < 5 → A2 r 0 = 1 → nE (cxc X (A2 r 4))) (f1 : FmC Kc K2) (h66 : K2 6 6 = Kc 6 6 + 1) (f2 : FdC Dc D2) (f3 : FmR Kr Kr2) (f4 : FdR Dr Dr2) (hS : Sp xs Ls q Jr nr i Kr Dr Kr2 Dr2) : StN xs Ls q J n Jr nr i X ws Kc Dc Kr Dr := by
  obtain ⟨K3c, s2, s3, s4, s5⟩ := hJ2.no hX hn
  exact ⟨K2, D2, K3c, Kr2, Dr2, A2, ws', h.fin or nu _ _ ho hv hge (Or.inl rfl) h54, s2, hS, s3, s4, hw, by rw [s5 6 6 ⟨by omega, fun p _ => by omega⟩]; exact h66, f1.tr s5.fm, f2, f3, f4⟩
/-- both throw at the order -/
theorem Aft.th {e E : Nat} (h : Aft xs Ls q J n Jr nr i X Kc Dc Kr Dr k j' us vs Dc' K1 D1) (hJ : Jv X q Kc Dc Kr Dr A ws) (hi : i < 5) (hst : Kc 6 6 + 1 = Kr 43 34) (ht : ter e E) (ho : cxO X k (FT X (k * 128 + j')).1 = or) (hv : cxV X k (FT X (k * 128 + j')).1 = nu) (hge : ¬ (or < 17)) {z hh : Nat} (h54 : ∀ d, 5 ≤ d → mm_ev xs Ls pd_ck pd_ak pd_mj d 54 [.ref (6 : Nat), .int (Int32.ofNat i), .int or, .int nu] (pd_st (stK (mm_u Kc 6 6 (Kc 6 6 + 1)) i ((FT X (k * 128 + j')).1 + 1) us.length) Dc' (pd_RF q) J n) = some (.inr E, pd_st (stK (mm_u Kc 6 6 (Kc 6 6 + 1)) i z hh) Dc' (pd_RF q) J (n + 1))) (hS : Sp xs Ls q Jr nr i Kr Dr (mm_u K1 43 39 (Int32.ofNat e)) D1) : StT xs Ls q J n Jr nr i Kc Dc Kr Dr := by
  refine ⟨e, E, _, _, _, _, ht, h.fin or nu _ _ ho hv hge (Or.inr ⟨E, rfl⟩) h54, hS, mm_u_s _ _ _ _, hJ.thr (fun z hz _ => stK_6 hi hz) ?_ (fun z z1 z2 => by rw [mm_u_k (by omega)]; exact h.fr _ _ (by omega)) h.dc h.dr (fun z => by rw [stK_O (by omega) (by omega) (by omega)]) (fun z => by rw [mm_u_a (by decide)]; exact h.fr _ _ (by omega)), stK_fm hi, .o h.dc, h.fr.fm.tr (.u (by omega)), .o h.dr⟩
  rw [stK_66 hi, hst, mm_u_k (by decide), h.fr _ _ (by omega)]
theorem SK.one {t : Nat} (h : SK [t] us vs) : ∃ u v, us = [u] ∧ vs = [v] ∧ kd t u v := by
  obtain ⟨u, us', v, vs', rfl, rfl, hk, rfl, rfl⟩ := h
  exact ⟨u, v, rfl, rfl, hk⟩
theorem rs_mv {P : Nat} (hrs : ∀ r, r < 5 → Rs X Kc A r) : ∀ r, r < 5 → r ≠ i → mvA A i P r 0 = 1 → nE (cxc X (mvA A i P r 4)) := fun r hr hne h => by
  rw [mvA_o hne] at h ⊢
  exact (hrs r hr h).1
/-- a variable -/
theorem or_set {t0 k0 : Nat} (hX : XOk X) (hJ : Jv X q Kc Dc Kr Dr A ws) (hrs : ∀ r, r < 5 → Rs X Kc A r) (hi : i < 5) (h1 : A i 0 = 1) (h : Aft xs Ls q J n Jr nr i X Kc Dc Kr Dr k j' us vs Dc' K1 D1) (hk : k = A i 4 / 128) (hy : cxc X (k * 128 + j') = 20) (ht : (FT X (k * 128 + j')).2 = [t0]) (hk0 : k0 < 7) (ht0 : t0 ≤ 1) (hr : isR (Int32.ofNat k0) = false → t0 = 0) (ho : cxO X k (FT X (k * 128 + j')).1 = 17) (hv : cxV X k (FT X (k * 128 + j')).1 = Int32.ofNat k0) (ha : cxa X (k * 128 + j') = Int32.ofNat k0) : StN xs Ls q J n Jr nr i X ws Kc Dc Kr Dr := by
  obtain ⟨p1, p2, p3⟩ := h.nx hX (Or.inl hy)
  have hsk := h.sk
  rw [ht] at hsk
  obtain ⟨u, v, rfl, rfl, hkd⟩ := hsk.one
  have hse : Dc' 22 0 = u := h.se.1
  have hsr : D1 55 0 = v := h.sr.1
  have m9 := (hX k h.k4 h.t).n9
  have hm := h.m
  have k4 := h.k4
  have hJ2 := (hJ.mv (v := Kc 6 6 + 1) (h := 0) (z := (FT X (k * 128 + j')).1 + 1) hi h1 p1 (by rw [p3, hk]) (Or.inl p2.symm) h.dc h.dr h.fr h.z39).dv (Dc' := mm_u Dc' 21 k0 (Dc' 22 0)) (Dr' := mm_u D1 53 k0 (D1 55 0)) (by
    rw [hse, hsr]
    refine VR.set (fun j hj => ?_) hkd ht0 hr
    rw [h.dc _ (by decide), h.dr _ (by decide)]
    exact hJ.v j hj) (fun l => mm_u_a (by decide)) (fun l => mm_u_a (by decide))
  refine h.go hX hi ho hv (by decide) (fun d hd => f54_set (h := 0) (by omega) hi (by omega) rfl stK_20 (by omega)) (by rw [stK_t hi]; exact hJ2) (by omega) (by rw [mvA_0.1]; exact h1) (rs_mv hrs) (by rw [stK_t hi]; exact stK_fm hi) (by rw [stK_t hi]; exact stK_66 hi) ((FdC.o h.dc).u (by omega)) (h.fr.fm.tr (.u (by omega))) ((FdR.o h.dr).u (by omega)) (fun K3 hS d hd => ?_)
  exact ev118_set (j := k * 128 + j') (by omega) hi (by omega) h.hW h.z39 (by rw [h.fr _ _ (by omega), hJ.cr.1]; exact hy) (by omega) (by rw [h.fr _ _ (by omega), hJ.cr.2.1]; exact ha) hS
end OR
