/-! BOTH RUNS: the row, writing, testing, waiting -/
section OR2
variable {xs : Nat → Int32} {Ls : Nat} {J Jr : pd_J} {n nr : Nat} {X : Cx} {Kc Kr Kr2 K K' K1 K2 K3 : pd_I} {Dc Dc' Dr Dr2 D' D1 D2 D3 : pd_D} {A A2 : Nat → Nat → Nat} {q : Nat → Nat} {i k j j' ws ws' : Nat} {us vs : List UInt64} {or nu : Int32}
theorem VR.o (hV : VR Dc Dr) (h1 : ∀ b, b ≠ 22 → D' b = Dc b) (h2 : ∀ b, b ≠ 55 → D1 b = Dr b) : VR D' D1 := fun j hj => by
  rw [h1 _ (by decide), h2 _ (by decide)]
  exact hV j hj
theorem or_setr (hX : XOk X) (hJ : Jv X q Kc Dc Kr Dr A ws) (hrs : ∀ r, r < 5 → Rs X Kc A r) (hi : i < 5) (h1 : A i 0 = 1) (h : Aft xs Ls q J n Jr nr i X Kc Dc Kr Dr k j' us vs Dc' K1 D1) (hk : k = A i 4 / 128) (hy : cxc X (k * 128 + j') = 21) (ht : (FT X (k * 128 + j')).2 = [0, 2]) (ho : cxO X k (FT X (k * 128 + j')).1 = 18) : StN xs Ls q J n Jr nr i X ws Kc Dc Kr Dr := by
  obtain ⟨p1, p2, p3⟩ := h.nx hX (Or.inr (Or.inl hy))
  have hsk := h.sk
  rw [ht] at hsk
  obtain ⟨u0, us', v0, vs', rfl, rfl, hk0, h3⟩ := hsk
  obtain ⟨u1, v1, rfl, rfl, hk1⟩ := SK.one h3
  obtain ⟨e1, e0, _⟩ := h.se
  obtain ⟨g1, g0, _⟩ := h.sr
  have e1' : Dc' 22 1 = u0 := e1
  have e0' : Dc' 22 0 = u1 := e0
  have g1' : D1 55 1 = v0 := g1
  have g0' : D1 55 0 = v1 := g0
  have hk2 : ∃ kk, kk < 4 ∧ u1 = FP.i2d (Int32.ofNat (7 + kk)) ∧ v1 = FP.i2d (Int32.ofNat kk) := by
    rcases hk1 with ⟨h, _⟩ | ⟨h, _⟩ | ⟨_, h⟩
    · cases h
    · cases h
    · exact h
  obtain ⟨kk, kk4, ku, kv⟩ := hk2
  have m9 := (hX k h.k4 h.t).n9
  have hm := h.m
  have k4 := h.k4
  have hJ2 := (hJ.mv (v := Kc 6 6 + 1) (h := 0) (z := (FT X (k * 128 + j')).1 + 1) hi h1 p1 (by rw [p3, hk]) (Or.inl p2.symm) h.dc h.dr h.fr h.z39).dv (Dc' := mm_u Dc' 21 (7 + kk) (Dc' 22 (0 + 1))) (Dr' := mm_u D1 53 (7 + kk) (D1 55 1)) (by
    rw [show Dc' 22 (0 + 1) = u0 from e1', g1']
    exact VR.set (hJ.v.o h.dc h.dr) hk0 (by omega) (fun _ => rfl)) (fun l => mm_u_a (by decide)) (fun l => mm_u_a (by decide))
  refine h.go hX hi ho rfl (by decide) (fun d hd => f54_setr (h := 0) (k := 7 + kk) (by omega) hi (by omega) stK_20 (by omega) (by rw [e0', ku, d2i_i])) (by rw [stK_t hi]; exact hJ2) (by omega) (by rw [mvA_0.1]; exact h1) (rs_mv hrs) (by rw [stK_t hi]; exact stK_fm hi) (by rw [stK_t hi]; exact stK_66 hi) ((FdC.o h.dc).u (by omega)) (h.fr.fm.tr (.u (by omega))) ((FdR.o h.dr).u (by omega)) (fun K3 hS d hd => ?_)
  exact ev118_setr (j := k * 128 + j') (k := kk) (by omega) hi (by omega) h.hW h.z39 (by rw [h.fr _ _ (by omega), hJ.cr.1]; exact hy) kk4 (by rw [g0', kv, d2i_i]) hS
theorem or_wr {t0 : Nat} (hX : XOk X) (hJ : Jv X q Kc Dc Kr Dr A ws) (hrs : ∀ r, r < 5 → Rs X Kc A r) (hi : i < 5) (h1 : A i 0 = 1) (hst : Kc 6 6 + 1 = Kr 43 34) (h : Aft xs Ls q J n Jr nr i X Kc Dc Kr Dr k j' us vs Dc' K1 D1) (hk : k = A i 4 / 128) (hy : cxc X (k * 128 + j') = 22) (ht : (FT X (k * 128 + j')).2 = [t0]) (ht0 : t0 ≤ 1) (ho : cxO X k (FT X (k * 128 + j')).1 = 20) : StT xs Ls q J n Jr nr i Kc Dc Kr Dr ∨ StN xs Ls q J n Jr nr i X ws Kc Dc Kr Dr := by
  obtain ⟨p1, p2, p3⟩ := h.nx hX (Or.inr (Or.inr (Or.inl hy)))
  have hsk := h.sk
  rw [ht] at hsk
  obtain ⟨u, v, rfl, rfl, hkd⟩ := hsk.one
  have hse : Dc' 22 0 = u := h.se.1
  have hsr : D1 55 0 = v := h.sr.1
  have m9 := (hX k h.k4 h.t).n9
  have hm := h.m
  have k4 := h.k4
  obtain ⟨w, w1, w2, w3, w4⟩ := hJ.w
  have o1 : K1 45 (k * 128 + j') = 22 := by rw [h.fr _ _ (by omega), hJ.cr.1]; exact hy
  by_cases hw : w = 12
  · left
    subst hw
    refine h.th (e := 3) (E := 1) (z := (FT X (k * 128 + j')).1 + 1) (hh := 0) hJ hi hst (Or.inr (Or.inl ⟨rfl, rfl⟩)) ho rfl (by decide) (fun d hd => ?_) (fun d hd => ev118_full (by omega) hi (by omega) h.hW h.z39 o1 (by rw [h.fr _ _ (by omega)]; exact w3))
    have := f54_wn (xs := xs) (Ls := Ls) (q := q) (J := J) (n := n) (d := d) (D := Dc') (K := stK (mm_u Kc 6 6 (Kc 6 6 + 1)) i ((FT X (k * 128 + j')).1 + 1) [u].length) (nu := cxV X k (FT X (k * 128 + j')).1) (h := 0) (by omega) hi stK_20 (by omega) (by rw [stK_6 hi (by decide)]; exact w2)
    rw [stK_t hi] at this
    exact this
  · right
    have hJ2 := (hJ.mv (v := Kc 6 6 + 1) (h := 0) (z := (FT X (k * 128 + j')).1 + 1) hi h1 p1 (by rw [p3, hk]) (Or.inl p2.symm) h.dc h.dr h.fr h.z39).wr (w := w) (y := v) (by omega) (by rw [stK_6 hi (by decide)]; exact w2)
    refine h.go hX hi ho rfl (by decide) (fun d hd => f54_ws (h := 0) (w := w) (by omega) hi stK_20 (by omega) (by omega) (by rw [stK_6 hi (by decide)]; exact w2)) (by rw [stK_t hi, hse, hkd.le ht0]; exact hJ2) (by omega) (by rw [mvA_0.1]; exact h1) (rs_mv hrs) (by rw [stK_t hi]; exact (stK_fm hi).tr (.u (by omega))) (by rw [stK_t hi, mm_u_k (by decide)]; exact stK_66 hi) ((FdC.o h.dc).u (by omega)) ((h.fr.fm.tr (.u (by omega))).tr (.u (by omega))) ((FdR.o h.dr).u (by omega)) (fun K3 hS d hd => ?_)
    rw [← hsr]
    exact ev118_write (j := k * 128 + j') (w := w) (by omega) hi (by omega) h.hW h.z39 o1 (by omega) (by rw [h.fr _ _ (by omega)]; exact w3) hS
theorem or_te {a0 : Nat} (hX : XOk X) (hJ : Jv X q Kc Dc Kr Dr A ws) (hrs : ∀ r, r < 5 → Rs X Kc A r) (hi : i < 5) (h1 : A i 0 = 1) (h : Aft xs Ls q J n Jr nr i X Kc Dc Kr Dr k j' us vs Dc' K1 D1) (hk : k = A i 4 / 128) (hy : cxc X (k * 128 + j') = 28) (ht : (FT X (k * 128 + j')).2 = [0]) (ha : cxa X (k * 128 + j') = Int32.ofNat a0) (ho : cxO X k (FT X (k * 128 + j')).1 = 19) (hv : cxV X k (FT X (k * 128 + j')).1 = Int32.ofNat (FT X (k * 128 + a0)).1) (hP : POk X (k * 128 + a0)) (ha0 : a0 < 128) : StN xs Ls q J n Jr nr i X ws Kc Dc Kr Dr := by
  obtain ⟨p1, p2, p3⟩ := h.nx hX (Or.inr (Or.inr (Or.inr (Or.inr (Or.inr (Or.inr hy))))))
  have hsk := h.sk
  rw [ht] at hsk
  obtain ⟨u, v, rfl, rfl, hkd⟩ := hsk.one
  have hse : Dc' 22 0 = u := h.se.1
  have hsr : D1 55 0 = v := h.sr.1
  have m9 := (hX k h.k4 h.t).n9
  have hm := h.m
  have k4 := h.k4
  have huv := hkd.le (by omega)
  have o1 : K1 45 (k * 128 + j') = 28 := by rw [h.fr _ _ (by omega), hJ.cr.1]; exact hy
  have o2 : K1 46 (k * 128 + j') = Int32.ofNat a0 := by rw [h.fr _ _ (by omega), hJ.cr.2.1]; exact ha
  have h54 := fun d (hd : 5 ≤ d) => f54_test (xs := xs) (Ls := Ls) (q := q) (J := J) (n := n) (d := d) (D := Dc') (K := stK (mm_u Kc 6 6 (Kc 6 6 + 1)) i ((FT X (k * 128 + j')).1 + 1) 1) (h := 0) (nu := Int32.ofNat (FT X (k * 128 + a0)).1) (by omega) hi stK_20 (by omega)
  have h118 := fun d (hd : 5 ≤ d) K3 => ev118_test (xs := xs) (Ls := Ls) (q := q) (J := Jr) (n := nr) (d := d) (K3 := K3) (j := k * 128 + j') (a := a0) (by omega) hi (by omega) h.hW h.z39 o1 o2
  have ed : (k * 128 + j') / 128 * 128 + a0 = k * 128 + a0 := by omega
  rw [hse, huv] at h54
  rw [hsr, ed] at h118
  by_cases hz : cmL v FP.dconst0 = 0
  · rw [if_pos hz, stK_t hi, stK_z hi] at h54
    rw [if_pos hz] at h118
    have hJ2 := hJ.mv (v := Kc 6 6 + 1) (h := 0) (z := (FT X (k * 128 + a0)).1) hi h1 hP (by omega) (Or.inl rfl) h.dc h.dr h.fr h.z39
    exact h.go hX hi ho hv (by decide) h54 hJ2 (by omega) (by rw [mvA_0.1]; exact h1) (rs_mv hrs) (stK_fm hi) (stK_66 hi) (.o h.dc) (h.fr.fm.tr (.u (by omega))) (.o h.dr) (fun K3 hS d hd => h118 d hd K3 hS)
  · rw [if_neg hz, stK_t hi] at h54
    rw [if_neg hz] at h118
    have hJ2 := hJ.mv (v := Kc 6 6 + 1) (h := 0) (z := (FT X (k * 128 + j')).1 + 1) hi h1 p1 (by rw [p3, hk]) (Or.inl p2.symm) h.dc h.dr h.fr h.z39
    exact h.go hX hi ho hv (by decide) h54 hJ2 (by omega) (by rw [mvA_0.1]; exact h1) (rs_mv hrs) (stK_fm hi) (stK_66 hi) (.o h.dc) (h.fr.fm.tr (.u (by omega))) (.o h.dr) (fun K3 hS d hd => h118 d hd K3 hS)
theorem SK.nil (h : SK [] us vs) : us = [] ∧ vs = [] := h
theorem or_wa {s : Nat} (hX : XOk X) (hJ : Jv X q Kc Dc Kr Dr A ws) (hrs : ∀ r, r < 5 → Rs X Kc A r) (hi : i < 5) (h1 : A i 0 = 1) (h : Aft xs Ls q J n Jr nr i X Kc Dc Kr Dr k j' us vs Dc' K1 D1) (hk : k = A i 4 / 128) (hy : cxc X (k * 128 + j') = 23) (ht : (FT X (k * 128 + j')).2 = []) (hs : s < 2) (ho : cxO X k (FT X (k * 128 + j')).1 = 21) (hv : cxV X k (FT X (k * 128 + j')).1 = Int32.ofNat s) (ha : cxa X (k * 128 + j') = Int32.ofNat s) : StN xs Ls q J n Jr nr i X ws Kc Dc Kr Dr := by
  obtain ⟨p1, p2, p3⟩ := h.nx hX (Or.inr (Or.inr (Or.inr (Or.inl hy))))
  have hsk := h.sk
  rw [ht] at hsk
  obtain ⟨rfl, rfl⟩ := hsk.nil
  have m9 := (hX k h.k4 h.t).n9
  have hm := h.m
  have k4 := h.k4
  have o1 : K1 45 (k * 128 + j') = 23 := by rw [h.fr _ _ (by omega), hJ.cr.1]; exact hy
  have o2 : K1 46 (k * 128 + j') = Int32.ofNat s := by rw [h.fr _ _ (by omega), hJ.cr.2.1]; exact ha
  have hJ2 := hJ.mv (v := Kc 6 6 + 1) (h := ([] : List UInt64).length) (z := (FT X (k * 128 + j')).1 + 1) hi h1 p1 (by rw [p3, hk]) (Or.inl p2.symm) h.dc h.dr h.fr h.z39
  have se : (stK (mm_u Kc 6 6 (Kc 6 6 + 1)) i ((FT X (k * 128 + j')).1 + 1) ([] : List UInt64).length) 25 s = K1 56 s := by
    rw [hJ2.se s hs, mm_u_a (by decide)]
  by_cases hg : K1 56 s ≤ 0
  · obtain ⟨rs, rw', r1, r2, _⟩ := hJ.ro
    have r33 : K1 43 33 = Int32.ofNat rs := by rw [h.fr _ _ (by omega)]; exact r1
    have hm1 : mvA A i (k * 128 + (j' + 1)) i 0 = 1 := by rw [mvA_0.1]; exact h1
    obtain ⟨r5, hJ3⟩ := hJ2.wt (rs := rs) (s := s) hi hm1 hs r2 (by rw [mm_u_a (by decide)]; exact r33)
    refine h.gn (ws' := ws + 1) hX hi ho hv (by decide) (fun d hd => f54_4 (by omega) hi (Or.inl rfl) (Or.inl ⟨rfl, fun d hd => ev56w (by omega) hi hs (by rw [se]; exact hg)⟩)) hJ3 (Nat.le_refl _) (fun r hr ha => ?_) ((((((stK_fm hi).tr (.u (by omega))).tr (.u (by omega))).tr (.u (by omega))).tr (.u (by omega)))) ?_ (.o h.dc) ((((((h.fr.fm.tr (.u (by omega))).tr (.u (by omega))).tr (.u (by omega))).tr (.u (by omega))).tr (.u (by omega))).tr (.u (by omega))) (.o h.dr) (fun d hd => ?_)
    · by_cases e : r = i
      · rw [e, wtA_i] at ha; cases ha
      · rw [wtA_o e] at ha ⊢; exact rs_mv hrs r hr e ha
    · rw [mm_u_a (by omega), mm_u_a (by omega), mm_u_a (by omega), mm_u_k (by decide)]; exact stK_66 hi
    · have := ev118_wait (xs := xs) (Ls := Ls) (q := q) (J := Jr) (n := nr) (d := d) (j := k * 128 + j') (s := s) (r := rs) (by omega) hi (by omega) h.hW h.z39 o1 hs o2 hg r5 r33
      rw [mm_u_a (show 43 ≠ 58 by decide)]
      exact this
  · have hJ3 := hJ2.sm (s := s) (v := (stK (mm_u Kc 6 6 (Kc 6 6 + 1)) i ((FT X (k * 128 + j')).1 + 1) ([] : List UInt64).length) 25 s - 1) (v' := K1 56 s - 1) (by rw [se])
    refine h.go hX hi ho hv (by decide) (fun d hd => f54_4 (by omega) hi (Or.inl rfl) (Or.inl ⟨rfl, fun d hd => ev56s (by omega) hs (by rw [se]; exact hg)⟩)) hJ3 (by omega) (by rw [mvA_0.1]; exact h1) (rs_mv hrs) ((stK_fm hi).tr (.u (by omega))) (by rw [mm_u_a (by decide)]; exact stK_66 hi) (.o h.dc) ((h.fr.fm.tr (.u (by omega))).tr (.u (by omega))) (.o h.dr) (fun K3 hS d hd => ?_)
    exact ev118_pass (j := k * 128 + j') (s := s) (by omega) hi (by omega) h.hW h.z39 o1 hs o2 hg hS
end OR2
