/-! BOTH RUNS: signalling, calling, parting -/
section OR3
variable {xs : Nat → Int32} {Ls : Nat} {J Jr : pd_J} {n nr : Nat} {X : Cx} {Kc Kr Kr2 K K' K1 K2 K3 : pd_I} {Dc Dc' Dr Dr2 D' D1 D2 D3 : pd_D} {A A2 : Nat → Nat → Nat} {q : Nat → Nat} {i k j j' ws ws' : Nat} {us vs : List UInt64} {or nu : Int32}
theorem or_sg {s : Nat} (hX : XOk X) (hJ : Jv X q Kc Dc Kr Dr A ws) (hws : ws < 1000) (hrs : ∀ r, r < 5 → Rs X Kc A r) (hi : i < 5) (h1 : A i 0 = 1) (h : Aft xs Ls q J n Jr nr i X Kc Dc Kr Dr k j' us vs Dc' K1 D1) (hk : k = A i 4 / 128) (hy : cxc X (k * 128 + j') = 24) (ht : (FT X (k * 128 + j')).2 = []) (hs : s < 2) (ho : cxO X k (FT X (k * 128 + j')).1 = 22) (hv : cxV X k (FT X (k * 128 + j')).1 = Int32.ofNat s) (ha : cxa X (k * 128 + j') = Int32.ofNat s) : StN xs Ls q J n Jr nr i X ws Kc Dc Kr Dr := by
  obtain ⟨p1, p2, p3⟩ := h.nx hX (Or.inr (Or.inr (Or.inr (Or.inr (Or.inl hy)))))
  have hsk := h.sk
  rw [ht] at hsk
  obtain ⟨rfl, rfl⟩ := hsk.nil
  have m9 := (hX k h.k4 h.t).n9
  have hm := h.m
  have k4 := h.k4
  have o1 : K1 45 (k * 128 + j') = 24 := by rw [h.fr _ _ (by omega), hJ.cr.1]; exact hy
  have o2 : K1 46 (k * 128 + j') = Int32.ofNat s := by rw [h.fr _ _ (by omega), hJ.cr.2.1]; exact ha
  have hJ2 := hJ.mv (v := Kc 6 6 + 1) (h := ([] : List UInt64).length) (z := (FT X (k * 128 + j')).1 + 1) hi h1 p1 (by rw [p3, hk]) (Or.inl p2.symm) h.dc h.dr h.fr h.z39
  have hm1 : mvA A i (k * 128 + (j' + 1)) i 0 = 1 := by rw [mvA_0.1]; exact h1
  have hfm : FmC Kc (stK (mm_u Kc 6 6 (Kc 6 6 + 1)) i ((FT X (k * 128 + j')).1 + 1) ([] : List UInt64).length) := stK_fm hi
  have h66 : (stK (mm_u Kc 6 6 (Kc 6 6 + 1)) i ((FT X (k * 128 + j')).1 + 1) ([] : List UInt64).length) 6 6 = Kc 6 6 + 1 := stK_66 hi
  have hnE := rs_mv (i := i) (P := k * 128 + (j' + 1)) hrs
  have hfr : FmR Kr (mm_u K1 58 i (Int32.ofNat (k * 128 + (j' + 1)))) := h.fr.fm.tr (.u (by omega))
  have eK1 : mm_u K1 58 i (Int32.ofNat (k * 128 + j' + 1)) = mm_u K1 58 i (Int32.ofNat (k * 128 + (j' + 1))) := rfl
  have e46 : ∀ K2 K3, (∀ d, 3 ≤ d → mm_ev xs Ls pd_ck pd_ak pd_mj d 122 [.ref (43 : Nat), .int (Int32.ofNat s)] (pd_st (mm_u K1 58 i (Int32.ofNat (k * 128 + (j' + 1)))) D1 (pd_RF q) Jr nr) = some (.inl none, pd_st K2 D1 (pd_RF q) Jr nr)) → Stl (Int32.ofNat i) K2 K3 → Sp xs Ls q Jr nr i Kr Dr K3 D1 := fun K2 K3 hG hS d hd => ev118_sig (a := 0) (j := k * 128 + j') (by omega) hi (by omega) h.hW h.z39 o1 (fun d hd => by rw [o2]; exact hG d hd) hS
  generalize mm_u K1 58 i (Int32.ofNat (k * 128 + (j' + 1))) = KR at *
  have h54 : ∀ K2, (∀ d, 4 ≤ d → mm_ev xs Ls pd_ck pd_ak pd_mj d 57 [.ref (6 : Nat), .int (Int32.ofNat s)] (pd_st (stK (mm_u Kc 6 6 (Kc 6 6 + 1)) i ((FT X (k * 128 + j')).1 + 1) ([] : List UInt64).length) Dc' (pd_RF q) J n) = some (.inl none, pd_st K2 Dc' (pd_RF q) J n)) → ∀ d, 5 ≤ d → mm_ev xs Ls pd_ck pd_ak pd_mj d 54 [.ref (6 : Nat), .int (Int32.ofNat i), .int 22, .int (Int32.ofNat s)] (pd_st (stK (mm_u Kc 6 6 (Kc 6 6 + 1)) i ((FT X (k * 128 + j')).1 + 1) ([] : List UInt64).length) Dc' (pd_RF q) J n) = some (.inl none, pd_st K2 Dc' (pd_RF q) J n) := fun K2 hG d hd => f54_4 (by omega) hi (Or.inl rfl) (Or.inr (Or.inl ⟨rfl, hG⟩))
  have hfin := h.fin
  generalize stK (mm_u Kc 6 6 (Kc 6 6 + 1)) i ((FT X (k * 128 + j')).1 + 1) ([] : List UInt64).length = KC at *
  have hA0 := fw_c hJ2.qc hJ2.wf hJ2.tk hws hs 5 0 none (by omega) (Or.inl ⟨rfl, fun r hr => absurd hr (by omega)⟩)
  obtain ⟨rs, rw', r1, r2, r3, r4, r5⟩ := hJ2.ro
  have q65 : ∀ j, j < rs → KR 65 (rw' j) = Int32.ofNat (mvA A i (k * 128 + (j' + 1)) (rw' j) 5) := fun j hj => ((hJ2.qr _ (r3 j hj).2.1).2 (by rw [(r3 j hj).2.2]; decide)).2.2.2.2.2.2 (r3 j hj).2.2
  have ne65 : ∀ j, j < rs → mvA A i (k * 128 + (j' + 1)) (rw' j) 5 ≠ s → KR 65 (rw' j) ≠ Int32.ofNat s := fun j hj hne he => by
    have := (hJ2.tk _ (r3 j hj).2.1 (r3 j hj).2.2).2
    rw [q65 j hj, nat_eq (by omega) (by omega)] at he
    exact hne he
  rcases hA0 with ⟨g0, g1⟩ | ⟨g, g0, g5, g2, g3, g4⟩
  · have hJ3 := hJ2.sm (s := s) (v := KC 25 s + 1) (v' := KR 56 s + 1) (by rw [hJ2.se s hs])
    have hG : ∀ d, 3 ≤ d → mm_ev xs Ls pd_ck pd_ak pd_mj d 122 [.ref (43 : Nat), .int (Int32.ofNat s)] (pd_st KR D1 (pd_RF q) Jr nr) = some (.inl none, pd_st (mm_u KR 56 s (KR 56 s + 1)) D1 (pd_RF q) Jr nr) := fun d hd => ev122n (by omega) hs r1 r2 (fun j hj => ⟨(r3 j hj).1, (r3 j hj).2.1⟩) (fun j hj => ne65 j hj (fun he => g1 _ (r3 j hj).2.1 ⟨(r3 j hj).2.2, he⟩))
    obtain ⟨K3c, K3, B, s1, s2, s3, s4, s5, s6⟩ := hJ3.stl hX hi hm1 hnE
    exact ⟨_, _, K3c, K3, D1, B, ws, hfin 22 (Int32.ofNat s) _ _ ho hv (by decide) (Or.inl rfl) (h54 _ (fun d hd => ev57n (by omega) hs g0)), s2, e46 _ K3 hG s1, s3, s4, by omega, by rw [s5 6 6 ⟨by omega, fun p _ => by omega⟩, mm_u_a (by decide)]; exact h66, (hfm.tr (.u (by omega))).tr s5.fm, .o h.dc, (hfr.tr (.u (by omega))).tr s6.fm, .o h.dr⟩
  · obtain ⟨t, t1, t2, t3⟩ := fw_row (fun j hj => (r3 j hj).2) r4 r5 g5 g2 g3 g4
    have hJ3 := hJ2.wk r1 r2 r3 r4 r5 t1 t2
    have hig : i ≠ g := by rintro rfl; rw [hm1] at g2; cases g2
    obtain ⟨K3c, Kr1, K3, B, s0, s1, s2, s3, s4, s5, s6⟩ := hJ3.stl2 hX hi g5 hig (by rw [wkA_o hig]; exact hm1) (by rw [wkA_i]; rfl) (fun r hr n1 n2 ha => by rw [wkA_o n2] at ha ⊢; exact hnE r hr n1 ha)
    have hG : ∀ d, 3 ≤ d → mm_ev xs Ls pd_ck pd_ak pd_mj d 122 [.ref (43 : Nat), .int (Int32.ofNat s)] (pd_st KR D1 (pd_RF q) Jr nr) = some (.inl none, pd_st Kr1 D1 (pd_RF q) Jr nr) := fun d hd => ev122s (t := t) (rw' := rw') (by omega) hs r1 r2 (fun j hj => ⟨(r3 j hj).1, (r3 j hj).2.1⟩) t1 (fun j hj => ne65 j (by omega) (t3 j hj)) (by rw [q65 t t1, t2, g3]) (by rw [t2]; exact s0)
    have f43 : FmR KR (mm_u (shf (rs - 1 - t) t (mm_u KR 43 33 (Int32.ofNat (rs - 1)))) 57 g 1) := by
      intro b z hb
      rw [mm_u_a (by rcases hb with h | h | h <;> omega), shf_get, if_neg (by rcases hb with h | h | h <;> omega)]
      exact FmR.u (by omega) b z hb
    exact ⟨_, _, K3c, K3, D1, B, ws, hfin 22 (Int32.ofNat s) _ _ ho hv (by decide) (Or.inl rfl) (h54 _ (fun d hd => ev57s (by omega) g5 g0)), s2, e46 _ K3 hG s1, s3, s4, by omega, by rw [s5 6 6 ⟨by omega, fun p _ => by omega⟩, mm_u_a (by omega)]; exact h66, (hfm.tr (.u (by omega))).tr s5.fm, .o h.dc, (hfr.tr f43).tr s6.fm, .o h.dr⟩
theorem mm_58 {a b c d : Int32} {y p : Nat} : mm_u (mm_u (mm_u (mm_u K 58 p a) 63 y b) 62 p c) 58 p d = mm_u (mm_u (mm_u K 63 y b) 62 p c) 58 p d := by
  funext a' z
  unfold mm_u
  by_cases h1 : a' = 58
  · subst h1; simp
    by_cases h2 : z = p
    · simp [h2]
    · simp [h2]
  · simp [h1]
theorem or_ca {k0 : Nat} (hX : XOk X) (hJ : Jv X q Kc Dc Kr Dr A ws) (hrs : ∀ r, r < 5 → Rs X Kc A r) (hi : i < 5) (h1 : A i 0 = 1) (hst : Kc 6 6 + 1 = Kr 43 34) (h : Aft xs Ls q J n Jr nr i X Kc Dc Kr Dr k j' us vs Dc' K1 D1) (hk : k = A i 4 / 128) (hy : cxc X (k * 128 + j') = 25) (ht : (FT X (k * 128 + j')).2 = []) (hk0 : k0 < 4) (ho : cxO X k (FT X (k * 128 + j')).1 = 23) (hv : cxV X k (FT X (k * 128 + j')).1 = Int32.ofNat k0) (ha : cxa X (k * 128 + j') = Int32.ofNat k0) : StT xs Ls q J n Jr nr i Kc Dc Kr Dr ∨ StN xs Ls q J n Jr nr i X ws Kc Dc Kr Dr := by
  obtain ⟨p1, p2, p3⟩ := h.nx hX (Or.inr (Or.inr (Or.inr (Or.inr (Or.inr (Or.inl hy))))))
  have hsk := h.sk
  rw [ht] at hsk
  obtain ⟨rfl, rfl⟩ := hsk.nil
  have m9 := (hX k h.k4 h.t).n9
  have hm := h.m
  have k4 := h.k4
  have h0 : A i 0 ≠ 0 := by rw [h1]; decide
  obtain ⟨w1, w2, w3, w4⟩ := hJ.wf.2 i hi h0
  have o1 : K1 45 (k * 128 + j') = 25 := by rw [h.fr _ _ (by omega), hJ.cr.1]; exact hy
  have o2 : K1 46 (k * 128 + j') = Int32.ofNat k0 := by rw [h.fr _ _ (by omega), hJ.cr.2.1]; exact ha
  have hJ2 := hJ.mv (v := Kc 6 6 + 1) (h := ([] : List UInt64).length) (z := (FT X (k * 128 + j')).1 + 1) hi h1 p1 (by rw [p3, hk]) (Or.inl p2.symm) h.dc h.dr h.fr h.z39
  have hm1 : mvA A i (k * 128 + (j' + 1)) i 0 = 1 := by rw [mvA_0.1]; exact h1
  obtain ⟨q1, q2, q3⟩ := hJ2.cc k0 hk0
  have r48 : K1 48 k0 = cxt X k0 := by rw [h.fr _ _ (by omega), hJ.cr.2.2.2]
  obtain ⟨d1, d2, d3, d4, d5, d6, d7⟩ := (hJ.qr i hi).2 h0
  have r61 : K1 61 i = Int32.ofNat (A i 8) := by rw [h.fr _ _ (by omega)]; exact d4
  have r62 : K1 62 i = Int32.ofNat (A i 7) := by rw [h.fr _ _ (by omega)]; exact d5
  have c7 := ((hJ2.qc i hi).alv hm1).2.2.2.1
  rw [mvA_f (f := 8) (by decide), mvA_f (f := 7) (by decide)] at c7
  have h118 := fun d (hd : 5 ≤ d) K2 => ev118_call (xs := xs) (Ls := Ls) (q := q) (J := Jr) (n := nr) (d := d) (K2 := K2) (j := k * 128 + j') (by omega) hi (by omega) h.hW h.z39 o1
  rw [o2] at h118
  by_cases hth : cxt X k0 = 0
  · left
    exact h.th (e := 2) (E := 2) hJ hi hst (Or.inl ⟨rfl, rfl⟩) ho hv (by decide) (fun d hd => f54_4 (by omega) hi (Or.inr ⟨2, rfl⟩) (Or.inr (Or.inr (Or.inl ⟨rfl, fun d hd => ev59a (by omega) hi hk0 q1 (q3.mpr hth)⟩)))) (fun d hd => h118 d hd _ (fun d hd => ev121a (by omega) hk0 (by rw [r48]; exact hth)))
  · have q4 := fun hh => hth (q3.mp hh)
    have r48' : K1 48 k0 ≠ 0 := by rw [r48]; exact hth
    have e6 : K1 61 i + K1 62 i = Int32.ofNat (A i 8 + A i 7) := by rw [r61, r62, pd_addn]
    by_cases h6 : A i 8 + A i 7 = 6
    · left
      exact h.th (e := 3) (E := 1) hJ hi hst (Or.inr (Or.inl ⟨rfl, rfl⟩)) ho hv (by decide) (fun d hd => f54_4 (by omega) hi (Or.inr ⟨1, rfl⟩) (Or.inr (Or.inr (Or.inl ⟨rfl, fun d hd => ev59b (by omega) hi hk0 q1 q4 (by rw [c7, h6]; rfl)⟩)))) (fun d hd => h118 d hd _ (fun d hd => ev121b (by omega) hk0 hi r48' (by rw [e6, h6]; rfl)))
    · right
      obtain ⟨s1, s2, s3⟩ := hX.st hk0 hth
      have ek : k0 * 128 / 128 = k0 := by omega
      have hJ3 := hJ2.cl (c := A i 7) (P := k0 * 128) hi hm1 (by omega) s1 s3 (by rw [mvA_i, show pd_up (A i) 4 (k * 128 + (j' + 1)) 4 = k * 128 + (j' + 1) from rfl, p2]; exact stK_at hi) (mvA_f (by decide)) (by rw [mvA_f (f := 8) (by decide), mvA_f (f := 7) (by decide)]; omega)
      rw [mvA_f (f := 8) (by decide), mvA_f (f := 7) (by decide), ek, mm_58, mvA_i, show pd_up (A i) 4 (k * 128 + (j' + 1)) 4 = k * 128 + j' + 1 from rfl] at hJ3
      refine h.gn (ws' := ws) hX hi ho hv (by decide) (fun d hd => f54_4 (by omega) hi (Or.inl rfl) (Or.inr (Or.inr (Or.inl ⟨rfl, fun d hd => ev59c (ca := A i 8 + A i 7) (by omega) hi hk0 q1 q4 c7 (by omega)⟩)))) hJ3 (by omega) (fun r hr ha => ?_) ((((((stK_fm hi).tr (.u (by omega))).tr (.u (by omega))).tr (.u (by omega))).tr (.u (by omega))).tr (.u (by omega))) ?_ (.o h.dc) (((h.fr.fm.tr (.u (by omega))).tr (.u (by omega))).tr (.u (by omega))) (.o h.dr) (fun d hd => h118 d hd _ (fun d hd => ev121c (by omega) hk0 hi h.z39 r48' (by rw [e6]; exact nat_ne (y := 6) (by omega) (by omega) h6) r62 (by omega)))
      · by_cases e : r = i
        · rw [e, clA_i]; exact s2
        · rw [clA_o e] at ha ⊢; exact rs_mv hrs r hr e ha
      · rw [mm_u_a (by omega), mm_u_a (by omega), mm_u_a (by omega), mm_u_a (by omega), mm_u_a (by omega)]; exact stK_66 hi
end OR3
