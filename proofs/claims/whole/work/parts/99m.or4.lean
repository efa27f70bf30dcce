/-! BOTH RUNS: parting; a step, whole -/
section OR4
variable {xs : Nat → Int32} {Ls : Nat} {J Jr : pd_J} {n nr : Nat} {X : Cx} {Kc Kr Kr2 K K' K1 K2 K3 : pd_I} {Dc Dc' Dr Dr2 D' D1 D2 D3 : pd_D} {A A2 : Nat → Nat → Nat} {q : Nat → Nat} {i k j j' ws ws' : Nat} {us vs : List UInt64} {or nu : Int32}
theorem pnK_fm {t P : Nat} : FmR K (pnK K i t P) := by
  intro b z hb
  unfold pnK
  rw [bgM_o (by rcases hb with h | h | h <;> omega), bgK_o (by rcases hb with h | h | h <;> omega) (by rcases hb with h | h | h <;> omega) (by rcases hb with h | h | h <;> omega) (by rcases hb with h | h | h <;> omega) (by rcases hb with h | h | h <;> omega) (by rcases hb with h | h | h <;> omega)]
theorem srK_fm {t : Nat} {pa kk f bb : Int32} (ht : t < 5) : FmC K (srK K t pa kk f bb) := fun b z hb => by rw [srK_o (by rcases hb with h | h | h | h <;> omega)]
theorem p3_fm {t1 t2 : Nat} {s : Int32} (hi : i < 5) (h1 : t1 < 5) (h2 : t2 < 5) : FmC K (p3K (p2K K i t1 t2 s)) := by
  have a1 : FmC K (ptK K i) := (FmC.u (by omega)).tr (.u (by omega))
  have a2 : FmC K (p1K K i t1) := a1.tr (srK_fm h1)
  have a3 : FmC K (p2K K i t1 t2 s) := a2.tr (srK_fm h2)
  exact ((a3.tr (.u (by omega))).tr (.u (by omega))).tr (.u (by omega))
theorem p3_66 {t1 t2 : Nat} {s : Int32} : p3K (p2K K i t1 t2 s) 6 6 = K 6 6 := by
  unfold p3K
  rw [mm_u_k (by decide), mm_u_k (by decide), mm_u_k (by decide)]
  unfold p2K
  rw [srK_o (by omega)]
  unfold p1K
  rw [srK_o (by omega)]
  unfold ptK
  rw [mm_u_ag (by omega), mm_u_ag (by omega)]
theorem or_bt {a0 z0 : Nat} (hX : XOk X) (hJ : Jv X q Kc Dc Kr Dr A ws) (hrs : ∀ r, r < 5 → Rs X Kc A r) (hi : i < 5) (h1 : A i 0 = 1) (hst : Kc 6 6 + 1 = Kr 43 34) (h : Aft xs Ls q J n Jr nr i X Kc Dc Kr Dr k j' us vs Dc' K1 D1) (hk : k = A i 4 / 128) (hy : cxc X (k * 128 + j') = 26) (ht : (FT X (k * 128 + j')).2 = []) (ha : cxa X (k * 128 + j') = Int32.ofNat a0) (hx : cxx X (k * 128 + j') = Int32.ofNat z0) (ho : cxO X k (FT X (k * 128 + j')).1 = 24) (ho2 : cxO X k ((FT X (k * 128 + j')).1 + 1) = 1) (hv : cxV X k (FT X (k * 128 + j')).1 = Int32.ofNat (FT X (k * 128 + a0)).1) (hv2 : cxV X k ((FT X (k * 128 + j')).1 + 1) = Int32.ofNat (FT X (k * 128 + z0)).1) (ha0 : a0 < 128) (hz0 : z0 < 128) (hP2 : POk X (k * 128 + a0)) (hPz : POk X (k * 128 + z0)) (hP1 : POk X (k * 128 + (j' + 1))) (hn2 : nE (cxc X (k * 128 + a0))) (hn1 : nE (cxc X (k * 128 + (j' + 1)))) : StT xs Ls q J n Jr nr i Kc Dc Kr Dr ∨ StN xs Ls q J n Jr nr i X ws Kc Dc Kr Dr := by
  have hsk := h.sk
  rw [ht] at hsk
  obtain ⟨rfl, rfl⟩ := hsk.nil
  have hC := hX k h.k4 h.t
  have m9 := hC.n9
  have hm := h.m
  have k4 := h.k4
  have h0 : A i 0 ≠ 0 := by rw [h1]; decide
  have o1 : K1 45 (k * 128 + j') = 26 := by rw [h.fr _ _ (by omega), hJ.cr.1]; exact hy
  have o2 : K1 46 (k * 128 + j') = Int32.ofNat a0 := by rw [h.fr _ _ (by omega), hJ.cr.2.1]; exact ha
  have o3 : K1 47 (k * 128 + j') = Int32.ofNat z0 := by rw [h.fr _ _ (by omega), hJ.cr.2.2.1]; exact hx
  have hp5 := prA_le (A := A)
  have hprc : prc K1 = prA A := by
    have q1 : Qr K1 A := fun r hr => (hJ.qr r hr).cg (hJ.wf.c8 hr) ⟨fun b hb => h.fr b r (by omega), fun l _ => h.fr _ _ (by omega)⟩
    exact q1.prc hJ.wf
  have eF : (FT X (k * 128 + (j' + 1))).1 = (FT X (k * 128 + j')).1 + 1 + 1 := by
    have e1 : FT X (k * 128 + (j' + 1)) = ((FT X (k * 128 + j')).1 + wd (cxc X (k * 128 + j')) (FT X (k * 128 + j')).2, tyS (cxc X (k * 128 + j')) (cxa X (k * 128 + j')) (FT X (k * 128 + j')).2) := by
      rw [FT_kj (show j' + 1 < 128 by omega), FT_kj (show j' < 128 by omega)]
      rfl
    rw [e1, hy]
    rfl
  by_cases hl : prA A ≤ 3
  · right
    have hlt := (hP1.lt hX).1
    rw [eF, show (k * 128 + (j' + 1)) / 128 = k by omega] at hlt
    have hAt : AtR X (k * 128 + z0) ((FT X (k * 128 + j')).1 + 1) := Or.inr ⟨by rw [show (k * 128 + z0) / 128 = k by omega]; omega, by rw [show (k * 128 + z0) / 128 = k by omega]; exact ho2, by rw [show (k * 128 + z0) / 128 = k by omega]; exact hv2⟩
    have hJ2 := hJ.mv (v := Kc 6 6 + 1) (h := ([] : List UInt64).length) (z := (FT X (k * 128 + j')).1 + 1) hi h1 hPz (by omega) hAt h.dc h.dr h.fr h.z39
    have hm1 : mvA A i (k * 128 + z0) i 0 = 1 := by rw [mvA_0.1]; exact h1
    have em4 : mvA A i (k * 128 + z0) i 4 = k * 128 + z0 := by rw [mvA_i]; rfl
    obtain ⟨t1, t2, t15, t25, n1, n2, n12, ⟨x1, x2⟩, ⟨x3, x4⟩, ⟨x5, x6⟩, ⟨x7, x8⟩, hJ3⟩ := hJ2.pt (P1 := k * 128 + (j' + 1)) (P2 := k * 128 + a0) (x1 := (FT X (k * 128 + j')).1 + 1) hi hm1 (by rw [prA_mv]; exact hl) hP1 hP2 (by rw [em4]; omega) (by rw [em4]; omega) (stK_at hi) eF
    have l11 : (stK (mm_u Kc 6 6 (Kc 6 6 + 1)) i ((FT X (k * 128 + j')).1 + 1) ([] : List UInt64).length) 6 11 = Int32.ofNat (prA A) := by rw [stK_6 hi (by decide)]; exact hJ.lv
    refine h.gn (ws' := ws) hX hi ho hv (by decide) (fun d hd => f54_4 (by omega) hi (Or.inl rfl) (Or.inr (Or.inr (Or.inr ⟨rfl, fun d hd => ev60s (by omega) hi l11 hl t15 x1 x2 t25 x3 x4⟩)))) hJ3 (by omega) (fun r hr ha => ?_) ((stK_fm hi).tr (p3_fm hi t15 t25)) (by rw [p3_66]; exact stK_66 hi) (.o h.dc) (((((h.fr.fm.tr (.u (by omega))).tr (.u (by omega))).tr (.u (by omega))).tr pnK_fm).tr pnK_fm) (.o h.dr) (fun d hd => ?_)
    · by_cases e2 : r = t2
      · rw [e2, bnA_t]; exact hn2
      · rw [bnA_o e2] at ha ⊢
        by_cases e1 : r = t1
        · rw [e1, bnA_t]; exact hn1
        · rw [bnA_o e1] at ha ⊢
          by_cases e : r = i
          · rw [e, ptA_i] at ha; cases ha
          · rw [ptA_o e] at ha ⊢; exact rs_mv hrs r hr e ha
    · have ed : (k * 128 + j') / 128 * 128 = k * 128 := by omega
      refine ev118_both (A := a0) (X := z0) (K2 := pnK (pmK (mm_u K1 58 i (Int32.ofNat (k * 128 + z0))) i) i t1 (k * 128 + (j' + 1))) (by omega) hi (by omega) h.hW h.z39 o1 o2 o3 (by rw [hprc]; exact hl) (fun d hd => ?_) (fun d hd => ?_)
      · rw [ed]
        exact ev115 (by omega) t15 x6 x5 (Or.inr ⟨i, rfl, hi, n1, rfl⟩)
      · rw [ed]
        exact ev115 (by omega) t25 x8 x7 (Or.inr ⟨i, rfl, hi, n2, rfl⟩)
  · left
    refine h.th (e := 3) (E := 1) hJ hi hst (Or.inr (Or.inl ⟨rfl, rfl⟩)) ho hv (by decide) (fun d hd => f54_4 (by omega) hi (Or.inr ⟨1, rfl⟩) (Or.inr (Or.inr (Or.inr ⟨rfl, fun d hd => ev60n (lv := prA A) (by omega) (by rw [stK_6 hi (by decide)]; exact hJ.lv) (by omega) hp5⟩)))) (fun d hd => ev118_many (by omega) hi (by omega) h.hW h.z39 o1 (by rw [hprc]; omega) (by rw [hprc]; exact hp5))
/-- a step on both sides -/
theorem step_c (hX : XOk X) (hJ : Jv X q Kc Dc Kr Dr A ws) (hws : ws < 1000) (hrs : ∀ r, r < 5 → Rs X Kc A r) (hi : i < 5) (h1 : A i 0 = 1) (hst : Kc 6 6 + 1 = Kr 43 34) : StT xs Ls q J n Jr nr i Kc Dc Kr Dr ∨ StN xs Ls q J n Jr nr i X ws Kc Dc Kr Dr := by
  rcases step_ex (xs := xs) (Ls := Ls) (J := J) (n := n) (Jr := Jr) (nr := nr) hX hJ (hrs i hi) hi h1 hst with h | ⟨j', us, vs, Dc', K1, D1, h, hne⟩
  · exact Or.inl h
  have hC := hX _ h.k4 h.t
  have hm := h.m
  have m9 := hC.n9
  have hlt : j' < cxM X (A i 4 / 128) - 1 := by
    rcases Nat.lt_or_ge j' (cxM X (A i 4 / 128) - 1) with h9 | h9
    · exact h9
    · exfalso
      have e : cxM X (A i 4 / 128) - 1 = j' := by omega
      have hl := hC.l
      rw [e] at hl
      exact hne.2 hl
  have hcn := hC.g2 j' (Nat.zero_le _) hlt
  rw [← FT_kj (show j' < 128 by omega)] at hcn
  have fe : ∀ a, a < 128 → ft (fun l => cxc X (A i 4 / 128 * 128 + l)) (fun l => cxa X (A i 4 / 128 * 128 + l)) a = FT X (A i 4 / 128 * 128 + a) := fun a ha => (FT_kj ha).symm
  rcases hcn.ed h.op.1 h.op.2 with ⟨k0, t0, y, t, b1, b2, b3, b4, b5, b6⟩ | ⟨y, t, b1⟩ | ⟨t0, y, t, b1, b2⟩ | ⟨s, y, t, b1, b2, b3, b4⟩ | ⟨s, y, t, b1, b2, b3, b4⟩ | ⟨k0, y, t, b1, b2, b3, b4⟩ | ⟨a0, z0, y, t, b1, b2, b3, b4, b5, b6, b7, b8, b9, b10, b11, b12, b13, b14⟩ | ⟨a0, y, t, b1, b2, b3, b4, b5⟩ | ⟨y, _⟩
  · exact Or.inr (or_set hX hJ hrs hi h1 h rfl y t b1 b2 b3 b4 b5 b6)
  · exact Or.inr (or_setr hX hJ hrs hi h1 h rfl y t b1)
  · exact or_wr hX hJ hrs hi h1 hst h rfl y t b1 b2
  · exact Or.inr (or_wa hX hJ hrs hi h1 h rfl y t b1 b2 b3 b4)
  · exact Or.inr (or_sg hX hJ hws hrs hi h1 h rfl y t b1 b2 b3 b4)
  · exact or_ca hX hJ hrs hi h1 hst h rfl y t b1 b2 b3 b4
  · rw [fe a0 (by omega)] at b5
    rw [fe z0 (by omega)] at b6
    exact or_bt hX hJ hrs hi h1 hst h rfl y t b1 b2 b3 b4 b5 b6 (by omega) (by omega) (.mk h.k4 h.t (by omega) (by omega) b7) (.mk h.k4 h.t (by omega) (by omega) b8) (.mk h.k4 h.t (by omega) (by omega) b14) b12 b13
  · rw [fe a0 (by omega)] at b3
    exact Or.inr (or_te hX hJ hrs hi h1 h rfl y t b1 b2 b3 (.mk h.k4 h.t (by omega) (by omega) b4) (by omega))
  · rcases y with y | y
    · exact absurd y hne.1
    · exact absurd y hne.2
end OR4
