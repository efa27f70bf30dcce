/-! BOTH RUNS: parting -/
section PT2
variable {X : Cx} {Kc Kc' Kr Kr' K K' K1 K2 K3 : pd_I} {Dc Dc' Dr Dr' : pd_D} {A B : Nat → Nat → Nat} {q : Nat → Nat} {i p r P P1 P2 ws ws' z h g s t b y : Nat} {v pa k f bb inh pl by' : Int32} {S C R : Nat → Int32} {cn : Nat}
theorem srK_o (hb : b ≠ 28 + 3 * t) : srK K t pa k f bb b = K b := by
  unfold srK
  rw [mm_u_ag hb, mm_u_ag hb, mm_u_ag hb, mm_u_ag hb, mm_u_ag hb, mm_u_ag hb, mm_u_ag hb]
theorem srK_S : srK K t pa k f bb (28 + 3 * t) = pd_up (pd_up (pd_up (pd_up (pd_up (pd_up (pd_up (K (28 + 3 * t)) 0 1) 1 pa) 2 0) 3 k) 4 f) 7 bb) 8 bb := by
  unfold srK
  rw [mmu_I, mmu_I, mmu_I, mmu_I, mmu_I, mmu_I, mmu_I]
theorem Qcp.new (hk : k = Int32.ofNat (P / 128)) (hf : f = Int32.ofNat (FT X P).1) (hb : bb = Int32.ofNat b) : Qcp X (pd_up (pd_up (pd_up (pd_up (pd_up (pd_up (pd_up S 0 1) 1 (Int32.ofNat i)) 2 0) 3 k) 4 f) 7 bb) 8 bb) C R (nwc i P b) cn := by
  subst hk hf hb
  exact ⟨rfl, fun _ => ⟨rfl, fun h => (by cases h), rfl, ⟨_, rfl, Or.inl rfl⟩, rfl, rfl, fun l hl => absurd hl (Nat.not_lt_zero _), fun h => (by cases h)⟩⟩
theorem bgK_o (h1 : b ≠ 57) (h2 : b ≠ 58) (h3 : b ≠ 59) (h4 : b ≠ 61) (h5 : b ≠ 62) (h6 : ¬ (b = 43 ∧ y = 36)) : bgK K t by' pl inh b y = K b y := by
  unfold bgK
  by_cases e : b = 43
  · rw [mm_u_k (fun h => h6 ⟨e, h⟩), mm_u_a h5, mm_u_a h4, mm_u_a h3, mm_u_a h2, mm_u_a h1]
  · rw [mm_u_a e, mm_u_a h5, mm_u_a h4, mm_u_a h3, mm_u_a h2, mm_u_a h1]
theorem bgK_p (h : y ≠ t) (hb : b ≠ 43) : bgK K t by' pl inh b y = K b y := by
  unfold bgK
  rw [mm_u_a hb, mm_u_k h, mm_u_k h, mm_u_k h, mm_u_k h, mm_u_k h]
theorem bgM_o (h : ¬ (b = 43 ∧ y = 37)) : bgM K b y = K b y := by
  unfold bgM
  split
  · rfl
  · by_cases e : b = 43
    · exact mm_u_k (fun h2 => h ⟨e, h2⟩)
    · exact mm_u_a e
theorem bgM_37 {mo : Nat} (h : K 43 37 = Int32.ofNat mo) (hm : mo ≤ 5) (hp : prc K ≤ 5) : bgM K 43 37 = Int32.ofNat (max mo (prc K)) := by
  have g := pd_gtl (x := prc K) (y := mo) (by omega) (by omega)
  unfold bgM
  by_cases e : prc K ≤ mo
  · rw [if_pos (by rw [h, g]; exact e), h, Nat.max_eq_left e]
  · rw [if_neg (by rw [h, g]; exact e), mm_u_s, Nat.max_eq_right (by omega)]
theorem bg_36 : bgM (bgK K t by' pl inh) 43 36 = K 43 36 + 1 := by
  rw [bgM_o (by omega)]
  unfold bgK
  exact mm_u_s _ _ _ _
theorem bg_eqp (h : r ≠ t) : eqp K (bgM (bgK K t by' pl inh)) r := ⟨fun b hb => by rw [bgM_o (by omega), bgK_p h (by omega)], fun l _ => by rw [bgM_o (by omega), bgK_o (by decide) (by decide) (by decide) (by decide) (by decide) (by omega)]⟩
theorem bg_new (hb : inh = Int32.ofNat b) : Qrp (bgM (bgK K t (Int32.ofNat i) (Int32.ofNat P) inh)) t (nwc i P b) cn := by
  subst hb
  refine ⟨?_, fun _ => ⟨?_, ?_, fun h => (by cases h), ?_, ?_, fun l hl => absurd hl (Nat.not_lt_zero _), fun h => (by cases h)⟩⟩
  · rw [bgM_o (by omega)]; unfold bgK
    rw [mm_u_a (by decide), mm_u_a (by decide), mm_u_a (by decide), mm_u_a (by decide), mm_u_a (by decide), mm_u_s]; rfl
  · rw [bgM_o (by omega)]; unfold bgK
    rw [mm_u_a (by decide), mm_u_a (by decide), mm_u_a (by decide), mm_u_a (by decide), mm_u_s]; rfl
  · rw [bgM_o (by omega)]; unfold bgK
    rw [mm_u_a (by decide), mm_u_a (by decide), mm_u_a (by decide), mm_u_s]; rfl
  · rw [bgM_o (by omega)]; unfold bgK
    rw [mm_u_a (by decide), mm_u_a (by decide), mm_u_s]; rfl
  · rw [bgM_o (by omega)]; unfold bgK
    rw [mm_u_a (by decide), mm_u_s]; rfl
theorem cnt_z (hW : Wf X A) (h1 : A i 0 = 1) : cnt A i = 0 := by
  have e : ∀ s, s < 5 → lvp A i s = 0 := by
    intro s hs
    unfold lvp
    rw [if_neg]
    rintro ⟨k1, k2⟩
    obtain ⟨b, b1, _, b3⟩ := hW.1 s hs k1 (by omega)
    have : b = i := by omega
    rw [this, h1] at b3
    cases b3
  unfold cnt
  rw [e 0 (by omega), e 1 (by omega), e 2 (by omega), e 3 (by omega), e 4 (by omega)]
theorem sI_0 (h : s ≤ 3) : (sI s = 0) ↔ s = 0 := by
  have : s = 0 ∨ s = 1 ∨ s = 2 ∨ s = 3 := by omega
  rcases this with rfl | rfl | rfl | rfl <;> decide
/-- the memory of the reference before the two begin -/
def pmK (K : pd_I) (i : Nat) : pd_I := mm_u (mm_u K 57 i 3) 60 i 2
def pnK (K : pd_I) (i t P : Nat) : pd_I := bgM (bgK K t (Int32.ofNat i) (Int32.ofNat P) (K 61 i + K 62 i))
theorem Jv.pt {x1 : Nat} (hJ : Jv X q Kc Dc Kr Dr A ws) (hi : i < 5) (h1 : A i 0 = 1) (hl : prA A ≤ 3) (hP1 : POk X P1) (hP2 : POk X P2) (e1 : P1 / 128 = A i 4 / 128) (e2 : P2 / 128 = A i 4 / 128) (hx : Kc (28 + 3 * i) 4 = Int32.ofNat x1) (hx1 : (FT X P1).1 = x1 + 1) :
    ∃ t1 t2, t1 < 5 ∧ t2 < 5 ∧ i ≠ t1 ∧ i ≠ t2 ∧ t1 ≠ t2 ∧ (Sd (ptK Kc i) t1 0 = 0 ∧ ∀ j, j < t1 → Sd (ptK Kc i) j 0 ≠ 0) ∧ (Sd (p1K Kc i t1) t2 0 = 0 ∧ ∀ j, j < t2 → Sd (p1K Kc i t1) j 0 ≠ 0) ∧ (pmK Kr i 57 t1 = 0 ∧ ∀ j, j < t1 → pmK Kr i 57 j ≠ 0) ∧ (pnK (pmK Kr i) i t1 P1 57 t2 = 0 ∧ ∀ j, j < t2 → pnK (pmK Kr i) i t1 P1 57 j ≠ 0)
    ∧ Jv X q (p3K (p2K Kc i t1 t2 (Int32.ofNat (FT X P2).1))) Dc (pnK (pnK (pmK Kr i) i t1 P1) i t2 P2) Dr (bnA (bnA (ptA A i) i t1 P1 (A i 8 + A i 7)) i t2 P2 (A i 8 + A i 7)) ws := by
  have h0 : A i 0 ≠ 0 := by rw [h1]; decide
  obtain ⟨w1, w2, w3, w4⟩ := hJ.wf.2 i hi h0
  have hs3 : ∀ r, r < 5 → A r 0 ≤ 3 := fun r hr => by
    by_cases e : A r 0 = 0
    · omega
    · exact (hJ.wf.2 r hr e).1
  have pr1 : prA (ptA A i) = prA A := prA_cg (fun s => (pt_01 h0 s).1)
  obtain ⟨t1, t15, a10, a1j⟩ := free_1 (A := ptA A i) (by omega)
  have n1 : i ≠ t1 := by rintro rfl; rw [ptA_i] at a10; cases a10
  have pr2 := prA_bn (i := i) (P := P1) (b := A i 8 + A i 7) t15 a10
  obtain ⟨t2, t25, a20, a2j⟩ := free_1 (A := bnA (ptA A i) i t1 P1 (A i 8 + A i 7)) (by omega)
  have n12 : t1 ≠ t2 := by rintro rfl; rw [bnA_t] at a20; cases a20
  have n2 : i ≠ t2 := by
    rintro rfl
    rw [bnA_o n1, ptA_i] at a20
    cases a20
  have pr3 := prA_bn (i := i) (P := P2) (b := A i 8 + A i 7) t25 a20
  have z1 : A t1 0 = 0 := by rw [ptA_o (fun h => n1 h.symm)] at a10; exact a10
  have z2 : A t2 0 = 0 := by rw [bnA_o (fun h => n12 h.symm), ptA_o (fun h => n2 h.symm)] at a20; exact a20
  -- the class's states
  have cs1 : ∀ r, r < 5 → Sd (ptK Kc i) r 0 = sI (ptA A i r 0) := by
    intro r hr
    unfold Sd ptK
    by_cases e : r = i
    · subst e; rw [mm_u_k (by decide), mm_u_s, ptA_i]; rfl
    · rw [mm_u_a (by omega), mm_u_a (by omega), ptA_o e]; exact (hJ.qc r hr).1
  have cs2 : ∀ r, r < 5 → Sd (p1K Kc i t1) r 0 = sI (bnA (ptA A i) i t1 P1 (A i 8 + A i 7) r 0) := by
    intro r hr
    unfold p1K
    by_cases e : r = t1
    · subst e; unfold Sd; rw [srK_S, bnA_t]; rfl
    · unfold Sd; rw [srK_o (by omega), bnA_o e]; exact cs1 r hr
  have b1 : ∀ r, r < 5 → ptA A i r 0 ≤ 3 := fun r hr => by
    by_cases e : r = i
    · rw [e, ptA_i]; exact Nat.le_refl _
    · rw [ptA_o e]; exact hs3 r hr
  have b2 : ∀ r, r < 5 → bnA (ptA A i) i t1 P1 (A i 8 + A i 7) r 0 ≤ 3 := fun r hr => by
    by_cases e : r = t1
    · rw [e, bnA_t]; exact (by decide : 1 ≤ 3)
    · rw [bnA_o e]; exact b1 r hr
  -- the reference's states
  have rs1 : ∀ r, r < 5 → pmK Kr i 57 r = Int32.ofNat (ptA A i r 0) := by
    intro r hr
    unfold pmK
    rw [mm_u_a (by decide)]
    by_cases e : r = i
    · subst e; rw [mm_u_s, ptA_i]; rfl
    · rw [mm_u_k e, ptA_o e]; exact (hJ.qr r hr).1
  have r6 : pmK Kr i 61 i = Int32.ofNat (A i 8) ∧ pmK Kr i 62 i = Int32.ofNat (A i 7) := by
    obtain ⟨_, k⟩ := hJ.qr i hi
    obtain ⟨k1, k2, k3, k4, k5, k6, k7⟩ := k h0
    unfold pmK
    exact ⟨by rw [mm_u_a (by decide), mm_u_a (by decide)]; exact k4, by rw [mm_u_a (by decide), mm_u_a (by decide)]; exact k5⟩
  have inh1 : pmK Kr i 61 i + pmK Kr i 62 i = Int32.ofNat (A i 8 + A i 7) := by rw [r6.1, r6.2, pd_addn]
  have q1 := bg_eqp (K := pmK Kr i) (r := i) (t := t1) (by' := Int32.ofNat i) (pl := Int32.ofNat P1) (inh := pmK Kr i 61 i + pmK Kr i 62 i) n1
  have inh2 : pnK (pmK Kr i) i t1 P1 61 i + pnK (pmK Kr i) i t1 P1 62 i = Int32.ofNat (A i 8 + A i 7) := by
    unfold pnK
    rw [q1.1 61 (by omega), q1.1 62 (by omega)]
    exact inh1
  have rs2 : ∀ r, r < 5 → pnK (pmK Kr i) i t1 P1 57 r = Int32.ofNat (bnA (ptA A i) i t1 P1 (A i 8 + A i 7) r 0) := by
    intro r hr
    by_cases e : r = t1
    · subst e
      rw [bnA_t]
      exact (bg_new (cn := 0) inh1).1
    · rw [bnA_o e]
      unfold pnK
      rw [(bg_eqp e).1 57 (by omega)]
      exact rs1 r hr
  have rs3 : ∀ r, r < 5 → pnK (pnK (pmK Kr i) i t1 P1) i t2 P2 57 r = Int32.ofNat (bnA (bnA (ptA A i) i t1 P1 (A i 8 + A i 7)) i t2 P2 (A i 8 + A i 7) r 0) := by
    intro r hr
    by_cases e : r = t2
    · subst e
      rw [bnA_t]
      exact (bg_new (cn := 0) inh2).1
    · rw [bnA_o e]
      unfold pnK
      rw [(bg_eqp e).1 57 (by omega)]
      exact rs2 r hr
  have z0 : ∀ x, x ≤ 3 → ((Int32.ofNat x = 0) ↔ x = 0) := fun x hx => by rw [pd_eq0 (by omega)]
  refine ⟨t1, t2, t15, t25, n1, n2, n12, ⟨by rw [cs1 t1 t15, a10]; rfl, fun j hj h => ?_⟩, ⟨by rw [cs2 t2 t25, a20]; rfl, fun j hj h => ?_⟩, ⟨by rw [rs1 t1 t15, a10]; rfl, fun j hj h => ?_⟩, ⟨by rw [rs2 t2 t25, a20]; rfl, fun j hj h => ?_⟩, ?_⟩
  · rw [cs1 j (by omega), sI_0 (b1 j (by omega))] at h; exact a1j j hj h
  · rw [cs2 j (by omega), sI_0 (b2 j (by omega))] at h; exact a2j j hj h
  · rw [rs1 j (by omega), z0 _ (b1 j (by omega))] at h; exact a1j j hj h
  · rw [rs2 j (by omega), z0 _ (b2 j (by omega))] at h; exact a2j j hj h
  -- the class's cells
  have pti : ∀ y, y ≠ 0 → y ≠ 2 → ptK Kc i (28 + 3 * i) y = Kc (28 + 3 * i) y := fun y y0 y2 => by unfold ptK; rw [mm_u_k y2, mm_u_k y0]
  have p1i : p1K Kc i t1 (28 + 3 * i) = ptK Kc i (28 + 3 * i) := by unfold p1K; exact srK_o (by omega)
  have k3 : ∀ (K : pd_I) b, b ≠ 6 → p3K K b = K b := fun K b hb => by unfold p3K; rw [mm_u_ag hb, mm_u_ag hb, mm_u_ag hb]
  have kb : ∀ b, b ≠ 6 → b ≠ 28 + 3 * i → b ≠ 28 + 3 * t1 → b ≠ 28 + 3 * t2 → p3K (p2K Kc i t1 t2 (Int32.ofNat (FT X P2).1)) b = Kc b := fun b b1 b2 b3 b4 => by
    rw [k3 _ _ b1]
    unfold p2K
    rw [srK_o b4]
    unfold p1K
    rw [srK_o b3]
    unfold ptK
    rw [mm_u_ag b2, mm_u_ag b2]
  have k2_6 : p2K Kc i t1 t2 (Int32.ofNat (FT X P2).1) 6 = Kc 6 := by
    unfold p2K
    rw [srK_o (by omega)]
    unfold p1K
    rw [srK_o (by omega)]
    unfold ptK
    rw [mm_u_ag (by omega), mm_u_ag (by omega)]
  have kbi : p3K (p2K Kc i t1 t2 (Int32.ofNat (FT X P2).1)) (28 + 3 * i) = pd_up (pd_up (Kc (28 + 3 * i)) 0 2) 2 2 := by
    rw [k3 _ _ (by omega)]
    unfold p2K
    rw [srK_o (by omega), p1i]
    unfold ptK
    rw [mmu_I, mmu_I]
  obtain ⟨c0, cq⟩ := hJ.qc i hi
  obtain ⟨c1, c2, c3, c4, c5, c6, c7, c8⟩ := cq h0
  have cn3 : ∀ r, cnt (bnA (bnA (ptA A i) i t1 P1 (A i 8 + A i 7)) i t2 P2 (A i 8 + A i 7)) r = cnt A r + if r = i then 2 else 0 := fun r => by
    rw [cnt_bn t25 a20, cnt_bn t15 a10, cnt_cg2 (pt_01 h0)]
    split <;> omega
  have ao : ∀ r, r ≠ i → r ≠ t1 → r ≠ t2 → bnA (bnA (ptA A i) i t1 P1 (A i 8 + A i 7)) i t2 P2 (A i 8 + A i 7) r = A r := fun r h1 h2 h3 => by rw [bnA_o h3, bnA_o h2, ptA_o h1]
  have ai : bnA (bnA (ptA A i) i t1 P1 (A i 8 + A i 7)) i t2 P2 (A i 8 + A i 7) i = pd_up (A i) 0 3 := by rw [bnA_o n2, bnA_o n1, ptA_i]
  have a1 : bnA (bnA (ptA A i) i t1 P1 (A i 8 + A i 7)) i t2 P2 (A i 8 + A i 7) t1 = nwc i P1 (A i 8 + A i 7) := by rw [bnA_o n12, bnA_t]
  have a2 : bnA (bnA (ptA A i) i t1 P1 (A i 8 + A i 7)) i t2 P2 (A i 8 + A i 7) t2 = nwc i P2 (A i 8 + A i 7) := bnA_t
  have cl : ∀ l, pd_up (A i) 0 3 (10 + l) = A i (10 + l) := fun l => by unfold pd_up; rw [if_neg (by omega)]
  have hwt : ∀ r, (A r 0 = 2 → bnA (bnA (ptA A i) i t1 P1 (A i 8 + A i 7)) i t2 P2 (A i 8 + A i 7) r = A r) ∧ (bnA (bnA (ptA A i) i t1 P1 (A i 8 + A i 7)) i t2 P2 (A i 8 + A i 7) r 0 = 2 → A r 0 = 2) := by
    intro r
    by_cases e1 : r = i
    · rw [e1, ai, h1]; exact ⟨fun h => (by cases h), fun h => (by cases h)⟩
    · by_cases e2 : r = t1
      · rw [e2, a1, z1]; exact ⟨fun h => (by cases h), fun h => (by cases h)⟩
      · by_cases e3 : r = t2
        · rw [e3, a2, z2]; exact ⟨fun h => (by cases h), fun h => (by cases h)⟩
        · rw [ao r e1 e2 e3]; exact ⟨fun _ => rfl, id⟩
  -- the reference's cells
  have rb : ∀ b y, b ≠ 57 → b ≠ 58 → b ≠ 59 → b ≠ 60 → b ≠ 61 → b ≠ 62 → ¬ (b = 43 ∧ (y = 36 ∨ y = 37)) → pnK (pnK (pmK Kr i) i t1 P1) i t2 P2 b y = Kr b y := fun b y b1 b2 b3 b4 b5 b6 b7 => by
    unfold pnK
    rw [bgM_o (fun h => b7 ⟨h.1, Or.inr h.2⟩), bgK_o b1 b2 b3 b5 b6 (fun h => b7 ⟨h.1, Or.inl h.2⟩), bgM_o (fun h => b7 ⟨h.1, Or.inr h.2⟩), bgK_o b1 b2 b3 b5 b6 (fun h => b7 ⟨h.1, Or.inl h.2⟩)]
    unfold pmK
    rw [mm_u_a b4, mm_u_a b1]
  have pm43 : ∀ y, pmK Kr i 43 y = Kr 43 y := fun y => by unfold pmK; rw [mm_u_a (by decide), mm_u_a (by decide)]
  obtain ⟨mo, m1, m2, m3⟩ := hJ.mo
  refine hJ.pr (fun b b1 b2 => kb b b1 (by omega) (by omega) (by omega)) ?_ ?_ (fun b b1 b2 => by funext y; exact rb b y (by omega) (by omega) (by omega) (by omega) (by omega) (by omega) (by omega)) (rb _ _ (by decide) (by decide) (by decide) (by decide) (by decide) (by decide) (by omega)) (by rw [rb _ _ (by decide) (by decide) (by decide) (by decide) (by decide) (by decide) (by omega)]; exact hJ.t0) (fun r h5 => ?_) (fun r h5 => ?_) ⟨fun r hr r0 r1 => ?_, fun r hr r0 => ?_⟩ ?_ ⟨max mo (prA A + 2), by omega, ?_, ?_⟩ ⟨?_, ?_⟩ (fun p hp h2 => ?_) (hJ.ro.cg hwt (rb _ _ (by decide) (by decide) (by decide) (by decide) (by decide) (by decide) (by omega)) (fun j _ => rb _ _ (by decide) (by decide) (by decide) (by decide) (by decide) (by decide) (by omega)))
  · unfold p3K; rw [mm_u_k (by decide), mm_u_k (by decide), mm_u_k (by decide), k2_6]
  · unfold p3K; rw [mm_u_k (by decide), mm_u_s, k2_6, hJ.lv, show (2 : Int32) = Int32.ofNat 2 from rfl, pd_addn]; congr 1; omega
  · rw [cn3]
    by_cases g1 : r = i
    · subst g1
      rw [ai, kbi, kb _ (by omega) (by omega) (by omega) (by omega), kb _ (by omega) (by omega) (by omega) (by omega), if_pos rfl, cnt_z hJ.wf h1]
      exact ⟨rfl, fun _ => ⟨c1, fun _ => rfl, c3, c4, c5, c6, fun l hl => by rw [cl]; exact c7 l hl, fun h => (by cases h)⟩⟩
    · by_cases g2 : r = t1
      · subst g2
        rw [a1, k3 _ _ (by omega)]
        unfold p2K
        rw [srK_o (by omega)]
        unfold p1K
        rw [srK_S]
        refine Qcp.new (by rw [pti _ (by decide) (by decide), c3, e1]) ?_ (by rw [pti _ (by decide) (by decide)]; exact c5)
        rw [pti _ (by decide) (by decide), hx, hx1, pd_suc]
      · by_cases g3 : r = t2
        · subst g3
          rw [a2, k3 _ _ (by omega)]
          unfold p2K
          rw [srK_S, p1i]
          exact Qcp.new (by rw [pti _ (by decide) (by decide), c3, e2]) rfl (by rw [pti _ (by decide) (by decide)]; exact c5)
        · rw [ao r g1 g2 g3, kb _ (by omega) (by omega) (by omega) (by omega), kb _ (by omega) (by omega) (by omega) (by omega), kb _ (by omega) (by omega) (by omega) (by omega), if_neg g1]
          exact hJ.qc r h5
  · rw [cn3]
    by_cases g3 : r = t2
    · subst g3; rw [a2]; exact bg_new inh2
    · by_cases g2 : r = t1
      · subst g2
        rw [a1]
        have := (bg_new (K := pmK Kr i) (t := r) (i := i) (P := P1) (cn := cnt A r + if r = i then 2 else 0) inh1)
        exact Qrp.cg this (fun _ => Nat.zero_le _) (bg_eqp g3)
      · have q2 : eqp (pmK Kr i) (pnK (pnK (pmK Kr i) i t1 P1) i t2 P2) r := (bg_eqp g2).tr (bg_eqp g3)
        by_cases g1 : r = i
        · subst g1
          rw [ai, if_pos rfl, cnt_z hJ.wf h1]
          refine Qrp.cg ?_ (fun _ => ?_) q2
          · obtain ⟨d0, d⟩ := hJ.qr r h5
            obtain ⟨d1, d2, d3, d4, d5, d6, d7⟩ := d h0
            unfold pmK
            exact ⟨by rw [mm_u_a (by decide), mm_u_s]; rfl, fun _ => ⟨by rw [mm_u_a (by decide), mm_u_a (by decide)]; exact d1, by rw [mm_u_a (by decide), mm_u_a (by decide)]; exact d2, fun _ => mm_u_s _ _ _ _, by rw [mm_u_a (by decide), mm_u_a (by decide)]; exact d4, by rw [mm_u_a (by decide), mm_u_a (by decide)]; exact d5, fun l hl => by rw [cl, mm_u_a (by decide), mm_u_a (by decide)]; exact d6 l hl, fun h => (by cases h)⟩⟩
          · show A r 7 ≤ 8
            omega
        · rw [ao r g1 g2 g3, if_neg g1]
          have q3 : eqp Kr (pmK Kr i) r := (eqp.u (by decide) g1).tr (.u (by decide) g1)
          exact (hJ.qr r h5).cg (hJ.wf.c8 h5) (q3.tr q2)
  · by_cases g1 : r = i
    · subst g1
      rw [ai] at r1 ⊢
      obtain ⟨b, b1, b2, b3⟩ := hJ.wf.1 r hr h0 r1
      refine ⟨b, b1, b2, ?_⟩
      rw [ao b (by rintro rfl; omega) (by rintro rfl; omega) (by rintro rfl; omega)]
      exact b3
    · by_cases g2 : r = t1
      · subst g2; rw [a1]; exact ⟨i, rfl, hi, by rw [ai]; rfl⟩
      · by_cases g3 : r = t2
        · subst g3; rw [a2]; exact ⟨i, rfl, hi, by rw [ai]; rfl⟩
        · rw [ao r g1 g2 g3] at r0 r1 ⊢
          obtain ⟨b, b1, b2, b3⟩ := hJ.wf.1 r hr r0 r1
          refine ⟨b, b1, b2, ?_⟩
          rw [ao b (by rintro rfl; omega) (by rintro rfl; omega) (by rintro rfl; omega)]
          exact b3
  · by_cases g1 : r = i
    · subst g1
      rw [ai]
      exact ⟨Nat.le_refl _, w2, w3, fun l hl => by rw [cl]; exact w4 l hl⟩
    · by_cases g2 : r = t1
      · subst g2; rw [a1]; exact ⟨(by decide : 1 ≤ 3), hP1, w3, fun l hl => absurd hl (Nat.not_lt_zero _)⟩
      · by_cases g3 : r = t2
        · subst g3; rw [a2]; exact ⟨(by decide : 1 ≤ 3), hP2, w3, fun l hl => absurd hl (Nat.not_lt_zero _)⟩
        · rw [ao r g1 g2 g3] at r0 ⊢
          exact hJ.wf.2 r hr r0
  · have e7 : p3K (p2K Kc i t1 t2 (Int32.ofNat (FT X P2).1)) 6 7 = Kc 6 7 + 2 := by unfold p3K; rw [mm_u_k (by decide), mm_u_k (by decide), mm_u_s, k2_6]
    rw [e7]
    unfold pnK
    rw [bg_36, bg_36, pm43, hJ.bo, Int32.add_assoc]
    rfl
  · have e8 : p3K (p2K Kc i t1 t2 (Int32.ofNat (FT X P2).1)) 6 8 = if Kc 6 8 < Kc 6 11 + 2 then Kc 6 11 + 2 else Kc 6 8 := by unfold p3K; rw [mm_u_s, k2_6]
    have e11 : Kc 6 11 + 2 = Int32.ofNat (prA A + 2) := by rw [hJ.lv, show (2 : Int32) = Int32.ofNat 2 from rfl, pd_addn]
    rw [e8, e11, m2]
    have g := pd_ltl (x := mo) (y := prA A + 2) (by omega) (by omega)
    by_cases e : mo < prA A + 2
    · rw [if_pos (by rw [g]; exact e), Nat.max_eq_right (by omega)]
    · rw [if_neg (by rw [g]; exact e), Nat.max_eq_left (by omega)]
  · have p1 : prc (bgK (pmK Kr i) t1 (Int32.ofNat i) (Int32.ofNat P1) (pmK Kr i 61 i + pmK Kr i 62 i)) = prA A + 1 := by
      rw [← pr1, ← pr2]
      refine prc_A (fun p hp => ?_)
      have := rs2 p hp
      unfold pnK at this
      rw [bgM_o (by omega)] at this
      rw [this, z0 _ (b2 p hp)]
    have p2 : prc (bgK (pnK (pmK Kr i) i t1 P1) t2 (Int32.ofNat i) (Int32.ofNat P2) (pnK (pmK Kr i) i t1 P1 61 i + pnK (pmK Kr i) i t1 P1 62 i)) = prA A + 2 := by
      have e9 : prA (bnA (bnA (ptA A i) i t1 P1 (A i 8 + A i 7)) i t2 P2 (A i 8 + A i 7)) = prA A + 2 := by omega
      rw [← e9]
      refine prc_A (fun p hp => ?_)
      have := rs3 p hp
      rw [show pnK (pnK (pmK Kr i) i t1 P1) i t2 P2 57 p = bgM (bgK (pnK (pmK Kr i) i t1 P1) t2 (Int32.ofNat i) (Int32.ofNat P2) (pnK (pmK Kr i) i t1 P1 61 i + pnK (pmK Kr i) i t1 P1 62 i)) 57 p from rfl, bgM_o (by omega)] at this
      rw [this, z0]
      by_cases g3 : p = t2
      · rw [g3, a2]; exact (by decide : 1 ≤ 3)
      · rw [bnA_o g3]; exact b2 p hp
    have k1 : pnK (pmK Kr i) i t1 P1 43 37 = Int32.ofNat (max mo (prA A + 1)) := by
      have := bgM_37 (K := bgK (pmK Kr i) t1 (Int32.ofNat i) (Int32.ofNat P1) (pmK Kr i 61 i + pmK Kr i 62 i)) (mo := mo) (by rw [bgK_o (by decide) (by decide) (by decide) (by decide) (by decide) (by omega), pm43]; exact m3) m1 (by omega)
      rw [p1] at this
      exact this
    have k2 := bgM_37 (K := bgK (pnK (pmK Kr i) i t1 P1) t2 (Int32.ofNat i) (Int32.ofNat P2) (pnK (pmK Kr i) i t1 P1 61 i + pnK (pmK Kr i) i t1 P1 62 i)) (mo := max mo (prA A + 1)) (by rw [bgK_o (by decide) (by decide) (by decide) (by decide) (by decide) (by omega)]; exact k1) (by omega) (by omega)
    rw [p2] at k2
    rw [show max mo (prA A + 2) = max (max mo (prA A + 1)) (prA A + 2) by omega]
    exact k2
  · unfold p3K; rw [mm_u_k (by decide), mm_u_k (by decide), mm_u_k (by decide), k2_6]; exact hJ.wa.1
  · rw [rb _ _ (by decide) (by decide) (by decide) (by decide) (by decide) (by decide) (by omega)]; exact hJ.wa.2
  · have h3 := (hwt p).2 h2
    rw [(hwt p).1 h3]
    exact hJ.tk p hp h3
end PT2
