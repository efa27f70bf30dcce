/-! BOTH RUNS: waiting, waking, calling -/
section OP2
variable {X : Cx} {Kc Kc' Kr Kr' K K' K1 K2 K3 : pd_I} {Dc Dc' Dr Dr' : pd_D} {A B : Nat → Nat → Nat} {q : Nat → Nat} {i p r P ws ws' z h g s : Nat} {v : Int32} {S C R : Nat → Int32} {col : Nat → Nat} {cn : Nat}
theorem Jv.pr (hJ : Jv X q Kc Dc Kr Dr A ws) (hK : ∀ b, b ≠ 6 → b < 28 → Kc' b = Kc b) (h5 : Kc' 6 5 = Kc 6 5) (h11 : Kc' 6 11 = Int32.ofNat (prA B)) (hR : ∀ b, b ≠ 43 → b < 57 → Kr' b = Kr b) (h35 : Kr' 43 35 = Kr 43 35) (h39 : Kr' 43 39 = 0) (hq : Qc X Kc' B) (hr : Qr Kr' B) (hW : Wf X B) (hbo : Kc' 6 7 = Kr' 43 36) (hmo : ∃ mo, mo ≤ 5 ∧ Kc' 6 8 = Int32.ofNat mo ∧ Kr' 43 37 = Int32.ofNat mo) (hwa : Kc' 6 9 = Int32.ofNat ws' ∧ Kr' 43 38 = Int32.ofNat ws') (htk : ∀ p, p < 5 → B p 0 = 2 → B p 6 ≤ ws' ∧ B p 5 < 2) (hro : Rw B Kr') : Jv X q Kc' Dc Kr' Dr B ws' := by
  refine ⟨fun k hk => ?_, ?_, hq, hr, hW, h11, h39, hJ.v, ?_, hbo, hmo, hwa, htk, fun i hi => ?_, hro⟩
  · obtain ⟨h1, h2, h3⟩ := hJ.cc k hk
    have n6 : (q k ≠ 6 ∧ q k < 28) ∧ (q k + 1 ≠ 6 ∧ q k + 1 < 28) ∧ (q k + 2 ≠ 6 ∧ q k + 2 < 28) := by rcases h1 with h | h | h | h | h <;> rw [h] <;> decide
    rw [hK _ n6.1.1 n6.1.2, hK _ n6.2.1.1 n6.2.1.2, hK _ n6.2.2.1 n6.2.2.2]
    exact ⟨h1, h2, h3⟩
  · obtain ⟨c1, c2, c3, c4⟩ := hJ.cr
    unfold Cr
    rw [hR 45 (by decide) (by decide), hR 46 (by decide) (by decide), hR 47 (by decide) (by decide), hR 48 (by decide) (by decide)]
    exact ⟨c1, c2, c3, c4⟩
  · obtain ⟨w, w1, w2, w3, w4⟩ := hJ.w
    exact ⟨w, w1, by rw [h5]; exact w2, by rw [h35]; exact w3, w4⟩
  · rw [hK 25 (by decide) (by decide), hR 56 (by decide) (by decide)]
    exact hJ.se i hi
theorem Qc.on2 (h : Qc X K A) (hA : ∀ r, r ≠ p → B r = A r) (h01 : ((B p 0 = 0) ↔ (A p 0 = 0)) ∧ B p 1 = A p 1) (hK : ∀ r, r < 5 → r ≠ p → K' (28 + 3 * r) = K (28 + 3 * r) ∧ K' (29 + 3 * r) = K (29 + 3 * r) ∧ K' (30 + 3 * r) = K (30 + 3 * r)) (hp : Qcp X (K' (28 + 3 * p)) (K' (29 + 3 * p)) (K' (30 + 3 * p)) (B p) (cnt A p)) : Qc X K' B := by
  have hc : ∀ r, cnt B r = cnt A r := fun r => cnt_cg2 (fun s => by
    by_cases e : s = p
    · rw [e]; exact h01
    · rw [hA s e]; exact ⟨Iff.rfl, rfl⟩)
  intro r hr
  rw [hc]
  by_cases e : r = p
  · rw [e]; exact hp
  · obtain ⟨k1, k2, k3⟩ := hK r hr e
    rw [hA r e, k1, k2, k3]
    exact h r hr
theorem Qr.on2 (h : Qr K A) (hW : Wf X A) (hA : ∀ r, r ≠ p → B r = A r) (h01 : ((B p 0 = 0) ↔ (A p 0 = 0)) ∧ B p 1 = A p 1) (hK : ∀ r, r < 5 → r ≠ p → eqp K K' r) (hp : Qrp K' p (B p) (cnt A p)) : Qr K' B := by
  have hc : ∀ r, cnt B r = cnt A r := fun r => cnt_cg2 (fun s => by
    by_cases e : s = p
    · rw [e]; exact h01
    · rw [hA s e]; exact ⟨Iff.rfl, rfl⟩)
  intro r hr
  rw [hc]
  by_cases e : r = p
  · rw [e]; exact hp
  · rw [hA r e]
    exact (h r hr).cg (hW.c8 hr) (hK r hr e)
/-- a state changes, from one that isn't parted -/
theorem Wf.st (hW : Wf X A) (h0 : A p 0 ≠ 0) (h3 : A p 0 ≠ 3) (hA : ∀ r, r ≠ p → B r = A r) (hb : B p 0 ≠ 0 ∧ B p 0 ≤ 3) (h1 : B p 1 = A p 1) (h4 : POk X (B p 4)) (h8 : B p 8 + B p 7 ≤ 6) (hl : ∀ l, l < B p 7 → POk X (B p (10 + l))) : Wf X B := by
  refine ⟨fun s hs k0 k1 => ?_, fun r hr k0 => ?_⟩
  · have hs0 : A s 0 ≠ 0 ∧ B s 1 = A s 1 := by
      by_cases e : s = p
      · rw [e]; exact ⟨h0, h1⟩
      · rw [hA s e] at k0 ⊢; exact ⟨k0, rfl⟩
    rw [hs0.2] at k1 ⊢
    obtain ⟨b, b1, b2, b3⟩ := hW.1 s hs hs0.1 k1
    exact ⟨b, b1, b2, by rw [hA b (by rintro rfl; exact h3 b3)]; exact b3⟩
  · by_cases e : r = p
    · rw [e]; exact ⟨hb.2, h4, h8, hl⟩
    · rw [hA r e] at k0 ⊢; exact hW.2 r hr k0
theorem wtA_i {w : Nat} : wtA A i s w i = pd_up (pd_up (pd_up (A i) 0 2) 5 s) 6 w := if_pos rfl
theorem wtA_o {w : Nat} (hr : r ≠ i) : wtA A i s w r = A r := if_neg hr
theorem wkA_i : wkA A g g = pd_up (A g) 0 1 := if_pos rfl
theorem wkA_o (hr : r ≠ g) : wkA A g r = A r := if_neg hr
theorem clA_i : clA A i P i = pd_up (pd_up (pd_up (A i) (10 + A i 7) (A i 4)) 7 (A i 7 + 1)) 4 P := if_pos rfl
theorem clA_o (hr : r ≠ i) : clA A i P r = A r := if_neg hr
/-- process i waits -/
theorem Jv.wt {rs : Nat} (hJ : Jv X q Kc Dc Kr Dr A ws) (hi : i < 5) (h1 : A i 0 = 1) (hs : s < 2) (hrs : rs ≤ 5) (h33 : Kr 43 33 = Int32.ofNat rs) : rs < 5 ∧ Jv X q (mm_u (mm_u (mm_u (mm_u Kc 6 9 (Kc 6 9 + 1)) (28 + 3 * i) 0 3) (28 + 3 * i) 5 (Int32.ofNat s)) (28 + 3 * i) 6 (Kc 6 9 + 1)) Dc (mm_u (mm_u (mm_u (mm_u (mm_u Kr 57 i 2) 65 i (Int32.ofNat s)) 43 33 (Int32.ofNat (rs + 1))) 64 rs (Int32.ofNat i)) 43 38 (Kr 43 38 + 1)) Dr (wtA A i s (ws + 1)) (ws + 1) := by
  obtain ⟨rs', rw', r1, r2, r3, r4, r5⟩ := hJ.ro
  have e : rs' = rs := by
    rw [r1] at h33
    have h8 := congrArg Int32.toInt h33
    rw [Int32.toInt_ofNat_of_lt (by omega), Int32.toInt_ofNat_of_lt (by omega)] at h8
    omega
  subst e
  have hlt : rs' < 5 := Rw.lt (p := i) (fun j hj => (r3 j hj).2) r4 hi (by rw [h1]; decide)
  refine ⟨hlt, ?_⟩
  have h0 : A i 0 ≠ 0 := by rw [h1]; decide
  have n6 : ∀ r, 28 + 3 * r ≠ 6 := fun r => by omega
  have e9 : Kc 6 9 + 1 = Int32.ofNat (ws + 1) := by rw [hJ.wa.1, pd_suc]
  have h01 : ((wtA A i s (ws + 1) i 0 = 0) ↔ (A i 0 = 0)) ∧ wtA A i s (ws + 1) i 1 = A i 1 := by
    rw [wtA_i, h1]
    exact ⟨⟨fun h => (by cases h), fun h => (by cases h)⟩, rfl⟩
  obtain ⟨w1, w2, w3, w4⟩ := hJ.wf.2 i hi h0
  refine hJ.pr (fun b b1 b2 => by rw [mm_u_ag (by omega), mm_u_ag (by omega), mm_u_ag (by omega), mm_u_ag b1]) (by rw [mm_u_a (by omega), mm_u_a (by omega), mm_u_a (by omega), mm_u_k (by decide)]) ?_ (fun b b1 b2 => by rw [mm_u_ag b1, mm_u_ag (by omega), mm_u_ag b1, mm_u_ag (by omega), mm_u_ag (by omega)]) ?_ ?_ ?_ ?_ ?_ ?_ ?_ ?_ ?_ ?_
  · rw [mm_u_a (by omega), mm_u_a (by omega), mm_u_a (by omega), mm_u_k (by decide), hJ.lv]
    congr 1
    refine (prA_cg (fun r => ?_)).symm
    by_cases e : r = i
    · rw [e]; exact h01.1
    · rw [wtA_o e]
  · rw [mm_u_k (by decide), mm_u_a (by decide), mm_u_k (by decide), mm_u_a (by decide), mm_u_a (by decide)]
  · rw [mm_u_k (by decide), mm_u_a (by decide), mm_u_k (by decide), mm_u_a (by decide), mm_u_a (by decide)]; exact hJ.t0
  · refine hJ.qc.on2 (p := i) (fun r hr => wtA_o hr) h01 (fun r _ hr => ⟨?_, ?_, ?_⟩) ?_
    · rw [mm_u_ag (by omega), mm_u_ag (by omega), mm_u_ag (by omega), mm_u_ag (by omega)]
    · rw [mm_u_ag (by omega), mm_u_ag (by omega), mm_u_ag (by omega), mm_u_ag (by omega)]
    · rw [mm_u_ag (by omega), mm_u_ag (by omega), mm_u_ag (by omega), mm_u_ag (by omega)]
    · rw [wtA_i, mmu_I, mmu_I, mmu_I, mm_u_ag (n6 i), mm_u_ag (by omega), mm_u_ag (by omega), mm_u_ag (by omega), mm_u_ag (by omega), mm_u_ag (by omega), mm_u_ag (by omega), mm_u_ag (by omega), mm_u_ag (by omega)]
      obtain ⟨k0, k⟩ := hJ.qc i hi
      obtain ⟨k1, k2, k3, k4, k5, k6, k7, k8⟩ := k h0
      refine ⟨rfl, fun _ => ⟨k1, fun h => (by cases h), k3, k4, k5, k6, fun l hl => ?_, fun _ => ⟨rfl, e9⟩⟩⟩
      have : pd_up (pd_up (pd_up (A i) 0 2) 5 s) 6 (ws + 1) (10 + l) = A i (10 + l) := by unfold pd_up; rw [if_neg (by omega), if_neg (by omega), if_neg (by omega)]
      rw [this]
      exact k7 l hl
  · have eK : ∀ b y, b ≠ 43 → b ≠ 57 → b ≠ 64 → b ≠ 65 → (mm_u (mm_u (mm_u (mm_u (mm_u Kr 57 i 2) 65 i (Int32.ofNat s)) 43 33 (Int32.ofNat (rs' + 1))) 64 rs' (Int32.ofNat i)) 43 38 (Kr 43 38 + 1)) b y = Kr b y := fun b y b1 b2 b3 b4 => by rw [mm_u_a b1, mm_u_a b3, mm_u_a b1, mm_u_a b4, mm_u_a b2]
    refine hJ.qr.on2 (p := i) hJ.wf (fun r hr => wtA_o hr) h01 (fun r hr h => ((((eqp.u (by decide) h).tr (.u (by decide) h)).tr (.o (by decide))).tr (.o (by decide))).tr (.o (by decide))) ?_
    obtain ⟨k0, k⟩ := hJ.qr i hi
    obtain ⟨k1, k2, k3, k4, k5, k6, k7⟩ := k h0
    rw [wtA_i]
    refine ⟨by rw [mm_u_a (by decide), mm_u_a (by decide), mm_u_a (by decide), mm_u_a (by decide), mm_u_s]; rfl, fun _ => ⟨by rw [eK _ _ (by decide) (by decide) (by decide) (by decide)]; exact k1, by rw [eK _ _ (by decide) (by decide) (by decide) (by decide)]; exact k2, fun h => (by cases h), by rw [eK _ _ (by decide) (by decide) (by decide) (by decide)]; exact k4, by rw [eK _ _ (by decide) (by decide) (by decide) (by decide)]; exact k5, fun l hl => ?_, fun _ => ?_⟩⟩
    · have : pd_up (pd_up (pd_up (A i) 0 2) 5 s) 6 (ws + 1) (10 + l) = A i (10 + l) := by unfold pd_up; rw [if_neg (by omega), if_neg (by omega), if_neg (by omega)]
      rw [this, eK _ _ (by decide) (by decide) (by decide) (by decide)]
      exact k6 l hl
    · rw [mm_u_a (by decide), mm_u_a (by decide), mm_u_a (by decide), mm_u_s]; rfl
  · refine hJ.wf.st (p := i) h0 (by rw [h1]; decide) (fun r hr => wtA_o hr) (by rw [wtA_i]; exact ⟨fun h => (by cases h), (by decide : 2 ≤ 3)⟩) h01.2 (by rw [wtA_i]; exact w2) (by rw [wtA_i]; exact w3) (fun l hl => ?_)
    rw [wtA_i] at hl ⊢
    have : pd_up (pd_up (pd_up (A i) 0 2) 5 s) 6 (ws + 1) (10 + l) = A i (10 + l) := by unfold pd_up; rw [if_neg (by omega), if_neg (by omega), if_neg (by omega)]
    rw [this]
    exact w4 l hl
  · rw [mm_u_a (by omega), mm_u_a (by omega), mm_u_a (by omega), mm_u_k (by decide), mm_u_k (by decide), mm_u_a (by decide), mm_u_k (by decide), mm_u_a (by decide), mm_u_a (by decide)]
    exact hJ.bo
  · obtain ⟨m, m1, m2, m3⟩ := hJ.mo
    refine ⟨m, m1, ?_, ?_⟩
    · rw [mm_u_a (by omega), mm_u_a (by omega), mm_u_a (by omega), mm_u_k (by decide)]; exact m2
    · rw [mm_u_k (by decide), mm_u_a (by decide), mm_u_k (by decide), mm_u_a (by decide), mm_u_a (by decide)]; exact m3
  · rw [mm_u_a (by omega), mm_u_a (by omega), mm_u_a (by omega), mm_u_s, mm_u_s, hJ.wa.2, pd_suc]
    exact ⟨e9, rfl⟩
  · intro p hp h2
    by_cases e : p = i
    · rw [e, wtA_i]; exact ⟨Nat.le_refl _, hs⟩
    · rw [wtA_o e] at h2 ⊢
      have := hJ.tk p hp h2
      exact ⟨by omega, this.2⟩
  · have hne : ∀ j, j < rs' → rw' j ≠ i := fun j hj h => by have := (r3 j hj).2.2; rw [h, h1] at this; cases this
    refine ⟨rs' + 1, fun j => if j = rs' then i else rw' j, ?_, by omega, fun j hj => ?_, fun j1 j2 h12 hj => ?_, fun p hp h2 => ?_⟩
    · rw [mm_u_k (by decide), mm_u_a (by decide), mm_u_s]
    · dsimp only
      by_cases e : j = rs'
      · rw [if_pos e, e, mm_u_a (by decide), mm_u_s, wtA_i]
        exact ⟨rfl, hi, rfl⟩
      · rw [if_neg e, mm_u_a (by decide), mm_u_k e, mm_u_a (by decide), mm_u_a (by decide), mm_u_a (by decide), wtA_o (hne j (by omega))]
        exact r3 j (by omega)
    · dsimp only
      rw [if_neg (show j1 ≠ rs' by omega), wtA_o (hne j1 (by omega))]
      by_cases e : j2 = rs'
      · rw [if_pos e, wtA_i]
        have := (hJ.tk _ (r3 j1 (by omega)).2.1 (r3 j1 (by omega)).2.2).1
        show A (rw' j1) 6 < ws + 1
        omega
      · rw [if_neg e, wtA_o (hne j2 (by omega))]
        exact r4 j1 j2 h12 (by omega)
    · by_cases e : p = i
      · exact ⟨rs', by omega, by dsimp only; rw [if_pos rfl, e]⟩
      · rw [wtA_o e] at h2
        obtain ⟨j, j1, j2⟩ := r5 p hp h2
        exact ⟨j, by omega, by dsimp only; rw [if_neg (by omega)]; exact j2⟩
theorem shf_get : ∀ (f k : Nat) (K : pd_I) (b y : Nat), shf f k K b y = if b = 64 ∧ k ≤ y ∧ y < k + f then K 64 (y + 1) else K b y := by
  intro f
  induction f with
  | zero => intro k K b y; rw [if_neg (by omega)]; rfl
  | succ f ih =>
    intro k K b y
    unfold shf
    rw [ih]
    by_cases hb : b = 64
    · subst hb
      by_cases e : y = k
      · rw [if_neg (by omega), if_pos ⟨rfl, by omega, by omega⟩, e, mm_u_s]
      · by_cases e2 : k + 1 ≤ y ∧ y < k + 1 + f
        · rw [if_pos ⟨rfl, e2⟩, if_pos ⟨rfl, by omega, by omega⟩, mm_u_k (by omega)]
        · rw [if_neg (fun h => e2 h.2), if_neg (by omega), mm_u_k e]
    · rw [if_neg (fun h => hb h.1), if_neg (fun h => hb h.1), mm_u_a hb]
/-- process g is woken: it was the t-th of the row -/
theorem Jv.wk {rs t : Nat} {rw' : Nat → Nat} (hJ : Jv X q Kc Dc Kr Dr A ws) (r1 : Kr 43 33 = Int32.ofNat rs) (r2 : rs ≤ 5) (r3 : ∀ j, j < rs → Kr 64 j = Int32.ofNat (rw' j) ∧ rw' j < 5 ∧ A (rw' j) 0 = 2) (r4 : ∀ i j, i < j → j < rs → A (rw' i) 6 < A (rw' j) 6) (r5 : ∀ p, p < 5 → A p 0 = 2 → ∃ j, j < rs ∧ rw' j = p) (ht : t < rs) (hg : rw' t = g) : Jv X q (mm_u Kc (28 + 3 * g) 0 1) Dc (mm_u (shf (rs - 1 - t) t (mm_u Kr 43 33 (Int32.ofNat (rs - 1)))) 57 g 1) Dr (wkA A g) ws := by
  obtain ⟨_, g5, g2⟩ := r3 t ht
  rw [hg] at g5 g2
  have h0 : A g 0 ≠ 0 := by rw [g2]; decide
  have h01 : ((wkA A g g 0 = 0) ↔ (A g 0 = 0)) ∧ wkA A g g 1 = A g 1 := by
    rw [wkA_i, g2]
    exact ⟨⟨fun h => (by cases h), fun h => (by cases h)⟩, rfl⟩
  obtain ⟨w1, w2, w3, w4⟩ := hJ.wf.2 g g5 h0
  have cl : ∀ l, pd_up (A g) 0 1 (10 + l) = A g (10 + l) := fun l => by unfold pd_up; rw [if_neg (by omega)]
  have eK : ∀ b y, b ≠ 57 → b ≠ 64 → ¬ (b = 43 ∧ y = 33) → (mm_u (shf (rs - 1 - t) t (mm_u Kr 43 33 (Int32.ofNat (rs - 1)))) 57 g 1) b y = Kr b y := fun b y b1 b2 b3 => by
    rw [mm_u_a b1, shf_get, if_neg (fun h => b2 h.1)]
    by_cases e : b = 43
    · exact mm_u_k (fun h => b3 ⟨e, h⟩)
    · exact mm_u_a e
  have hwt : ∀ r, r ≠ g → wkA A g r = A r := fun r hr => wkA_o hr
  refine hJ.pr (fun b b1 b2 => by rw [mm_u_ag (by omega)]) (by rw [mm_u_a (by omega)]) ?_ (fun b b1 b2 => by funext y; exact eK b y (by omega) (by omega) (by omega)) (eK _ _ (by decide) (by decide) (by omega)) (by rw [eK _ _ (by decide) (by decide) (by omega)]; exact hJ.t0) ?_ ?_ ?_ ?_ ?_ ?_ ?_ ?_
  · rw [mm_u_a (by omega), hJ.lv]
    congr 1
    refine (prA_cg (fun r => ?_)).symm
    by_cases e : r = g
    · rw [e]; exact h01.1
    · rw [wkA_o e]
  · refine hJ.qc.on2 (p := g) hwt h01 (fun r _ hr => ⟨mm_u_ag (by omega), mm_u_ag (by omega), mm_u_ag (by omega)⟩) ?_
    rw [wkA_i, mmu_I, mm_u_ag (by omega), mm_u_ag (by omega)]
    obtain ⟨k0, k⟩ := hJ.qc g g5
    obtain ⟨k1, k2, k3, k4, k5, k6, k7, k8⟩ := k h0
    exact ⟨rfl, fun _ => ⟨k1, fun h => (by cases h), k3, k4, k5, k6, fun l hl => by rw [cl]; exact k7 l hl, fun h => (by cases h)⟩⟩
  · refine hJ.qr.on2 (p := g) hJ.wf hwt h01 (fun r hr h => ?_) ?_
    · refine ⟨fun b hb => ?_, fun l _ => eK _ _ (by decide) (by decide) (by omega)⟩
      by_cases e : b = 57
      · rw [e, mm_u_k h, shf_get, if_neg (by omega), mm_u_a (by decide)]
      · exact eK b r e (by omega) (by omega)
    · obtain ⟨k0, k⟩ := hJ.qr g g5
      obtain ⟨k1, k2, k3, k4, k5, k6, k7⟩ := k h0
      rw [wkA_i]
      exact ⟨by rw [mm_u_s]; rfl, fun _ => ⟨by rw [eK _ _ (by decide) (by decide) (by omega)]; exact k1, by rw [eK _ _ (by decide) (by decide) (by omega)]; exact k2, fun h => (by cases h), by rw [eK _ _ (by decide) (by decide) (by omega)]; exact k4, by rw [eK _ _ (by decide) (by decide) (by omega)]; exact k5, fun l hl => by rw [cl, eK _ _ (by decide) (by decide) (by omega)]; exact k6 l hl, fun h => (by cases h)⟩⟩
  · refine hJ.wf.st (p := g) h0 (by rw [g2]; decide) hwt (by rw [wkA_i]; exact ⟨fun h => (by cases h), (by decide : 1 ≤ 3)⟩) h01.2 (by rw [wkA_i]; exact w2) (by rw [wkA_i]; exact w3) (fun l hl => ?_)
    rw [wkA_i] at hl ⊢
    rw [cl]
    exact w4 l hl
  · rw [mm_u_a (by omega), eK _ _ (by decide) (by decide) (by omega)]; exact hJ.bo
  · obtain ⟨m, m1, m2, m3⟩ := hJ.mo
    exact ⟨m, m1, by rw [mm_u_a (by omega)]; exact m2, by rw [eK _ _ (by decide) (by decide) (by omega)]; exact m3⟩
  · rw [mm_u_a (by omega), eK _ _ (by decide) (by decide) (by omega)]; exact hJ.wa
  · intro p hp h2
    have e : p ≠ g := by rintro rfl; rw [wkA_i] at h2; cases h2
    rw [wkA_o e] at h2 ⊢
    exact hJ.tk p hp h2
  · have inj : ∀ a b, a < rs → b < rs → rw' a = rw' b → a = b := by
      intro a b ha hb e
      rcases Nat.lt_trichotomy a b with h | h | h
      · have := r4 a b h hb; rw [e] at this; omega
      · exact h
      · have := r4 b a h ha; rw [e] at this; omega
    have hne : ∀ j, j < rs → j ≠ t → rw' j ≠ g := fun j hj h e => h (inj j t hj ht (by rw [e, hg]))
    refine ⟨rs - 1, fun j => if j < t then rw' j else rw' (j + 1), ?_, by omega, fun j hj => ?_, fun j1 j2 h12 hj => ?_, fun p hp h2 => ?_⟩
    · rw [mm_u_a (by decide), shf_get, if_neg (by omega), mm_u_s]
    · rw [mm_u_a (by decide), shf_get]
      dsimp only
      by_cases e : j < t
      · rw [if_pos e, if_neg (by omega), mm_u_a (by decide), wkA_o (hne j (by omega) (by omega))]
        exact r3 j (by omega)
      · rw [if_neg e, if_pos ⟨rfl, by omega, by omega⟩, mm_u_a (by decide), wkA_o (hne (j + 1) (by omega) (by omega))]
        exact r3 (j + 1) (by omega)
    · dsimp only
      by_cases e1 : j1 < t
      · rw [if_pos e1, wkA_o (hne j1 (by omega) (by omega))]
        by_cases e2 : j2 < t
        · rw [if_pos e2, wkA_o (hne j2 (by omega) (by omega))]
          exact r4 j1 j2 h12 (by omega)
        · rw [if_neg e2, wkA_o (hne (j2 + 1) (by omega) (by omega))]
          exact r4 j1 (j2 + 1) (by omega) (by omega)
      · rw [if_neg e1, if_neg (show ¬ (j2 < t) by omega), wkA_o (hne (j1 + 1) (by omega) (by omega)), wkA_o (hne (j2 + 1) (by omega) (by omega))]
        exact r4 (j1 + 1) (j2 + 1) (by omega) (by omega)
    · have e : p ≠ g := by rintro rfl; rw [wkA_i] at h2; cases h2
      rw [wkA_o e] at h2
      obtain ⟨j, j1, j2⟩ := r5 p hp h2
      have hjt : j ≠ t := by rintro rfl; exact e (by rw [← j2, hg])
      by_cases e3 : j < t
      · exact ⟨j, by omega, by dsimp only; rw [if_pos e3]; exact j2⟩
      · exact ⟨j - 1, by omega, by dsimp only; rw [if_neg (by omega), show j - 1 + 1 = j by omega]; exact j2⟩
/-- process i calls: it goes on at P, and will come back to where it is -/
theorem Jv.cl {c : Nat} (hJ : Jv X q Kc Dc Kr Dr A ws) (hi : i < 5) (h1 : A i 0 = 1) (hk : P / 128 < 4) (hP : POk X P) (hP0 : (FT X P).1 = 0) (hat : Kc (28 + 3 * i) 4 = Int32.ofNat (FT X (A i 4)).1) (hc : A i 7 = c) (h6 : A i 8 + A i 7 < 6) : Jv X q (mm_u (mm_u (mm_u (mm_u (mm_u Kc (29 + 3 * i) (A i 8 + A i 7) (Kc (28 + 3 * i) 3)) (30 + 3 * i) (A i 8 + A i 7) (Kc (28 + 3 * i) 4)) (28 + 3 * i) 7 (Int32.ofNat (A i 8 + A i 7 + 1))) (28 + 3 * i) 3 (Int32.ofNat (P / 128))) (28 + 3 * i) 4 0) Dc (mm_u (mm_u (mm_u Kr 63 (i * 8 + c) (Int32.ofNat (A i 4))) 62 i (Int32.ofNat (c + 1))) 58 i (Int32.ofNat P)) Dr (clA A i P) ws := by
  have h0 : A i 0 ≠ 0 := by rw [h1]; decide
  obtain ⟨w1, w2, w3, w4⟩ := hJ.wf.2 i hi h0
  have h01 : ((clA A i P i 0 = 0) ↔ (A i 0 = 0)) ∧ clA A i P i 1 = A i 1 := by
    rw [clA_i]
    unfold pd_up
    rw [if_neg (by decide), if_neg (by decide), if_neg (by omega), if_neg (by decide), if_neg (by decide), if_neg (by omega)]
    exact ⟨Iff.rfl, rfl⟩
  have c0 : clA A i P i 0 = A i 0 := by rw [clA_i]; unfold pd_up; rw [if_neg (by decide), if_neg (by decide), if_neg (by omega)]
  have c4 : clA A i P i 4 = P := by rw [clA_i]; rfl
  have c7 : clA A i P i 7 = A i 7 + 1 := by rw [clA_i]; rfl
  have c8 : clA A i P i 8 = A i 8 := by rw [clA_i]; unfold pd_up; rw [if_neg (by decide), if_neg (by decide), if_neg (by omega)]
  have cl : ∀ l, l < A i 7 → clA A i P i (10 + l) = A i (10 + l) := fun l hl => by rw [clA_i]; unfold pd_up; rw [if_neg (by omega), if_neg (by omega), if_neg (by omega)]
  have ce : clA A i P i (10 + A i 7) = A i 4 := by rw [clA_i]; unfold pd_up; rw [if_neg (by omega), if_neg (by omega), if_pos rfl]
  have n6 : ∀ r, 28 + 3 * r ≠ 6 := fun r => by omega
  have hwt : ∀ r, r ≠ i → clA A i P r = A r := fun r hr => clA_o hr
  refine hJ.pr (fun b b1 b2 => by rw [mm_u_ag (by omega), mm_u_ag (by omega), mm_u_ag (by omega), mm_u_ag (by omega), mm_u_ag (by omega)]) (by rw [mm_u_a (by omega), mm_u_a (by omega), mm_u_a (by omega), mm_u_a (by omega), mm_u_a (by omega)]) ?_ (fun b b1 b2 => by rw [mm_u_ag (by omega), mm_u_ag (by omega), mm_u_ag (by omega)]) (by rw [mm_u_a (by decide), mm_u_a (by decide), mm_u_a (by decide)]) (by rw [mm_u_a (by decide), mm_u_a (by decide), mm_u_a (by decide)]; exact hJ.t0) ?_ ?_ ?_ ?_ ?_ ?_ ?_ ?_
  · rw [mm_u_a (by omega), mm_u_a (by omega), mm_u_a (by omega), mm_u_a (by omega), mm_u_a (by omega), hJ.lv]
    congr 1
    refine (prA_cg (fun r => ?_)).symm
    by_cases e : r = i
    · rw [e]; exact h01.1
    · rw [clA_o e]
  · refine hJ.qc.on2 (p := i) hwt h01 (fun r _ hr => ⟨?_, ?_, ?_⟩) ?_
    · rw [mm_u_ag (by omega), mm_u_ag (by omega), mm_u_ag (by omega), mm_u_ag (by omega), mm_u_ag (by omega)]
    · rw [mm_u_ag (by omega), mm_u_ag (by omega), mm_u_ag (by omega), mm_u_ag (by omega), mm_u_ag (by omega)]
    · rw [mm_u_ag (by omega), mm_u_ag (by omega), mm_u_ag (by omega), mm_u_ag (by omega), mm_u_ag (by omega)]
    · rw [mmu_I, mmu_I, mmu_I, mm_u_ag (show 28 + 3 * i ≠ 30 + 3 * i by omega), mm_u_ag (show 28 + 3 * i ≠ 29 + 3 * i by omega)]
      rw [mm_u_ag (show 29 + 3 * i ≠ 28 + 3 * i by omega), mm_u_ag (show 29 + 3 * i ≠ 28 + 3 * i by omega), mm_u_ag (show 29 + 3 * i ≠ 28 + 3 * i by omega), mm_u_ag (show 29 + 3 * i ≠ 30 + 3 * i by omega), mmu_I]
      rw [mm_u_ag (show 30 + 3 * i ≠ 28 + 3 * i by omega), mm_u_ag (show 30 + 3 * i ≠ 28 + 3 * i by omega), mm_u_ag (show 30 + 3 * i ≠ 28 + 3 * i by omega), mmu_I, mm_u_ag (show 30 + 3 * i ≠ 29 + 3 * i by omega)]
      obtain ⟨k0, k⟩ := hJ.qc i hi
      obtain ⟨k1, k2, k3, k4, k5, k6, k7, k8⟩ := k h0
      unfold Qcp
      rw [c0, h01.2, c4, c7, c8]
      refine ⟨k0, fun _ => ⟨k1, fun h => absurd h (by rw [h1]; decide), rfl, ⟨0, rfl, Or.inl hP0.symm⟩, rfl, k6, fun l hl => ?_, fun h => absurd h (by rw [h1]; decide)⟩⟩
      by_cases e : l = A i 7
      · rw [e, ce]
        unfold pd_up
        rw [if_pos rfl, if_pos rfl]
        exact ⟨k3, hat⟩
      · rw [cl l (by omega)]
        unfold pd_up
        rw [if_neg (by omega), if_neg (by omega)]
        exact k7 l (by omega)
  · refine hJ.qr.on2 (p := i) hJ.wf hwt h01 (fun r hr h => ?_) ?_
    · refine (eqp.tr ⟨fun b hb => mm_u_a (by omega), fun l hl => mm_u_k (by omega)⟩ (.u (by decide) h)).tr (.u (by decide) h)
    · obtain ⟨k0, k⟩ := hJ.qr i hi
      obtain ⟨k1, k2, k3, k4, k5, k6, k7⟩ := k h0
      unfold Qrp
      rw [c0, h01.2, c4, c7, c8]
      refine ⟨by rw [mm_u_a (by decide), mm_u_a (by decide), mm_u_a (by decide)]; exact k0, fun _ => ⟨mm_u_s _ _ _ _, by rw [mm_u_a (by decide), mm_u_a (by decide), mm_u_a (by decide)]; exact k2, fun h => absurd h (by rw [h1]; decide), by rw [mm_u_a (by decide), mm_u_a (by decide), mm_u_a (by decide)]; exact k4, by rw [mm_u_a (by decide), mm_u_s, hc], fun l hl => ?_, fun h => absurd h (by rw [h1]; decide)⟩⟩
      rw [mm_u_a (by decide), mm_u_a (by decide)]
      by_cases e : l = A i 7
      · rw [e, ce, hc, mm_u_s]
      · rw [cl l (by omega), mm_u_k (by omega)]
        exact k6 l (by omega)
  · refine hJ.wf.st (p := i) h0 (by rw [h1]; decide) hwt (by rw [c0, h1]; decide) h01.2 (by rw [c4]; exact hP) (by rw [c7, c8]; omega) (fun l hl => ?_)
    rw [c7] at hl
    by_cases e : l = A i 7
    · rw [e, ce]; exact w2
    · rw [cl l (by omega)]; exact w4 l (by omega)
  · rw [mm_u_a (by omega), mm_u_a (by omega), mm_u_a (by omega), mm_u_a (by omega), mm_u_a (by omega), mm_u_a (by decide), mm_u_a (by decide), mm_u_a (by decide)]; exact hJ.bo
  · obtain ⟨m, m1, m2, m3⟩ := hJ.mo
    exact ⟨m, m1, by rw [mm_u_a (by omega), mm_u_a (by omega), mm_u_a (by omega), mm_u_a (by omega), mm_u_a (by omega)]; exact m2, by rw [mm_u_a (by decide), mm_u_a (by decide), mm_u_a (by decide)]; exact m3⟩
  · rw [mm_u_a (by omega), mm_u_a (by omega), mm_u_a (by omega), mm_u_a (by omega), mm_u_a (by omega), mm_u_a (by decide), mm_u_a (by decide), mm_u_a (by decide)]; exact hJ.wa
  · intro p hp h2
    have e : p ≠ i := by rintro rfl; rw [c0, h1] at h2; cases h2
    rw [clA_o e] at h2 ⊢
    exact hJ.tk p hp h2
  · refine hJ.ro.cg (fun r => ?_) (by rw [mm_u_a (by decide), mm_u_a (by decide), mm_u_a (by decide)]) (fun j _ => by rw [mm_u_a (by decide), mm_u_a (by decide), mm_u_a (by decide)])
    by_cases e : r = i
    · rw [e, c0, h1]; exact ⟨fun h => (by cases h), fun h => (by cases h)⟩
    · rw [clA_o e]; exact ⟨fun _ => rfl, id⟩
end OP2
