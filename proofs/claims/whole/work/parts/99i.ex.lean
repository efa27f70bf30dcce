/-! BOTH RUNS: a step, its expression done -/
def ter (e E : Nat) : Prop := (e = 2 ∧ E = 2) ∨ (e = 3 ∧ E = 1) ∨ (e = 4 ∧ E = 3) ∨ (e = 5 ∧ E = 4)
/-- both throw -/
def StT (xs : Nat → Int32) (Ls : Nat) (q : Nat → Nat) (J : pd_J) (n : Nat) (Jr : pd_J) (nr i : Nat) (Kc : pd_I) (Dc : pd_D) (Kr : pd_I) (Dr : pd_D) : Prop := ∃ e E K' D' K3 D3, ter e E ∧ (∀ d, 7 ≤ d → mm_ev xs Ls pd_ck pd_ak pd_mj d 53 [.ref (6 : Nat), .int (Int32.ofNat i)] (pd_st Kc Dc (pd_RF q) J n) = some (.inr E, pd_st K' D' (pd_RF q) J (n + 1))) ∧ Sp xs Ls q Jr nr i Kr Dr K3 D3 ∧ K3 43 39 = Int32.ofNat e ∧ Fw K' D' K3 D3 ∧ FmC Kc K' ∧ FdC Dc D' ∧ FmR Kr K3 ∧ FdR Dr D3
/-- both go on -/
def StN (xs : Nat → Int32) (Ls : Nat) (q : Nat → Nat) (J : pd_J) (n : Nat) (Jr : pd_J) (nr i : Nat) (X : Cx) (ws : Nat) (Kc : pd_I) (Dc : pd_D) (Kr : pd_I) (Dr : pd_D) : Prop := ∃ K2 D2 K3c K3 D3 B ws', (∀ d, 7 ≤ d → mm_ev xs Ls pd_ck pd_ak pd_mj d 53 [.ref (6 : Nat), .int (Int32.ofNat i)] (pd_st Kc Dc (pd_RF q) J n) = some (.inl none, pd_st K2 D2 (pd_RF q) J n)) ∧ Lo q 5 0 K2 K3c ∧ Sp xs Ls q Jr nr i Kr Dr K3 D3 ∧ Jv X q K3c D2 K3 D3 B ws' ∧ (∀ r, r < 5 → Rs X K3c B r) ∧ ws' ≤ ws + 1 ∧ K3c 6 6 = Kc 6 6 + 1 ∧ FmC Kc K3c ∧ FdC Dc D2 ∧ FmR Kr K3 ∧ FdR Dr D3
/-- the expression is done on both sides: at the order j' of procedure k -/
abbrev Aft (xs : Nat → Int32) (Ls : Nat) (q : Nat → Nat) (J : pd_J) (n : Nat) (Jr : pd_J) (nr i : Nat) (X : Cx) (Kc : pd_I) (Dc : pd_D) (Kr : pd_I) (Dr : pd_D) (k j' : Nat) (us vs : List UInt64) (Dc' : pd_D) (K1 : pd_I) (D1 : pd_D) : Prop := (k < 4) ∧ (cxt X k ≠ 0) ∧ (j' < cxM X k) ∧ (¬ (cxc X (k * 128 + j') < 20) ∧ cxc X (k * 128 + j') ≤ 30) ∧ (SK (FT X (k * 128 + j')).2 us vs) ∧ (sE (Dc' 22) us) ∧ (∀ b, b ≠ 22 → Dc' b = Dc b) ∧ (∀ (or nu : Int32) (r : Option Value ⊕ Nat) (S' : mm_St), cxO X k (FT X (k * 128 + j')).1 = or → cxV X k (FT X (k * 128 + j')).1 = nu → ¬ (or < 17) → (r = .inl none ∨ ∃ E, r = .inr E) → (∀ d, 5 ≤ d → mm_ev xs Ls pd_ck pd_ak pd_mj d 54 [.ref (6 : Nat), .int (Int32.ofNat i), .int or, .int nu] (pd_st (stK (mm_u Kc 6 6 (Kc 6 6 + 1)) i ((FT X (k * 128 + j')).1 + 1) us.length) Dc' (pd_RF q) J n) = some (r, S')) → ∀ d, 7 ≤ d → mm_ev xs Ls pd_ck pd_ak pd_mj d 53 [.ref (6 : Nat), .int (Int32.ofNat i)] (pd_st Kc Dc (pd_RF q) J n) = some (r, S')) ∧ (Fr2 Kr K1) ∧ (K1 43 39 = 0) ∧ (sE (D1 55) vs) ∧ (∀ b, b ≠ 55 → D1 b = Dr b) ∧ (∀ d, 3 ≤ d → mm_ev xs Ls pd_ck pd_ak pd_mj d 119 [.ref (43 : Nat), .int (Kr 58 i)] (pd_st Kr Dr (pd_RF q) Jr nr) = some (.inl (some (.int (Int32.ofNat (k * 128 + j')))), pd_st K1 D1 (pd_RF q) Jr nr))
theorem Aft.k4 {xs : Nat → Int32} {Ls : Nat} {q : Nat → Nat} {J : pd_J} {n : Nat} {Jr : pd_J} {nr i : Nat} {X : Cx} {Kc : pd_I} {Dc : pd_D} {Kr : pd_I} {Dr : pd_D} {k j' : Nat} {us vs : List UInt64} {Dc' : pd_D} {K1 : pd_I} {D1 : pd_D} (ih : Aft xs Ls q J n Jr nr i X Kc Dc Kr Dr k j' us vs Dc' K1 D1) : k < 4 := ih.1
theorem Aft.t {xs : Nat → Int32} {Ls : Nat} {q : Nat → Nat} {J : pd_J} {n : Nat} {Jr : pd_J} {nr i : Nat} {X : Cx} {Kc : pd_I} {Dc : pd_D} {Kr : pd_I} {Dr : pd_D} {k j' : Nat} {us vs : List UInt64} {Dc' : pd_D} {K1 : pd_I} {D1 : pd_D} (ih : Aft xs Ls q J n Jr nr i X Kc Dc Kr Dr k j' us vs Dc' K1 D1) : cxt X k ≠ 0 := ih.2.1
theorem Aft.m {xs : Nat → Int32} {Ls : Nat} {q : Nat → Nat} {J : pd_J} {n : Nat} {Jr : pd_J} {nr i : Nat} {X : Cx} {Kc : pd_I} {Dc : pd_D} {Kr : pd_I} {Dr : pd_D} {k j' : Nat} {us vs : List UInt64} {Dc' : pd_D} {K1 : pd_I} {D1 : pd_D} (ih : Aft xs Ls q J n Jr nr i X Kc Dc Kr Dr k j' us vs Dc' K1 D1) : j' < cxM X k := ih.2.2.1
theorem Aft.op {xs : Nat → Int32} {Ls : Nat} {q : Nat → Nat} {J : pd_J} {n : Nat} {Jr : pd_J} {nr i : Nat} {X : Cx} {Kc : pd_I} {Dc : pd_D} {Kr : pd_I} {Dr : pd_D} {k j' : Nat} {us vs : List UInt64} {Dc' : pd_D} {K1 : pd_I} {D1 : pd_D} (ih : Aft xs Ls q J n Jr nr i X Kc Dc Kr Dr k j' us vs Dc' K1 D1) : ¬ (cxc X (k * 128 + j') < 20) ∧ cxc X (k * 128 + j') ≤ 30 := ih.2.2.2.1
theorem Aft.sk {xs : Nat → Int32} {Ls : Nat} {q : Nat → Nat} {J : pd_J} {n : Nat} {Jr : pd_J} {nr i : Nat} {X : Cx} {Kc : pd_I} {Dc : pd_D} {Kr : pd_I} {Dr : pd_D} {k j' : Nat} {us vs : List UInt64} {Dc' : pd_D} {K1 : pd_I} {D1 : pd_D} (ih : Aft xs Ls q J n Jr nr i X Kc Dc Kr Dr k j' us vs Dc' K1 D1) : SK (FT X (k * 128 + j')).2 us vs := ih.2.2.2.2.1
theorem Aft.se {xs : Nat → Int32} {Ls : Nat} {q : Nat → Nat} {J : pd_J} {n : Nat} {Jr : pd_J} {nr i : Nat} {X : Cx} {Kc : pd_I} {Dc : pd_D} {Kr : pd_I} {Dr : pd_D} {k j' : Nat} {us vs : List UInt64} {Dc' : pd_D} {K1 : pd_I} {D1 : pd_D} (ih : Aft xs Ls q J n Jr nr i X Kc Dc Kr Dr k j' us vs Dc' K1 D1) : sE (Dc' 22) us := ih.2.2.2.2.2.1
theorem Aft.dc {xs : Nat → Int32} {Ls : Nat} {q : Nat → Nat} {J : pd_J} {n : Nat} {Jr : pd_J} {nr i : Nat} {X : Cx} {Kc : pd_I} {Dc : pd_D} {Kr : pd_I} {Dr : pd_D} {k j' : Nat} {us vs : List UInt64} {Dc' : pd_D} {K1 : pd_I} {D1 : pd_D} (ih : Aft xs Ls q J n Jr nr i X Kc Dc Kr Dr k j' us vs Dc' K1 D1) : ∀ b, b ≠ 22 → Dc' b = Dc b := ih.2.2.2.2.2.2.1
theorem Aft.fin {xs : Nat → Int32} {Ls : Nat} {q : Nat → Nat} {J : pd_J} {n : Nat} {Jr : pd_J} {nr i : Nat} {X : Cx} {Kc : pd_I} {Dc : pd_D} {Kr : pd_I} {Dr : pd_D} {k j' : Nat} {us vs : List UInt64} {Dc' : pd_D} {K1 : pd_I} {D1 : pd_D} (ih : Aft xs Ls q J n Jr nr i X Kc Dc Kr Dr k j' us vs Dc' K1 D1) : ∀ (or nu : Int32) (r : Option Value ⊕ Nat) (S' : mm_St), cxO X k (FT X (k * 128 + j')).1 = or → cxV X k (FT X (k * 128 + j')).1 = nu → ¬ (or < 17) → (r = .inl none ∨ ∃ E, r = .inr E) → (∀ d, 5 ≤ d → mm_ev xs Ls pd_ck pd_ak pd_mj d 54 [.ref (6 : Nat), .int (Int32.ofNat i), .int or, .int nu] (pd_st (stK (mm_u Kc 6 6 (Kc 6 6 + 1)) i ((FT X (k * 128 + j')).1 + 1) us.length) Dc' (pd_RF q) J n) = some (r, S')) → ∀ d, 7 ≤ d → mm_ev xs Ls pd_ck pd_ak pd_mj d 53 [.ref (6 : Nat), .int (Int32.ofNat i)] (pd_st Kc Dc (pd_RF q) J n) = some (r, S') := ih.2.2.2.2.2.2.2.1
theorem Aft.fr {xs : Nat → Int32} {Ls : Nat} {q : Nat → Nat} {J : pd_J} {n : Nat} {Jr : pd_J} {nr i : Nat} {X : Cx} {Kc : pd_I} {Dc : pd_D} {Kr : pd_I} {Dr : pd_D} {k j' : Nat} {us vs : List UInt64} {Dc' : pd_D} {K1 : pd_I} {D1 : pd_D} (ih : Aft xs Ls q J n Jr nr i X Kc Dc Kr Dr k j' us vs Dc' K1 D1) : Fr2 Kr K1 := ih.2.2.2.2.2.2.2.2.1
theorem Aft.z39 {xs : Nat → Int32} {Ls : Nat} {q : Nat → Nat} {J : pd_J} {n : Nat} {Jr : pd_J} {nr i : Nat} {X : Cx} {Kc : pd_I} {Dc : pd_D} {Kr : pd_I} {Dr : pd_D} {k j' : Nat} {us vs : List UInt64} {Dc' : pd_D} {K1 : pd_I} {D1 : pd_D} (ih : Aft xs Ls q J n Jr nr i X Kc Dc Kr Dr k j' us vs Dc' K1 D1) : K1 43 39 = 0 := ih.2.2.2.2.2.2.2.2.2.1
theorem Aft.sr {xs : Nat → Int32} {Ls : Nat} {q : Nat → Nat} {J : pd_J} {n : Nat} {Jr : pd_J} {nr i : Nat} {X : Cx} {Kc : pd_I} {Dc : pd_D} {Kr : pd_I} {Dr : pd_D} {k j' : Nat} {us vs : List UInt64} {Dc' : pd_D} {K1 : pd_I} {D1 : pd_D} (ih : Aft xs Ls q J n Jr nr i X Kc Dc Kr Dr k j' us vs Dc' K1 D1) : sE (D1 55) vs := ih.2.2.2.2.2.2.2.2.2.2.1
theorem Aft.dr {xs : Nat → Int32} {Ls : Nat} {q : Nat → Nat} {J : pd_J} {n : Nat} {Jr : pd_J} {nr i : Nat} {X : Cx} {Kc : pd_I} {Dc : pd_D} {Kr : pd_I} {Dr : pd_D} {k j' : Nat} {us vs : List UInt64} {Dc' : pd_D} {K1 : pd_I} {D1 : pd_D} (ih : Aft xs Ls q J n Jr nr i X Kc Dc Kr Dr k j' us vs Dc' K1 D1) : ∀ b, b ≠ 55 → D1 b = Dr b := ih.2.2.2.2.2.2.2.2.2.2.2.1
theorem Aft.hW {xs : Nat → Int32} {Ls : Nat} {q : Nat → Nat} {J : pd_J} {n : Nat} {Jr : pd_J} {nr i : Nat} {X : Cx} {Kc : pd_I} {Dc : pd_D} {Kr : pd_I} {Dr : pd_D} {k j' : Nat} {us vs : List UInt64} {Dc' : pd_D} {K1 : pd_I} {D1 : pd_D} (ih : Aft xs Ls q J n Jr nr i X Kc Dc Kr Dr k j' us vs Dc' K1 D1) : ∀ d, 3 ≤ d → mm_ev xs Ls pd_ck pd_ak pd_mj d 119 [.ref (43 : Nat), .int (Kr 58 i)] (pd_st Kr Dr (pd_RF q) Jr nr) = some (.inl (some (.int (Int32.ofNat (k * 128 + j')))), pd_st K1 D1 (pd_RF q) Jr nr) := ih.2.2.2.2.2.2.2.2.2.2.2.2
section EX
variable {xs : Nat → Int32} {Ls : Nat} {J Jr : pd_J} {n nr : Nat} {X : Cx} {Kc Kr K' K1 K3 : pd_I} {Dc Dc' Dr D' D1 D3 : pd_D} {A : Nat → Nat → Nat} {q : Nat → Nat} {i k j j' ws : Nat} {us vs : List UInt64}
theorem Jv.thr (hJ : Jv X q Kc Dc Kr Dr A ws) (hK : ∀ z, z ≠ 6 → z ≠ 11 → K' 6 z = Kc 6 z) (h66 : K' 6 6 = K3 43 34) (hR : ∀ z, 35 ≤ z → z ≤ 38 → K3 43 z = Kr 43 z) (hD : ∀ b, b ≠ 22 → D' b = Dc b) (hDr : ∀ b, b ≠ 55 → D3 b = Dr b) (h25 : ∀ z, K' 25 z = Kc 25 z) (h56 : ∀ z, K3 56 z = Kr 56 z) : Fw K' D' K3 D3 := by
  obtain ⟨m, _, m2, m3⟩ := hJ.mo
  obtain ⟨w, w1, w2, w3, w4⟩ := hJ.w
  refine ⟨fun j hj => ?_, ⟨w, w1, by rw [hK _ (by decide) (by decide)]; exact w2, by rw [hR _ (by decide) (by decide)]; exact w3, fun l hl => by rw [hD _ (by decide), hDr _ (by decide)]; exact w4 l hl⟩, h66, by rw [hK _ (by decide) (by decide), hR _ (by decide) (by decide)]; exact hJ.bo, by rw [hK _ (by decide) (by decide), hR _ (by decide) (by decide), m2, m3], by rw [hK _ (by decide) (by decide), hR _ (by decide) (by decide), hJ.wa.1, hJ.wa.2], fun i hi => by rw [h25, h56]; exact hJ.se i hi⟩
  rw [hD _ (by decide), hDr _ (by decide)]
  exact hJ.v j hj
theorem FdC.o (h : ∀ b, b ≠ 22 → D' b = Dc b) : FdC Dc D' := fun b _ h2 _ => h b h2
theorem FdR.o (h : ∀ b, b ≠ 55 → D' b = Dc b) : FdR Dc D' := fun b _ _ h2 => h b h2
theorem Fr2.fm (h : Fr2 Kr K1) : FmR Kr K1 := fun b z hb => h b z (by rcases hb with h | h | h <;> omega)
theorem stK_fm {v : Int32} {z h : Nat} (hi : i < 5) : FmC Kc (stK (mm_u Kc 6 6 v) i z h) := fun b y hb => by
  rw [stK_O (by rcases hb with h | h | h | h <;> omega) (by rcases hb with h | h | h | h <;> omega) (by rcases hb with h | h | h | h <;> omega)]
/-- a step's expression -/
theorem step_ex (hX : XOk X) (hJ : Jv X q Kc Dc Kr Dr A ws) (hrs : Rs X Kc A i) (hi : i < 5) (h1 : A i 0 = 1) (hst : Kc 6 6 + 1 = Kr 43 34) : StT xs Ls q J n Jr nr i Kc Dc Kr Dr ∨ ∃ j' us vs Dc' K1 D1, Aft xs Ls q J n Jr nr i X Kc Dc Kr Dr (A i 4 / 128) j' us vs Dc' K1 D1 ∧ nE (cxc X (A i 4 / 128 * 128 + j')) := by
  have h0 : A i 0 ≠ 0 := by rw [h1]; decide
  obtain ⟨w1, w2, w3, w4⟩ := hJ.wf.2 i hi h0
  obtain ⟨hne, hat⟩ := hrs h1
  obtain ⟨c1, c2, _⟩ := hJ.cc _ w2.1
  obtain ⟨c2, c3, c4⟩ := c2 w2.2.1
  obtain ⟨r45, r46, r47, r48⟩ := hJ.cr
  obtain ⟨a1, a3, _⟩ := (hJ.qc i hi).alv h1
  have a58 := ((hJ.qr i hi).2 h0).1
  have hC := hX _ w2.1 w2.2.1
  have m9 := hC.n9
  have eP : A i 4 / 128 * 128 + A i 4 % 128 = A i 4 := by omega
  have hF : ∀ j, exF Kr (A i 4 / 128 * 128) j = ft (fun l => cxc X (A i 4 / 128 * 128 + l)) (fun l => cxa X (A i 4 / 128 * 128 + l)) j := fun j => by unfold exF; rw [r45, r46]
  have hF2 : ∀ j, j < 128 → exF Kr (A i 4 / 128 * 128) j = FT X (A i 4 / 128 * 128 + j) := fun j hj => by rw [hF, FT_kj hj]
  have hx : (FT X (A i 4)).1 = (exF Kr (A i 4 / 128 * 128) (A i 4 % 128)).1 := by rw [hF]; rfl
  have hty : (exF Kr (A i 4 / 128 * 128) (A i 4 % 128)).2 = [] := by rw [hF]; exact w2.2.2.2
  have hC' : Cok (fun l => Kr 45 (A i 4 / 128 * 128 + l)) (fun l => Kr 46 (A i 4 / 128 * 128 + l)) (fun l => Kr 47 (A i 4 / 128 * 128 + l)) (Kc (q (A i 4 / 128) + 1)) (Kc (q (A i 4 / 128) + 2)) (cxN X (A i 4 / 128)) (cxM X (A i 4 / 128)) := by
    rw [r45, r46, r47, c3, c4]; exact hC
  have hE := st_ex (xs := xs) (Ls := Ls) (J := J) (n := n) (q := q) (K := Kc) (Kr := Kr) (D := Dc) (Dr := Dr) (i := i) (B := A i 4 / 128 * 128) (nn := cxM X (A i 4 / 128)) (N := cxN X (A i 4 / 128)) (k := A i 4 / 128) (j := A i 4 % 128) (x := (FT X (A i 4)).1) hi w2.1 c1 a3 hat hx c2 hC' (by have := w2.1; omega) hJ.v w2.2.2.1 hty
  rw [eP] at hE
  rcases hE with ⟨e, E, K', D', t1, t2, t3, t4, t5⟩ | ⟨j', us, vs, cnt', D', t1, t2, t3, t4, t5, t6, t7, t8, t9, t10⟩
  · left
    obtain ⟨K1, D1, z, ⟨f1, f2, f3⟩, f4⟩ := ev119d (xs := xs) (Ls := Ls) (q := q) (J := Jr) (n := nr) t2 hJ.t0
    have e0 : K1 43 39 ≠ 0 := by rw [f2]; rcases t1 with ⟨rfl, _⟩ | ⟨rfl, _⟩ <;> decide
    have k6 : ∀ z, z ≠ 6 → K' 6 z = Kc 6 z := fun z hz => by rw [t3 6 z (by omega) (by omega), mm_u_k hz]
    refine ⟨e, E, K', D', K1, D1, by rcases t1 with h | h; exact Or.inr (Or.inr (Or.inl h)); exact Or.inr (Or.inr (Or.inr h)), t5, fun d hd => ev118_x (by omega) hi (fun d hd => by rw [a58]; exact f4 d hd) e0, f2, hJ.thr (fun z h _ => k6 z h) ?_ (fun z z1 z2 => f1 _ _ (by omega)) t4 f3 (fun z => by rw [t3 25 z (by omega) (by omega), mm_u_a (by decide)]) (fun z => f1 _ _ (by omega)), fun b z hb => ?_, .o t4, f1.fm, .o f3⟩
    · rw [t3 6 6 (by omega) (by omega), mm_u_s, hst, f1 _ _ (by omega)]
    · rw [t3 b z (by rcases hb with h | h | h | h <;> omega) (by rcases hb with h | h | h | h <;> omega), mm_u_a (by rcases hb with h | h | h | h <;> omega)]
  · right
    obtain ⟨K1, D1, z, ⟨f1, f2, f3, f4, f5, f6⟩, f7⟩ := ev119d (xs := xs) (Ls := Ls) (q := q) (J := Jr) (n := nr) t9 hJ.t0
    rw [f6] at f7
    have hj8 : j' < 128 := by omega
    rw [r45] at t3 t4
    rw [hF2 j' hj8] at t5 t8 t10
    have hcn := hC.g j' (Nat.zero_le _) t2
    rw [← FT_kj hj8] at hcn
    have hwd : 1 ≤ wd (cxc X (A i 4 / 128 * 128 + j')) (FT X (A i 4 / 128 * 128 + j')).2 := by
      unfold wd
      have n5 : cxc X (A i 4 / 128 * 128 + j') ≠ 5 := by intro h; rw [h] at t3; exact t3 (by decide)
      rw [if_neg n5]
      split
      · decide
      · split <;> decide
    have hlt : (FT X (A i 4 / 128 * 128 + j')).1 < cxN X (A i 4 / 128) := by
      have q1 : (ft (fun l => cxc X (A i 4 / 128 * 128 + l)) (fun l => cxa X (A i 4 / 128 * 128 + l)) (j' + 1)).1 ≤ cxN X (A i 4 / 128) := by rw [hC.eN]; exact ft_le t2
      have q2 : (ft (fun l => cxc X (A i 4 / 128 * 128 + l)) (fun l => cxa X (A i 4 / 128 * 128 + l)) (j' + 1)).1 = (FT X (A i 4 / 128 * 128 + j')).1 + wd (cxc X (A i 4 / 128 * 128 + j')) (FT X (A i 4 / 128 * 128 + j')).2 := by rw [FT_kj hj8]; rfl
      omega
    have N9 := hC.N9
    obtain ⟨⟨n1, n2⟩, ⟨n3, n4⟩, ⟨n5, n6⟩⟩ := cO_n c1 hi
    have n66 : q (A i 4 / 128) ≠ 6 ∧ q (A i 4 / 128) + 1 ≠ 6 ∧ q (A i 4 / 128) + 2 ≠ 6 := by rcases c1 with h | h | h | h | h <;> rw [h] <;> decide
    refine ⟨j', us, vs, D', K1, D1, ⟨w2.1, w2.2.1, t2, ⟨t3, t4⟩, t5, t6, t7, fun or nu r S' o1 o2 o3 o4 o5 => t10 r S' (fun d hd a5 a6 => ?_), f1, f2, f4, f5, fun d hd => by rw [a58]; exact f7 d hd⟩, ?_⟩
    · refine s53_fin (or := or) (nu := nu) hd hi c1 (N := cxN X (A i 4 / 128)) (by rw [stK_O n1 n2 n66.1]; exact c2) N9 hlt (stK_at hi) (by rw [stK_O n3 n4 n66.2.1, c3]; exact o1) (by rw [stK_O n5 n6 n66.2.2, c4]; exact o2) o3 (by omega) o4 (fun d hd => ?_)
      rw [stK_m hi]
      exact o5 d hd
    · by_cases hj : A i 4 / 128 * 128 + j' = A i 4
      · rw [hj]; exact hne
      · refine ⟨fun h => ?_, fun h => ?_⟩
        · have hk : (FT X (A i 4 / 128 * 128 + j')).2 = [] := by
            rcases Cn.ed hcn t3 t4 with ⟨_, _, k, _⟩ | ⟨k, _⟩ | ⟨_, k, _⟩ | ⟨_, k, _⟩ | ⟨_, k, _⟩ | ⟨_, k, _⟩ | ⟨_, _, k, _⟩ | ⟨_, k, _⟩ | ⟨_, k⟩
            all_goals first | exact k | (rw [h] at k; exact absurd k (by decide))
          rw [hk] at t5
          exact hj (t9.ne _ (by rw [t5.2])).1
        · have hk : (FT X (A i 4 / 128 * 128 + j')).2 = [] := by
            rcases Cn.ed hcn t3 t4 with ⟨_, _, k, _⟩ | ⟨k, _⟩ | ⟨_, k, _⟩ | ⟨_, k, _⟩ | ⟨_, k, _⟩ | ⟨_, k, _⟩ | ⟨_, _, k, _⟩ | ⟨_, k, _⟩ | ⟨_, k⟩
            all_goals first | exact k | (rw [h] at k; exact absurd k (by decide))
          rw [hk] at t5
          exact hj (t9.ne _ (by rw [t5.2])).1
end EX
