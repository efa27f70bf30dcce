/-! BOTH RUNS: the reference's processes and what goes on by itself -/
def Qrp (K : pd_I) (p : Nat) (col : Nat → Nat) (cn : Nat) : Prop :=
  K 57 p = Int32.ofNat (col 0) ∧ (col 0 ≠ 0 → K 58 p = Int32.ofNat (col 4) ∧ K 59 p = pI (col 1) ∧ (col 0 = 3 → K 60 p = Int32.ofNat cn) ∧ K 61 p = Int32.ofNat (col 8) ∧ K 62 p = Int32.ofNat (col 7) ∧ (∀ l, l < col 7 → K 63 (p * 8 + l) = Int32.ofNat (col (10 + l))) ∧ (col 0 = 2 → K 65 p = Int32.ofNat (col 5)))
def Qr (K : pd_I) (A : Nat → Nat → Nat) : Prop := ∀ p, p < 5 → Qrp K p (A p) (cnt A p)
def Cr (X : Cx) (K : pd_I) : Prop := K 45 = cxc X ∧ K 46 = cxa X ∧ K 47 = cxx X ∧ K 48 = cxt X
def FrR (K K' : pd_I) : Prop := ∀ b z, b ≠ 57 → b ≠ 58 → b ≠ 60 → b ≠ 62 → K' b z = K b z
def eqp (K K' : pd_I) (p : Nat) : Prop := (∀ b, (57 ≤ b ∧ b ≤ 62) ∨ b = 65 → K' b p = K b p) ∧ ∀ l, l < 8 → K' 63 (p * 8 + l) = K 63 (p * 8 + l)
section STR
variable {X : Cx} {K K' K1 K2 K3 : pd_I} {A B : Nat → Nat → Nat} {q : Nat → Nat} {p r P : Nat} {col : Nat → Nat} {cn : Nat}
theorem FrR.tr (h1 : FrR K1 K2) (h2 : FrR K2 K3) : FrR K1 K3 := fun b z a1 a2 a3 a4 => (h2 b z a1 a2 a3 a4).trans (h1 b z a1 a2 a3 a4)
theorem FrR.u {b z : Nat} {v : Int32} (h : b = 57 ∨ b = 58 ∨ b = 60 ∨ b = 62) : FrR K (mm_u K b z v) := fun b' z' a1 a2 a3 a4 => mm_u_a (by rintro rfl; rcases h with h | h | h | h; exact a1 h; exact a2 h; exact a3 h; exact a4 h)
theorem Cr.fr (h : Cr X K) (hf : FrR K K') : Cr X K' := by
  obtain ⟨h1, h2, h3, h4⟩ := h
  refine ⟨?_, ?_, ?_, ?_⟩
  · rw [← h1]; funext z; exact hf _ _ (by decide) (by decide) (by decide) (by decide)
  · rw [← h2]; funext z; exact hf _ _ (by decide) (by decide) (by decide) (by decide)
  · rw [← h3]; funext z; exact hf _ _ (by decide) (by decide) (by decide) (by decide)
  · rw [← h4]; funext z; exact hf _ _ (by decide) (by decide) (by decide) (by decide)
theorem eqp.tr (h1 : eqp K1 K2 p) (h2 : eqp K2 K3 p) : eqp K1 K3 p := ⟨fun b hb => (h2.1 b hb).trans (h1.1 b hb), fun l hl => (h2.2 l hl).trans (h1.2 l hl)⟩
theorem eqp.u {b z : Nat} {v : Int32} (hb : b ≠ 63) (hz : p ≠ z) : eqp K (mm_u K b z v) p := ⟨fun _ _ => mm_u_k hz, fun _ _ => mm_u_a (fun h => hb h.symm)⟩
theorem eqp.o {b z : Nat} {v : Int32} (hb : b < 57 ∨ b = 64) : eqp K (mm_u K b z v) p := ⟨fun _ h => mm_u_a (by omega), fun _ _ => mm_u_a (by omega)⟩
theorem Qrp.cg (h : Qrp K p col cn) (h7 : col 0 ≠ 0 → col 7 ≤ 8) (he : eqp K K' p) : Qrp K' p col cn := by
  obtain ⟨h0, h1⟩ := h
  obtain ⟨e1, e2⟩ := he
  refine ⟨by rw [e1 _ (by decide)]; exact h0, fun hc => ?_⟩
  obtain ⟨k1, k2, k3, k4, k5, k6, k7⟩ := h1 hc
  have := h7 hc
  exact ⟨by rw [e1 _ (by decide)]; exact k1, by rw [e1 _ (by decide)]; exact k2, fun h => by rw [e1 _ (by decide)]; exact k3 h, by rw [e1 _ (by decide)]; exact k4, by rw [e1 _ (by decide)]; exact k5, fun l hl => by rw [e2 l (by omega)]; exact k6 l hl, fun h => by rw [e1 _ (by decide)]; exact k7 h⟩
theorem Wf.c8 (hW : Wf X A) (hr : r < 5) : A r 0 ≠ 0 → A r 7 ≤ 8 := fun h => by have := (hW.2 r hr h).2.2.1; omega
theorem Qr.one (h : Qr K A) (hW : Wf X A) (hA : ∀ r, r ≠ p → B r = A r) (h01 : B p 0 = A p 0 ∧ B p 1 = A p 1) (hK : ∀ r, r < 5 → r ≠ p → eqp K K' r) (hp : Qrp K' p (B p) (cnt A p)) : Qr K' B := by
  have hc : ∀ r, cnt B r = cnt A r := fun r => cnt_cg (fun s => by
    by_cases e : s = p
    · rw [e]; exact h01
    · rw [hA s e]; exact ⟨rfl, rfl⟩)
  intro r hr
  rw [hc]
  by_cases e : r = p
  · rw [e]; exact hp
  · rw [hA r e]
    exact (h r hr).cg (hW.c8 hr) (hK r hr e)
theorem Qrp.at {P' : Nat} (h : Qrp K p col cn) : Qrp (mm_u K 58 p (Int32.ofNat P')) p (pd_up col 4 P') cn := by
  obtain ⟨h0, h1⟩ := h
  refine ⟨by rw [mm_u_a (by decide)]; exact h0, fun hc => ?_⟩
  obtain ⟨k1, k2, k3, k4, k5, k6, k7⟩ := h1 hc
  refine ⟨by rw [mm_u_s]; rfl, by rw [mm_u_a (by decide)]; exact k2, fun h => by rw [mm_u_a (by decide)]; exact k3 h, by rw [mm_u_a (by decide)]; exact k4, by rw [mm_u_a (by decide)]; exact k5, fun l hl => ?_, fun h => by rw [mm_u_a (by decide)]; exact k7 h⟩
  have : pd_up col 4 P' (10 + l) = col (10 + l) := by unfold pd_up; rw [if_neg (by omega)]
  rw [this, mm_u_a (by decide)]
  exact k6 l hl
theorem Qrp.rt {c : Nat} (h : Qrp K p col cn) (h0 : col 0 ≠ 0) (h7 : col 7 = c + 1) : Qrp (mm_u (mm_u K 62 p (Int32.ofNat c)) 58 p (K 63 (p * 8 + c))) p (pd_up (pd_up col 7 (col 7 - 1)) 4 (col (10 + (col 7 - 1)))) cn := by
  obtain ⟨g0, g1⟩ := h
  refine ⟨by rw [mm_u_a (by decide), mm_u_a (by decide)]; exact g0, fun hc => ?_⟩
  obtain ⟨k1, k2, k3, k4, k5, k6, k7⟩ := g1 hc
  have e1 : col 7 - 1 = c := by omega
  rw [e1]
  refine ⟨by rw [mm_u_s]; exact k6 c (by omega), by rw [mm_u_a (by decide), mm_u_a (by decide)]; exact k2, fun h => by rw [mm_u_a (by decide), mm_u_a (by decide)]; exact k3 h, by rw [mm_u_a (by decide), mm_u_a (by decide)]; exact k4, by rw [mm_u_a (by decide), mm_u_s]; rfl, fun l hl => ?_, fun h => by rw [mm_u_a (by decide), mm_u_a (by decide)]; exact k7 h⟩
  have hl' : l < c := hl
  have : pd_up (pd_up col 7 c) 4 (col (10 + c)) (10 + l) = col (10 + l) := by unfold pd_up; rw [if_neg (by omega), if_neg (by omega)]
  rw [this, mm_u_a (by decide), mm_u_a (by decide)]
  exact k6 l (by omega)
/-- settle of process p: what it comes to -/
def StR (X : Cx) (p : Nat) (K : pd_I) (A : Nat → Nat → Nat) : Prop := ∃ K' B, Stl (Int32.ofNat p) K K' ∧ Sms (cxc X) (cxa X) A B ∧ Qr K' B ∧ Wf X B ∧ FrR K K' ∧ (∀ r, r ≠ p → A r 0 = 1 → B r = A r) ∧ ∀ r, r < 5 → (r = p ∨ (A r 0 = 1 → nE (cxc X (A r 4)))) → B r 0 = 1 → nE (cxc X (B r 4))
theorem POk.b (h : POk X P) : P < 640 := by have := h.1; omega
theorem sr_hit (hp : p < 5) (hC : Cr X K) (hQ : Qr K A) (hW : Wf X A) (h1 : A p 0 = 1) (hn : nE (cxc X (A p 4))) : StR X p K A := by
  obtain ⟨w1, w2, w3, w4⟩ := hW.2 p hp (by rw [h1]; decide)
  have a4 := ((hQ p hp).2 (by rw [h1]; decide)).1
  refine ⟨K, A, .stp hp a4 w2.b (by rw [hC.1]; exact hn.1) (by rw [hC.1]; exact hn.2), .rf, hQ, hW, fun _ _ _ _ _ _ => rfl, fun _ _ _ => rfl, fun r _ h => ?_⟩
  rcases h with rfl | h
  · exact fun _ => hn
  · exact h
theorem StR.st (hp : p < 5) (he : En (cxc X) A p) (ho : ¬ ovq (cxc X) (A p)) (hk : FrR K K') (hf : ∀ K2, Stl (Int32.ofNat p) K' K2 → Stl (Int32.ofNat p) K K2) (h : StR X p K' (sm (cxc X) (cxa X) A p)) : StR X p K A := by
  obtain ⟨K2, B, h1, h2, h3, h4, h5, h6, h7⟩ := h
  have e : ∀ r, r ≠ p → sm (cxc X) (cxa X) A p r = A r := fun r hr => by rw [sm_def, if_neg ho]; exact if_neg hr
  refine ⟨K2, B, hf _ h1, .st he h2, h3, h4, hk.tr h5, fun r hr ha => ?_, fun r h5 h => ?_⟩
  · rw [h6 r hr (by rw [e r hr]; exact ha), e r hr]
  · refine h7 r h5 ?_
    by_cases hr : r = p
    · exact Or.inl hr
    · rw [e r hr]; exact h
theorem sr_ju (hX : XOk X) (hp : p < 5) (hC : Cr X K) (hQ : Qr K A) (hW : Wf X A) (h1 : A p 0 = 1) (h29 : cxc X (A p 4) = 29) : StR X p K A := by
  obtain ⟨w1, w2, w3, w4⟩ := hW.2 p hp (by rw [h1]; decide)
  have a4 := ((hQ p hp).2 (by rw [h1]; decide)).1
  obtain ⟨a, j1, j2, j3, j4, j5, j6⟩ := w2.ju hX h29
  have he : En (cxc X) A p := ⟨hp, h1, fun h => h.1 h29⟩
  have ho : ¬ ovq (cxc X) (A p) := fun h => h.1 h29
  have eS : sm (cxc X) (cxa X) A p = fun r => if r = p then pd_up (A p) 4 (A p 4 / 128 * 128 + a) else A r := by
    rw [sm_def, if_neg ho]
    unfold Lcl
    rw [if_pos h29, j1, pd_nn (by omega)]
  have eP : sm (cxc X) (cxa X) A p p = pd_up (A p) 4 (A p 4 / 128 * 128 + a) := by rw [eS]; exact if_pos rfl
  refine StR.st (K' := mm_u K 58 p (Int32.ofNat (A p 4 / 128 * 128 + a))) hp he ho (.u (by omega)) (fun K2 hf => .jmp hp a4 w2.b (by rw [hC.1]; exact h29) (by rw [hC.2.1]; exact j1) hf) ?_
  refine sr_hit hp (hC.fr (.u (by omega))) (hQ.one (p := p) hW (fun r hr => by rw [eS]; exact if_neg hr) (by rw [eP]; exact ⟨rfl, rfl⟩) (fun r _ hr => .u (by decide) hr) ?_) (hW.sm hX he) (by rw [eP]; exact h1) (by rw [eP]; exact j4)
  rw [eP]
  exact (hQ p hp).at
theorem sr_rt {c : Nat} (hX : XOk X) (hp : p < 5) (hC : Cr X K) (hQ : Qr K A) (hW : Wf X A) (h1 : A p 0 = 1) (h30 : cxc X (A p 4) = 30) (h7 : A p 7 = c + 1) (hI : ∀ (K : pd_I) (A' : Nat → Nat → Nat), Cr X K → Qr K A' → Wf X A' → A' p 0 = 1 → A' p 7 = c → prA A' = prA A → StR X p K A') : StR X p K A := by
  obtain ⟨w1, w2, w3, w4⟩ := hW.2 p hp (by rw [h1]; decide)
  obtain ⟨a4, _, _, _, a62, _⟩ := (hQ p hp).2 (by rw [h1]; decide)
  have n29 : cxc X (A p 4) ≠ 29 := by rw [h30]; decide
  have he : En (cxc X) A p := ⟨hp, h1, fun h => h.2 h30⟩
  have ho : ¬ ovq (cxc X) (A p) := fun h => by have := h.2; omega
  have eS : sm (cxc X) (cxa X) A p = fun r => if r = p then pd_up (pd_up (A p) 7 (A p 7 - 1)) 4 (A p (10 + (A p 7 - 1))) else A r := by
    rw [sm_def, if_neg ho]
    unfold Lcl
    rw [if_neg n29]
  have eP : sm (cxc X) (cxa X) A p p = pd_up (pd_up (A p) 7 (A p 7 - 1)) 4 (A p (10 + (A p 7 - 1))) := by rw [eS]; exact if_pos rfl
  refine StR.st (K' := mm_u (mm_u K 62 p (Int32.ofNat c)) 58 p (K 63 (p * 8 + c))) hp he ho ((FrR.u (by omega)).tr (.u (by omega))) (fun K2 hf => .ret hp a4 w2.b (by rw [hC.1]; exact h30) (by rw [a62, h7]) (by omega) hf) ?_
  refine hI _ _ (hC.fr ((FrR.u (by omega)).tr (.u (by omega)))) (hQ.one (p := p) hW (fun r hr => by rw [eS]; exact if_neg hr) (by rw [eP]; exact ⟨rfl, rfl⟩) (fun r _ hr => (eqp.u (by decide) hr).tr (.u (by decide) hr)) ?_) (hW.sm hX he) (by rw [eP]; exact h1) (by rw [eP]; show A p 7 - 1 = c; omega) (prA_cg (fun s => ?_))
  · rw [eP]
    exact (hQ p hp).rt (by rw [h1]; decide) h7
  · by_cases e : s = p
    · rw [e, eP]; exact Iff.rfl
    · rw [eS]; dsimp only; rw [if_neg e]
theorem Qrp.none (h : K 57 p = 0) (h0 : col 0 = 0) : Qrp K p col cn := ⟨by rw [h, h0]; rfl, fun h => absurd h0 h⟩
theorem Qrp.cnn {cn' : Nat} {v : Int32} (h : Qrp K p col cn) (hv : v = Int32.ofNat cn') : Qrp (mm_u K 60 p v) p col cn' := by
  obtain ⟨h0, h1⟩ := h
  refine ⟨by rw [mm_u_a (by decide)]; exact h0, fun hc => ?_⟩
  obtain ⟨k1, k2, k3, k4, k5, k6, k7⟩ := h1 hc
  exact ⟨by rw [mm_u_a (by decide)]; exact k1, by rw [mm_u_a (by decide)]; exact k2, fun _ => by rw [mm_u_s]; exact hv, by rw [mm_u_a (by decide)]; exact k4, by rw [mm_u_a (by decide)]; exact k5, fun l hl => by rw [mm_u_a (by decide)]; exact k6 l hl, fun h => by rw [mm_u_a (by decide)]; exact k7 h⟩
theorem Qrp.wk {cn' : Nat} (h : Qrp K p col cn) (hc : col 0 ≠ 0) : Qrp (mm_u K 57 p 1) p (pd_up col 0 1) cn' := by
  obtain ⟨h0, h1⟩ := h
  obtain ⟨k1, k2, k3, k4, k5, k6, k7⟩ := h1 hc
  refine ⟨by rw [mm_u_s]; rfl, fun _ => ⟨by rw [mm_u_a (by decide)]; exact k1, by rw [mm_u_a (by decide)]; exact k2, fun h => (by cases h), by rw [mm_u_a (by decide)]; exact k4, by rw [mm_u_a (by decide)]; exact k5, fun l hl => ?_, fun h => (by cases h)⟩⟩
  have : pd_up col 0 1 (10 + l) = col (10 + l) := by unfold pd_up; rw [if_neg (by omega)]
  rw [this, mm_u_a (by decide)]
  exact k6 l hl
/-- a process of the reference is over -/
theorem sr_ov (hX : XOk X) (hp : p < 5) (hC : Cr X K) (hQ : Qr K A) (hW : Wf X A) (h1 : A p 0 = 1) (h30 : cxc X (A p 4) = 30) (h7 : A p 7 = 0) (hI : ∀ (p' : Nat) (K : pd_I) (A' : Nat → Nat → Nat), p' < 5 → Cr X K → Qr K A' → Wf X A' → A' p' 0 = 1 → prA A' + 1 = prA A → StR X p' K A') : StR X p K A := by
  obtain ⟨w1, w2, w3, w4⟩ := hW.2 p hp (by rw [h1]; decide)
  obtain ⟨a4, a59, _, _, a62, _⟩ := (hQ p hp).2 (by rw [h1]; decide)
  have hz : A p 0 ≠ 0 := by rw [h1]; decide
  have he : En (cxc X) A p := ⟨hp, h1, fun h => h.2 h30⟩
  have ho : ovq (cxc X) (A p) := ⟨by rw [h30]; decide, h7⟩
  have esm : sm (cxc X) (cxa X) A p = kl A p := by rw [sm_def, if_pos ho]
  have hpr := prA_kl hW.1 hp hz
  have hW2 : Wf X (kl A p) := by rw [← esm]; exact hW.sm hX he
  have hS : ∀ C, Sms (cxc X) (cxa X) (kl A p) C → Sms (cxc X) (cxa X) A C := fun C h => .st he (by rw [esm]; exact h)
  have op : K 45 (A p 4) = 30 := by rw [hC.1]; exact h30
  have z62 : K 62 p = 0 := by rw [a62, h7]; rfl
  have k0 : kl A p p 0 = 0 := by rw [kl_0, if_pos rfl]
  have c0 : ∀ r, A p 1 ≠ r + 1 → cnt (kl A p) r = cnt A r := fun r h => by
    have := cnt_kl (r := r) hW.1 hp hz
    rw [if_neg h] at this
    omega
  have hk1 : ∀ r, r ≠ p → A r 0 = 1 → kl A p r = A r := fun r hr h => kl_o hW.1 hp hz hr (by rw [h]; decide)
  by_cases hr : A p 1 = 0
  · have a59' : K 59 p < 0 := by rw [a59, hr]; decide
    have hk : ∀ r, r ≠ p → kl A p r = A r := fun r h => kl_r h (by omega)
    refine ⟨_, kl A p, .top hp a4 w2.b op z62 a59', hS _ .rf, fun r h5 => ?_, hW2, .u (by omega), fun r h h0 => hk1 r h h0, fun r h5 h => ?_⟩
    · by_cases e : r = p
      · subst e; exact Qrp.none (mm_u_s _ _ _ _) k0
      · rw [hk r e, c0 r (by omega)]
        exact (hQ r h5).cg (hW.c8 h5) (.u (by decide) e)
    · by_cases e : r = p
      · rw [e, k0]; intro h; cases h
      · rw [hk r e]
        rcases h with h | h
        · exact absurd h e
        · exact h
  · obtain ⟨j, e1, j5, j3⟩ := hW.1 p hp hz hr
    have hjp : j ≠ p := by rintro rfl; omega
    have a59' : K 59 p = Int32.ofNat j := by rw [a59, e1]; rfl
    have hj0 : A j 0 ≠ 0 := by omega
    have a2 : K 60 j = Int32.ofNat (cnt A j) := ((hQ j j5).2 hj0).2.2.1 j3
    have cg := cnt_ge1 hp hz e1
    have cl := cnt_le (A := A) (r := j)
    have ck := cnt_kl (r := j) hW.1 hp hz
    rw [if_pos e1] at ck
    have a2' : K 60 j - 1 = Int32.ofNat (cnt (kl A p) j) := by rw [a2, cnt_s1 cl cg]; congr 1; omega
    have u0 : eqp K (mm_u K 57 p 0) j := .u (by decide) hjp
    by_cases hc1 : cnt A j = 1
    · have g : K 60 j - 1 ≤ 0 := by rw [a2, hc1]; decide
      have hk : ∀ r, r ≠ p → r ≠ j → kl A p r = A r := fun r h h2 => kl_r h (by omega)
      have hkj : kl A p j = pd_up (A j) 0 1 := kl_j hjp ⟨e1, hc1⟩
      have hfr : FrR K (mm_u (mm_u (mm_u K 57 p 0) 60 j (K 60 j - 1)) 57 j 1) := ((FrR.u (by omega)).tr (.u (by omega))).tr (.u (by omega))
      have hQ2 : Qr (mm_u (mm_u (mm_u K 57 p 0) 60 j (K 60 j - 1)) 57 j 1) (kl A p) := by
        intro r h5
        by_cases e : r = p
        · subst e
          exact Qrp.none (by rw [mm_u_k (fun h => hjp h.symm), mm_u_a (by decide), mm_u_s]) k0
        · by_cases e2 : r = j
          · subst e2
            rw [hkj]
            exact (((hQ r h5).cg (hW.c8 h5) u0).cnn a2').wk hj0
          · rw [hk r e e2, c0 r (by omega)]
            exact (hQ r h5).cg (hW.c8 h5) (((eqp.u (by decide) e).tr (.u (by decide) e2)).tr (.u (by decide) e2))
      obtain ⟨K2, B, i1, i2, i3, i4, i5, i6, i7⟩ := hI j _ (kl A p) j5 (hC.fr hfr) hQ2 hW2 (by rw [hkj]; rfl) hpr
      refine ⟨K2, B, .up hp a4 w2.b op z62 j5 a59' g i1, hS _ i2, i3, i4, hfr.tr i5, fun r h h0 => ?_, fun r h5 h => ?_⟩
      · have ej : r ≠ j := by rintro rfl; omega
        rw [i6 r ej (by rw [hk1 r h h0]; exact h0), hk1 r h h0]
      · refine i7 r h5 ?_
        by_cases e : r = p
        · right; rw [e, k0]; intro h; cases h
        · by_cases e2 : r = j
          · exact Or.inl e2
          · rw [hk r e e2]
            rcases h with h | h
            · exact absurd h e
            · exact Or.inr h
    · have g : ¬ (K 60 j - 1 ≤ 0) := by rw [a2']; exact nle0 (by omega) (by omega)
      have hk : ∀ r, r ≠ p → kl A p r = A r := fun r h => kl_r h (fun k => hc1 ((show r = j by have := k.1; omega) ▸ k.2))
      refine ⟨_, kl A p, .pt hp a4 w2.b op z62 j5 a59' g, hS _ .rf, fun r h5 => ?_, hW2, (FrR.u (by omega)).tr (.u (by omega)), fun r h h0 => hk1 r h h0, fun r h5 h => ?_⟩
      · by_cases e : r = p
        · subst e
          exact Qrp.none (by rw [mm_u_a (by decide), mm_u_s]) k0
        · by_cases e2 : r = j
          · subst e2
            rw [hk r e]
            exact ((hQ r h5).cg (hW.c8 h5) u0).cnn a2'
          · rw [hk r e, c0 r (by omega)]
            exact (hQ r h5).cg (hW.c8 h5) ((eqp.u (by decide) e).tr (.u (by decide) e2))
      · by_cases e : r = p
        · rw [e, k0]; intro h; cases h
        · rw [hk r e]
          rcases h with h | h
          · exact absurd h e
          · exact h
/-- settle -/
theorem st_r (hX : XOk X) : ∀ (f p m : Nat) (K : pd_I) (A : Nat → Nat → Nat), p < 5 → prA A ≤ f → Cr X K → Qr K A → Wf X A → A p 0 = 1 → A p 7 = m → StR X p K A := by
  intro f
  induction f with
  | zero =>
    intro p m K A hp hf _ _ _ h1 _
    have := prA_pos (A := A) hp (by rw [h1]; decide)
    omega
  | succ f ih =>
    intro p m
    induction m with
    | zero =>
      intro K A hp hf hC hQ hW h1 h7
      by_cases hn : nE (cxc X (A p 4))
      · exact sr_hit hp hC hQ hW h1 hn
      · rcases nE_or hn with hj | he
        · exact sr_ju hX hp hC hQ hW h1 hj
        · exact sr_ov hX hp hC hQ hW h1 he h7 (fun p' K A' hp' hC' hQ' hW' h1' hpr => ih p' _ K A' hp' (by omega) hC' hQ' hW' h1' rfl)
    | succ m ihm =>
      intro K A hp hf hC hQ hW h1 h7
      by_cases hn : nE (cxc X (A p 4))
      · exact sr_hit hp hC hQ hW h1 hn
      · rcases nE_or hn with hj | he
        · exact sr_ju hX hp hC hQ hW h1 hj
        · exact sr_rt hX hp hC hQ hW h1 he h7 (fun K A' hC' hQ' hW' h1' h7' hpr => ihm K A' hp (by omega) hC' hQ' hW' h1' h7')
end STR
