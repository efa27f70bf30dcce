/-! BOTH: what belongs together between the calls -/
abbrev Mq (q : Nat → Nat) (Kc : pd_I) (Dc : pd_D) (Kr : pd_I) (Dr : pd_D) : Prop := (pd_qO q) ∧ (∃ l, Kc 1 1 = Int32.ofNat l ∧ Kr 43 8 = Int32.ofNat l ∧ l ≤ 48 ∧ ∀ k, k < l → Kc 2 k = Kr 44 k ∧ pd_chr (Kc 2 k)) ∧ (Kc 0 2 = Kr 43 9) ∧ (∃ l, 0 < l ∧ l ≤ 16 ∧ Kc 23 1 = Int32.ofNat l ∧ Kr 43 18 = Int32.ofNat l ∧ ∀ j, j < 16 → Kc 24 j = Kr 52 j ∧ ∃ t, t < 16 ∧ Kc 24 j = Int32.ofNat t) ∧ (∀ k, k < 4 → ((Kc (q k) 4 = 0) ↔ (Kr 48 k = 0))) ∧ (∀ k, k < 4 → Kr 48 k ≠ 0 → ∃ N m, Kc (q k) 2 = Int32.ofNat N ∧ Cok (fun l => Kr 45 (k * 128 + l)) (fun l => Kr 46 (k * 128 + l)) (fun l => Kr 47 (k * 128 + l)) (Kc (q k + 1)) (Kc (q k + 2)) N m) ∧ (Fw Kc Dc Kr Dr)
theorem Mq.qo {q : Nat → Nat} {Kc : pd_I} {Dc : pd_D} {Kr : pd_I} {Dr : pd_D} (ih : Mq q Kc Dc Kr Dr) : pd_qO q := ih.1
theorem Mq.ti {q : Nat → Nat} {Kc : pd_I} {Dc : pd_D} {Kr : pd_I} {Dr : pd_D} (ih : Mq q Kc Dc Kr Dr) : ∃ l, Kc 1 1 = Int32.ofNat l ∧ Kr 43 8 = Int32.ofNat l ∧ l ≤ 48 ∧ ∀ k, k < l → Kc 2 k = Kr 44 k ∧ pd_chr (Kc 2 k) := ih.2.1
theorem Mq.pl {q : Nat → Nat} {Kc : pd_I} {Dc : pd_D} {Kr : pd_I} {Dr : pd_D} (ih : Mq q Kc Dc Kr Dr) : Kc 0 2 = Kr 43 9 := ih.2.2.1
theorem Mq.ta {q : Nat → Nat} {Kc : pd_I} {Dc : pd_D} {Kr : pd_I} {Dr : pd_D} (ih : Mq q Kc Dc Kr Dr) : ∃ l, 0 < l ∧ l ≤ 16 ∧ Kc 23 1 = Int32.ofNat l ∧ Kr 43 18 = Int32.ofNat l ∧ ∀ j, j < 16 → Kc 24 j = Kr 52 j ∧ ∃ t, t < 16 ∧ Kc 24 j = Int32.ofNat t := ih.2.2.2.1
theorem Mq.th {q : Nat → Nat} {Kc : pd_I} {Dc : pd_D} {Kr : pd_I} {Dr : pd_D} (ih : Mq q Kc Dc Kr Dr) : ∀ k, k < 4 → ((Kc (q k) 4 = 0) ↔ (Kr 48 k = 0)) := ih.2.2.2.2.1
theorem Mq.cd {q : Nat → Nat} {Kc : pd_I} {Dc : pd_D} {Kr : pd_I} {Dr : pd_D} (ih : Mq q Kc Dc Kr Dr) : ∀ k, k < 4 → Kr 48 k ≠ 0 → ∃ N m, Kc (q k) 2 = Int32.ofNat N ∧ Cok (fun l => Kr 45 (k * 128 + l)) (fun l => Kr 46 (k * 128 + l)) (fun l => Kr 47 (k * 128 + l)) (Kc (q k + 1)) (Kc (q k + 2)) N m := ih.2.2.2.2.2.1
theorem Mq.fw {q : Nat → Nat} {Kc : pd_I} {Dc : pd_D} {Kr : pd_I} {Dr : pd_D} (ih : Mq q Kc Dc Kr Dr) : Fw Kc Dc Kr Dr := ih.2.2.2.2.2.2
abbrev Mi (q : Nat → Nat) (K : pd_I) (D : pd_D) : Prop := Mq q K D K D
/-- the process that a run begins with -/
def stA (k : Nat) : Nat → Nat → Nat := fun r f => if r = 0 then (if f = 0 then 1 else if f = 4 then k * 128 else 0) else 0
section MI
variable {xs : Nat → Int32} {Ls : Nat} {J Jr : pd_J} {n nr : Nat} {X : Cx} {Kc Kr Kr2 K K' K1 K2 K3 : pd_I} {Dc Dc' Dr Dr2 D D' D1 D2 D3 : pd_D} {q : Nat → Nat} {k : Nat} {f s : Int32}
theorem cO_b {c : Nat} (h : pd_cO c) : (c < 20 ∧ c ≠ 6) ∧ (c + 1 < 20 ∧ c + 1 ≠ 6) ∧ (c + 2 < 20 ∧ c + 2 ≠ 6) := by rcases h with h | h | h | h | h <;> rw [h] <;> decide
/-- what a run leaves -/
theorem Mq.fr (h : Mq q Kc Dc Kr Dr) (f1 : FoC Kc K') (f2 : FoR Kr K3) (hf : Fw K' D' K3 D3) : Mq q K' D' K3 D3 := by
  have c0 : ∀ b z, b < 20 → b ≠ 6 → K' b z = Kc b z := fun b z h1 h2 => f1 b z (Or.inl ⟨h1, h2⟩) (by omega)
  have r0 : ∀ b z, 43 < b → b < 53 → K3 b z = Kr b z := fun b z h1 h2 => f2 b z (Or.inr (Or.inl ⟨h1, h2⟩)) (by omega)
  have r43 : ∀ z, z < 11 ∨ z = 18 → K3 43 z = Kr 43 z := fun z hz => f2 43 z (Or.inr (Or.inr ⟨rfl, by omega⟩)) (by omega)
  obtain ⟨l, l1, l2, l3, l4⟩ := h.ti
  obtain ⟨t, t1, t2, t3, t4, t5⟩ := h.ta
  refine ⟨h.qo, ⟨l, by rw [c0 _ _ (by omega) (by omega)]; exact l1, by rw [r43 _ (by omega)]; exact l2, l3, fun k hk => by rw [c0 _ _ (by omega) (by omega), r0 _ _ (by omega) (by omega)]; exact l4 k hk⟩, by rw [c0 _ _ (by omega) (by omega), r43 _ (by omega)]; exact h.pl, ⟨t, t1, t2, by rw [f1 23 1 (Or.inr (Or.inl rfl)) (by omega)]; exact t3, by rw [r43 _ (by omega)]; exact t4, fun j hj => by rw [f1 24 j (Or.inr (Or.inr (Or.inl rfl))) (by omega), r0 _ _ (by omega) (by omega)]; exact t5 j hj⟩, fun k hk => ?_, fun k hk h48 => ?_, hf⟩
  · obtain ⟨b1, _⟩ := cO_b (h.qo.1 k (by omega))
    rw [c0 _ _ b1.1 b1.2, r0 _ _ (by omega) (by omega)]
    exact h.th k hk
  · rw [r0 _ _ (by omega) (by omega)] at h48
    obtain ⟨N, m, n1, n2⟩ := h.cd k hk h48
    obtain ⟨b1, b2, b3⟩ := cO_b (h.qo.1 k (by omega))
    refine ⟨N, m, by rw [c0 _ _ b1.1 b1.2]; exact n1, ?_⟩
    have e1 : K' (q k + 1) = Kc (q k + 1) := by funext z; exact c0 _ _ b2.1 b2.2
    have e2 : K' (q k + 2) = Kc (q k + 2) := by funext z; exact c0 _ _ b3.1 b3.2
    have e3 : K3 45 = Kr 45 := by funext z; exact r0 _ _ (by omega) (by omega)
    have e4 : K3 46 = Kr 46 := by funext z; exact r0 _ _ (by omega) (by omega)
    have e5 : K3 47 = Kr 47 := by funext z; exact r0 _ _ (by omega) (by omega)
    rw [e1, e2, e3, e4, e5]
    exact n2
/-- the reference's call leaves the class alone -/
theorem Mq.one (h : Mq q Kc Dc Kr Dr) (hc : clE Kc Kr) (h21 : Dr 21 = Dc 21) (h26 : Dr 26 = Dc 26) : Mi q Kr Dr := by
  have c0 : ∀ b, b < 43 → Kr b = Kc b := hc
  obtain ⟨l, l1, l2, l3, l4⟩ := h.ti
  obtain ⟨t, t1, t2, t3, t4, t5⟩ := h.ta
  obtain ⟨v, ⟨w, w1, w2, w3, w4⟩, g1, g2, g3, g4, g5⟩ := h.fw
  refine ⟨h.qo, ⟨l, by rw [c0 1 (by omega)]; exact l1, l2, l3, fun k hk => by rw [c0 2 (by omega)]; exact l4 k hk⟩, by rw [c0 0 (by omega)]; exact h.pl, ⟨t, t1, t2, by rw [c0 23 (by omega)]; exact t3, t4, fun j hj => by rw [c0 24 (by omega)]; exact t5 j hj⟩, fun k hk => ?_, fun k hk h48 => ?_, ⟨fun j hj => by rw [h21]; exact v j hj, ⟨w, w1, by rw [c0 6 (by omega)]; exact w2, w3, fun l hl => by rw [h26]; exact w4 l hl⟩, by rw [c0 6 (by omega)]; exact g1, by rw [c0 6 (by omega)]; exact g2, by rw [c0 6 (by omega)]; exact g3, by rw [c0 6 (by omega)]; exact g4, fun i hi => by rw [c0 25 (by omega)]; exact g5 i hi⟩⟩
  · obtain ⟨b1, _⟩ := cO_b (h.qo.1 k (by omega))
    rw [c0 _ (by omega)]
    exact h.th k hk
  · obtain ⟨N, m, n1, n2⟩ := h.cd k hk h48
    obtain ⟨b1, b2, b3⟩ := cO_b (h.qo.1 k (by omega))
    exact ⟨N, m, by rw [c0 (q k) (by omega)]; exact n1, by rw [c0 (q k + 1) (by omega), c0 (q k + 2) (by omega)]; exact n2⟩
/-- only the reference's 'thrown' changes -/
theorem Mq.t39 {v : Int32} (h : Mq q Kc Dc Kr Dr) : Mq q Kc Dc (mm_u Kr 43 39 v) Dr := by
  obtain ⟨f1, ⟨w, w1, w2, w3, w4⟩, f3, f4, f5, f6, f7⟩ := h.fw
  refine h.fr (fun _ _ _ _ => rfl) (FmR.u (by omega)).fo ⟨f1, ⟨w, w1, w2, by rw [mm_u_k (by decide)]; exact w3, w4⟩, by rw [mm_u_k (by decide)]; exact f3, by rw [mm_u_k (by decide)]; exact f4, by rw [mm_u_k (by decide)]; exact f5, by rw [mm_u_k (by decide)]; exact f6, fun i hi => by rw [mm_u_a (by decide)]; exact f7 i hi⟩
theorem Mi.t39 {v : Int32} (h : Mi q K D) : Mi q (mm_u K 43 39 v) D := (Mq.t39 h).one (fun b hb => mm_u_ag (by omega)) rfl rfl
theorem zsc_o : ∀ (f p : Nat) (K : pd_I) (b z : Nat), ¬ ((∃ r, p ≤ r ∧ r < p + f ∧ b = 28 + 3 * r) ∧ z = 0) → zsc f p K b z = K b z := by
  intro f
  induction f with
  | zero => intro p K b z _; rfl
  | succ f ih =>
    intro p K b z h
    unfold zsc
    rw [ih (p + 1) _ b z (fun ⟨⟨r, r1, r2, r3⟩, hz⟩ => h ⟨⟨r, by omega, by omega, r3⟩, hz⟩)]
    by_cases e : b = 28 + 3 * p
    · exact mm_u_k (fun hz => h ⟨⟨p, by omega, by omega, e⟩, hz⟩)
    · exact mm_u_a e
theorem zsc_0 : ∀ (f p : Nat) (K : pd_I) (r : Nat), p ≤ r → r < p + f → zsc f p K (28 + 3 * r) 0 = 0 := by
  intro f
  induction f with
  | zero => intro p K r h1 h2; omega
  | succ f ih =>
    intro p K r h1 h2
    unfold zsc
    by_cases e : r = p
    · subst e
      rw [zsc_o _ _ _ _ _ (by rintro ⟨⟨r', r1, r2, r3⟩, _⟩; omega), mm_u_s]
    · exact ih (p + 1) _ r (by omega) (by omega)
theorem stA_0 : stA k 0 0 = 1 ∧ stA k 0 4 = k * 128 ∧ stA k 0 7 = 0 ∧ stA k 0 8 = 0 ∧ stA k 0 1 = 0 := ⟨rfl, rfl, rfl, rfl, rfl⟩
theorem stA_r {r : Nat} (h : r ≠ 0) : stA k r = fun _ => 0 := by funext f; unfold stA; rw [if_neg h]
theorem prA_st : prA (stA k) = 1 := rfl
/-- where a run begins -/
theorem iv_st {l : Nat} (hX : XOk X) (hk : k < 4) (ht : cxt X k ≠ 0) (hC : Cc X q Kc) (hR : Cr X Kr) (hV : VR Dc Dr) (l1 : 0 < l) (l16 : l ≤ 16) (t1 : Kc 23 1 = Int32.ofNat l) (t18 : Kr 43 18 = Int32.ofNat l) (tv : ∀ j, j < 16 → Kc 24 j = Kr 52 j ∧ ∃ t, t < 16 ∧ Kc 24 j = Int32.ofNat t) : Iv X q (prK Kc (Int32.ofNat k) f s) Dc (bgM (bgK (iniK (mm_u Kr 43 39 0) f s) 0 (-1) (Int32.ofNat (k * 128)) 0)) Dr (stA k) 0 0 l 0 ∧ FoC Kc (prK Kc (Int32.ofNat k) f s) ∧ FoR Kr (bgM (bgK (iniK (mm_u Kr 43 39 0) f s) 0 (-1) (Int32.ofNat (k * 128)) 0)) := by
  obtain ⟨s1, s2, s3⟩ := hX.st hk ht
  have ek : k * 128 / 128 = k := by omega
  -- the class
  have zo : ∀ b z, b < 28 → zsc 5 0 (mm_u (mm_u (mm_u (mm_u (mm_u (mm_u Kc 25 0 f) 25 1 s) 6 5 0) 6 6 0) 6 9 0) 23 2 0) b z = (mm_u (mm_u (mm_u (mm_u (mm_u (mm_u Kc 25 0 f) 25 1 s) 6 5 0) 6 6 0) 6 9 0) 23 2 0) b z := fun b z hb => zsc_o _ _ _ _ _ (by rintro ⟨⟨r, r1, r2, r3⟩, _⟩; omega)
  have pb : ∀ b z, b ≠ 6 → b < 28 → prK Kc (Int32.ofNat k) f s b z = (mm_u (mm_u (mm_u (mm_u (mm_u (mm_u Kc 25 0 f) 25 1 s) 6 5 0) 6 6 0) 6 9 0) 23 2 0) b z := fun b z h1 h2 => by
    unfold prK
    rw [mm_u_a h1, mm_u_a h1, mm_u_a h1, srK_o (by omega), zo b z h2]
  have pk : ∀ b z, b < 28 → b ≠ 6 → b ≠ 23 → b ≠ 25 → prK Kc (Int32.ofNat k) f s b z = Kc b z := fun b z h1 h2 h3 h4 => by rw [pb b z h2 h1, mm_u_a h3, mm_u_a h2, mm_u_a h2, mm_u_a h2, mm_u_a h4, mm_u_a h4]
  have p6 : ∀ z, z ≠ 7 → z ≠ 8 → z ≠ 11 → prK Kc (Int32.ofNat k) f s 6 z = (mm_u (mm_u (mm_u (mm_u (mm_u (mm_u Kc 25 0 f) 25 1 s) 6 5 0) 6 6 0) 6 9 0) 23 2 0) 6 z := fun z h1 h2 h3 => by
    unfold prK
    rw [mm_u_k h2, mm_u_k h3, mm_u_k h1, srK_o (by omega), zo 6 z (by omega)]
  have ps : ∀ b, b ≠ 6 → 28 ≤ b → prK Kc (Int32.ofNat k) f s b = srK (zsc 5 0 (mm_u (mm_u (mm_u (mm_u (mm_u (mm_u Kc 25 0 f) 25 1 s) 6 5 0) 6 6 0) 6 9 0) 23 2 0)) 0 (-1) (Int32.ofNat k) 0 0 b := fun b h1 h2 => by
    unfold prK
    rw [mm_u_ag h1, mm_u_ag h1, mm_u_ag h1]
  -- the reference
  have ib : ∀ b z, b ≠ 43 → b ≠ 56 → b ≠ 57 → iniK (mm_u Kr 43 39 0) f s b z = Kr b z := fun b z h1 h2 h3 => by
    unfold iniK
    rw [mm_u_a h1, mm_u_a h1, mm_u_a h1, mm_u_a h1, mm_u_a h1, mm_u_a h1, mm_u_a h1, zst_a _ _ _ _ _ h3, mm_u_a h2, mm_u_a h2, mm_u_a h1]
  have i43 : ∀ z, z ≠ 19 → z ≠ 33 → z ≠ 34 → z ≠ 35 → z ≠ 36 → z ≠ 37 → z ≠ 38 → z ≠ 39 → iniK (mm_u Kr 43 39 0) f s 43 z = Kr 43 z := fun z h1 h2 h3 h4 h5 h6 h7 h8 => by
    unfold iniK
    rw [mm_u_k h1, mm_u_k h7, mm_u_k h6, mm_u_k h5, mm_u_k h4, mm_u_k h3, mm_u_k h2, zst_a _ _ _ _ _ (by decide), mm_u_a (by decide), mm_u_a (by decide), mm_u_k h8]
  have i57 : ∀ r, r < 5 → iniK (mm_u Kr 43 39 0) f s 57 r = 0 := fun r hr => by
    unfold iniK
    rw [mm_u_a (by decide), mm_u_a (by decide), mm_u_a (by decide), mm_u_a (by decide), mm_u_a (by decide), mm_u_a (by decide), mm_u_a (by decide)]
    exact zst_57 hr
  have rb : ∀ b z, b ≠ 57 → b ≠ 58 → b ≠ 59 → b ≠ 61 → b ≠ 62 → ¬ (b = 43 ∧ (z = 36 ∨ z = 37)) → bgM (bgK (iniK (mm_u Kr 43 39 0) f s) 0 (-1) (Int32.ofNat (k * 128)) 0) b z = iniK (mm_u Kr 43 39 0) f s b z := fun b z b1 b2 b3 b5 b6 b7 => by
    rw [bgM_o (fun h => b7 ⟨h.1, Or.inr h.2⟩), bgK_o b1 b2 b3 b5 b6 (fun h => b7 ⟨h.1, Or.inl h.2⟩)]
  have q57 : ∀ r, r < 5 → bgM (bgK (iniK (mm_u Kr 43 39 0) f s) 0 (-1) (Int32.ofNat (k * 128)) 0) 57 r = if r = 0 then 1 else 0 := fun r hr => by
    rw [bgM_o (by omega)]
    by_cases e : r = 0
    · subst e
      rw [if_pos rfl]
      unfold bgK
      rw [mm_u_a (by decide), mm_u_a (by decide), mm_u_a (by decide), mm_u_a (by decide), mm_u_a (by decide), mm_u_s]
    · rw [bgK_p e (by decide), i57 r hr, if_neg e]
  have hprc : prc (bgK (iniK (mm_u Kr 43 39 0) f s) 0 (-1) (Int32.ofNat (k * 128)) 0) = 1 := by
    rw [← prA_st (k := k)]
    refine prc_A (fun p hp => ?_)
    have := q57 p hp
    rw [bgM_o (by omega)] at this
    rw [this]
    by_cases e : p = 0
    · subst e; rw [if_pos rfl]; exact ⟨fun h => absurd h (by decide), fun h => by cases h⟩
    · rw [if_neg e, stA_r e]
      exact ⟨fun _ => rfl, fun _ => rfl⟩
  have h37 := bgM_37 (K := bgK (iniK (mm_u Kr 43 39 0) f s) 0 (-1) (Int32.ofNat (k * 128)) 0) (mo := 0) (by rw [bgK_o (by decide) (by decide) (by decide) (by decide) (by decide) (by omega)]; unfold iniK; rw [mm_u_k (by decide), mm_u_k (by decide), mm_u_s]; rfl) (by omega) (by omega)
  rw [hprc] at h37
  have e36 : bgM (bgK (iniK (mm_u Kr 43 39 0) f s) 0 (-1) (Int32.ofNat (k * 128)) 0) 43 36 = 1 := by
    rw [bg_36]
    have : iniK (mm_u Kr 43 39 0) f s 43 36 = 0 := by unfold iniK; rw [mm_u_k (by decide), mm_u_k (by decide), mm_u_k (by decide), mm_u_s]
    rw [this]
    decide
  have i0 : ∀ z, z = 33 ∨ z = 34 ∨ z = 35 ∨ z = 38 ∨ z = 19 ∨ z = 39 → bgM (bgK (iniK (mm_u Kr 43 39 0) f s) 0 (-1) (Int32.ofNat (k * 128)) 0) 43 z = 0 := by
    intro z hz
    rw [rb _ _ (by decide) (by decide) (by decide) (by decide) (by decide) (by omega)]
    unfold iniK
    rcases hz with rfl | rfl | rfl | rfl | rfl | rfl
    · rw [mm_u_k (by decide), mm_u_k (by decide), mm_u_k (by decide), mm_u_k (by decide), mm_u_k (by decide), mm_u_k (by decide), mm_u_s]
    · rw [mm_u_k (by decide), mm_u_k (by decide), mm_u_k (by decide), mm_u_k (by decide), mm_u_k (by decide), mm_u_s]
    · rw [mm_u_k (by decide), mm_u_k (by decide), mm_u_k (by decide), mm_u_k (by decide), mm_u_s]
    · rw [mm_u_k (by decide), mm_u_s]
    · rw [mm_u_s]
    · rw [mm_u_k (by decide), mm_u_k (by decide), mm_u_k (by decide), mm_u_k (by decide), mm_u_k (by decide), mm_u_k (by decide), mm_u_k (by decide), zst_a _ _ _ _ _ (by decide), mm_u_a (by decide), mm_u_a (by decide), mm_u_s]
  have rk : ∀ b z, b < 43 ∨ (43 < b ∧ b < 53) → bgM (bgK (iniK (mm_u Kr 43 39 0) f s) 0 (-1) (Int32.ofNat (k * 128)) 0) b z = Kr b z := fun b z hb => by rw [rb _ _ (by omega) (by omega) (by omega) (by omega) (by omega) (by omega), ib _ _ (by omega) (by omega) (by omega)]
  have n7 : ∀ p, stA k p 0 ≠ 2 := fun p h => by
    by_cases e : p = 0
    · subst e; cases h
    · rw [stA_r e] at h; cases h
  have o0 : Int32.ofNat 0 = 0 := rfl
  refine ⟨⟨⟨?_, ?_, fun p hp => ?_, fun p hp => ?_, ⟨fun p hp h0 h1 => ?_, fun p hp h0 => ?_⟩, ?_, i0 _ (by omega), hV, ⟨0, by omega, ?_, by rw [i0 _ (by omega)]; rfl, fun l hl => absurd hl (by omega)⟩, ?_, ⟨1, by omega, ?_, h37⟩, ⟨?_, by rw [i0 _ (by omega)]; rfl⟩, fun p _ h => absurd h (n7 p), fun i hi => ?_, ⟨0, fun _ => 0, by rw [i0 _ (by omega)]; rfl, by omega, fun j hj => absurd hj (by omega), fun i j _ hj => absurd hj (by omega), fun p _ h => absurd h (n7 p)⟩⟩, fun r hr h => ?_, Nat.le_refl _, ?_, by rw [i0 _ (by omega)]; rfl, l1, l16, ?_, ?_, by omega, ?_, by rw [i0 _ (by omega), Nat.zero_mod]; rfl, fun z hz => ?_⟩, fun b z hb hz => ?_, fun b z hb hz => ?_⟩
  · intro k' hk'
    obtain ⟨h1, h2, h3⟩ := hC k' hk'
    obtain ⟨b1, b2, b3⟩ := cO_b h1
    have n23 : q k' ≠ 23 ∧ q k' ≠ 25 := by omega
    rw [pk _ _ (by omega) b1.2 (by omega) (by omega), pk _ _ (by omega) b1.2 (by omega) (by omega)]
    refine ⟨h1, fun h9 => ?_, h3⟩
    obtain ⟨g1, g2, g3⟩ := h2 h9
    exact ⟨g1, by rw [← g2]; funext z; exact pk _ _ (by omega) b2.2 (by omega) (by omega), by rw [← g3]; funext z; exact pk _ _ (by omega) b3.2 (by omega) (by omega)⟩
  · obtain ⟨c1, c2, c3, c4⟩ := hR
    exact ⟨by rw [← c1]; funext z; exact rk _ _ (by omega), by rw [← c2]; funext z; exact rk _ _ (by omega), by rw [← c3]; funext z; exact rk _ _ (by omega), by rw [← c4]; funext z; exact rk _ _ (by omega)⟩
  · rw [ps _ (by omega) (by omega)]
    by_cases e : p = 0
    · subst e
      rw [show (28 + 3 * 0) = 28 + 3 * 0 from rfl, srK_S]
      refine ⟨rfl, fun _ => ⟨rfl, fun h => (by cases h), ?_, ⟨0, rfl, Or.inl ?_⟩, rfl, rfl, fun l hl => absurd hl (Nat.not_lt_zero _), fun h => (by cases h)⟩⟩
      · show Int32.ofNat k = Int32.ofNat (k * 128 / 128)
        rw [ek]
      · show 0 = (FT X (k * 128)).1
        exact s3.symm
    · rw [srK_o (by omega)]
      refine ⟨?_, fun h => absurd (by rw [stA_r e]) h⟩
      rw [zsc_0 5 0 _ p (by omega) (by omega), stA_r e]
      rfl
  · by_cases e : p = 0
    · subst e
      refine ⟨by rw [q57 0 hp, if_pos rfl]; rfl, fun _ => ⟨?_, ?_, fun h => (by cases h), ?_, ?_, fun l hl => absurd hl (Nat.not_lt_zero _), fun h => (by cases h)⟩⟩
      · rw [bgM_o (by omega)]; unfold bgK
        rw [mm_u_a (by decide), mm_u_a (by decide), mm_u_a (by decide), mm_u_a (by decide), mm_u_s]; rfl
      · rw [bgM_o (by omega)]; unfold bgK
        rw [mm_u_a (by decide), mm_u_a (by decide), mm_u_a (by decide), mm_u_s]; rfl
      · rw [bgM_o (by omega)]; unfold bgK
        rw [mm_u_a (by decide), mm_u_a (by decide), mm_u_s]; rfl
      · rw [bgM_o (by omega)]; unfold bgK
        rw [mm_u_a (by decide), mm_u_s]; rfl
    · exact Qrp.none (by rw [q57 p hp, if_neg e]) (by rw [stA_r e])
  · by_cases e : p = 0
    · subst e; exact absurd rfl h1
    · exact absurd (by rw [stA_r e]) h0
  · by_cases e : p = 0
    · subst e
      exact ⟨(by decide : 1 ≤ 3), s1, (by decide : 0 + 0 ≤ 6), fun l hl => absurd hl (Nat.not_lt_zero _)⟩
    · exact absurd (by rw [stA_r e]) h0
  · rw [prA_st]; unfold prK; rw [mm_u_k (by decide), mm_u_s]; rfl
  · rw [p6 _ (by decide) (by decide) (by decide), mm_u_a (by decide), mm_u_k (by decide), mm_u_k (by decide), mm_u_s]; rfl
  · rw [e36]; unfold prK; rw [mm_u_k (by decide), mm_u_k (by decide), mm_u_s]
  · unfold prK; rw [mm_u_s]; rfl
  · rw [p6 _ (by decide) (by decide) (by decide), mm_u_a (by decide), mm_u_s]; rfl
  · have eR : ∀ j, bgM (bgK (iniK (mm_u Kr 43 39 0) f s) 0 (-1) (Int32.ofNat (k * 128)) 0) 56 j = (mm_u (mm_u (mm_u Kr 43 39 0) 56 0 f) 56 1 s) 56 j := fun j => by
      rw [rb _ _ (by decide) (by decide) (by decide) (by decide) (by decide) (by omega)]
      unfold iniK
      rw [mm_u_a (by decide), mm_u_a (by decide), mm_u_a (by decide), mm_u_a (by decide), mm_u_a (by decide), mm_u_a (by decide), mm_u_a (by decide), zst_a _ _ _ _ _ (by decide)]
    have eC : ∀ j, prK Kc (Int32.ofNat k) f s 25 j = (mm_u (mm_u Kc 25 0 f) 25 1 s) 25 j := fun j => by rw [pb _ _ (by decide) (by decide), mm_u_a (by decide), mm_u_a (by decide), mm_u_a (by decide), mm_u_a (by decide)]
    rw [eR, eC]
    have : i = 0 ∨ i = 1 := by omega
    rcases this with rfl | rfl
    · rw [mm_u_k (by decide), mm_u_s, mm_u_k (by decide), mm_u_s]
    · rw [mm_u_s, mm_u_s]
  · have e : r = 0 := by
      by_cases e : r = 0
      · exact e
      · rw [stA_r e] at h; cases h
    subst e
    refine ⟨s2, ?_⟩
    show prK Kc (Int32.ofNat k) f s 28 4 = Int32.ofNat (FT X (k * 128)).1
    rw [s3, ps 28 (by decide) (by decide), show 28 = 28 + 3 * 0 from rfl, srK_S]
    rfl
  · rw [p6 _ (by decide) (by decide) (by decide), mm_u_a (by decide), mm_u_k (by decide), mm_u_s]; rfl
  · rw [pb _ _ (by decide) (by decide), mm_u_k (by decide), mm_u_a (by decide), mm_u_a (by decide), mm_u_a (by decide), mm_u_a (by decide), mm_u_a (by decide)]; exact t1
  · rw [rb _ _ (by decide) (by decide) (by decide) (by decide) (by decide) (by omega), i43 _ (by decide) (by decide) (by decide) (by decide) (by decide) (by decide) (by decide) (by decide)]; exact t18
  · rw [pb _ _ (by decide) (by decide), mm_u_s]; rfl
  · obtain ⟨a1, t, a2, a3⟩ := tv z (by omega)
    exact ⟨t, a2, by rw [pk _ _ (by omega) (by omega) (by omega) (by omega)]; exact a3, by rw [rk _ _ (by omega), ← a1]; exact a3⟩
  · rcases hb with h | h | h | h
    · exact pk _ _ (by omega) h.2 (by omega) (by omega)
    · subst h
      rw [pb _ _ (by decide) (by decide), mm_u_k (fun h2 => hz ⟨rfl, h2⟩), mm_u_a (by decide), mm_u_a (by decide), mm_u_a (by decide), mm_u_a (by decide), mm_u_a (by decide)]
    · exact pk _ _ (by omega) (by omega) (by omega) (by omega)
    · rw [ps _ (by omega) (by omega), srK_o (by omega), zsc_o _ _ _ _ _ (by rintro ⟨⟨r, r1, r2, r3⟩, _⟩; omega), mm_u_a (by omega), mm_u_a (by omega), mm_u_a (by omega), mm_u_a (by omega), mm_u_a (by omega), mm_u_a (by omega)]
  · rcases hb with h | h | ⟨h, h2⟩
    · exact rk _ _ (by omega)
    · exact rk _ _ (by omega)
    · subst h
      rw [rb _ _ (by decide) (by decide) (by decide) (by decide) (by decide) (by omega), i43 _ (by omega) (by omega) (by omega) (by omega) (by omega) (by omega) (by omega) (by omega)]
end MI
