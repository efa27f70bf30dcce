/-! BOTH RUNS: a run -/
/-- how many are ready -/
def cnA (A : Nat → Nat → Nat) : Nat → Nat → Nat
  | 0, _ => 0
  | f + 1, p => (if A p 0 = 1 then 1 else 0) + cnA A f (p + 1)
def FoC (K K' : pd_I) : Prop := ∀ b z, stC b → ¬ (b = 23 ∧ z = 2) → K' b z = K b z
def FoR (K K' : pd_I) : Prop := ∀ b z, stR b z → ¬ (b = 43 ∧ (z = 19 ∨ z = 34)) → K' b z = K b z
/-- a run at a step -/
abbrev Iv (X : Cx) (q : Nat → Nat) (Kc : pd_I) (Dc : pd_D) (Kr : pd_I) (Dr : pd_D) (A : Nat → Nat → Nat) (ws s l a : Nat) : Prop := (Jv X q Kc Dc Kr Dr A ws) ∧ (∀ r, r < 5 → Rs X Kc A r) ∧ (ws ≤ s) ∧ (Kc 6 6 = Int32.ofNat s) ∧ (Kr 43 34 = Int32.ofNat s) ∧ (0 < l) ∧ (l ≤ 16) ∧ (Kc 23 1 = Int32.ofNat l) ∧ (Kr 43 18 = Int32.ofNat l) ∧ (a ≤ l) ∧ (Kc 23 2 = Int32.ofNat a) ∧ (Kr 43 19 = Int32.ofNat (a % l)) ∧ (∀ z, z < l → ∃ v, v < 16 ∧ Kc 24 z = Int32.ofNat v ∧ Kr 52 z = Int32.ofNat v)
theorem Iv.jv {X : Cx} {q : Nat → Nat} {Kc : pd_I} {Dc : pd_D} {Kr : pd_I} {Dr : pd_D} {A : Nat → Nat → Nat} {ws s l a : Nat} (ih : Iv X q Kc Dc Kr Dr A ws s l a) : Jv X q Kc Dc Kr Dr A ws := ih.1
theorem Iv.rs {X : Cx} {q : Nat → Nat} {Kc : pd_I} {Dc : pd_D} {Kr : pd_I} {Dr : pd_D} {A : Nat → Nat → Nat} {ws s l a : Nat} (ih : Iv X q Kc Dc Kr Dr A ws s l a) : ∀ r, r < 5 → Rs X Kc A r := ih.2.1
theorem Iv.w {X : Cx} {q : Nat → Nat} {Kc : pd_I} {Dc : pd_D} {Kr : pd_I} {Dr : pd_D} {A : Nat → Nat → Nat} {ws s l a : Nat} (ih : Iv X q Kc Dc Kr Dr A ws s l a) : ws ≤ s := ih.2.2.1
theorem Iv.s6 {X : Cx} {q : Nat → Nat} {Kc : pd_I} {Dc : pd_D} {Kr : pd_I} {Dr : pd_D} {A : Nat → Nat → Nat} {ws s l a : Nat} (ih : Iv X q Kc Dc Kr Dr A ws s l a) : Kc 6 6 = Int32.ofNat s := ih.2.2.2.1
theorem Iv.s34 {X : Cx} {q : Nat → Nat} {Kc : pd_I} {Dc : pd_D} {Kr : pd_I} {Dr : pd_D} {A : Nat → Nat → Nat} {ws s l a : Nat} (ih : Iv X q Kc Dc Kr Dr A ws s l a) : Kr 43 34 = Int32.ofNat s := ih.2.2.2.2.1
theorem Iv.l1 {X : Cx} {q : Nat → Nat} {Kc : pd_I} {Dc : pd_D} {Kr : pd_I} {Dr : pd_D} {A : Nat → Nat → Nat} {ws s l a : Nat} (ih : Iv X q Kc Dc Kr Dr A ws s l a) : 0 < l := ih.2.2.2.2.2.1
theorem Iv.l16 {X : Cx} {q : Nat → Nat} {Kc : pd_I} {Dc : pd_D} {Kr : pd_I} {Dr : pd_D} {A : Nat → Nat → Nat} {ws s l a : Nat} (ih : Iv X q Kc Dc Kr Dr A ws s l a) : l ≤ 16 := ih.2.2.2.2.2.2.1
theorem Iv.t1 {X : Cx} {q : Nat → Nat} {Kc : pd_I} {Dc : pd_D} {Kr : pd_I} {Dr : pd_D} {A : Nat → Nat → Nat} {ws s l a : Nat} (ih : Iv X q Kc Dc Kr Dr A ws s l a) : Kc 23 1 = Int32.ofNat l := ih.2.2.2.2.2.2.2.1
theorem Iv.t18 {X : Cx} {q : Nat → Nat} {Kc : pd_I} {Dc : pd_D} {Kr : pd_I} {Dr : pd_D} {A : Nat → Nat → Nat} {ws s l a : Nat} (ih : Iv X q Kc Dc Kr Dr A ws s l a) : Kr 43 18 = Int32.ofNat l := ih.2.2.2.2.2.2.2.2.1
theorem Iv.al {X : Cx} {q : Nat → Nat} {Kc : pd_I} {Dc : pd_D} {Kr : pd_I} {Dr : pd_D} {A : Nat → Nat → Nat} {ws s l a : Nat} (ih : Iv X q Kc Dc Kr Dr A ws s l a) : a ≤ l := ih.2.2.2.2.2.2.2.2.2.1
theorem Iv.t2 {X : Cx} {q : Nat → Nat} {Kc : pd_I} {Dc : pd_D} {Kr : pd_I} {Dr : pd_D} {A : Nat → Nat → Nat} {ws s l a : Nat} (ih : Iv X q Kc Dc Kr Dr A ws s l a) : Kc 23 2 = Int32.ofNat a := ih.2.2.2.2.2.2.2.2.2.2.1
theorem Iv.t19 {X : Cx} {q : Nat → Nat} {Kc : pd_I} {Dc : pd_D} {Kr : pd_I} {Dr : pd_D} {A : Nat → Nat → Nat} {ws s l a : Nat} (ih : Iv X q Kc Dc Kr Dr A ws s l a) : Kr 43 19 = Int32.ofNat (a % l) := ih.2.2.2.2.2.2.2.2.2.2.2.1
theorem Iv.tv {X : Cx} {q : Nat → Nat} {Kc : pd_I} {Dc : pd_D} {Kr : pd_I} {Dr : pd_D} {A : Nat → Nat → Nat} {ws s l a : Nat} (ih : Iv X q Kc Dc Kr Dr A ws s l a) : ∀ z, z < l → ∃ v, v < 16 ∧ Kc 24 z = Int32.ofNat v ∧ Kr 52 z = Int32.ofNat v := ih.2.2.2.2.2.2.2.2.2.2.2.2
/-- how a run ends on both sides -/
def OuR (r : Option Value ⊕ Nat) (n n' : Nat) (K' K3 : pd_I) : Prop := (r = .inl (some (.int (K' 6 6))) ∧ n' = n ∧ K3 43 39 = 0) ∨ (∃ e E, ter e E ∧ r = .inr E ∧ n' = n + 1 ∧ K3 43 39 = Int32.ofNat e)
section RUN
variable {xs : Nat → Int32} {Ls : Nat} {J Jr : pd_J} {n nr : Nat} {X : Cx} {Kc Kr Kr2 K K' K1 K2 K3 : pd_I} {Dc Dc' Dr Dr2 D' D1 D2 D3 : pd_D} {A A2 : Nat → Nat → Nat} {q : Nat → Nat} {i k j j' ws ws' l a : Nat}
theorem FoC.tr (h1 : FoC K1 K2) (h2 : FoC K2 K3) : FoC K1 K3 := fun b z h k => (h2 b z h k).trans (h1 b z h k)
theorem FoR.tr (h1 : FoR K1 K2) (h2 : FoR K2 K3) : FoR K1 K3 := fun b z h k => (h2 b z h k).trans (h1 b z h k)
theorem FmC.fo (h : FmC K1 K2) : FoC K1 K2 := fun b z k _ => h b z k
theorem FmR.fo (h : FmR K1 K2) : FoR K1 K2 := fun b z k _ => h b z k
theorem FdC.tr (h1 : FdC D1 D2) (h2 : FdC D2 D3) : FdC D1 D3 := fun b a1 a2 a3 => (h2 b a1 a2 a3).trans (h1 b a1 a2 a3)
theorem FdR.tr (h1 : FdR D1 D2) (h2 : FdR D2 D3) : FdR D1 D3 := fun b a1 a2 a3 => (h2 b a1 a2 a3).trans (h1 b a1 a2 a3)
theorem cn_r (hQ : Qr K A) (hW : Wf X A) : ∀ (f p : Nat), p + f ≤ 5 → cntr K f p = cnA A f p := by
  intro f
  induction f with
  | zero => intro p _; rfl
  | succ f ih =>
    intro p hp
    unfold cntr cnA
    rw [ih (p + 1) (by omega)]
    have h57 := (hQ p (by omega)).1
    by_cases h : A p 0 = 1
    · rw [if_pos h, if_pos (by rw [h57, h]; rfl)]
    · rw [if_neg h, if_neg]
      intro h2
      rw [h57] at h2
      by_cases h0 : A p 0 = 0
      · rw [h0] at h2; exact absurd h2 (by decide)
      · have := (hW.2 p (by omega) h0).1
        exact h ((nat_eq (b := 1) (by omega) (by omega)).mp h2)
theorem cn_c (hQ : Qc X K A) (hW : Wf X A) : ∀ (f p : Nat), p + f ≤ 5 → cntc K f p = cnA A f p := by
  intro f
  induction f with
  | zero => intro p _; rfl
  | succ f ih =>
    intro p hp
    unfold cntc cnA
    rw [ih (p + 1) (by omega)]
    have h0' : Sd K p 0 = sI (A p 0) := (hQ p (by omega)).1
    by_cases h : A p 0 = 1
    · rw [if_pos h, if_pos (by rw [h0', h]; rfl)]
    · rw [if_neg h, if_neg]
      intro h2
      rw [h0'] at h2
      refine sI_1 ?_ h h2
      by_cases h0 : A p 0 = 0
      · omega
      · exact (hW.2 p (by omega) h0).1
theorem cn_ex : ∀ (f p m : Nat), m < cnA A f p → ∃ r, r < f ∧ A (p + r) 0 = 1 ∧ cnA A r p = m := by
  intro f
  induction f with
  | zero => intro p m h; exact absurd h (Nat.not_lt_zero _)
  | succ f ih =>
    intro p m h
    unfold cnA at h
    by_cases h1 : A p 0 = 1
    · rw [if_pos h1] at h
      cases m with
      | zero => exact ⟨0, by omega, h1, rfl⟩
      | succ m =>
        obtain ⟨r, r1, r2, r3⟩ := ih (p + 1) m (by omega)
        refine ⟨r + 1, by omega, by rw [show p + (r + 1) = p + 1 + r by omega]; exact r2, ?_⟩
        unfold cnA
        rw [if_pos h1, r3]
        omega
    · rw [if_neg h1] at h
      obtain ⟨r, r1, r2, r3⟩ := ih (p + 1) m (by omega)
      refine ⟨r + 1, by omega, by rw [show p + (r + 1) = p + 1 + r by omega]; exact r2, ?_⟩
      unfold cnA
      rw [if_neg h1, r3]
      omega
theorem run_c (hX : XOk X) {k f g : Int32} : ∀ (m s : Nat) (Kc : pd_I) (Dc : pd_D) (Kr : pd_I) (Dr : pd_D) (A : Nat → Nat → Nat) (ws l a : Nat), s + m = 200 → Iv X q Kc Dc Kr Dr A ws s l a → ∃ r n' K' D' K3 D3, OuR r n n' K' K3 ∧ (∀ d, 8 ≤ d → pd_G xs Ls d pd_m50 (hd50 k f g s (pd_st Kc Dc (pd_RF q) J n)) (r, pd_st K' D' (pd_RF q) J n')) ∧ Rn xs Ls q Jr nr Kr Dr K3 D3 ∧ Fw K' D' K3 D3 ∧ FoC Kc K' ∧ FdC Dc D' ∧ FoR Kr K3 ∧ FdR Dr D3 := by
  intro m
  induction m with
  | zero =>
    intro s Kc Dc Kr Dr A ws l a hs hI
    have hs2 : s = 200 := by omega
    subst hs2
    have hprc := hI.jv.qr.prc hI.jv.wf
    have hp5 := prA_le (A := A)
    have hfw := hI.jv.fw hI.s6 hI.s34
    by_cases hz : prA A = 0
    · exact ⟨_, n, Kc, Dc, Kr, Dr, Or.inl ⟨rfl, rfl, hI.jv.t0⟩, fun d _ => p50_end (by omega) (by rw [hI.jv.lv, hz]; decide), .don hI.jv.t0 (by rw [hprc]; exact hz), hfw, fun _ _ _ _ => rfl, fun _ _ _ _ => rfl, fun _ _ _ _ => rfl, fun _ _ _ _ => rfl⟩
    · have hfw3 : Fw Kc Dc (mm_u Kr 43 39 3) Dr := by
        obtain ⟨f1, ⟨w, w1, w2, w3, w4⟩, f3, f4, f5, f6, f7⟩ := hfw
        exact ⟨f1, ⟨w, w1, w2, by rw [mm_u_k (by decide)]; exact w3, w4⟩, by rw [mm_u_k (by decide)]; exact f3, by rw [mm_u_k (by decide)]; exact f4, by rw [mm_u_k (by decide)]; exact f5, by rw [mm_u_k (by decide)]; exact f6, fun i hi => by rw [mm_u_a (by decide)]; exact f7 i hi⟩
      have hl1 := hI.l1
      have hl16 := hI.l16
      have hmod := Nat.mod_lt a hI.l1
      obtain ⟨tv, v1, v2, v3⟩ := hI.tv (a % l) hmod
      have hlv : ¬ (Kc 6 11 ≤ 0) := by rw [hI.jv.lv]; exact nle0 (by omega) (by omega)
      have cr := cn_r hI.jv.qr hI.jv.wf
      refine ⟨_, n + 1, Kc, Dc, mm_u Kr 43 39 3, Dr, Or.inr ⟨3, 1, Or.inr (Or.inl ⟨rfl, rfl⟩), rfl, rfl, mm_u_s _ _ _ _⟩, fun d _ => p50_lim hlv, ?_, hfw3, fun _ _ _ _ => rfl, fun _ _ _ _ => rfl, (FmR.u (by omega)).fo, fun _ _ _ _ => rfl⟩
      by_cases hc : cnA A 5 0 = 0
      · exact .stk hI.jv.t0 (by omega) (by omega) hI.t19 (by omega) v3 (by rw [cr 5 0 (by omega)]; exact hc)
      · obtain ⟨r, r1, r2, r3⟩ := cn_ex (A := A) 5 0 (tv % cnA A 5 0) (Nat.mod_lt _ (by omega))
        rw [Nat.zero_add] at r2
        exact .lim hI.jv.t0 (by omega) (by omega) hI.t19 (by omega) v3 v1 (by rw [cr 5 0 (by omega)]; omega) r1 (by rw [(hI.jv.qr r r1).1, r2]; rfl) (by rw [cr 5 0 (by omega), cr r 0 (by omega)]; exact r3.symm) (by rw [hI.s34]; rfl)
  | succ m ih =>
    intro s Kc Dc Kr Dr A ws l a hs hI
    have hprc := hI.jv.qr.prc hI.jv.wf
    have hp5 := prA_le (A := A)
    have hfw := hI.jv.fw hI.s6 hI.s34
    by_cases hz : prA A = 0
    · exact ⟨_, n, Kc, Dc, Kr, Dr, Or.inl ⟨rfl, rfl, hI.jv.t0⟩, fun d _ => p50_end (by omega) (by rw [hI.jv.lv, hz]; decide), .don hI.jv.t0 (by rw [hprc]; exact hz), hfw, fun _ _ _ _ => rfl, fun _ _ _ _ => rfl, fun _ _ _ _ => rfl, fun _ _ _ _ => rfl⟩
    · have hl1 := hI.l1
      have hl16 := hI.l16
      have hmod := Nat.mod_lt a hI.l1
      have hal := hI.al
      have hws := hI.w
      obtain ⟨tv, v1, v2, v3⟩ := hI.tv (a % l) hmod
      have hlv : ¬ (Kc 6 11 ≤ 0) := by rw [hI.jv.lv]; exact nle0 (by omega) (by omega)
      have cr := cn_r hI.jv.qr hI.jv.wf
      have cc := cn_c hI.jv.qc hI.jv.wf
      by_cases hc : cnA A 5 0 = 0
      · have hfw3 : Fw Kc Dc (mm_u Kr 43 39 3) Dr := by
          obtain ⟨f1, ⟨w, w1, w2, w3, w4⟩, f3, f4, f5, f6, f7⟩ := hfw
          exact ⟨f1, ⟨w, w1, w2, by rw [mm_u_k (by decide)]; exact w3, w4⟩, by rw [mm_u_k (by decide)]; exact f3, by rw [mm_u_k (by decide)]; exact f4, by rw [mm_u_k (by decide)]; exact f5, by rw [mm_u_k (by decide)]; exact f6, fun i hi => by rw [mm_u_a (by decide)]; exact f7 i hi⟩
        exact ⟨_, n + 1, Kc, Dc, mm_u Kr 43 39 3, Dr, Or.inr ⟨3, 1, Or.inr (Or.inl ⟨rfl, rfl⟩), rfl, rfl, mm_u_s _ _ _ _⟩, fun d hd => p50_tt (by omega) hlv (ev52n (by omega) (by rw [cc 5 0 (by omega)]; exact hc)), .stk hI.jv.t0 (by omega) (by omega) hI.t19 (by omega) v3 (by rw [cr 5 0 (by omega)]; exact hc), hfw3, fun _ _ _ _ => rfl, fun _ _ _ _ => rfl, (FmR.u (by omega)).fo, fun _ _ _ _ => rfl⟩
      · obtain ⟨r, r1, r2, r3⟩ := cn_ex (A := A) 5 0 (tv % cnA A 5 0) (Nat.mod_lt _ (by omega))
        rw [Nat.zero_add] at r2
        have hT := fun d (hd : 8 ≤ d) => ev52s (xs := xs) (Ls := Ls) (D := Dc) (q := q) (J := J) (n := n) (d := d) (K := Kc) (a := a) (l := l) (t := tv) (r := r) (by omega) hI.t2 hI.t1 hl1 hl16 hal v2 v1 (by rw [cc 5 0 (by omega)]; omega) r1 (by show Kc (28 + 3 * r) 0 = 1; rw [(hI.jv.qc r r1).1, r2]; rfl) (by rw [cc 5 0 (by omega), cc r 0 (by omega)]; exact r3.symm)
        have hJ1 := hI.jv.tp (v := Int32.ofNat (a % l + 1)) (v1 := Int32.ofNat ((a % l + 1) % l)) (v2 := Int32.ofNat (s + 1))
        have hrs1 : ∀ r, r < 5 → Rs X (mm_u Kc 23 2 (Int32.ofNat (a % l + 1))) A r := fun r hr => (hI.rs r hr).cg rfl (by unfold Sd; rw [mm_u_a (by omega)])
        have fc : FoC Kc (mm_u Kc 23 2 (Int32.ofNat (a % l + 1))) := fun b z _ h => by
          by_cases e : b = 23
          · exact mm_u_k (fun h2 => h ⟨e, h2⟩)
          · exact mm_u_a e
        have fr : FoR Kr (mm_u (mm_u Kr 43 19 (Int32.ofNat ((a % l + 1) % l))) 43 34 (Int32.ofNat (s + 1))) := fun b z _ h => by
          by_cases e : b = 43
          · rw [mm_u_k (fun h2 => h ⟨e, Or.inr h2⟩), mm_u_k (fun h2 => h ⟨e, Or.inl h2⟩)]
          · rw [mm_u_a e, mm_u_a e]
        have hrn : ∀ K3 D3 K4 D4, Sp xs Ls q Jr nr r (mm_u (mm_u Kr 43 19 (Int32.ofNat ((a % l + 1) % l))) 43 34 (Int32.ofNat (s + 1))) Dr K3 D3 → Rn xs Ls q Jr nr K3 D3 K4 D4 → Rn xs Ls q Jr nr Kr Dr K4 D4 := fun K3 D3 K4 D4 h1 h2 => .stp hI.jv.t0 (by omega) (by omega) hI.t19 (by omega) v3 v1 (by rw [cr 5 0 (by omega)]; omega) r1 (by rw [(hI.jv.qr r r1).1, r2]; rfl) (by rw [cr 5 0 (by omega), cr r 0 (by omega)]; exact r3.symm) hI.s34 (by omega) hI.t18 hl1 hl16 h1 h2
        rcases step_c (xs := xs) (Ls := Ls) (J := J) (n := n) (Jr := Jr) (nr := nr) (i := r) hX hJ1 (by omega) hrs1 r1 r2 (by rw [mm_u_a (by decide), mm_u_s, hI.s6, pd_suc]) with ⟨e, E, K', D', K3, D3, t1, t2, t3, t4, t5, t6, t7, t8, t9⟩ | ⟨K2, D2, K3c, K3, D3, B, ws', t1, t2, t3, t4, t5, t6, t7, t8, t9, t10, t11⟩
        · have e0 : K3 43 39 ≠ 0 := by rw [t4]; rcases t1 with ⟨rfl, _⟩ | ⟨rfl, _⟩ | ⟨rfl, _⟩ | ⟨rfl, _⟩ <;> decide
          exact ⟨_, n + 1, K', D', K3, D3, Or.inr ⟨e, E, t1, rfl, rfl, t4⟩, fun d hd => p50_ts (by omega) hlv (hT d hd) (t2 d (by omega)), hrn _ _ _ _ t3 (.thr e0), t5, fc.tr t6.fo, t7, fr.tr t8.fo, t9⟩
        · have hI2 : Iv X q K3c D2 K3 D3 B ws' (s + 1) l (a % l + 1) := by
            refine ⟨t4, t5, by omega, by rw [t7, mm_u_a (by decide), hI.s6, pd_suc], ?_, hl1, hl16, ?_, ?_, by omega, ?_, ?_, fun z hz => ?_⟩
            · rw [t10 _ _ (Or.inr (Or.inr ⟨rfl, by omega⟩)), mm_u_s]
            · rw [t8 _ _ (Or.inr (Or.inl rfl)), mm_u_k (by decide)]; exact hI.t1
            · rw [t10 _ _ (Or.inr (Or.inr ⟨rfl, by omega⟩)), mm_u_k (by decide), mm_u_k (by decide)]; exact hI.t18
            · rw [t8 _ _ (Or.inr (Or.inl rfl)), mm_u_s]
            · rw [t10 _ _ (Or.inr (Or.inr ⟨rfl, by omega⟩)), mm_u_k (by decide), mm_u_s]
            · obtain ⟨v, u1, u2, u3⟩ := hI.tv z hz
              exact ⟨v, u1, by rw [t8 _ _ (Or.inr (Or.inr (Or.inl rfl))), mm_u_a (by decide)]; exact u2, by rw [t10 _ _ (Or.inr (Or.inl ⟨by omega, by omega⟩)), mm_u_a (by decide), mm_u_a (by decide)]; exact u3⟩
          obtain ⟨ro, n', K', D', K4, D4, i1, i2, i3, i4, i5, i6, i7, i8⟩ := ih (s + 1) K3c D2 K3 D3 B ws' l (a % l + 1) (by omega) hI2
          exact ⟨ro, n', K', D', K4, D4, i1, fun d hd => p50_go (by omega) hlv (hT d hd) (t1 d (by omega)) (ev62 t2 (by omega)) (i2 d hd), hrn _ _ _ _ t3 i3, i4, (fc.tr t8.fo).tr i5, t9.tr i6, (fr.tr t10.fo).tr i7, t11.tr i8⟩
end RUN
