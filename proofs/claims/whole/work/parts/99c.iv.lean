/-! BOTH RUNS: what belongs together in a run -/
/-- the reference's row: those that wait, in the order of their tickets -/
def Rw (A : Nat → Nat → Nat) (K : pd_I) : Prop := ∃ (rs : Nat) (rw' : Nat → Nat), K 43 33 = Int32.ofNat rs ∧ rs ≤ 5 ∧ (∀ j, j < rs → K 64 j = Int32.ofNat (rw' j) ∧ rw' j < 5 ∧ A (rw' j) 0 = 2) ∧ (∀ i j, i < j → j < rs → A (rw' i) 6 < A (rw' j) 6) ∧ (∀ p, p < 5 → A p 0 = 2 → ∃ j, j < rs ∧ rw' j = p)
/-- what is asked for behind a run, too -/
abbrev Fw (Kc : pd_I) (Dc : pd_D) (Kr : pd_I) (Dr : pd_D) : Prop := (VR Dc Dr) ∧ (∃ w, w ≤ 12 ∧ Kc 6 5 = Int32.ofNat w ∧ Kr 43 35 = Int32.ofNat w ∧ ∀ l, l < w → Dc 26 l = Dr 54 l) ∧ (Kc 6 6 = Kr 43 34) ∧ (Kc 6 7 = Kr 43 36) ∧ (Kc 6 8 = Kr 43 37) ∧ (Kc 6 9 = Kr 43 38) ∧ (∀ i, i < 2 → Kc 25 i = Kr 56 i)
theorem Fw.v {Kc : pd_I} {Dc : pd_D} {Kr : pd_I} {Dr : pd_D} (ih : Fw Kc Dc Kr Dr) : VR Dc Dr := ih.1
theorem Fw.w {Kc : pd_I} {Dc : pd_D} {Kr : pd_I} {Dr : pd_D} (ih : Fw Kc Dc Kr Dr) : ∃ w, w ≤ 12 ∧ Kc 6 5 = Int32.ofNat w ∧ Kr 43 35 = Int32.ofNat w ∧ ∀ l, l < w → Dc 26 l = Dr 54 l := ih.2.1
theorem Fw.st {Kc : pd_I} {Dc : pd_D} {Kr : pd_I} {Dr : pd_D} (ih : Fw Kc Dc Kr Dr) : Kc 6 6 = Kr 43 34 := ih.2.2.1
theorem Fw.bo {Kc : pd_I} {Dc : pd_D} {Kr : pd_I} {Dr : pd_D} (ih : Fw Kc Dc Kr Dr) : Kc 6 7 = Kr 43 36 := ih.2.2.2.1
theorem Fw.mo {Kc : pd_I} {Dc : pd_D} {Kr : pd_I} {Dr : pd_D} (ih : Fw Kc Dc Kr Dr) : Kc 6 8 = Kr 43 37 := ih.2.2.2.2.1
theorem Fw.wa {Kc : pd_I} {Dc : pd_D} {Kr : pd_I} {Dr : pd_D} (ih : Fw Kc Dc Kr Dr) : Kc 6 9 = Kr 43 38 := ih.2.2.2.2.2.1
theorem Fw.se {Kc : pd_I} {Dc : pd_D} {Kr : pd_I} {Dr : pd_D} (ih : Fw Kc Dc Kr Dr) : ∀ i, i < 2 → Kc 25 i = Kr 56 i := ih.2.2.2.2.2.2
/-- within a run, but for the steps and the tape -/
abbrev Jv (X : Cx) (q : Nat → Nat) (Kc : pd_I) (Dc : pd_D) (Kr : pd_I) (Dr : pd_D) (A : Nat → Nat → Nat) (ws : Nat) : Prop := (Cc X q Kc) ∧ (Cr X Kr) ∧ (Qc X Kc A) ∧ (Qr Kr A) ∧ (Wf X A) ∧ (Kc 6 11 = Int32.ofNat (prA A)) ∧ (Kr 43 39 = 0) ∧ (VR Dc Dr) ∧ (∃ w, w ≤ 12 ∧ Kc 6 5 = Int32.ofNat w ∧ Kr 43 35 = Int32.ofNat w ∧ ∀ l, l < w → Dc 26 l = Dr 54 l) ∧ (Kc 6 7 = Kr 43 36) ∧ (∃ mo, mo ≤ 5 ∧ Kc 6 8 = Int32.ofNat mo ∧ Kr 43 37 = Int32.ofNat mo) ∧ (Kc 6 9 = Int32.ofNat ws ∧ Kr 43 38 = Int32.ofNat ws) ∧ (∀ p, p < 5 → A p 0 = 2 → A p 6 ≤ ws ∧ A p 5 < 2) ∧ (∀ i, i < 2 → Kc 25 i = Kr 56 i) ∧ (Rw A Kr)
theorem Jv.cc {X : Cx} {q : Nat → Nat} {Kc : pd_I} {Dc : pd_D} {Kr : pd_I} {Dr : pd_D} {A : Nat → Nat → Nat} {ws : Nat} (ih : Jv X q Kc Dc Kr Dr A ws) : Cc X q Kc := ih.1
theorem Jv.cr {X : Cx} {q : Nat → Nat} {Kc : pd_I} {Dc : pd_D} {Kr : pd_I} {Dr : pd_D} {A : Nat → Nat → Nat} {ws : Nat} (ih : Jv X q Kc Dc Kr Dr A ws) : Cr X Kr := ih.2.1
theorem Jv.qc {X : Cx} {q : Nat → Nat} {Kc : pd_I} {Dc : pd_D} {Kr : pd_I} {Dr : pd_D} {A : Nat → Nat → Nat} {ws : Nat} (ih : Jv X q Kc Dc Kr Dr A ws) : Qc X Kc A := ih.2.2.1
theorem Jv.qr {X : Cx} {q : Nat → Nat} {Kc : pd_I} {Dc : pd_D} {Kr : pd_I} {Dr : pd_D} {A : Nat → Nat → Nat} {ws : Nat} (ih : Jv X q Kc Dc Kr Dr A ws) : Qr Kr A := ih.2.2.2.1
theorem Jv.wf {X : Cx} {q : Nat → Nat} {Kc : pd_I} {Dc : pd_D} {Kr : pd_I} {Dr : pd_D} {A : Nat → Nat → Nat} {ws : Nat} (ih : Jv X q Kc Dc Kr Dr A ws) : Wf X A := ih.2.2.2.2.1
theorem Jv.lv {X : Cx} {q : Nat → Nat} {Kc : pd_I} {Dc : pd_D} {Kr : pd_I} {Dr : pd_D} {A : Nat → Nat → Nat} {ws : Nat} (ih : Jv X q Kc Dc Kr Dr A ws) : Kc 6 11 = Int32.ofNat (prA A) := ih.2.2.2.2.2.1
theorem Jv.t0 {X : Cx} {q : Nat → Nat} {Kc : pd_I} {Dc : pd_D} {Kr : pd_I} {Dr : pd_D} {A : Nat → Nat → Nat} {ws : Nat} (ih : Jv X q Kc Dc Kr Dr A ws) : Kr 43 39 = 0 := ih.2.2.2.2.2.2.1
theorem Jv.v {X : Cx} {q : Nat → Nat} {Kc : pd_I} {Dc : pd_D} {Kr : pd_I} {Dr : pd_D} {A : Nat → Nat → Nat} {ws : Nat} (ih : Jv X q Kc Dc Kr Dr A ws) : VR Dc Dr := ih.2.2.2.2.2.2.2.1
theorem Jv.w {X : Cx} {q : Nat → Nat} {Kc : pd_I} {Dc : pd_D} {Kr : pd_I} {Dr : pd_D} {A : Nat → Nat → Nat} {ws : Nat} (ih : Jv X q Kc Dc Kr Dr A ws) : ∃ w, w ≤ 12 ∧ Kc 6 5 = Int32.ofNat w ∧ Kr 43 35 = Int32.ofNat w ∧ ∀ l, l < w → Dc 26 l = Dr 54 l := ih.2.2.2.2.2.2.2.2.1
theorem Jv.bo {X : Cx} {q : Nat → Nat} {Kc : pd_I} {Dc : pd_D} {Kr : pd_I} {Dr : pd_D} {A : Nat → Nat → Nat} {ws : Nat} (ih : Jv X q Kc Dc Kr Dr A ws) : Kc 6 7 = Kr 43 36 := ih.2.2.2.2.2.2.2.2.2.1
theorem Jv.mo {X : Cx} {q : Nat → Nat} {Kc : pd_I} {Dc : pd_D} {Kr : pd_I} {Dr : pd_D} {A : Nat → Nat → Nat} {ws : Nat} (ih : Jv X q Kc Dc Kr Dr A ws) : ∃ mo, mo ≤ 5 ∧ Kc 6 8 = Int32.ofNat mo ∧ Kr 43 37 = Int32.ofNat mo := ih.2.2.2.2.2.2.2.2.2.2.1
theorem Jv.wa {X : Cx} {q : Nat → Nat} {Kc : pd_I} {Dc : pd_D} {Kr : pd_I} {Dr : pd_D} {A : Nat → Nat → Nat} {ws : Nat} (ih : Jv X q Kc Dc Kr Dr A ws) : Kc 6 9 = Int32.ofNat ws ∧ Kr 43 38 = Int32.ofNat ws := ih.2.2.2.2.2.2.2.2.2.2.2.1
theorem Jv.tk {X : Cx} {q : Nat → Nat} {Kc : pd_I} {Dc : pd_D} {Kr : pd_I} {Dr : pd_D} {A : Nat → Nat → Nat} {ws : Nat} (ih : Jv X q Kc Dc Kr Dr A ws) : ∀ p, p < 5 → A p 0 = 2 → A p 6 ≤ ws ∧ A p 5 < 2 := ih.2.2.2.2.2.2.2.2.2.2.2.2.1
theorem Jv.se {X : Cx} {q : Nat → Nat} {Kc : pd_I} {Dc : pd_D} {Kr : pd_I} {Dr : pd_D} {A : Nat → Nat → Nat} {ws : Nat} (ih : Jv X q Kc Dc Kr Dr A ws) : ∀ i, i < 2 → Kc 25 i = Kr 56 i := ih.2.2.2.2.2.2.2.2.2.2.2.2.2.1
theorem Jv.ro {X : Cx} {q : Nat → Nat} {Kc : pd_I} {Dc : pd_D} {Kr : pd_I} {Dr : pd_D} {A : Nat → Nat → Nat} {ws : Nat} (ih : Jv X q Kc Dc Kr Dr A ws) : Rw A Kr := ih.2.2.2.2.2.2.2.2.2.2.2.2.2.2
abbrev stC (b : Nat) : Prop := (b < 20 ∧ b ≠ 6) ∨ b = 23 ∨ b = 24 ∨ 42 < b
abbrev stR (b z : Nat) : Prop := b < 43 ∨ (43 < b ∧ b < 53) ∨ (b = 43 ∧ (z < 11 ∨ z = 18 ∨ z = 19 ∨ z = 34))
def FmC (K K' : pd_I) : Prop := ∀ b z, stC b → K' b z = K b z
def FmR (K K' : pd_I) : Prop := ∀ b z, stR b z → K' b z = K b z
def FdC (D D' : pd_D) : Prop := ∀ b, b ≠ 21 → b ≠ 22 → b ≠ 26 → D' b = D b
def FdR (D D' : pd_D) : Prop := ∀ b, b ≠ 53 → b ≠ 54 → b ≠ 55 → D' b = D b
section IV
variable {X : Cx} {Kc Kc' Kr Kr' K K' K1 K2 K3 : pd_I} {Dc Dc' Dr Dr' : pd_D} {A B : Nat → Nat → Nat} {q : Nat → Nat} {p r P ws : Nat} {c a : Nat → Int32}
theorem FmC.tr (h1 : FmC K1 K2) (h2 : FmC K2 K3) : FmC K1 K3 := fun b z h => (h2 b z h).trans (h1 b z h)
theorem FmR.tr (h1 : FmR K1 K2) (h2 : FmR K2 K3) : FmR K1 K3 := fun b z h => (h2 b z h).trans (h1 b z h)
theorem FrC.fm (h : FrC K K') : FmC K K' := fun b z hb => h b z ⟨by rintro ⟨h1, _⟩; rcases hb with h | h | h | h <;> omega, fun p hp e => by rcases hb with h | h | h | h <;> omega⟩
theorem FrR.fm (h : FrR K K') : FmR K K' := fun b z hb => h b z (by rcases hb with h | h | h <;> omega) (by rcases hb with h | h | h <;> omega) (by rcases hb with h | h | h <;> omega) (by rcases hb with h | h | h <;> omega)
/-- who waits is left alone -/
theorem sm_wt (hP : Par A) (he : En c A p) : (A r 0 = 2 → sm c a A p r = A r) ∧ (sm c a A p r 0 = 2 → A r 0 = 2) := by
  have hz : A p 0 ≠ 0 := by rw [he.2.1]; decide
  constructor
  · intro h
    exact sm_o hP he.1 hz (by rintro rfl; rw [he.2.1] at h; cases h) (by rw [h]; decide)
  · intro h
    rw [sm_def] at h
    by_cases ho : ovq c (A p)
    · rw [if_pos ho, kl_0] at h
      split at h
      · cases h
      · split at h
        · cases h
        · exact h
    · rw [if_neg ho] at h
      by_cases e : r = p
      · rw [if_pos e, Lcl_0] at h; rw [e]; exact h
      · rw [if_neg e] at h; exact h
theorem Sms.wt (h : Sms c a A B) : Par A → ∀ r, (A r 0 = 2 → B r = A r) ∧ (B r 0 = 2 → A r 0 = 2) := by
  induction h using Sms.rc with
  | rf => exact fun _ r => ⟨fun _ => rfl, id⟩
  | @st A B p h1 h2 ih =>
    intro hP r
    obtain ⟨i1, i2⟩ := ih (hP.sm h1) r
    obtain ⟨k1, k2⟩ := sm_wt (a := a) (r := r) hP h1
    refine ⟨fun h => ?_, fun h => k2 (i2 h)⟩
    rw [i1 (by rw [k1 h]; exact h), k1 h]
theorem Rw.cg (h : Rw A K) (hw : ∀ r, (A r 0 = 2 → B r = A r) ∧ (B r 0 = 2 → A r 0 = 2)) (h33 : K' 43 33 = K 43 33) (h64 : ∀ j, j < 5 → K' 64 j = K 64 j) : Rw B K' := by
  obtain ⟨rs, rw', h1, h2, h3, h4, h5⟩ := h
  have e : ∀ j, j < rs → B (rw' j) = A (rw' j) := fun j hj => (hw _).1 (h3 j hj).2.2
  refine ⟨rs, rw', by rw [h33]; exact h1, h2, fun j hj => ⟨by rw [h64 j (by omega)]; exact (h3 j hj).1, (h3 j hj).2.1, by rw [e j hj]; exact (h3 j hj).2.2⟩, fun i j hij hj => ?_, fun p hp h => h5 p hp ((hw p).2 h)⟩
  rw [e i (by omega), e j hj]
  exact h4 i j hij hj
/-- more pigeons than holes -/
theorem holes : ∀ (m n : Nat) (f : Nat → Nat), (∀ i, i < n → f i < m) → (∀ i j, i < j → j < n → f i ≠ f j) → n ≤ m := by
  intro m
  induction m with
  | zero =>
    intro n f h _
    rcases Nat.eq_zero_or_pos n with e | e
    · omega
    · exact absurd (h 0 e) (by omega)
  | succ m ih =>
    intro n f h hi
    rcases Nat.eq_zero_or_pos n with e | e
    · omega
    · have a1 : ∀ i, i < n - 1 → (if f i = m then f (n - 1) else f i) < m := fun i hin => by
        have h1 := h i (by omega)
        have h2 := h (n - 1) (by omega)
        have h3 := hi i (n - 1) (by omega) (by omega)
        split <;> omega
      have a2 : ∀ i j, i < j → j < n - 1 → (if f i = m then f (n - 1) else f i) ≠ (if f j = m then f (n - 1) else f j) := fun i j hij hjn => by
        have h1 := hi i j hij (by omega)
        have h2 := hi i (n - 1) (by omega) (by omega)
        have h3 := hi j (n - 1) (by omega) (by omega)
        split <;> split <;> omega
      have := ih (n - 1) (fun i => if f i = m then f (n - 1) else f i) a1 a2
      omega
theorem Rw.lt {rs : Nat} {rw' : Nat → Nat} (h3 : ∀ j, j < rs → rw' j < 5 ∧ A (rw' j) 0 = 2) (h4 : ∀ i j, i < j → j < rs → A (rw' i) 6 < A (rw' j) 6) (hp : p < 5) (h1 : A p 0 ≠ 2) : rs < 5 := by
  have a1 : ∀ i, i < rs + 1 → (if i < rs then rw' i else p) < 5 := fun i _ => by
    split
    · next h => exact (h3 i h).1
    · exact hp
  have a2 : ∀ i j, i < j → j < rs + 1 → (if i < rs then rw' i else p) ≠ (if j < rs then rw' j else p) := fun i j hij hj => by
    rw [if_pos (show i < rs by omega)]
    by_cases e : j < rs
    · rw [if_pos e]
      intro h
      have := h4 i j hij e
      rw [h] at this
      omega
    · rw [if_neg e]
      intro h
      exact h1 (by rw [← h]; exact (h3 i (by omega)).2)
  have := holes 5 (rs + 1) (fun i => if i < rs then rw' i else p) a1 a2
  omega
/-- both have left what is over -/
theorem Jv.both (hX : XOk X) (h : Jv X q Kc Dc Kr Dr A ws) (hC : Sms (cxc X) (cxa X) A B) (hn : Nrm (cxc X) B) (hq : Qr Kr' B) (hf : FrR Kr Kr') : ∃ Kc', Lo q 5 0 Kc Kc' ∧ Jv X q Kc' Dc Kr' Dr B ws ∧ (∀ r, r < 5 → Rs X Kc' B r) ∧ FrC Kc Kc' := by
  obtain ⟨Kc', B', l1, l2, l3, l4, l5, l6, l7⟩ := lo_c (q := q) hX 5 0 Kc A (by omega) h.cc h.qc h.wf h.lv (fun r hr => absurd hr (by omega))
  have e : B' = B := hC.one h.wf.1 hn B' l2 (Rs.nrm l7)
  subst e
  have hw := hC.wt h.wf.1
  have n6 : ∀ z, z ≠ 11 → nSt 6 z := fun z hz => ⟨fun h => hz h.2, fun p _ => by omega⟩
  have r43 : ∀ z, Kr' 43 z = Kr 43 z := fun z => hf _ _ (by decide) (by decide) (by decide) (by decide)
  refine ⟨Kc', l1, ⟨h.cc.fr l6, h.cr.fr hf, l3, hq, l4, l5, by rw [r43]; exact h.t0, h.v, ?_, ?_, ?_, ?_, fun p hp hs => ?_, fun i hi => ?_, ?_⟩, l7, l6⟩
  · obtain ⟨w, w1, w2, w3, w4⟩ := h.w
    exact ⟨w, w1, by rw [l6 _ _ (n6 5 (by decide))]; exact w2, by rw [r43]; exact w3, w4⟩
  · rw [l6 _ _ (n6 7 (by decide)), r43]; exact h.bo
  · obtain ⟨m, m1, m2, m3⟩ := h.mo
    exact ⟨m, m1, by rw [l6 _ _ (n6 8 (by decide))]; exact m2, by rw [r43]; exact m3⟩
  · rw [l6 _ _ (n6 9 (by decide)), r43]; exact h.wa
  · have h2 := (hw p).2 hs
    rw [(hw p).1 h2]
    exact h.tk p hp h2
  · rw [l6 _ _ ⟨by omega, fun p _ => by omega⟩, hf _ _ (by decide) (by decide) (by decide) (by decide)]
    exact h.se i hi
  · exact h.ro.cg hw (r43 _) (fun j _ => hf _ _ (by decide) (by decide) (by decide) (by decide))
theorem Jv.fw {s : Int32} (h : Jv X q Kc Dc Kr Dr A ws) (h1 : Kc 6 6 = s) (h2 : Kr 43 34 = s) : Fw Kc Dc Kr Dr := by
  obtain ⟨m, _, m2, m3⟩ := h.mo
  exact ⟨h.v, h.w, by rw [h1, h2], h.bo, by rw [m2, m3], by rw [h.wa.1, h.wa.2], h.se⟩
end IV
