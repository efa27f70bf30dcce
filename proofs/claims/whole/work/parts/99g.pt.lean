/-! BOTH RUNS: who is woken; parting -/
section FW
variable {X : Cx} {Kc Kc' Kr Kr' K K' K1 K2 K3 : pd_I} {Dc Dc' Dr Dr' : pd_D} {A B : Nat → Nat → Nat} {q : Nat → Nat} {i p r P ws ws' z h g s t : Nat} {v : Int32}
theorem nat_eq {a b : Nat} (ha : a < 2000) (hb : b < 2000) : (Int32.ofNat a = Int32.ofNat b) ↔ a = b := by
  constructor
  · intro h
    have h8 := congrArg Int32.toInt h
    rw [Int32.toInt_ofNat_of_lt (by omega), Int32.toInt_ofNat_of_lt (by omega)] at h8
    omega
  · intro h; rw [h]
theorem wts_A (hQ : Qc X K A) (hW : Wf X A) (ht : ∀ p, p < 5 → A p 0 = 2 → A p 6 ≤ ws ∧ A p 5 < 2) (hs : s < 2) (hp : p < 5) : wts K s p ↔ (A p 0 = 2 ∧ A p 5 = s) := by
  obtain ⟨k0, k⟩ := hQ p hp
  have e0 : Sd K p 0 = sI (A p 0) := k0
  constructor
  · rintro ⟨h1, h2⟩
    have h3 : A p 0 = 2 := by
      rw [e0] at h1
      by_cases h0 : A p 0 = 0
      · rw [h0] at h1; exact absurd h1 (by decide)
      · have := (hW.2 p hp h0).1
        have : A p 0 = 1 ∨ A p 0 = 2 ∨ A p 0 = 3 := by omega
        rcases this with e | e | e
        · rw [e] at h1; exact absurd h1 (by decide)
        · exact e
        · rw [e] at h1; exact absurd h1 (by decide)
    have e5 : Sd K p 5 = Int32.ofNat (A p 5) := ((k (by omega)).2.2.2.2.2.2.2 h3).1
    have := (ht p hp h3).2
    rw [e5, nat_eq (by omega) (by omega)] at h2
    exact ⟨h3, h2⟩
  · rintro ⟨h1, h2⟩
    have e5 : Sd K p 5 = Int32.ofNat (A p 5) := ((k (by omega)).2.2.2.2.2.2.2 h1).1
    exact ⟨by rw [e0, h1]; rfl, by rw [e5, h2]⟩
def fwR (A : Nat → Nat → Nat) (s p : Nat) (b : Option Nat) : Prop := (b = none ∧ ∀ r, r < p → ¬ (A r 0 = 2 ∧ A r 5 = s)) ∨ (∃ g, b = some g ∧ g < 5 ∧ A g 0 = 2 ∧ A g 5 = s ∧ ∀ r, r < p → A r 0 = 2 → A r 5 = s → A g 6 ≤ A r 6)
theorem fw_c (hQ : Qc X K A) (hW : Wf X A) (ht : ∀ p, p < 5 → A p 0 = 2 → A p 6 ≤ ws ∧ A p 5 < 2) (hws : ws < 1000) (hs : s < 2) : ∀ (f p : Nat) (b : Option Nat), p + f = 5 → fwR A s p b → fwR A s 5 (fwL K s f p b) := by
  intro f
  induction f with
  | zero =>
    intro p b hp h
    have : p = 5 := by omega
    subst this
    exact h
  | succ f ih =>
    intro p b hp h
    unfold fwL
    refine ih (p + 1) _ (by omega) ?_
    have hp5 : p < 5 := by omega
    have hw := wts_A hQ hW ht hs hp5
    have e6 : ∀ r, r < 5 → A r 0 = 2 → Sd K r 6 = Int32.ofNat (A r 6) := fun r hr h2 => (((hQ r hr).2 (by omega)).2.2.2.2.2.2.2 h2).2
    by_cases w : wts K s p
    · rw [if_pos w]
      obtain ⟨w1, w2⟩ := hw.mp w
      rcases h with ⟨rfl, h⟩ | ⟨g, rfl, g5, g0, g1, g2⟩
      · refine Or.inr ⟨p, rfl, hp5, w1, w2, fun r hr k1 k2 => ?_⟩
        by_cases e : r = p
        · rw [e]; exact Nat.le_refl _
        · exact absurd ⟨k1, k2⟩ (h r (by omega))
      · have hlt : (Sd K p 6 < Sd K g 6) ↔ A p 6 < A g 6 := by
          have := (ht p hp5 w1).1
          have := (ht g g5 g0).1
          rw [e6 p hp5 w1, e6 g g5 g0, pd_ltl (by omega) (by omega)]
        by_cases l : Sd K p 6 < Sd K g 6
        · refine Or.inr ⟨p, if_pos l, hp5, w1, w2, fun r hr k1 k2 => ?_⟩
          have l' := hlt.mp l
          by_cases e : r = p
          · rw [e]; exact Nat.le_refl _
          · have := g2 r (by omega) k1 k2; omega
        · refine Or.inr ⟨g, if_neg l, g5, g0, g1, fun r hr k1 k2 => ?_⟩
          by_cases e : r = p
          · have := mt hlt.mpr l; rw [e]; omega
          · exact g2 r (by omega) k1 k2
    · rw [if_neg w]
      have w' : ¬ (A p 0 = 2 ∧ A p 5 = s) := fun h => w (hw.mpr h)
      rcases h with ⟨rfl, h⟩ | ⟨g, rfl, g5, g0, g1, g2⟩
      · refine Or.inl ⟨rfl, fun r hr => ?_⟩
        by_cases e : r = p
        · rw [e]; exact w'
        · exact h r (by omega)
      · refine Or.inr ⟨g, rfl, g5, g0, g1, fun r hr k1 k2 => ?_⟩
        by_cases e : r = p
        · rw [e] at k1 k2; exact absurd ⟨k1, k2⟩ w'
        · exact g2 r (by omega) k1 k2
/-- who is woken is the first of the row that waits for s -/
theorem fw_row {rs : Nat} {rw' : Nat → Nat} (r3 : ∀ j, j < rs → rw' j < 5 ∧ A (rw' j) 0 = 2) (r4 : ∀ i j, i < j → j < rs → A (rw' i) 6 < A (rw' j) 6) (r5 : ∀ p, p < 5 → A p 0 = 2 → ∃ j, j < rs ∧ rw' j = p) (hg : g < 5) (g0 : A g 0 = 2) (g1 : A g 5 = s) (g2 : ∀ r, r < 5 → A r 0 = 2 → A r 5 = s → A g 6 ≤ A r 6) : ∃ t, t < rs ∧ rw' t = g ∧ ∀ j, j < t → A (rw' j) 5 ≠ s := by
  obtain ⟨t, t1, t2⟩ := r5 g hg g0
  refine ⟨t, t1, t2, fun j hj h => ?_⟩
  have h1 := r4 j t hj t1
  have h2 := g2 (rw' j) (r3 j (by omega)).1 (r3 j (by omega)).2 h
  rw [t2] at h1
  omega
end FW
/-- parting -/
def ptA (A : Nat → Nat → Nat) (i : Nat) : Nat → Nat → Nat := fun r => if r = i then pd_up (A i) 0 3 else A r
def nwc (i P b : Nat) : Nat → Nat := fun f => if f = 0 then 1 else if f = 1 then i + 1 else if f = 4 then P else if f = 8 then b else 0
def bnA (A : Nat → Nat → Nat) (i t P b : Nat) : Nat → Nat → Nat := fun r => if r = t then nwc i P b else A r
section PT
variable {X : Cx} {Kc Kc' Kr Kr' K K' K1 K2 K3 : pd_I} {Dc Dc' Dr Dr' : pd_D} {A B : Nat → Nat → Nat} {q : Nat → Nat} {i p r P ws ws' z h g s t b : Nat} {v : Int32}
theorem ptA_i : ptA A i i = pd_up (A i) 0 3 := if_pos rfl
theorem ptA_o (hr : r ≠ i) : ptA A i r = A r := if_neg hr
theorem bnA_t : bnA A i t P b t = nwc i P b := if_pos rfl
theorem bnA_o (hr : r ≠ t) : bnA A i t P b r = A r := if_neg hr
theorem lvp_bn (h0 : A t 0 = 0) : lvp (bnA A i t P b) r s = if s = t then (if r = i then 1 else 0) else lvp A r s := by
  unfold lvp
  by_cases e : s = t
  · subst e
    rw [bnA_t, if_pos rfl]
    by_cases k : r = i
    · rw [if_pos k, if_pos ⟨(by decide : (1 : Nat) ≠ 0), by rw [k]; rfl⟩]
    · rw [if_neg k, if_neg]
      rintro ⟨_, k2⟩
      have k3 : i + 1 = r + 1 := k2
      omega
  · rw [bnA_o e, if_neg e]
theorem lvp_0 (h0 : A t 0 = 0) : lvp A r t = 0 := by
  unfold lvp
  rw [if_neg (fun h => h.1 h0)]
theorem cnt_bn (ht : t < 5) (h0 : A t 0 = 0) : cnt (bnA A i t P b) r = cnt A r + if r = i then 1 else 0 := by
  have e := lvp_0 (r := r) h0
  unfold cnt
  rw [lvp_bn h0, lvp_bn h0, lvp_bn h0, lvp_bn h0, lvp_bn h0]
  have : t = 0 ∨ t = 1 ∨ t = 2 ∨ t = 3 ∨ t = 4 := by omega
  rcases this with rfl | rfl | rfl | rfl | rfl <;> simp <;> omega
theorem prA_bn (ht : t < 5) (h0 : A t 0 = 0) : prA (bnA A i t P b) = prA A + 1 := by
  have e : alv A t = 0 := by unfold alv; rw [if_pos h0]
  have e1 : ∀ s, alv (bnA A i t P b) s = if s = t then 1 else alv A s := by
    intro s
    unfold alv
    by_cases e : s = t
    · subst e; rw [bnA_t, if_pos rfl]; rfl
    · rw [bnA_o e, if_neg e]
  unfold prA
  rw [e1, e1, e1, e1, e1]
  have : t = 0 ∨ t = 1 ∨ t = 2 ∨ t = 3 ∨ t = 4 := by omega
  rcases this with rfl | rfl | rfl | rfl | rfl <;> simp <;> omega
theorem pt_01 (h1 : A i 0 ≠ 0) : ∀ s, ((ptA A i s 0 = 0) ↔ (A s 0 = 0)) ∧ ptA A i s 1 = A s 1 := by
  intro s
  by_cases e : s = i
  · subst e; rw [ptA_i]; exact ⟨⟨fun h => (by cases h), fun h => absurd h h1⟩, rfl⟩
  · rw [ptA_o e]; exact ⟨Iff.rfl, rfl⟩
/-- a free place, and the first one -/
theorem free_1 (h : prA A < 5) : ∃ t, t < 5 ∧ A t 0 = 0 ∧ ∀ j, j < t → A j 0 ≠ 0 := by
  by_cases h0 : A 0 0 = 0
  · exact ⟨0, by omega, h0, fun j hj => absurd hj (by omega)⟩
  · by_cases h1 : A 1 0 = 0
    · exact ⟨1, by omega, h1, fun j hj => by rw [show j = 0 by omega]; exact h0⟩
    · by_cases h2 : A 2 0 = 0
      · refine ⟨2, by omega, h2, fun j hj => ?_⟩
        have : j = 0 ∨ j = 1 := by omega
        rcases this with rfl | rfl
        · exact h0
        · exact h1
      · by_cases h3 : A 3 0 = 0
        · refine ⟨3, by omega, h3, fun j hj => ?_⟩
          have : j = 0 ∨ j = 1 ∨ j = 2 := by omega
          rcases this with rfl | rfl | rfl
          · exact h0
          · exact h1
          · exact h2
        · by_cases h4 : A 4 0 = 0
          · refine ⟨4, by omega, h4, fun j hj => ?_⟩
            have : j = 0 ∨ j = 1 ∨ j = 2 ∨ j = 3 := by omega
            rcases this with rfl | rfl | rfl | rfl
            · exact h0
            · exact h1
            · exact h2
            · exact h3
          · exfalso
            unfold prA alv at h
            rw [if_neg h0, if_neg h1, if_neg h2, if_neg h3, if_neg h4] at h
            omega
theorem prc_A (h : ∀ p, p < 5 → ((K 57 p = 0) ↔ (A p 0 = 0))) : prc K = prA A := by
  have e : ∀ p, p < 5 → (if K 57 p = 0 then 0 else 1) = alv A p := by
    intro p hp
    unfold alv
    by_cases k : A p 0 = 0
    · rw [if_pos ((h p hp).mpr k), if_pos k]
    · rw [if_neg (fun k2 => k ((h p hp).mp k2)), if_neg k]
  unfold prc cntp cntp cntp cntp cntp cntp
  rw [e 0 (by omega), e (0 + 1) (by omega), e (0 + 1 + 1) (by omega), e (0 + 1 + 1 + 1) (by omega), e (0 + 1 + 1 + 1 + 1) (by omega)]
  unfold prA
  show alv A 0 + (alv A 1 + (alv A 2 + (alv A 3 + (alv A 4 + 0)))) = _
  omega
theorem Qr.s0 (hQ : Qr K A) (hW : Wf X A) (hp : p < 5) : (K 57 p = 0) ↔ (A p 0 = 0) := by
  rw [(hQ p hp).1]
  constructor
  · intro h
    by_cases h0 : A p 0 = 0
    · exact h0
    · have := (hW.2 p hp h0).1
      rw [pd_eq0 (by omega)] at h
      exact h
  · intro h; rw [h]; rfl
theorem Qr.prc (hQ : Qr K A) (hW : Wf X A) : prc K = prA A := prc_A (fun p hp => hQ.s0 hW hp)
end PT
