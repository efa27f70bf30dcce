/-! BOTH RUNS: the class leaves what is over -/
section LOC
variable {X : Cx} {K K' : pd_I} {A B : Nat → Nat → Nat} {q : Nat → Nat} {p P : Nat} {S C R : Nat → Int32} {col : Nat → Nat} {cn : Nat}
theorem kl_r {r : Nat} (hr : r ≠ p) (h : ¬ (A p 1 = r + 1 ∧ cnt A r = 1)) : kl A p r = A r := by
  funext f
  by_cases hf : f = 0
  · subst hf; rw [kl_0, if_neg hr, if_neg h]
  · rw [kl_f hf]
theorem kl_j {r : Nat} (hr : r ≠ p) (h : A p 1 = r + 1 ∧ cnt A r = 1) : kl A p r = pd_up (A r) 0 1 := by
  funext f
  unfold pd_up
  by_cases hf : f = 0
  · subst hf; rw [kl_0, if_neg hr, if_pos h, if_pos rfl]
  · rw [kl_f hf, if_neg hf]
theorem Qcp.cnn {cn' : Nat} {v : Int32} (h : Qcp X S C R col cn) (hv : v = Int32.ofNat cn') : Qcp X (pd_up S 2 v) C R col cn' := by
  obtain ⟨h0, h1⟩ := h
  refine ⟨h0, fun hc => ?_⟩
  obtain ⟨k1, k2, k3, k4, k5, k6, k7, k8⟩ := h1 hc
  exact ⟨k1, fun _ => hv, k3, k4, k5, k6, k7, k8⟩
theorem Qcp.wk {v : Int32} {cn' : Nat} (h : Qcp X S C R col cn) (h0 : col 0 ≠ 0) : Qcp X (pd_up (pd_up S 2 v) 0 1) C R (pd_up col 0 1) cn' := by
  refine ⟨rfl, fun _ => ?_⟩
  obtain ⟨k1, k2, k3, k4, k5, k6, k7, k8⟩ := h.2 h0
  refine ⟨k1, fun h => (by cases h), k3, k4, k5, k6, fun l hl => ?_, fun h => (by cases h)⟩
  have : pd_up col 0 1 (10 + l) = col (10 + l) := by unfold pd_up; rw [if_neg (by omega)]
  rw [this]
  exact k7 l hl
theorem cnt_s1 {c : Nat} (h : c ≤ 5) (h1 : 1 ≤ c) : Int32.ofNat c - 1 = Int32.ofNat (c - 1) := pd_sub1 (by omega)
theorem cnt_le {r : Nat} : cnt A r ≤ 5 := by
  have h0 := lvp_le (A := A) (r := r) (s := 0)
  have h1 := lvp_le (A := A) (r := r) (s := 1)
  have h2 := lvp_le (A := A) (r := r) (s := 2)
  have h3 := lvp_le (A := A) (r := r) (s := 3)
  have h4 := lvp_le (A := A) (r := r) (s := 4)
  unfold cnt
  omega
/-- a process of the class is over -/
theorem lv_c (hp : p < 5) (hQ : Qc X K A) (hW : Wf X A) (h1 : A p 0 = 1) (hL : K 6 11 = Int32.ofNat (prA A)) : ∃ nx K', Lv p K nx K' ∧ Qc X K' (kl A p) ∧ K' 6 11 = Int32.ofNat (prA (kl A p)) ∧ FrC K K' ∧ (∀ r, Sd K' r 4 = Sd K r 4) ∧ ((nx = -1 ∧ ∀ r, r ≠ p → kl A p r = A r) ∨ (∃ j, j < 5 ∧ nx = Int32.ofNat j ∧ kl A p j 0 = 1 ∧ ∀ r, r ≠ p → r ≠ j → kl A p r = A r)) := by
  have hz : A p 0 ≠ 0 := by rw [h1]; decide
  have hpr := prA_kl hW.1 hp hz
  have hl5 := prA_le (A := A)
  have hL' : K 6 11 - 1 = Int32.ofNat (prA (kl A p)) := by rw [hL, pd_sub1 (by omega)]; congr 1; omega
  obtain ⟨a1, _⟩ := (hQ p hp).alv h1
  have n6 : ∀ r, 28 + 3 * r ≠ 6 := fun r => by omega
  have c0 : ∀ r, r ≠ p → A p 1 ≠ r + 1 → cnt (kl A p) r = cnt A r := fun r _ h => by
    have := cnt_kl (r := r) hW.1 hp hz
    rw [if_neg h] at this
    omega
  by_cases hr : A p 1 = 0
  · have a1' : Sd K p 1 = -1 := by show K (28 + 3 * p) 1 = -1; rw [a1, hr]; rfl
    have hk : ∀ r, r ≠ p → kl A p r = A r := fun r h => kl_r h (by omega)
    refine ⟨_, _, .top a1', fun r h5 => ?_, by rw [mm_u_s]; exact hL', (FrC.pp hp).tr .l, fun r => ?_, Or.inl ⟨rfl, hk⟩⟩
    · by_cases e : r = p
      · subst e
        rw [mm_u_ag (n6 r), mmu_I]
        refine ⟨?_, fun h => absurd ?_ h⟩
        · rw [kl_0, if_pos rfl]; rfl
        · rw [kl_0, if_pos rfl]
      · rw [hk r e, c0 r e (by omega), mm_u_ag (by omega), mm_u_ag (by omega), mm_u_ag (by omega), mm_u_ag (by omega), mm_u_ag (by omega), mm_u_ag (by omega)]
        exact hQ r h5
    · unfold Sd
      rw [mm_u_a (n6 r), mm_u_k (by decide)]
  · obtain ⟨j, e1, j5, j3⟩ := hW.1 p hp hz hr
    have hjp : j ≠ p := by rintro rfl; omega
    have a1' : Sd K p 1 = Int32.ofNat j := by
      show K (28 + 3 * p) 1 = _
      rw [a1, e1]
      rfl
    have hj0 : A j 0 ≠ 0 := by omega
    have a2 : Sd K j 2 = Int32.ofNat (cnt A j) := ((hQ j j5).2 hj0).2.1 j3
    have cg := cnt_ge1 hp hz e1
    have cl := cnt_le (A := A) (r := j)
    have ck := cnt_kl (r := j) hW.1 hp hz
    rw [if_pos e1] at ck
    have a2' : Sd K j 2 - 1 = Int32.ofNat (cnt (kl A p) j) := by rw [a2, cnt_s1 cl cg]; congr 1; omega
    by_cases hc1 : cnt A j = 1
    · have g : Sd K j 2 - 1 ≤ 0 := by rw [a2, hc1]; decide
      have hk : ∀ r, r ≠ p → r ≠ j → kl A p r = A r := fun r h h2 => kl_r h (by omega)
      have hkj : kl A p j = pd_up (A j) 0 1 := kl_j hjp ⟨e1, hc1⟩
      refine ⟨_, _, .up j5 (fun h => hjp h.symm) a1' g, fun r h5 => ?_, ?_, (((FrC.pp hp).tr .l).tr (.pp j5)).tr (.pp j5), fun r => ?_, Or.inr ⟨j, j5, rfl, by rw [hkj]; rfl, hk⟩⟩
      · by_cases e : r = p
        · subst e
          rw [mm_u_ag (by omega), mm_u_ag (by omega), mm_u_ag (n6 r), mmu_I]
          refine ⟨?_, fun h => absurd ?_ h⟩
          · rw [kl_0, if_pos rfl]; rfl
          · rw [kl_0, if_pos rfl]
        · by_cases e2 : r = j
          · subst e2
            rw [hkj, mmu_I, mmu_I, mm_u_ag (n6 r), mm_u_ag (by omega), mm_u_ag (by omega), mm_u_ag (by omega), mm_u_ag (by omega), mm_u_ag (by omega), mm_u_ag (by omega), mm_u_ag (by omega), mm_u_ag (by omega), mm_u_ag (by omega)]
            exact (hQ r h5).wk hj0
          · rw [hk r e e2, c0 r e (by omega), mm_u_ag (by omega), mm_u_ag (by omega), mm_u_ag (by omega), mm_u_ag (by omega), mm_u_ag (by omega), mm_u_ag (by omega), mm_u_ag (by omega), mm_u_ag (by omega), mm_u_ag (by omega), mm_u_ag (by omega), mm_u_ag (by omega), mm_u_ag (by omega)]
            exact hQ r h5
      · rw [mm_u_a (by omega), mm_u_a (by omega), mm_u_s]; exact hL'
      · unfold Sd
        rw [mm_u_k (by decide), mm_u_k (by decide), mm_u_a (n6 r), mm_u_k (by decide)]
    · have g : ¬ (Sd K j 2 - 1 ≤ 0) := by
        rw [a2']
        exact nle0 (by omega) (by omega)
      have hk : ∀ r, r ≠ p → kl A p r = A r := fun r h => kl_r h (fun k => hc1 ((show r = j by have := k.1; omega) ▸ k.2))
      refine ⟨_, _, .pt j5 a1' g, fun r h5 => ?_, ?_, ((FrC.pp hp).tr .l).tr (.pp j5), fun r => ?_, Or.inl ⟨rfl, hk⟩⟩
      · by_cases e : r = p
        · subst e
          rw [mm_u_ag (by omega), mm_u_ag (n6 r), mmu_I]
          refine ⟨?_, fun h => absurd ?_ h⟩
          · rw [kl_0, if_pos rfl]; rfl
          · rw [kl_0, if_pos rfl]
        · by_cases e2 : r = j
          · subst e2
            rw [hk r e, mmu_I, mm_u_ag (n6 r), mm_u_ag (by omega), mm_u_ag (by omega), mm_u_ag (by omega), mm_u_ag (by omega), mm_u_ag (by omega), mm_u_ag (by omega), mm_u_ag (by omega)]
            exact (hQ r h5).cnn a2'
          · rw [hk r e, c0 r e (by omega), mm_u_ag (by omega), mm_u_ag (by omega), mm_u_ag (by omega), mm_u_ag (by omega), mm_u_ag (by omega), mm_u_ag (by omega), mm_u_ag (by omega), mm_u_ag (by omega), mm_u_ag (by omega)]
            exact hQ r h5
      · rw [mm_u_a (by omega), mm_u_s]; exact hL'
      · unfold Sd
        rw [mm_u_k (by decide), mm_u_a (n6 r), mm_u_k (by decide)]
theorem Rs.cg {r : Nat} (h : Rs X K A r) (h1 : B r = A r) (h2 : Sd K' r 4 = Sd K r 4) : Rs X K' B r := by
  unfold Rs
  rw [h1, h2]
  exact h
theorem Rs.no {r : Nat} (h : A r 0 ≠ 1) : Rs X K A r := fun k => absurd k h
theorem sI_1 {s : Nat} (h3 : s ≤ 3) (h : s ≠ 1) : sI s ≠ 1 := by
  have : s = 0 ∨ s = 2 ∨ s = 3 := by omega
  rcases this with rfl | rfl | rfl <;> decide
/-- goOn -/
theorem go_c (hX : XOk X) : ∀ (f p : Nat) (K : pd_I) (A : Nat → Nat → Nat), p < 5 → 1 ≤ f → prA A ≤ f → Cc X q K → Qc X K A → Wf X A → K 6 11 = Int32.ofNat (prA A) → ∃ K' B, Go q f (Int32.ofNat p) K K' ∧ Sms (cxc X) (cxa X) A B ∧ Qc X K' B ∧ Wf X B ∧ K' 6 11 = Int32.ofNat (prA B) ∧ FrC K K' ∧ ∀ r, r < 5 → (r = p ∨ Rs X K A r) → Rs X K' B r := by
  intro f
  induction f with
  | zero => intro p K A _ h; omega
  | succ f ih =>
    intro p K A hp _ hf hC hQ hW hL
    by_cases h1 : A p 0 = 1
    · have s1 : Sd K p 0 = 1 := by show K (28 + 3 * p) 0 = 1; rw [(hQ p hp).1, h1]; rfl
      obtain ⟨b, K1, B, g1, g2, g3, g4, g5, g6, g7, g8, g9, g10⟩ := fn_c (q := q) hX hp hC hQ hW h1
      have hpr : prA B = prA A := prA_cg (fun s => by
        by_cases e : s = p
        · rw [e, g6, h1]
        · rw [g5 s e])
      have hf1 : FrC K K1 := fun b z h => g8 b z (h.2 p hp)
      have hL1 : K1 6 11 = Int32.ofNat (prA B) := by rw [g8 6 11 (by omega), hpr]; exact hL
      have hr1 : ∀ r, r ≠ p → Rs X K A r → Rs X K1 B r := fun r hr h => h.cg (g5 r hr) (g8 _ _ (by omega))
      cases b with
      | true =>
        refine ⟨K1, B, .hit hp s1 g1, g2, g3, g4, hL1, hf1, fun r _ h => ?_⟩
        by_cases e : r = p
        · rw [e]; exact fun _ => g9 rfl
        · rcases h with h | h
          · exact absurd h e
          · exact hr1 r e h
      | false =>
        obtain ⟨e1, e2⟩ := g10 rfl
        have he : En (cxc X) B p := ⟨hp, g6, e1⟩
        have esm : sm (cxc X) (cxa X) B p = kl B p := by rw [sm_def, if_pos e2]
        obtain ⟨nx, K2, v1, v2, v3, v4, v5, v6⟩ := lv_c hp g3 g4 g6 hL1
        have hS : ∀ C, Sms (cxc X) (cxa X) (kl B p) C → Sms (cxc X) (cxa X) A C := fun C h => g2.tr (.st he (by rw [esm]; exact h))
        have hW2 : Wf X (kl B p) := by rw [← esm]; exact g4.sm hX he
        have hpk : Rs X K2 (kl B p) p := Rs.no (by rw [kl_0, if_pos rfl]; decide)
        rcases v6 with ⟨rfl, v7⟩ | ⟨j, j5, rfl, j1, v7⟩
        · refine ⟨K2, kl B p, .lv hp s1 g1 v1 .nix, hS _ .rf, v2, hW2, v3, hf1.tr v4, fun r _ h => ?_⟩
          by_cases e : r = p
          · rw [e]; exact hpk
          · rcases h with h | h
            · exact absurd h e
            · exact (hr1 r e h).cg (v7 r e) (v5 r)
        · have hpl := prA_kl g4.1 hp (show B p 0 ≠ 0 by rw [g6]; decide)
          have hp1 := prA_pos (A := kl B p) j5 (by rw [j1]; decide)
          obtain ⟨K', C, w1, w2, w3, w4, w5, w6, w7⟩ := ih j K2 (kl B p) j5 (by omega) (by omega) ((hC.fr hf1).fr v4) v2 hW2 v3
          refine ⟨K', C, .lv hp s1 g1 v1 w1, hS _ w2, w3, w4, w5, (hf1.tr v4).tr w6, fun r h5 h => ?_⟩
          by_cases e : r = p
          · rw [e]; exact w7 p hp (Or.inr hpk)
          · by_cases e2 : r = j
            · exact w7 r h5 (Or.inl e2)
            · rcases h with h | h
              · exact absurd h e
              · exact w7 r h5 (Or.inr ((hr1 r e h).cg (v7 r e e2) (v5 r)))
    · have s1 : Sd K p 0 ≠ 1 := by
        show K (28 + 3 * p) 0 ≠ 1
        rw [(hQ p hp).1]
        refine sI_1 ?_ h1
        by_cases h0 : A p 0 = 0
        · omega
        · exact (hW.2 p hp h0).1
      refine ⟨K, A, .not hp s1, .rf, hQ, hW, hL, fun _ _ _ => rfl, fun r _ h => ?_⟩
      rcases h with h | h
      · rw [h]; exact Rs.no h1
      · exact h
/-- leaveWhatIsOver -/
theorem lo_c (hX : XOk X) : ∀ (f p : Nat) (K : pd_I) (A : Nat → Nat → Nat), p + f = 5 → Cc X q K → Qc X K A → Wf X A → K 6 11 = Int32.ofNat (prA A) → (∀ r, r < p → Rs X K A r) → ∃ K' B, Lo q f p K K' ∧ Sms (cxc X) (cxa X) A B ∧ Qc X K' B ∧ Wf X B ∧ K' 6 11 = Int32.ofNat (prA B) ∧ FrC K K' ∧ ∀ r, r < 5 → Rs X K' B r := by
  intro f
  induction f with
  | zero =>
    intro p K A hp hC hQ hW hL hR
    exact ⟨K, A, .nil, .rf, hQ, hW, hL, fun _ _ _ => rfl, fun r h => hR r (by omega)⟩
  | succ f ih =>
    intro p K A hp hC hQ hW hL hR
    obtain ⟨K1, B, g1, g2, g3, g4, g5, g6, g7⟩ := go_c (q := q) hX 5 p K A (by omega) (by omega) prA_le hC hQ hW hL
    obtain ⟨K', C, w1, w2, w3, w4, w5, w6, w7⟩ := ih (p + 1) K1 B (by omega) (hC.fr g6) g3 g4 g5 (fun r hr => g7 r (by omega) (by
      by_cases e : r = p
      · exact Or.inl e
      · exact Or.inr (hR r (by omega))))
    exact ⟨K', C, .cons g1 w1, g2.tr w2, w3, w4, w5, g6.tr w6, w7⟩
theorem Rs.nrm (h : ∀ r, r < 5 → Rs X K A r) : Nrm (cxc X) A := fun p he => he.2.2 (h p he.1 he.2.1).1
end LOC
