/-! BOTH: the call of compile -/
section CC
variable {xs : Nat → Int32} {Ls : Nat} {J Jr : pd_J} {n nr : Nat} {K K' K1 K2 : pd_I} {D D' : pd_D} {q q1 : Nat → Nat} {c m : Nat} {e : Int64}
/-- a text that is compiled -/
theorem Mi.ok {Qd : pq} {k l : Nat} (h : Mi q K D) (hk : k < 4) (hQ : qs Qd ≤ 48) (hL : Lw (q0 (mm_u (rdI K (q 4) l) (q 4) 4 1)) (qem Qd 30 0)) (hC : Cok (cq (qem Qd 30 0)) (aq (qem Qd 30 0)) (xq (qem Qd 30 0)) (pO (rdP K (q 4) l)) (pV (rdP K (q 4) l)) (pN (rdP K (q 4) l)) (qs Qd + 1)) : Mi (pd_up (pd_up q k (q 4)) 4 (q k)) (mm_u (cpL k (qs (qem Qd 30 0)) 0 (mm_u (eQ (mm_u (mm_u (rdI K (q 4) l) (q 4) 4 1) 43 39 0) (qem Qd 30 0)) 43 8 0)) 48 k 1) D := by
  have h4 := h.qo.1 4 (by omega)
  have b4 := cO_b h4
  have n4 : q 4 ≠ 1 ∧ q 4 ≠ 0 := by rcases h4 with h | h | h | h | h <;> rw [h] <;> decide
  have na : ∀ b, b = 6 ∨ b = 23 ∨ b = 24 ∨ b = 25 → b ≠ q 4 ∧ b ≠ q 4 + 1 ∧ b ≠ q 4 + 2 := fun b hb => by rcases h4 with h | h | h | h | h <;> rw [h] <;> omega
  have eqs : qs (qem Qd 30 0) = qs Qd + 1 := em_s
  rw [eqs]
  have hrf : rfE K (mm_u (rdI K (q 4) l) (q 4) 4 1) := (rdI_rf h4).u (by omega)
  have hcl : ∀ b, b ≠ 1 → b ≠ q 4 → b ≠ q 4 + 1 → b ≠ q 4 + 2 → mm_u (rdI K (q 4) l) (q 4) 4 1 b = K b := fun b h2 h3 h4 h5 => by rw [mm_u_ag h3, rdI_o h2 h3 h4 h5]
  obtain ⟨rc1, rc2, rc3⟩ := rdI_c (K := K) (m := l) h4
  have g2 : mm_u (rdI K (q 4) l) (q 4) 4 1 (q 4) 2 = Int32.ofNat (pN (rdP K (q 4) l)) := by rw [mm_u_k (by decide)]; exact rc1
  have g3 : mm_u (rdI K (q 4) l) (q 4) 4 1 (q 4 + 1) = pO (rdP K (q 4) l) := by rw [mm_u_ag (by omega)]; exact rc2
  have g4 : mm_u (rdI K (q 4) l) (q 4) 4 1 (q 4 + 2) = pV (rdP K (q 4) l) := by rw [mm_u_ag (by omega)]; exact rc3
  have g44 : mm_u (rdI K (q 4) l) (q 4) 4 1 (q 4) 4 = 1 := mm_u_s _ _ _ _
  have g11 : mm_u (rdI K (q 4) l) (q 4) 4 1 1 1 = 0 := by
    rw [mm_u_a (fun e => n4.1 e.symm)]
    unfold rdI
    exact mm_u_s _ _ _ _
  generalize mm_u (rdI K (q 4) l) (q 4) 4 1 = K1 at *
  generalize hQf : qem Qd 30 0 = Qf at *
  have cp := cpL_get (k := k) hk (qs Qd + 1) 0 (mm_u (eQ (mm_u K1 43 39 0) Qf) 43 8 0) (by omega)
  have eo : ∀ b z, b ≠ 45 → b ≠ 46 → b ≠ 47 → b ≠ 48 → (mm_u (cpL k (qs Qd + 1) 0 (mm_u (eQ (mm_u K1 43 39 0) Qf) 43 8 0)) 48 k 1) b z = (mm_u (eQ (mm_u K1 43 39 0) Qf) 43 8 0) b z := fun b z h1 h2 h3 h4 => by rw [mm_u_a h4, cp, if_neg (by omega)]
  have ecl : ∀ b z, b < 43 → (mm_u (cpL k (qs Qd + 1) 0 (mm_u (eQ (mm_u K1 43 39 0) Qf) 43 8 0)) 48 k 1) b z = K1 b z := fun b z hb => by
    rw [eo _ _ (by omega) (by omega) (by omega) (by omega), mm_u_a (by omega), eQ_o2 (by omega) (by omega) (by omega) (by omega) (by omega) (by omega) (by omega), mm_u_a (by omega)]
  have erf : ∀ b z, b = 52 ∨ b = 56 → (mm_u (cpL k (qs Qd + 1) 0 (mm_u (eQ (mm_u K1 43 39 0) Qf) 43 8 0)) 48 k 1) b z = K b z := fun b z hb => by
    rw [eo _ _ (by omega) (by omega) (by omega) (by omega), mm_u_a (by omega), eQ_o2 (by omega) (by omega) (by omega) (by omega) (by omega) (by omega) (by omega), mm_u_a (by omega), hrf b (by omega)]
  have e43 : ∀ z, z = 9 ∨ z = 18 ∨ (34 ≤ z ∧ z ≤ 38) → (mm_u (cpL k (qs Qd + 1) 0 (mm_u (eQ (mm_u K1 43 39 0) Qf) 43 8 0)) 48 k 1) 43 z = K 43 z := fun z hz => by
    rw [eo _ _ (by omega) (by omega) (by omega) (by omega), mm_u_k (by omega), eQ_43 (by omega), mm_u_k (by omega), hrf 43 (by omega)]
  have e48 : ∀ z, (mm_u (cpL k (qs Qd + 1) 0 (mm_u (eQ (mm_u K1 43 39 0) Qf) 43 8 0)) 48 k 1) 48 z = if z = k then 1 else K 48 z := fun z => by
    by_cases e : z = k
    · rw [if_pos e, e, mm_u_s]
    · rw [if_neg e, mm_u_k e, cp, if_neg (by omega), mm_u_a (by decide), eQ_o2 (by decide) (by decide) (by decide) (by decide) (by decide) (by decide) (by decide), mm_u_a (by decide), hrf 48 (by omega)]
  -- the code of the others, and the new one
  have ecd : ∀ b k' j, b = 45 ∨ b = 46 ∨ b = 47 → k' < 4 → k' ≠ k → j < 49 → (mm_u (cpL k (qs Qd + 1) 0 (mm_u (eQ (mm_u K1 43 39 0) Qf) 43 8 0)) 48 k 1) b (k' * 128 + j) = K b (k' * 128 + j) := fun b k' j hb hk' hne hj => by
    rw [mm_u_a (by omega), cp, if_neg (by omega), mm_u_a (by omega)]
    obtain ⟨a1, a2, a3⟩ := hL (k' * 128 + j) (by omega)
    rcases hb with rfl | rfl | rfl
    · rw [eQ_c, a1, ← hrf 45 (by omega)]; rfl
    · rw [eQ_a, a2, ← hrf 46 (by omega)]; rfl
    · rw [eQ_x, a3, ← hrf 47 (by omega)]; rfl
  have enw : ∀ j, j < qs Qd + 1 → (mm_u (cpL k (qs Qd + 1) 0 (mm_u (eQ (mm_u K1 43 39 0) Qf) 43 8 0)) 48 k 1) 45 (k * 128 + j) = cq Qf j ∧ (mm_u (cpL k (qs Qd + 1) 0 (mm_u (eQ (mm_u K1 43 39 0) Qf) 43 8 0)) 48 k 1) 46 (k * 128 + j) = aq Qf j ∧ (mm_u (cpL k (qs Qd + 1) 0 (mm_u (eQ (mm_u K1 43 39 0) Qf) 43 8 0)) 48 k 1) 47 (k * 128 + j) = xq Qf j := fun j hj => by
    have ej : 512 + (k * 128 + j - k * 128) = 512 + j := by omega
    refine ⟨?_, ?_, ?_⟩
    · rw [mm_u_a (by decide), cp, if_pos ⟨by omega, by omega, by omega⟩, ej, mm_u_a (by decide), eQ_c]; rfl
    · rw [mm_u_a (by decide), cp, if_pos ⟨by omega, by omega, by omega⟩, ej, mm_u_a (by decide), eQ_a]; rfl
    · rw [mm_u_a (by decide), cp, if_pos ⟨by omega, by omega, by omega⟩, ej, mm_u_a (by decide), eQ_x]; rfl
  have h8 : (mm_u (cpL k (qs Qd + 1) 0 (mm_u (eQ (mm_u K1 43 39 0) Qf) 43 8 0)) 48 k 1) 43 8 = 0 := by rw [eo _ _ (by decide) (by decide) (by decide) (by decide), mm_u_s]
  generalize mm_u (cpL k (qs Qd + 1) 0 (mm_u (eQ (mm_u K1 43 39 0) Qf) 43 8 0)) 48 k 1 = K2 at *
  have q1k : pd_up (pd_up q k (q 4)) 4 (q k) k = q 4 := by unfold pd_up; rw [if_neg (by omega), if_pos rfl]
  have q1o : ∀ k', k' < 4 → k' ≠ k → pd_up (pd_up q k (q 4)) 4 (q k) k' = q k' := fun k' h1 h2 => by unfold pd_up; rw [if_neg (by omega), if_neg h2]
  have kc : ∀ k, k < 4 → (∀ z, K1 (q k) z = K (q k) z) ∧ (∀ z, K1 (q k + 1) z = K (q k + 1) z) ∧ (∀ z, K1 (q k + 2) z = K (q k + 2) z) := fun k hk => by
    have hk' := h.qo.1 k (by omega)
    have bk := cO_b hk'
    have nk : q k ≠ 1 ∧ q k ≠ 0 := by rcases hk' with h | h | h | h | h <;> rw [h] <;> decide
    obtain ⟨c1, c2, c3⟩ := cO_ne hk' h4 (fun e => by have := h.qo.2 k 4 (by omega) (by omega) e; omega)
    exact ⟨fun z => by rw [hcl _ nk.1 c1.1 c1.2.1 c1.2.2], fun z => by rw [hcl _ (by omega) c2.1 c2.2.1 c2.2.2], fun z => by rw [hcl _ (by omega) c3.1 c3.2.1 c3.2.2]⟩
  refine h.cp (qO_sw h.qo hk) ⟨0, ?_, by rw [h8]; rfl, by omega, fun k hk => absurd hk (by omega)⟩ ?_ (fun b z hb => ?_) (fun z hz => e43 z (by omega)) erf (fun k' hk' => ?_) (fun k' hk' h48 => ?_)
  · rw [ecl _ _ (by omega)]; exact g11
  · rw [ecl _ _ (by omega), hcl 0 (by omega) (fun e => n4.2 e.symm) (by omega) (by omega), e43 _ (by omega)]; exact h.pl
  · rw [ecl _ _ (by omega), hcl _ (by omega) (na b hb).1 (na b hb).2.1 (na b hb).2.2]
  · by_cases e : k' = k
    · subst e
      rw [q1k, ecl _ _ (by omega), g44, e48, if_pos rfl]
    · have bk := cO_b (h.qo.1 k' (by omega))
      rw [q1o k' hk' e, ecl _ _ (by omega), (kc k' hk').1, e48, if_neg e]
      exact h.th k' hk'
  · by_cases e : k' = k
    · subst e
      rw [q1k]
      refine ⟨_, qs Qd + 1, by rw [ecl _ _ (by omega)]; exact g2, hC.congr enw (fun z _ => ⟨?_, ?_⟩)⟩
      · rw [ecl _ _ (by omega), g3]
      · rw [ecl _ _ (by omega), g4]
    · have bk := cO_b (h.qo.1 k' (by omega))
      rw [e48, if_neg e] at h48
      obtain ⟨N, m, n1, n2⟩ := h.cd k' hk' h48
      have n9 := n2.n9
      rw [q1o k' hk' e]
      refine ⟨N, m, by rw [ecl _ _ (by omega), (kc k' hk').1]; exact n1, n2.congr (fun l hl => ⟨ecd _ _ _ (by omega) hk' e (by omega), ecd _ _ _ (by omega) hk' e (by omega), ecd _ _ _ (by omega) hk' e (by omega)⟩) (fun z _ => ⟨?_, ?_⟩)⟩
      · rw [ecl _ _ (by omega), (kc k' hk').2.1]
      · rw [ecl _ _ (by omega), (kc k' hk').2.2]
theorem cpI_f {I : pd_I} {k m : Nat} {Qf Q : pq} (h : qm Q = false) : cpI I k m Qf (.inr Q) = (qn Qf, mm_u (cpL k (qs Qf) 0 (mm_u (eQ I Qf) 43 8 0)) 48 k 1) := by
  show (if qm Q = true then _ else _) = _
  rw [h, if_neg (by decide)]
theorem cpI_t {I : pd_I} {k m : Nat} {Qf Q : pq} (h : qm Q = true) : cpI I k m Qf (.inr Q) = (0, mm_u (mm_u (mm_u (eQ I Qf) 43 8 0) 43 9 (Int32.ofNat m)) 43 39 1) := by
  show (if qm Q = true then _ else _) = _
  rw [h, if_pos rfl]
theorem cpI_n {I : pd_I} {k m p : Nat} {Qf : pq} : cpI I k m Qf (.inl p) = (0, mm_u (mm_u (mm_u (eQ I Qf) 43 8 0) 43 9 (Int32.ofNat p)) 43 39 1) := rfl
theorem call_comp {k : Int32} (h : Mi q K D) : CallI xs Ls q K D J n 129 [.ref (0 : Nat), .int k, .ref (66 : Nat)] 94 [.ref (43 : Nat), .int k] := by
  obtain ⟨l, l1, l2, l3, l4⟩ := h.ti
  have hc := fun d (hd : 60 ≤ d) => ev4 (xs := xs) (Ls := Ls) (q := q) (I := K) (D := D) (J := J) (n := n) (d := d) (k := k) hd h.qo l1 l3 (fun k hk => (l4 k hk).2)
  have h4 := h.qo.1 4 (by omega)
  have b4 := cO_b h4
  have n4 : q 4 ≠ 1 ∧ q 4 ≠ 0 := by rcases h4 with h | h | h | h | h <;> rw [h] <;> decide
  have H := tx_of h4 (show Tin K l from ⟨l1, l2, l3, l4⟩)
  cases hk : isPr k
  · rw [if_pos hk] at hc
    exact ⟨1, 0, K, D, q, J, n + 1, mm_u K 43 39 1, D, fun d hd => h129t (by omega) (fun d' _ => hc d' (by omega)), fun d hd => ev94n hk (by omega), mm_u_s _ _ _ _, fun h => absurd h (by decide), Nat.le_refl _, h.t39⟩
  · obtain ⟨k, k4, rfl⟩ := isPr_of hk
    rw [hk, if_neg (by decide), pd_nn (by omega)] at hc
    have r0 : ∀ p, rfE K (mm_u (rdI K (q 4) l) 0 2 (Int32.ofNat p)) := fun p => (rdI_rf h4).u (by omega)
    have c0 : ∀ p b, b < 43 → b ≠ 0 → b ≠ 1 → b ≠ q 4 → b ≠ q 4 + 1 → b ≠ q 4 + 2 → mm_u (rdI K (q 4) l) 0 2 (Int32.ofNat p) b = K b := fun p b _ h1 h2 h3 h4 h5 => by rw [mm_u_ag h1, rdI_o h2 h3 h4 h5]
    have g11 : rdI K (q 4) l 1 1 = 0 := by unfold rdI; exact mm_u_s _ _ _ _
    cases hr : pR (rdP K (q 4) l)
    · rw [hr, if_neg (by decide)] at hc
      cases hw : pW (rdP K (q 4) l)
      · rw [hw, if_neg (by decide)] at hc
        obtain ⟨ou, o1, o2⟩ := read_c (I := mm_u (rdI K (q 4) l) (q 4) 4 1) H
        rcases o2 with ⟨p, rfl, p1, p2, p3⟩ | ⟨Qd, rfl, p1, p2, p3, p4, p5⟩
        · rw [hr] at p2; cases p2
        · have hrf : rfE K (mm_u (rdI K (q 4) l) (q 4) 4 1) := (rdI_rf h4).u (by omega)
          have hqm : qm Qd = false := by rw [← p2]; exact hw
          obtain ⟨Qf, f1, f2, f3⟩ := ev94 (xs := xs) (Ls := Ls) (I := mm_u (rdI K (q 4) l) (q 4) 4 1) (q := pd_up (pd_up q k (q 4)) 4 (q k)) (D := D) (J := mm_u J 66 0 (pS (rdP K (q 4) l)).toInt64) (n := n) (d := 6) (m := l) k4 (by rw [hrf 44 (by omega)]; exact o1) (fun Q hQ => by cases hQ; omega) l3 (by rw [hrf 43 (by omega)]; exact l2) (fun p hp => by cases hp) (by omega)
          have hQf := f1 Qd rfl
          subst hQf
          have ecp : cpI (mm_u (mm_u (rdI K (q 4) l) (q 4) 4 1) 43 39 0) k l (qem Qd 30 0) (.inr Qd) = (qn (qem Qd 30 0), mm_u (cpL k (qs (qem Qd 30 0)) 0 (mm_u (eQ (mm_u (mm_u (rdI K (q 4) l) (q 4) 4 1) 43 39 0) (qem Qd 30 0)) 43 8 0)) 48 k 1) := by
            exact cpI_f hqm
          rw [ecp] at f3
          dsimp only at f3
          refine ⟨0, _, _, D, _, _, n, _, D, fun d hd => h129s (by omega) (fun d' _ => hc d' (by omega)), fun d hd => fu_ev f3 (by omega), ?_, fun _ => ?_, by omega, Mi.ok h k4 p4 f2 (p5 hw)⟩
          · rw [mm_u_a (by decide), cpL_get k4 _ _ _ (by rw [em_s]; omega), if_neg (by omega), mm_u_k (by decide), eQ_39, mm_u_s]
          · rw [mm_u_s, em_n, p3]
      · rw [hw, if_pos rfl] at hc
        obtain ⟨ou, o1, o2⟩ := read_c (I := mm_u (rdI K (q 4) l) 0 2 (Int32.ofNat l)) H
        rcases o2 with ⟨p, rfl, p1, p2, p3⟩ | ⟨Qd, rfl, p1, p2, p3, p4, p5⟩
        · rw [hr] at p2; cases p2
        · have hqm : qm Qd = true := by rw [← p2]; exact hw
          obtain ⟨Qf, f1, f2, f3⟩ := ev94 (xs := xs) (Ls := Ls) (I := mm_u (rdI K (q 4) l) 0 2 (Int32.ofNat l)) (q := q) (D := D) (J := J) (n := n + 1) (d := 6) (m := l) k4 (by rw [r0 l 44 (by omega)]; exact o1) (fun Q hQ => by cases hQ; omega) l3 (by rw [r0 l 43 (by omega)]; exact l2) (fun p hp => by cases hp) (by omega)
          have ecp : cpI (mm_u (mm_u (rdI K (q 4) l) 0 2 (Int32.ofNat l)) 43 39 0) k l Qf (.inr Qd) = (0, mm_u (mm_u (mm_u (eQ (mm_u (mm_u (rdI K (q 4) l) 0 2 (Int32.ofNat l)) 43 39 0) Qf) 43 8 0) 43 9 (Int32.ofNat l)) 43 39 1) := by
            exact cpI_t hqm
          rw [ecp] at f3
          dsimp only at f3
          exact ⟨1, 0, _, D, q, J, n + 1, _, D, fun d hd => h129t (by omega) (fun d' _ => hc d' (by omega)), fun d hd => fu_ev f3 (by omega), mm_u_s _ _ _ _, fun h => absurd h (by decide), Nat.le_refl _, Mi.no h (r0 l) (c0 l) (by rw [mm_u_a (by decide)]; exact g11) (mm_u_s _ _ _ _) f2⟩
    · rw [hr, if_pos rfl] at hc
      obtain ⟨ou, o1, o2⟩ := read_c (I := mm_u (rdI K (q 4) l) 0 2 (Int32.ofNat (pA (rdP K (q 4) l)))) H
      rcases o2 with ⟨p, rfl, p1, p2, p3⟩ | ⟨Qd, rfl, p1, _⟩
      · obtain ⟨Qf, f1, f2, f3⟩ := ev94 (xs := xs) (Ls := Ls) (I := mm_u (rdI K (q 4) l) 0 2 (Int32.ofNat (pA (rdP K (q 4) l)))) (q := q) (D := D) (J := J) (n := n + 1) (d := 6) (m := l) k4 (by rw [r0 _ 44 (by omega)]; exact o1) (fun Q hQ => by cases hQ) l3 (by rw [r0 _ 43 (by omega)]; exact l2) (fun p' hp => by cases hp; exact p1) (by omega)
        rw [cpI_n] at f3
        dsimp only at f3
        exact ⟨1, 0, _, D, q, J, n + 1, _, D, fun d hd => h129t (by omega) (fun d' _ => hc d' (by omega)), fun d hd => fu_ev f3 (by omega), mm_u_s _ _ _ _, fun h => absurd h (by decide), Nat.le_refl _, Mi.no h (r0 _) (c0 _) (by rw [mm_u_a (by decide)]; exact g11) (by rw [mm_u_s, p3]) f2⟩
      · rw [hr] at p1; cases p1
end CC
