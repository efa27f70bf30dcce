/-! THE TWO READERS: reducing, and values of two -/
def Red (r : Int32) (iz1 : pq) (iz2 : pq) : Prop := ∀ iC : pq → pq → Prop, (∀ (Q : pq), rk (qab Q) < r → qh Q ≤ 64 → iC Q Q) → (∀ (Q Q' : pq), ¬ (rk (qab Q) < r) → 1 ≤ qh Q → qh Q ≤ 64 → qs Q < 128 → 2 ≤ qt Q → qt Q ≤ 64 → iC (red1 Q) Q' → iC Q Q') → iC iz1 iz2
theorem Red.nil {r : Int32} {Q : pq} (ih0 : rk (qab Q) < r) (ih1 : qh Q ≤ 64) : Red r Q Q := fun iC ik0 ik1 => ik0 Q ih0 ih1
theorem Red.cons {r : Int32} {Q Q' : pq} (ih0 : ¬ (rk (qab Q) < r)) (ih1 : 1 ≤ qh Q) (ih2 : qh Q ≤ 64) (ih3 : qs Q < 128) (ih4 : 2 ≤ qt Q) (ih5 : qt Q ≤ 64) (ih6 : Red r (red1 Q) Q') : Red r Q Q' := fun iC ik0 ik1 => ik1 Q Q' ih0 ih1 ih2 ih3 ih4 ih5 (ih6 iC ik0 ik1)
theorem Red.rc {r : Int32} {motive : (iz1 : pq) → (iz2 : pq) → Red r iz1 iz2 → Prop} (nil : ∀ {Q : pq} (ih0 : rk (qab Q) < r) (ih1 : qh Q ≤ 64), motive Q Q (Red.nil (Q := Q) ih0 ih1)) (cons : ∀ {Q Q' : pq} (ih0 : ¬ (rk (qab Q) < r)) (ih1 : 1 ≤ qh Q) (ih2 : qh Q ≤ 64) (ih3 : qs Q < 128) (ih4 : 2 ≤ qt Q) (ih5 : qt Q ≤ 64) (ih6 : Red r (red1 Q) Q') (imih6 : motive (red1 Q) Q' ih6), motive Q Q' (Red.cons (Q := Q) (Q' := Q') ih0 ih1 ih2 ih3 ih4 ih5 ih6)) {iz1 : pq} {iz2 : pq} (ih : Red r iz1 iz2) : motive iz1 iz2 ih := by
  obtain ⟨_, im⟩ := ih (fun iz1 iz2 => ∃ ih : Red r iz1 iz2, motive iz1 iz2 ih) (fun Q ih0 ih1 => ⟨(Red.nil (Q := Q) ih0 ih1), @nil Q ih0 ih1⟩) (fun Q Q' ih0 ih1 ih2 ih3 ih4 ih5 ⟨ih6, imih6⟩ => ⟨(Red.cons (Q := Q) (Q' := Q') ih0 ih1 ih2 ih3 ih4 ih5 ih6), @cons Q Q' ih0 ih1 ih2 ih3 ih4 ih5 ih6 imih6⟩)
  exact im
/-- whether the outcome of two is real, and what stands beside its order -/
def bt (c : Int32) (b1 b2 : Bool) : Bool := if c = 47 then true else if rk c ≤ 1 then false else if c = 37 then false else b1 || b2
def ba (c : Int32) (b1 b2 : Bool) : Int32 := if c = 47 then 1 else pd_b (b1 || b2)
section RED
variable {P P' P0 P1 P2 P3 P4 P5 : pd_P} {Q Q' Q0 Q1 Q2 Q3 Q4 : pq} {m : Nat} {b b1 b2 : Bool} {r r' c : Int32}
theorem pd_bif {x : Bool} {p : Prop} [Decidable p] {y z : Int32} : (if p then y else if p then y else z) = if p then y else z := by split <;> rfl
theorem red1_h : qh (red1 Q) = qh Q - 1 := by unfold red1; split <;> rfl
theorem red1_t : qt (red1 Q) = qt Q - 1 := by unfold red1; split <;> rfl
theorem red1_s : qs (red1 Q) = qs Q + 1 := by unfold red1; split <;> rfl
theorem red1_d : qd (red1 Q) = qd Q := by unfold red1; split <;> rfl
theorem red1_g : qg (red1 Q) = qg Q := by unfold red1; split <;> rfl
theorem red1_n : qn (red1 Q) = qn Q := by unfold red1; split <;> rfl
theorem red1_o : qo (red1 Q) = qo Q := by unfold red1; split <;> rfl
theorem red1_f : qf (red1 Q) = qf Q := by unfold red1; split <;> rfl
theorem red1_m : qm (red1 Q) = (qm Q || (decide (qo Q (qh Q - 1) = 37) && rany Q)) := by
  unfold red1
  split
  · next h => rw [h.2, decide_eq_true h.1]; simp; rfl
  · next h =>
    have : (decide (qo Q (qh Q - 1) = 37) && rany Q) = false := by
      by_cases k : qo Q (qh Q - 1) = 37
      · cases k2 : rany Q
        · simp
        · exact absurd ⟨k, k2⟩ h
      · rw [decide_eq_false k]; rfl
    rw [this, Bool.or_false]
    rfl
theorem red1_r : qr (red1 Q) = pd_up (qr Q) (qt Q - 2) (pd_b (bt (qo Q (qh Q - 1)) (rany Q) false)) := by
  have e : (if qo Q (qh Q - 1) = 47 then 1 else if rk (qo Q (qh Q - 1)) ≤ 1 then 0 else if qo Q (qh Q - 1) = 37 then 0 else pd_b (rany Q)) = pd_b (bt (qo Q (qh Q - 1)) (rany Q) false) := by
    unfold bt
    rw [Bool.or_false]
    split
    · rfl
    · split
      · rfl
      · split <;> rfl
  unfold red1
  rw [e]
  split <;> rfl
theorem red1_c : cq (red1 Q) = cq (qem Q (qo Q (qh Q - 1)) (ba (qo Q (qh Q - 1)) (rany Q) false)) := by unfold red1; split <;> rfl
theorem red1_a : aq (red1 Q) = aq (qem Q (qo Q (qh Q - 1)) (ba (qo Q (qh Q - 1)) (rany Q) false)) := by
  unfold red1 ba
  rw [Bool.or_false]
  split <;> rfl
theorem red1_x : xq (red1 Q) = xq Q := by unfold red1; split <;> rfl
theorem Red.ok (h : Red r Q Q') : okR r (qh Q) Q ∧ rdc r Q = Q' := by
  induction h using Red.rc with
  | @nil Q h1 h2 =>
    unfold rdc
    cases hq : qh Q with
    | zero => exact ⟨⟨h1, h2⟩, rfl⟩
    | succ k => exact ⟨⟨h2, fun h => absurd h1 h⟩, by unfold qred; rw [if_pos h1]⟩
  | @cons Q Q' h1 h2 h3 h4 h5 h6 h7 ih =>
    obtain ⟨k, hk⟩ : ∃ k, qh Q = k + 1 := ⟨qh Q - 1, by omega⟩
    have e : qh (red1 Q) = k := by rw [red1_h]; omega
    obtain ⟨i1, i2⟩ := ih
    unfold rdc at i2 ⊢
    rw [e] at i1 i2
    rw [hk]
    exact ⟨⟨h3, fun _ => ⟨h2, h4, h5, h6, i1⟩⟩, by unfold qred; rw [if_neg h1]; exact i2⟩
theorem Red.trans (hr : r' ≤ r) (h1 : Red r Q1 Q2) (h2 : Red r' Q2 Q3) : Red r' Q1 Q3 := by
  induction h1 using Red.rc with
  | nil _ _ => exact h2
  | cons k1 k2 k3 k4 k5 k6 _ ih => exact .cons (fun h => k1 (Int32.lt_of_lt_of_le h hr)) k2 k3 k4 k5 k6 (ih h2)
theorem qh_qred : ∀ (f : Nat) (Q : pq), qh (qred r f Q) ≤ qh Q := by
  intro f
  induction f with
  | zero => intro Q; exact Nat.le_refl _
  | succ f ih =>
    intro Q
    unfold qred
    split
    · exact Nat.le_refl _
    · have := ih (red1 Q)
      rw [red1_h] at this
      omega
theorem Red.low (h : Red r Q Q') : rk (qab Q') < r := by
  induction h using Red.rc with
  | nil h1 _ => exact h1
  | cons _ _ _ _ _ _ _ ih => exact ih
/-- a mark is put on -/
theorem pre_push {mk dd : Int32} (h : Pre m P Q) (hA : pA P < m) (hm : m ≤ 48) : Pre m (adv P) (qpu (sD Q dd) mk) := by
  have h1 := h.b1
  have h2 := h.b2
  have h3 := h.b3
  have e := pA_adv (P := P) (by omega)
  exact ⟨by rw [pR_adv]; exact h.r, by rw [e]; omega, by rw [pW_adv]; exact h.w, by rw [pS_adv]; exact h.c, by rw [e]; show qs Q + (qh Q + 1) ≤ _; omega, by rw [e]; show qt Q ≤ _; omega, by rw [e, pN_adv]; omega, by rw [pN_adv]; exact h.n⟩
theorem pre_adv (h : Pre m P Q) (hA : pA P < m) (hm : m ≤ 48) : Pre m (adv P) Q := by
  have h1 := h.b1
  have h2 := h.b2
  have h3 := h.b3
  have e := pA_adv (P := P) (by omega)
  exact ⟨by rw [pR_adv]; exact h.r, by rw [e]; omega, by rw [pW_adv]; exact h.w, by rw [pS_adv]; exact h.c, by rw [e]; omega, by rw [e]; omega, by rw [e, pN_adv]; omega, by rw [pN_adv]; exact h.n⟩
theorem sD_id : qpu (sD Q (qd Q)) c = qpu Q c := rfl
theorem qab_pu {Q : pq} : qab (qpu Q c) = c := by
  show (if qh Q + 1 = 0 then 0 else pd_up (qo Q) (qh Q) c (qh Q + 1 - 1)) = c
  rw [if_neg (by omega), Nat.add_sub_cancel]
  unfold pd_up
  rw [if_pos rfl]
theorem tyS_bin {t : List Nat} (hc : rk c ≠ 0) : tyS c (ba c b1 b2) (tg b2 :: tg b1 :: t) = tg (bt c b1 b2) :: t := by
  have h : c = 42 ∨ c = 47 ∨ c = 37 ∨ c = 43 ∨ c = 45 ∨ c = 60 ∨ c = 61 := by
    unfold rk at hc
    by_cases h1 : c = 42
    · exact Or.inl h1
    · by_cases h2 : c = 47
      · exact Or.inr (Or.inl h2)
      · by_cases h3 : c = 37
        · exact Or.inr (Or.inr (Or.inl h3))
        · by_cases h4 : c = 43
          · exact Or.inr (Or.inr (Or.inr (Or.inl h4)))
          · by_cases h5 : c = 45
            · exact Or.inr (Or.inr (Or.inr (Or.inr (Or.inl h5))))
            · by_cases h6 : c = 60
              · exact Or.inr (Or.inr (Or.inr (Or.inr (Or.inr (Or.inl h6)))))
              · by_cases h7 : c = 61
                · exact Or.inr (Or.inr (Or.inr (Or.inr (Or.inr (Or.inr h7)))))
                · simp [h1, h2, h3, h4, h5, h6, h7] at hc
  rcases h with rfl | rfl | rfl | rfl | rfl | rfl | rfl <;> cases b1 <;> cases b2 <;> rfl
theorem wd_bin {t : List Nat} (hc : rk c ≠ 0) : wd c t = 1 := by
  unfold wd
  by_cases h1 : c = 3
  · subst h1; exact absurd rfl hc
  · by_cases h2 : c = 26
    · subst h2; exact absurd rfl hc
    · by_cases h3 : c = 5
      · subst h3; exact absurd rfl hc
      · rw [if_neg h1, if_neg h2, if_neg h3]
theorem eop_bin (hc : rk c ≠ 0) : eop c := by
  by_cases h : eop c
  · exact h
  · exfalso
    apply hc
    unfold eop at h
    have h1 : ¬ (30 < c) := fun k => h (Or.inr k)
    have hl : c ≤ 30 := Int32.not_lt.mp h1
    unfold rk
    rw [if_neg, if_neg, if_neg, if_neg, if_neg, if_neg, if_neg]
    all_goals (intro k; rw [k] at hl; exact absurd hl (by decide))
/-- two values and their order -/
theorem val_bin {o : Int32} {w : Bool} (h1 : Val m P Q P3 Q3 b1) (hA : pA P3 < m) (hm : m ≤ 48) (h2 : Val m (adv P3) (qpu Q3 c) P4 Q4 b2) (hc : rk c ≠ 0) (hw : w = (decide (c = 37) && (b1 || b2))) (hbo : w = false → bo c (ba c b1 b2) (tg b2) (tg b1) o) : Val m P Q (add (ni P4 w) o 0) (red1 Q4) (bt c b1 b2) := by
  have e1 : pA (adv P3) = pA P3 + 1 := pA_adv (by omega)
  have x1 := h1.pre.b1
  have x2 := h1.pre.b2
  have x3 := h2.pre.b1
  have x4 := h2.pre.b2
  have x5 := h2.pre.b3
  have x6 := h2.pre.i
  have x7 := h1.i
  have x8 := h2.i
  have t4 : qt Q4 = qt Q3 + 1 := h2.t
  have t3 := h1.t
  have hh4 : qh Q4 = qh Q3 + 1 := h2.ctx.h
  have hh3 := h1.ctx.h
  have hl : pN (ni P4 w) < 49 := by rw [pN_ni]; omega
  have mk : qo Q4 (qh Q4 - 1) = c := by
    rw [hh4, Nat.add_sub_cancel, h2.ctx.o (qh Q3) (Nat.lt_succ_self _)]
    show pd_up (qo Q3) (qh Q3) c (qh Q3) = c
    unfold pd_up; rw [if_pos rfl]
  have r2 : qr Q4 (qt Q4 - 1) = pd_b b2 := by
    rw [t4, Nat.add_sub_cancel]; exact h2.tr
  have r1 : qr Q4 (qt Q4 - 2) = pd_b b1 := by
    rw [show qt Q4 - 2 = qt Q by omega, h2.tb (qt Q) (show qt Q < qt Q3 by omega)]
    exact h1.tr
  have ra : rany Q4 = (b1 || b2) := by
    unfold rany
    rw [r1, r2]
    cases b1 <;> cases b2 <;> rfl
  have be : ba c (b1 || b2) false = ba c b1 b2 := by unfold ba; rw [Bool.or_false]
  have bte : bt c (b1 || b2) false = bt c b1 b2 := by unfold bt; rw [Bool.or_false]
  have ty2 : (Fq Q4 (qs Q4)).2 = tg b2 :: tg b1 :: (Fq Q (qs Q)).2 := by
    rw [h2.ty]
    show tg b2 :: (Fq Q3 (qs Q3)).2 = _
    rw [h1.ty]
  have hn4 : pN (ni P4 w) = (Fq Q4 (qs Q4)).1 := by rw [pN_ni]; exact h2.pre.n
  have s1 := red1_s (Q := Q4)
  have hC : pW (ni P4 w) = false → Cn (cq (red1 Q4)) (Fq (red1 Q4)) (pO (add (ni P4 w) o 0)) (pV (add (ni P4 w) o 0)) (qs Q4 + 1) (qs Q4) (pN (ni P4 w)) c (ba c b1 b2) (xq Q4 (qs Q4)) (Fq Q4 (qs Q4)).2 := by
    intro k
    rw [ty2]
    have kw : w = false := by
      rw [pW_ni] at k
      cases w
      · rfl
      · rw [Bool.or_true] at k; cases k
    refine .bi (by cases b2 <;> decide) (by cases b1 <;> decide) ?_
    rw [(at_add hl).1]
    exact hbo kw
  obtain ⟨sg, ty⟩ := Seg.emit1 (P := ni P4 w) (Q := Q4) (Q' := red1 Q4) (op := c) (a := ba c b1 b2) (o := o) (v := 0) hn4 hl (wd_bin hc) s1 (by rw [red1_c, mk, ra, be]) (by rw [red1_a, mk, ra, be]) red1_x hC
  have sg4 : Seg (adv P3) (qpu Q3 c) (ni P4 w) Q4 := h2.seg.same rfl rfl rfl rfl pN_ni pO_ni pV_ni (fun k => by rw [pW_ni] at k; cases hq : pW P4; rfl; rw [hq] at k; cases k)
  have sg3 : Seg P3 Q3 (add (ni P4 w) o 0) (red1 Q4) := (sg4.trans sg).same0 rfl rfl rfl rfl pN_adv.symm pO_adv.symm pV_adv.symm (fun k => by rw [pW_adv] at k; exact k)
  have sgA := h1.seg.trans sg3
  refine ⟨⟨by rw [pR_add, pR_ni]; exact h2.pre.r, by rw [pA_add, pA_ni]; exact x6, ?_, by rw [pS_add, pS_ni, red1_n]; exact h2.pre.c, ?_, ?_, ?_, sgA.n⟩, ⟨?_, ?_, ?_, ?_⟩, ?_, ?_, ?_, ?_, ?_, ?_, ?_, ?_, ?_, sgA, ?_⟩
  · rw [pW_add, pW_ni, red1_m, mk, ra, hw, h2.pre.w]
  · rw [pA_add, pA_ni, s1, red1_h]; omega
  · rw [pA_add, pA_ni, red1_t]; omega
  · rw [pN_add hl, pA_add, pA_ni, pN_ni]
    have y1 := h2.gr
    have y3 := h1.pre.b3
    rw [pN_adv] at y1
    omega
  · rw [red1_h]; omega
  · intro j hj
    rw [red1_o, h2.ctx.o j (show j < qh Q3 + 1 by omega)]
    show pd_up (qo Q3) (qh Q3) c j = _
    unfold pd_up
    rw [if_neg (by omega)]
    exact h1.ctx.o j hj
  · intro j hj
    rw [red1_f, h2.ctx.f j (show j < qh Q3 + 1 by omega)]
    show pd_up (qf Q3) (qh Q3) (Int32.ofNat (qs Q3)) j = _
    unfold pd_up
    rw [if_neg (by omega)]
    exact h1.ctx.f j hj
  · rw [red1_d, h2.ctx.d]; exact h1.ctx.d
  · rw [red1_g, h2.g]; exact h1.g
  · rw [red1_n, h2.n]; exact h1.n
  · rw [red1_t]; omega
  · rw [red1_r, mk, ra, bte]
    unfold pd_up
    rw [if_pos (by omega)]
  · intro j hj
    rw [red1_r]
    unfold pd_up
    rw [if_neg (by omega), h2.tb j (show j < qt Q3 by omega)]
    exact h1.tb j hj
  · rw [pA_add, pA_ni]; omega
  · rw [pN_add hl, pA_add, pA_ni, pN_ni]
    have y1 := h2.gr
    have y2 := h1.gr
    rw [pN_adv] at y1
    omega
  · have := h1.s; have := h2.s; have : qs Q3 < qs Q4 := h2.s; rw [s1]; omega
  · intro j k1 k2
    rw [s1] at k2
    by_cases j4 : j = qs Q4
    · rw [red1_c, mk, cq_em]
      unfold pd_up
      rw [if_pos j4]
      exact eop_bin hc
    · rw [(sg.fr j (by omega)).1]
      by_cases j3 : j < qs Q3
      · rw [(h2.seg.fr j j3).1]
        exact h1.e j k1 j3
      · exact h2.e j (show qs Q3 ≤ j by omega) (by omega)
  · rw [ty, ty2]; exact tyS_bin hc
end RED
