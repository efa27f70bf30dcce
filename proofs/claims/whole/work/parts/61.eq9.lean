/-! THE TWO READERS: conditions and loops -/
def BC (I0 : pd_I) (tx : Nat → Int32) (m : Nat) (P : pd_P) (Q : pq) (P' : pd_P) : Prop := RF tx m 0 P Q P' ∨ ∃ Q', Sta m P Q P' Q' ∧ (∀ o, RR tx m 3 (pA P') Q' o → RR tx m 0 (pA P) Q o) ∧ pk I0 m P' ≠ 59
/-- the reference behind the bracket that opens a block -/
def tsQ (Q : pq) (mk : Int32) : pq := qem (sO (qwh (sD Q (qd Q + 1))) (qh Q - 1) (mk + 8)) 28 0
section EQ9
variable {I0 : pd_I} {tx : Nat → Int32} {P P' P0 P1 P2 P3 P4 P5 P6 Pa : pd_P} {Q Q' Q0 Q1 Q2 Q2x Q3 Q4 Q5 Q6 Qa X : pq} {m i dp t : Nat} {b b1 b2 w : Bool} {r r' c s mk nx : Int32} {e e1 u : pd_P → Bool × pd_P} {bd : pd_P → pd_P}
theorem cq_sO {k : Nat} {v : Int32} : cq (sO Q k v) = cq Q := rfl
theorem aq_sO {k : Nat} {v : Int32} : aq (sO Q k v) = aq Q := rfl
theorem xq_sO {k : Nat} {v : Int32} : xq (sO Q k v) = xq Q := rfl
theorem cq_sD {v : Int32} : cq (sD Q v) = cq Q := rfl
theorem aq_sD {v : Int32} : aq (sD Q v) = aq Q := rfl
theorem xq_sD {v : Int32} : xq (sD Q v) = xq Q := rfl
theorem tsQ_s : qs (tsQ Q mk) = qs Q + 1 := by unfold tsQ; rw [em_s, qs_so, qwh_s, qs_sd]
theorem tsQ_h : qh (tsQ Q mk) = qh Q := by unfold tsQ; rw [em_h, qs_ho, qwh_h, qs_hd]
theorem tsQ_t : qt (tsQ Q mk) = qt Q - 1 := by unfold tsQ; rw [em_t, qs_to, qwh_t, qs_td]
theorem tsQ_d : qd (tsQ Q mk) = qd Q + 1 := by unfold tsQ; rw [em_d, qs_do, qwh_d, qs_dd]
theorem tsQ_n : qn (tsQ Q mk) = qn Q := by unfold tsQ; rw [em_n, qs_no, qwh_n, qs_nd]
theorem tsQ_f : qf (tsQ Q mk) = qf Q := by unfold tsQ; rw [em_f, qs_fo, qwh_f, qs_fd]
theorem tsQ_o : qo (tsQ Q mk) = pd_up (qo Q) (qh Q - 1) (mk + 8) := by unfold tsQ; rw [em_o, qs_oo, qwh_o, qs_od]
theorem tsQ_c : cq (tsQ Q mk) = cq (qem Q 28 0) := by unfold tsQ; exact em_c (by rw [cq_sO, qwh_c, cq_sD]) (by rw [qs_so, qwh_s, qs_sd])
theorem tsQ_a : aq (tsQ Q mk) = aq (qem Q 28 0) := by unfold tsQ; exact em_a (by rw [aq_sO, qwh_a, aq_sD]) (by rw [qs_so, qwh_s, qs_sd])
theorem tsQ_x : xq (tsQ Q mk) = xq Q := by unfold tsQ; rw [xq_em, xq_sO, qwh_x, xq_sD]
theorem tsQ_m (h : qr Q (qt Q - 1) = pd_b b) : qm (tsQ Q mk) = (qm Q || b) := by
  unfold tsQ
  rw [em_m, qs_mo, qwh_m (b := b) (by rw [qs_rd, qs_td]; exact h), qs_md]
theorem qab_of {Q : pq} {n : Nat} (h : qh Q = n + 1) : qab Q = qo Q n := by
  unfold qab
  rw [if_neg (by omega), h, Nat.add_sub_cancel]
/-- condition and block, of both -/
theorem test_c (H : Tx I0 m tx) (hdp : dp ≤ 5) (hmk : (c = 63 ∧ mk = 2) ∨ (c = 64 ∧ mk = 3)) (he : ∀ P Q, Pre m P Q → qd Q = Int32.ofNat dp → rk (qab Q) < 1 → qab Q ≠ 8 → EC I0 tx m P Q (e P)) (hbd : dp < 5 → ∀ P Q, Pre m P Q → qd Q = Int32.ofNat (dp + 1) → (Fq Q (qs Q)).2 = [] → BC I0 tx m P Q (bd P)) (hbs : stk bd) (hp : Pre m P Q) (hd : qd Q = Int32.ofNat dp) (hty : (Fq Q (qs Q)).2 = []) (hc : pk I0 m P = c) :
    (pR (blkS I0 m dp bd (add (ni (e (adv (sts P))).2 (e (adv (sts P))).1) 19 0)) = true ∧ pA (blkS I0 m dp bd (add (ni (e (adv (sts P))).2 (e (adv (sts P))).1) 19 0)) ≤ m ∧ RR tx m 0 (pA P) Q (.inl (pA (blkS I0 m dp bd (add (ni (e (adv (sts P))).2 (e (adv (sts P))).1) 19 0))))) ∨
    ∃ P3 Q3 b P6 Q6, (e (adv (sts P))) = (b, P3) ∧ Pre m (adv (sts P)) (qpu (sN Q (qn Q + 1)) mk) ∧ Val m (adv (sts P)) (qpu (sN Q (qn Q + 1)) mk) P3 Q3 b ∧ pA P3 < m ∧ Sta m (adv (add (ni P3 b) 19 0)) (tsQ Q3 mk) P6 Q6 ∧ pA P6 < m ∧ tx (pA P6) = 125 ∧ blkS I0 m dp bd (add (ni (e (adv (sts P))).2 (e (adv (sts P))).1) 19 0) = adv P6 ∧ ∀ o, RR tx m 3 (pA P6) Q6 o → RR tx m 0 (pA P) Q o := by
  have hm := H.m
  obtain ⟨hA, ht⟩ := pk_at H hp.r hc (by rcases hmk with ⟨rfl, _⟩ | ⟨rfl, _⟩ <;> decide)
  have x1 := hp.b1
  have x2 := hp.b2
  have x3 := hp.b3
  have eA : pA (adv (sts P)) = pA P + 1 := by rw [pA_adv (by rw [pA_sts]; omega), pA_sts]
  have eN : pN (adv (sts P)) = pN P := by rw [pN_adv]; rfl
  have hq : qst c Q = (1, qpu (sN Q (qn Q + 1)) mk) := by rcases hmk with ⟨rfl, rfl⟩ | ⟨rfl, rfl⟩ <;> rfl
  have hgo := rr_st (Q := Q) hA ht H (by omega) hq (by decide) (by decide)
  have pre : Pre m (adv (sts P)) (qpu (sN Q (qn Q + 1)) mk) := ⟨by rw [pR_adv]; exact hp.r, by omega, by rw [pW_adv]; exact hp.w, by rw [pS_adv]; show pS P + 1 = qn Q + 1; rw [hp.c], by rw [eA]; show qs Q + (qh Q + 1) ≤ _; omega, by rw [eA]; show qt Q ≤ _; omega, by rw [eA, eN]; omega, by rw [eN]; exact hp.n⟩
  have hmk8 : mk ≠ 8 := by rcases hmk with ⟨_, rfl⟩ | ⟨_, rfl⟩ <;> decide
  have hmk1 : rk mk < 1 := by rcases hmk with ⟨_, rfl⟩ | ⟨_, rfl⟩ <;> decide
  have qab1 : qab (qpu (sN Q (qn Q + 1)) mk) = mk := qab_pu
  have q1 : qh (qpu (sN Q (qn Q + 1)) mk) = qh Q + 1 := rfl
  have q2 : qt (qpu (sN Q (qn Q + 1)) mk) = qt Q := rfl
  have q3 : qd (qpu (sN Q (qn Q + 1)) mk) = Int32.ofNat dp := hd
  obtain ⟨hE, hEn⟩ := he _ _ pre q3 (by rw [qab1]; exact hmk1) (by rw [qab1]; exact hmk8)
  generalize qpu (sN Q (qn Q + 1)) mk = Q1 at *
  rw [eA] at hEn
  generalize hP1 : adv (sts P) = P1 at *
  cases hr : pR (e P1).2
  · obtain ⟨Q2x, Q3, hv, hR, hh, hrun⟩ := hE.val hr
    rw [eA] at hrun
    have y0 := hv.pre.i
    have y1 := hv.pre.b1
    have y2 := hv.pre.b2
    have y3 := hv.pre.b3
    have gr := hv.gr
    rw [eA, eN] at gr
    have y5 := hv.i
    have t3 := hv.t
    have h3 := hv.ctx.h
    have d3 : qd Q3 = Int32.ofNat dp := hv.ctx.d.trans q3
    have l1 : pN (ni (e P1).2 (e P1).1) < 49 := by rw [pN_ni]; omega
    have a4 : pA (add (ni (e P1).2 (e P1).1) 19 0) = pA (e P1).2 := by rw [pA_add, pA_ni]
    have r4 : pR (add (ni (e P1).2 (e P1).1) 19 0) = false := by rw [pR_add, pR_ni]; exact hr
    have n4 : pN (add (ni (e P1).2 (e P1).1) 19 0) = pN (e P1).2 + 1 := by rw [pN_add l1, pN_ni]
    have w4 : pW (add (ni (e P1).2 (e P1).1) 19 0) = (pW (e P1).2 || (e P1).1) := by rw [pW_add, pW_ni]
    have s4 : pS (add (ni (e P1).2 (e P1).1) 19 0) = pS (e P1).2 := by rw [pS_add, pS_ni]
    have epk : pk I0 m (add (ni (e P1).2 (e P1).1) 19 0) = pk I0 m (e P1).2 := pk_pa (by rw [r4, hr]) a4
    have rt : qr Q3 (qt Q3 - 1) = pd_b (e P1).1 := by rw [t3, Nat.add_sub_cancel]; exact hv.tr
    have ab3 : qab Q3 = mk := by rw [hv.ctx.ab, qab1]
    have hno : ∀ P', P' = rfs (add (ni (e P1).2 (e P1).1) 19 0) → (chA tx m (pA (e P1).2) = 123 → dp = 5) → (pR P' = true ∧ pA P' ≤ m ∧ RR tx m 0 (pA P) Q (.inl (pA P'))) := by
      intro P' e' h5
      rw [e']
      refine ⟨rfl, by rw [pA_rfs, a4]; omega, ?_⟩
      rw [pA_rfs, a4]
      by_cases hk : rk (pk I0 m (e P1).2) = 0
      · rw [pk_tx H hr] at hk
        refine hgo _ (hrun _ (rr_cl_no hR y0 ab3 (by omega) hk (fun _ => by rcases hmk with ⟨_, rfl⟩ | ⟨_, rfl⟩ <;> decide) (fun _ => by rcases hmk with ⟨_, rfl⟩ | ⟨_, rfl⟩ <;> decide) (fun h _ => ?_) (fun _ => by rcases hmk with ⟨_, rfl⟩ | ⟨_, rfl⟩ <;> decide)))
        rw [d3, h5 h]; rfl
      · exact hgo _ (hEn hr hk)
    unfold blkS
    by_cases h5 : 5 ≤ dp
    · have ep : opn I0 m (add (ni (e P1).2 (e P1).1) 19 0) 123 dp = (false, rfs (add (ni (e P1).2 (e P1).1) 19 0)) := by unfold opn; rw [if_pos h5]
      left
      rw [ep, if_neg Bool.false_ne_true]
      exact hno _ rfl (fun _ => by omega)
    · by_cases c1 : pk I0 m (e P1).2 = 123
      · have ep : opn I0 m (add (ni (e P1).2 (e P1).1) 19 0) 123 dp = (true, adv (add (ni (e P1).2 (e P1).1) 19 0)) := by unfold opn nd; rw [if_neg h5, epk, if_pos c1]
        rw [ep, if_pos rfl]
        obtain ⟨hA3, ht3⟩ := pk_at H hr c1 (by decide)
        have hgo5 : ∀ o, RR tx m 0 (pA (e P1).2 + 1) (tsQ Q3 mk) o → RR tx m 0 (pA P) Q o := by
          intro o h
          obtain ⟨z1, z2⟩ := hR.ok
          refine hgo _ (hrun _ (.go hA3 (nx := 0) (Q' := tsQ Q3 mk) ?_ (by decide) (by decide) h))
          rw [ht3]
          have t := RT.blk (Q := Q2x) (mk := mk) z1 (by rw [z2]; exact ab3) (by rcases hmk with ⟨_, rfl⟩ | ⟨_, rfl⟩ <;> simp) (by rw [z2, d3, Ne, qd5 (by omega)]; omega) (by rw [z2]; exact ⟨by omega, by omega, by omega, by omega⟩)
          rw [z2] at t
          exact t
        have eA5 : pA (adv (add (ni (e P1).2 (e P1).1) 19 0)) = pA (e P1).2 + 1 := by rw [pA_adv (by omega), a4]
        have F5 : (Fq (tsQ Q3 mk) (qs Q3 + 1)).1 = (Fq Q3 (qs Q3)).1 + 1 ∧ (Fq (tsQ Q3 mk) (qs Q3 + 1)).2 = [] := by
          have hF : ∀ i, i ≤ qs Q3 → Fq (tsQ Q3 mk) i = Fq Q3 i := ft_congr (qs Q3) (fun j hj => by
            rw [tsQ_c, tsQ_a, cq_em, aq_em]
            unfold pd_up
            rw [if_neg (by omega), if_neg (by omega)]
            exact ⟨rfl, Or.inl rfl⟩)
          have e9 : Fq (tsQ Q3 mk) (qs Q3 + 1) = ((Fq (tsQ Q3 mk) (qs Q3)).1 + wd (cq (tsQ Q3 mk) (qs Q3)) (Fq (tsQ Q3 mk) (qs Q3)).2, tyS (cq (tsQ Q3 mk) (qs Q3)) (aq (tsQ Q3 mk) (qs Q3)) (Fq (tsQ Q3 mk) (qs Q3)).2) := rfl
          have e8 : cq (tsQ Q3 mk) (qs Q3) = 28 := by rw [tsQ_c, cq_em]; unfold pd_up; rw [if_pos rfl]
          rw [e9, e8, hF _ (Nat.le_refl _), tyS28]
          exact ⟨rfl, rfl⟩
        have pre5 : Pre m (adv (add (ni (e P1).2 (e P1).1) 19 0)) (tsQ Q3 mk) := ⟨by rw [pR_adv]; exact r4, by omega, by rw [pW_adv, w4, tsQ_m rt, hv.pre.w], by rw [pS_adv, s4, tsQ_n, hv.pre.c], by rw [eA5, tsQ_s, tsQ_h]; omega, by rw [eA5, tsQ_t]; omega, by rw [eA5, pN_adv, n4]; omega, by rw [pN_adv, n4, tsQ_s, F5.1, hv.pre.n]⟩
        have hB := hbd (by omega) _ _ pre5 (by rw [tsQ_d, d3, pd_suc]) (by rw [tsQ_s]; exact F5.2)
        show (pR (nd I0 m (bd (adv (add (ni (e P1).2 (e P1).1) 19 0))) 125).2 = true ∧ pA (nd I0 m (bd (adv (add (ni (e P1).2 (e P1).1) 19 0))) 125).2 ≤ m ∧ RR tx m 0 (pA P) Q (.inl (pA (nd I0 m (bd (adv (add (ni (e P1).2 (e P1).1) 19 0))) 125).2))) ∨ _
        rcases hB with ⟨k1, k2, k3⟩ | ⟨Q6, hS, hrun6, hn59⟩
        · left
          obtain ⟨n1, n2⟩ := nd_2 (I0 := I0) (m := m) (y := 125) (by decide) k1
          refine ⟨n2, by rw [n1]; exact k2, ?_⟩
          rw [n1]
          rw [eA5] at k3
          exact hgo5 _ k3
        · rw [eA5] at hrun6
          have z0 := hS.pre.i
          have z1 := hS.pre.b1
          have h6 := hS.ctx.h
          rw [tsQ_h] at h6
          have ab6 : qab Q6 = mk + 8 := by
            rw [hS.ctx.ab, qab_of (n := qh Q3 - 1) (by rw [tsQ_h]; omega), tsQ_o]
            unfold pd_up
            rw [if_pos rfl]
          generalize hP6 : bd (adv (add (ni (e P1).2 (e P1).1) 19 0)) = P6 at *
          by_cases c2 : pk I0 m P6 = 125
          · right
            obtain ⟨hA6, ht6⟩ := pk_at H hS.pre.r c2 (by decide)
            refine ⟨(e P1).2, Q3, (e P1).1, P6, Q6, rfl, pre, hv, hA3, hS, hA6, ht6, ?_, fun o h => hgo5 _ (hrun6 _ h)⟩
            show (nd I0 m P6 125).2 = _
            unfold nd
            rw [if_pos c2]
          · left
            have en : nd I0 m P6 125 = (false, rfs P6) := by unfold nd; rw [if_neg c2]
            rw [en]
            refine ⟨rfl, z0, ?_⟩
            show RR tx m 0 (pA P) Q (.inl (pA P6))
            rw [pk_tx H hS.pre.r] at c2 hn59
            exact hgo5 _ (hrun6 _ (rr_en_no H z0 (by omega) (fun _ => by omega) hn59 (fun _ => by rw [ab6]; rcases hmk with ⟨_, rfl⟩ | ⟨_, rfl⟩ <;> decide) (fun h => absurd h c2)))
      · have ep : opn I0 m (add (ni (e P1).2 (e P1).1) 19 0) 123 dp = (false, rfs (add (ni (e P1).2 (e P1).1) 19 0)) := by unfold opn nd; rw [if_neg h5, epk, if_neg c1]
        left
        rw [ep, if_neg Bool.false_ne_true]
        exact hno _ rfl (fun h => by rw [pk_tx H hr] at c1; exact absurd h c1)
  · left
    have r4 : pR (add (ni (e P1).2 (e P1).1) 19 0) = true := by rw [pR_add, pR_ni]; exact hr
    have a4 : pA (add (ni (e P1).2 (e P1).1) 19 0) = pA (e P1).2 := by rw [pA_add, pA_ni]
    have ep : opn I0 m (add (ni (e P1).2 (e P1).1) 19 0) 123 dp = (false, rfs (add (ni (e P1).2 (e P1).1) 19 0)) := by
      unfold opn
      split
      · rfl
      · exact nd_r (by decide) r4
    unfold blkS
    rw [ep, if_neg Bool.false_ne_true]
    rcases hE with ⟨_, k2, k3⟩ | ⟨_, _, hv, _⟩
    · refine ⟨rfl, by rw [pA_rfs, a4]; exact k2, ?_⟩
      rw [pA_rfs, a4]
      rw [eA] at k3
      exact hgo _ k3
    · have := hv.pre.r
      rw [hr] at this; cases this
/-- the test gets its place -/
theorem te_fill {p : Nat} (h1 : SegH t P Q Pa Qa) (hc28 : cq Qa t = 28) (hF : Fq Qa t = (p, [tg b])) (ho : pO Pa p = 19) (hp : p < 49) (hty : (Fq Qa (qs Qa)).2 = []) (hb : pW Pa = false → b = false) (hs : qs Q' = qs Qa) (hc : cq Q' = cq Qa) (ha : aq Q' = pd_up (aq Qa) t (Int32.ofNat (qs Qa))) (hx : xq Q' = xq Qa) : Seg P Q (ptH Pa p) Q' ∧ ∀ i, Fq Q' i = Fq Qa i := by
  have e1 : (Fq Qa (t + 1)).1 = p + 1 := by
    have e9 : Fq Qa (t + 1) = ((Fq Qa t).1 + wd (cq Qa t) (Fq Qa t).2, tyS (cq Qa t) (aq Qa t) (Fq Qa t).2) := rfl
    rw [e9, hc28, hF]; rfl
  obtain ⟨h2, h3⟩ := h1.patch (P' := ptH Pa p) (Q' := Q') hs hc (fun j hj => by rw [ha, hx]; unfold pd_up; rw [if_neg hj]; exact ⟨rfl, rfl⟩) pN_pt pO_pt (fun z hz => by
    rw [pV_pt hp]
    unfold pd_up
    rw [if_neg]
    rw [e1, hF] at hz
    rcases hz with hz | hz
    · have : z < p := hz
      omega
    · omega) (fun k => by rw [pW_pt] at k; exact k)
  refine ⟨h2.fill (fun k => ?_), h3⟩
  rw [h3, hF, hc, hc28, ha, hx]
  rw [pW_pt] at k
  have et : pd_up (aq Qa) t (Int32.ofNat (qs Qa)) t = Int32.ofNat (qs Qa) := by unfold pd_up; rw [if_pos rfl]
  rw [et, hb k]
  refine .te (by rw [pO_pt]; exact ho) ?_ (by rw [h3]; exact hty) (by rw [hs]; exact Nat.le_refl _)
  rw [pV_pt hp, h3, ← h1.n]
  unfold pd_up
  rw [if_pos rfl]
end EQ9
